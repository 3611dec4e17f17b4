theorem st_XL {args : Array Value} {s : State} {E : EV} {A : Nat → Prop} (hX : XT E A s) (hg : ∀ w ∈ flatC (Jvm.Cond.and given_1 narrow_1), w.before args s = true) : XL E A s := ⟨hX, va_Nc.of (hg _ (by decide +kernel)), va_Nc.of (hg _ (by decide +kernel))⟩
theorem whole_start0 {p : Program} {e : Env} {s : State} {m : MethodId} {below : List Frame} {meth : Method} {c : Code} (l : Launch) (hflags : l.flags = flags0) {b L : Nat} {xs : Nat → Int32} (hB : ∃ n, n ≤ 600 ∧ wp_L_loop L xs n 0 0 (fun i => i + 1) 0 (fun _ => st0T) 0 1 0 8 0 0 0 (fun _ => 1) (fun _ => 0) (fun _ => 0) (fun _ => -1) (fun _ => -1) (fun _ => -1) (fun _ => 0) (fun _ => 0) (fun _ => 0) (fun _ _ => 0) (fun _ _ => 0) 0 0 0 0 0 (fun _ => 0) (fun _ => 0) (fun _ => 0) (fun _ => 0) (fun _ => 0) (fun _ => 0) nw0 (fun _ => 0) 0 0 (fun _ => 0) 0 0) (C0 : lw_At p s m meth c b L xs) : W p l e room_1 s m #[Value.ref b] below meth c s.heap [] 0 0 (lw_Z below #[Value.ref b] s) (entryFrame m ([Value.ref b] : List Value).toArray 9) := by
  obtain ⟨hx, hb, hr, hml, hown, hts, hScr, hbl, hlocks, hgv⟩ := id C0
  obtain ⟨n, hn, h⟩ := hB
  obtain ⟨E, hK⟩ := st_cls hts
  have hg := flat_of_before _ hgv
  have hE : XE E s := st_XE hts hK
  have hNA : ∀ a : Nat, a < s.heap.size → ¬ (fun q : Nat => s.heap.size ≤ q) a := fun a h => Nat.not_le.mpr h
  have hX : XL E (fun q : Nat => s.heap.size ≤ q) s := st_XL ⟨hE, st_XS hts hg, st_XV hts, st_XZ hts hg hNA⟩ hg
  have C : CallFix p m c cL_law 9 s #[Value.ref b] wsL_law RL := ⟨hx, hb, hml, hown, fun w hw => hts w (wsL_law_in w hw)⟩
  have hl := lv_entry ([.ref b]) (n := 9) (Nat.le_of_ble_eq_true rfl)
  rw [lg_entry_eq]
  refine law_start (E := E) (A := fun q : Nat => s.heap.size ≤ q) (b := s.heap.size) (bs := b) C hts (st_lt hflags) (fun q h => h) (st_XI hts hE) hX hScr hbl (hNA b hbl) (fun P lv cells slots h1 h2 => ?_) n hn h s.heap [] _ ⟨rfl, fun k e he => by simp at he⟩ va_S.rf hl
  intro H locs ls hP hS hl9
  refine va_forget hS.2.2 (W.widen (k := 601024) (n := 7293034) h1 h2 ?_)
  exact lw_ret (d0 := s.drawn) (Drawn.sameBut.refl s.drawn lw_cs) hx hb hr hlocks dL_law_1401
