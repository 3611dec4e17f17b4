/-! Registering and leaving. -/
theorem b_put {nw1 : Nat → Int32} {d c s : Nat} (hd : d < 4) (hc : c < 8) (h57 : nw1 (57 + d) = nI c) {k : (Nat → Int32) → Prop} (h : k (upd (upd nw1 (61 + 8 * d + c) (nI s)) (57 + d) (nI (c + 1)))) : (vp_in ((61 + (8 * nI d)) + (nw1 (57 + nI d).toNatClampNeg)) 893) ∧ (∀ nw_8 : Nat → Int32, nw_8 = upd nw1 ((61 + (8 * nI d)) + (nw1 (57 + nI d).toNatClampNeg)).toNatClampNeg (nI s) → (∀ nw_9 : Nat → Int32, nw_9 = upd nw_8 (57 + nI d).toNatClampNeg ((nw_8 (57 + nI d).toNatClampNeg) + 1) → k nw_9)) := by
  rw [q57 (by omega), h57]
  refine ⟨i61 (by omega), fun nw8 e8 nw9 e9 => ?_⟩
  rw [q61 (by omega)] at e8
  rw [e8, un (by omega), h57, nI_1] at e9
  rw [e9]
  exact h
section REG
variable {nw sUp sLen sReg dCnt : Nat → Int32} {dIdl : Nat → Nat → Int32} {S D r md : Nat} {Ls : Nat → List Nat}
theorem b_choose (h : RI nw sUp sLen sReg dCnt dIdl S D Ls) (hS : S ≤ 8) (hD : D ≤ 4) (hD0 : 0 < D) (h5 : nw 5 = nI D) (h0 : nw 0 = nI r) (hr : r < 2147483648) (h2 : nw 2 = nI md) (hmd : md ≤ 2) {s : Nat} (hs : s < S) (hn : sReg s = -1) :
    ∃ (d r1 : Nat) (nw1 : Nat → Int32), d < D ∧ r1 < 2147483648 ∧ nw1 0 = nI r1 ∧ (∀ i, i ≠ 0 → nw1 i = nw i) ∧ (∀ k : Int32 → Int64 → Prop, k (nI d) (lN r1) → wp_X3_chooseList (lN r) (nI md) (nI D) dCnt (nI s) k) ∧ (∀ k : (Nat → Int32) → Prop, k (upd (upd nw1 (61 + 8 * d + (Ls d).length) (nI s)) (57 + d) (nI ((Ls d).length + 1))) → wp_X5_register nw (nI s) k) := by
  have hne : ¬ nI D = 0 := nI_ne0 hD0 (by omega)
  have hL : ∀ d, (Ls d).length < 8 := fun d => h.len7 hS hD hs hn d
  rcases (show md = 0 ∨ md = 1 ∨ md = 2 by omega) with rfl | rfl | rfl
  · have hm : rN r / 65536 % D < D := Nat.mod_lt _ hD0
    refine ⟨rN r / 65536 % D, rN r, upd nw 0 (nI (rN r)), hm, rN_lt r, us, fun i hi => un hi, fun k hk => ?_, fun k hk x1 e1 => ?_⟩
    · exact ⟨fun q => absurd q (by decide), fun _ => b_draw3 hr hD0 (by omega) ⟨fun q => absurd q (by decide), fun _ => hk⟩⟩
    · rw [h5] at e1
      subst e1
      refine ⟨fun q => absurd q hne, fun _ => ⟨hne, fun x4 _ => ⟨fun _ => b_draw5 h0 hr hD0 (by omega) ⟨i57 (by omega), b_put (by omega) (hL _) ?_ hk⟩, fun q => absurd h2 q⟩⟩⟩
      rw [un (by omega)]
      exact (h.1 _ (by omega)).2.1
  · have hm : rN r / 65536 % D < D := Nat.mod_lt _ hD0
    have hm2 : rN (rN r) / 65536 % D < D := Nat.mod_lt _ hD0
    generalize hd1 : rN r / 65536 % D = d1 at hm
    generalize hd2 : rN (rN r) / 65536 % D = d2 at hm2
    obtain ⟨ec1, en1, -, -⟩ := h.1 d1 (by omega)
    obtain ⟨ec2, en2, -, -⟩ := h.1 d2 (by omega)
    have g1 := hL d1
    have g2 := hL d2
    refine ⟨if (Ls d1).length ≤ (Ls d2).length then d1 else d2, rN (rN r), upd (upd nw 0 (nI (rN r))) 0 (nI (rN (rN r))), by split <;> assumption, rN_lt _, us, fun i hi => by rw [un hi, un hi], fun k hk => ?_, fun k hk x1 e1 => ?_⟩
    · refine ⟨fun q => absurd q (by decide), fun _ => b_draw3 hr hD0 (by omega) ⟨fun _ => b_draw3 (rN_lt r) hD0 (by omega) ?_, fun q => absurd rfl q⟩⟩
      rw [hd1, hd2]
      refine ⟨vp_in_nI (by omega) (by decide), vp_in_nI (by omega) (by decide), ?_⟩
      rw [nI_clamp (by omega), nI_clamp (by omega), ec1, ec2]
      refine ⟨fun q => ?_, fun q => ?_⟩
      · rw [if_pos ((nI_leI (by omega) (by omega)).mp q)] at hk
        exact hk
      · rw [if_neg (fun z => q ((nI_leI (by omega) (by omega)).mpr z))] at hk
        exact hk
    · rw [h5] at e1
      subst e1
      refine ⟨fun q => absurd q hne, fun _ => ⟨hne, fun x4 _ => ⟨fun q => absurd (h2.symm.trans q) (by decide), fun _ => ⟨fun _ => b_draw5 h0 hr hD0 (by omega) (b_draw5 us (rN_lt r) hD0 (by omega) ?_), fun q => absurd h2 q⟩⟩⟩⟩
      rw [hd1, hd2]
      refine ⟨i57 (by omega), i57 (by omega), ?_⟩
      rw [q57 (by omega), q57 (by omega)]
      refine ⟨fun q => ?_, fun q => ?_⟩
      · rw [un (by omega), un (by omega), un (by omega), un (by omega), en1, en2] at q
        rw [if_pos ((nI_leI (by omega) (by omega)).mp q)] at hk
        have hp := b_put (nw1 := upd (upd nw 0 (nI (rN r))) 0 (nI (rN (rN r)))) (d := d1) (c := (Ls d1).length) (s := s) (by omega) g1 (by rw [un (by omega), un (by omega)]; exact en1) hk
        rw [q57 (by omega)] at hp
        exact hp
      · rw [un (by omega), un (by omega), un (by omega), un (by omega), en1, en2] at q
        rw [if_neg (fun z => q ((nI_leI (by omega) (by omega)).mpr z))] at hk
        have hp := b_put (nw1 := upd (upd nw 0 (nI (rN r))) 0 (nI (rN (rN r)))) (d := d2) (c := (Ls d2).length) (s := s) (by omega) g2 (by rw [un (by omega), un (by omega)]; exact en2) hk
        rw [q57 (by omega)] at hp
        exact hp
  · have hm : s % D < D := Nat.mod_lt _ hD0
    refine ⟨s % D, r, nw, hm, hr, h0, fun i hi => rfl, fun k hk => ?_, fun k hk x1 e1 => ?_⟩
    · refine ⟨fun _ => ⟨fun _ => ⟨hne, ?_⟩, fun q => absurd (nI_le (a := 1) (by omega) (by omega)) q⟩, fun q => absurd rfl q⟩
      rw [pk_rem (by omega) hD0 (by omega)]
      exact hk
    · rw [h5] at e1
      subst e1
      refine ⟨fun q => absurd q hne, fun _ => ⟨hne, fun x4 e4 => ⟨fun q => absurd (h2.symm.trans q) (by decide), fun _ => ⟨fun q => absurd (h2.symm.trans q) (by decide), fun _ => ?_⟩⟩⟩⟩
      rw [pk_rem (by omega) hD0 (by omega)] at e4
      subst e4
      exact ⟨i57 (by omega), b_put (by omega) (hL _) (h.1 _ (by omega)).2.1 hk⟩
/-- a server joins the list of the dispatcher d -/
theorem RI.join (h : RI nw sUp sLen sReg dCnt dIdl S D Ls) (hS : S ≤ 8) (hD : D ≤ 4) {nw1 : Nat → Int32} (h1 : ∀ i, i ≠ 0 → nw1 i = nw i) {s d : Nat} (hs : s < S) (hd : d < D) (hn : sReg s = -1) (hu : sUp s = 1) (hz : sLen s = 0) :
    RI (upd (upd nw1 (61 + 8 * d + (Ls d).length) (nI s)) (57 + d) (nI ((Ls d).length + 1))) sUp sLen (upd sReg s (nI d)) (upd dCnt d (nI ((Ls d).length + 1))) (va_up dIdl d (upd (dIdl d) (Ls d).length (nI s))) S D (va_up Ls d (Ls d ++ [s])) := by
  have g7 := h.len7 hS hD hs hn d
  have g8 := fun q => h.len hS q
  refine ⟨fun q hq => ?_, fun q hq => ?_, fun q => ?_, fun q x hx => ?_, fun x hx => ?_⟩
  · obtain ⟨e1, e2, e3, e4⟩ := h.1 q hq
    have g9 := g8 q
    by_cases e : q = d
    · subst e
      rw [vs, us, us, vs, List.length_append]
      refine ⟨rfl, rfl, ents_snoc e3 s, ents_cong (ents_snoc e4 s) (fun k hk => ?_)⟩
      rw [List.length_append, List.length_singleton] at hk
      by_cases e5 : k = (Ls q).length
      · subst e5
        rw [un (by omega), us, us]
      · rw [un (by omega), un (by omega), h1 _ (by omega), un e5]
    · rw [vn e, un e, un (by omega), un (by omega), vn e, h1 _ (by omega)]
      refine ⟨e1, e2, e3, ents_cong e4 (fun k hk => ?_)⟩
      rw [un (by omega), un (by omega), h1 _ (by omega)]
  · rw [vn (by omega)]
    exact h.2.1 q hq
  · by_cases e : q = d
    · subst e
      rw [vs]
      refine List.nodup_append.mpr ⟨h.2.2.1 q, by simp, fun a ha b hb => ?_⟩
      rw [List.mem_singleton] at hb
      intro e9
      rw [e9, hb] at ha
      exact h.free hD hn ha
    · rw [vn e]
      exact h.2.2.1 q
  · by_cases ex : x = s
    · subst ex
      by_cases e : q = d
      · subst e
        exact ⟨hs, us, hu, hz⟩
      · rw [vn e] at hx
        exact absurd hx (h.free hD hn)
    · have hx2 : x ∈ Ls q := by
        by_cases e : q = d
        · subst e
          rw [vs] at hx
          rcases List.mem_append.mp hx with z | z
          · exact z
          · exact absurd (List.mem_singleton.mp z) ex
        · rw [vn e] at hx
          exact hx
      rw [un ex]
      exact h.2.2.2.1 q x hx2
  · by_cases ex : x = s
    · subst ex
      exact Or.inr ⟨d, hd, by rw [vs]; exact List.mem_append_right _ List.mem_cons_self⟩
    · rw [un ex]
      rcases h.2.2.2.2 x hx with z | ⟨q, z1, z2⟩
      · exact Or.inl z
      · refine Or.inr ⟨q, z1, ?_⟩
        by_cases e : q = d
        · subst e
          rw [vs]
          exact List.mem_append_left _ z2
        · rw [vn e]
          exact z2
end REG
