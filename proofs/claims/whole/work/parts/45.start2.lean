/-! The world of the law as the constructors leave it, and the law from its entry to its loop. -/
abbrev st0T : TT := (0, 1, 0, 8, 0, 0, 0, (fun _ => 1), (fun _ => 0), (fun _ => 0), (fun _ => -1), (fun _ => -1), (fun _ => -1), (fun _ => 0), (fun _ => 0), (fun _ => 0), (fun _ _ => 0), (fun _ _ => 0), 0, 0, 0, 0, 0, (fun _ => 0), (fun _ => 0), (fun _ => 0), (fun _ => 0), (fun _ => 0), (fun _ => 0))
abbrev nw0 : Nat → Int32 := upd (upd (fun _ => 0) 0 1) 3 8
def es4 (E : EV) (b : Nat) : List va_E := .inr (4, [.ref (b + 1), .ref (b + 31), .int 0]) :: ((stL E (b + 1)) ++ (.inl (E.2 3, 3, .inr (.inr (.inr (.inr (va_up (va_up (va_up (fun _ => none) 0 (some (b + 32))) 1 (some (b + 62))) 2 (some (b + 92))))))) :: ((stL E (b + 32)) ++ ((stL E (b + 62)) ++ ((stL E (b + 92)) ++ [])))))
def es5 (E : EV) (b : Nat) : List va_E := [.inr (5, [.ref (b + 122 + 1), .ref (b + 122 + 2), .int 0, .int 0, .ref (b + 122 + 3), .long 0]), .inl (E.2 0, 893, .inl nw0), .inl (E.2 0, 2679, .inl (fun _ => 0)), .inl (E.2 0, 8, .inl (fun _ => 0))]
def es6 (E : EV) (b : Nat) : List va_E := (es4 E b ++ es5 E b) ++ [.inl (E.2 4, 1, .inr (.inl (fun _ => 0)))]
theorem es4_len (E : EV) (b : Nat) : (es4 E b).length = 122 := by simp [es4, stL_len]
theorem es45_len (E : EV) (b : Nat) : (es4 E b ++ es5 E b).length = 126 := by rw [List.length_append, es4_len]; rfl
theorem stL_at (E : EV) (a i : Nat) (hi : i < 30) : (stL E a)[i]? = some (stC E a 0 1 0 8 0 0 0 (fun _ => 1) (fun _ => 0) (fun _ => 0) (fun _ => -1) (fun _ => -1) (fun _ => -1) (fun _ => 0) (fun _ => 0) (fun _ => 0) (fun _ _ => 0) (fun _ _ => 0) 0 0 0 0 0 (fun _ => 0) (fun _ => 0) (fun _ => 0) (fun _ => 0) (fun _ => 0) (fun _ => 0) i) := by simp [stL, hi]
theorem cl_st {E : EV} {b n : Nat} {es pre suf : List va_E} {H : Heap} (h : CL E b es H) (hes : es = pre ++ (stL E (b + n) ++ suf)) (hn : pre.length = n) : stP E (b + n) 0 1 0 8 0 0 0 (fun _ => 1) (fun _ => 0) (fun _ => 0) (fun _ => -1) (fun _ => -1) (fun _ => -1) (fun _ => 0) (fun _ => 0) (fun _ => 0) (fun _ _ => 0) (fun _ _ => 0) 0 0 0 0 0 (fun _ => 0) (fun _ => 0) (fun _ => 0) (fun _ => 0) (fun _ => 0) (fun _ => 0) H := by
  intro i hi
  have h9 := h.2 (n + i) (stC E (b + n) 0 1 0 8 0 0 0 (fun _ => 1) (fun _ => 0) (fun _ => 0) (fun _ => -1) (fun _ => -1) (fun _ => -1) (fun _ => 0) (fun _ => 0) (fun _ => 0) (fun _ _ => 0) (fun _ _ => 0) 0 0 0 0 0 (fun _ => 0) (fun _ => 0) (fun _ => 0) (fun _ => 0) (fun _ => 0) (fun _ => 0) i) (by
    rw [hes, List.getElem?_append_right (by omega), hn, Nat.add_sub_cancel_left, List.getElem?_append_left (by rw [stL_len]; exact hi), stL_at E _ i hi])
  rw [show b + (n + i) = b + n + i by omega] at h9
  exact h9
theorem cl_cell {E : EV} {b : Nat} {es pre suf : List va_E} {x : va_E} {H : Heap} (h : CL E b es H) (n : Nat) (hes : es = pre ++ (x :: suf)) (hn : pre.length = n) : va_at E.1 vwCl (b + n, x) H := by
  refine h.2 n x ?_
  rw [hes, List.getElem?_append_right (by omega), hn, Nat.sub_self]
  rfl
theorem ovF0 : (fun _ => 0 : Nat → Int64) = ovF 0 := by
  funext j
  unfold ovF
  split <;> rfl
theorem cl_world {E : EV} {b : Nat} : ∀ H, CL E b (es6 E b) H → XF (LX E b nw0 (fun _ => 0) 0 0 (fun _ => 0) 0 0) 0 (fun i => i + 1) 0 (fun _ => st0T) 0 1 0 8 0 0 0 (fun _ => 1) (fun _ => 0) (fun _ => 0) (fun _ => -1) (fun _ => -1) (fun _ => -1) (fun _ => 0) (fun _ => 0) (fun _ => 0) (fun _ _ => 0) (fun _ _ => 0) 0 0 0 0 0 (fun _ => 0) (fun _ => 0) (fun _ => 0) (fun _ => 0) (fun _ => 0) (fun _ => 0) H := by
  intro H h
  refine xf_of (ST := fun _ => st0T) (cur := 0) rfl H ?_
  refine ⟨⟨?_, ?_, fun k hk => ?_⟩, ⟨?_, ?_, ?_, ?_⟩, ?_⟩
  · exact cl_cell h (pre := []) 0 (by unfold es6 es4; simp only [List.cons_append, List.append_assoc, List.nil_append]; rfl) rfl
  · have h9 := cl_cell h (pre := .inr (4, [.ref (b + 1), .ref (b + 31), .int 0]) :: stL E (b + 1)) 31 (by unfold es6 es4; simp only [List.cons_append, List.append_assoc, List.nil_append]; rfl) (by simp [stL_len])
    refine va_ref_congr (fun j hj => ?_) h9
    match j, hj with
    | 0, _ => rfl
    | 1, _ => rfl
    | 2, _ => rfl
  · match k, hk with
    | 0, _ => exact cl_st (n := 1) (pre := [.inr (4, [.ref (b + 1), .ref (b + 31), .int 0])]) h (by unfold es6 es4; simp only [List.cons_append, List.append_assoc, List.nil_append]; rfl) rfl
    | 1, _ => exact cl_st (n := 32) (pre := .inr (4, [.ref (b + 1), .ref (b + 31), .int 0]) :: (stL E (b + 1) ++ [.inl (E.2 3, 3, .inr (.inr (.inr (.inr (va_up (va_up (va_up (fun _ => none) 0 (some (b + 32))) 1 (some (b + 62))) 2 (some (b + 92)))))))])) h (by unfold es6 es4; simp only [List.cons_append, List.append_assoc, List.nil_append]; rfl) (by simp [stL_len])
    | 2, _ => exact cl_st (n := 62) (pre := .inr (4, [.ref (b + 1), .ref (b + 31), .int 0]) :: (stL E (b + 1) ++ (.inl (E.2 3, 3, .inr (.inr (.inr (.inr (va_up (va_up (va_up (fun _ => none) 0 (some (b + 32))) 1 (some (b + 62))) 2 (some (b + 92))))))) :: stL E (b + 32)))) h (by unfold es6 es4; simp only [List.cons_append, List.append_assoc, List.nil_append]; rfl) (by simp [stL_len])
    | 3, _ => exact cl_st (n := 92) (pre := .inr (4, [.ref (b + 1), .ref (b + 31), .int 0]) :: (stL E (b + 1) ++ (.inl (E.2 3, 3, .inr (.inr (.inr (.inr (va_up (va_up (va_up (fun _ => none) 0 (some (b + 32))) 1 (some (b + 62))) 2 (some (b + 92))))))) :: (stL E (b + 32) ++ stL E (b + 62))))) h (by unfold es6 es4; simp only [List.cons_append, List.append_assoc, List.nil_append]; rfl) (by simp [stL_len])
    | k + 4, hk => exact absurd hk (by omega)
  · exact cl_cell h (pre := es4 E b) 122 (by unfold es6 es5; simp only [List.cons_append, List.append_assoc, List.nil_append]; rfl) (es4_len E b)
  · exact cl_cell h (pre := es4 E b ++ [.inr (5, [.ref (b + 122 + 1), .ref (b + 122 + 2), .int 0, .int 0, .ref (b + 122 + 3), .long 0])]) 123 (by unfold es6 es5; simp only [List.cons_append, List.append_assoc, List.nil_append]; rfl) (by simp [es4_len])
  · exact cl_cell h (pre := es4 E b ++ [.inr (5, [.ref (b + 122 + 1), .ref (b + 122 + 2), .int 0, .int 0, .ref (b + 122 + 3), .long 0]), .inl (E.2 0, 893, .inl nw0)]) 124 (by unfold es6 es5; simp only [List.cons_append, List.append_assoc, List.nil_append]; rfl) (by simp [es4_len])
  · exact cl_cell h (pre := es4 E b ++ [.inr (5, [.ref (b + 122 + 1), .ref (b + 122 + 2), .int 0, .int 0, .ref (b + 122 + 3), .long 0]), .inl (E.2 0, 893, .inl nw0), .inl (E.2 0, 2679, .inl (fun _ => 0))]) 125 (by unfold es6 es5; simp only [List.cons_append, List.append_assoc, List.nil_append]; rfl) (by simp [es4_len])
  · rw [← ovF0]
    exact cl_cell h (pre := es4 E b ++ es5 E b) 126 (by unfold es6; rfl) (es45_len E b)

set_option maxRecDepth 100000 in
set_option maxHeartbeats 4000000 in
theorem law_start {p : Program} {l : Launch} {e : Env} {s : State} {m : MethodId} {args : Array Value} {below : List Frame} {meth : Method} {c : Code} {Q : State → Prop} {A : Nat → Prop} {E : EV} {b bs L : Nat} {xs : Nat → Int32} (C : CallFix p m c cL_law 9 s args wsL_law RL) (hts : ∀ w ∈ lw_tbl, w.before args s = true) (hlt : l.stackTraces = false) (hA : ∀ q, b ≤ q → A q) (hE : XI E s) (hX : XL E A s) (hScr : va_X bs L xs s s.heap) (hbl : bs < s.heap.size) (hbA : ¬ A bs) (hret : ∀ (P : Heap → Prop) (lv : List (Nat × Value)) (cells slots : Nat), cells ≤ room_1.cells → slots ≤ room_1.slots → KJ p l e room_1 s m args below meth c 9 A cells slots Q P 1401 lv [.int 1]) (n : Nat) (hn : n ≤ 600) (h : wp_L_loop L xs n 0 0 (fun i => i + 1) 0 (fun _ => st0T) 0 1 0 8 0 0 0 (fun _ => 1) (fun _ => 0) (fun _ => 0) (fun _ => -1) (fun _ => -1) (fun _ => -1) (fun _ => 0) (fun _ => 0) (fun _ => 0) (fun _ _ => 0) (fun _ _ => 0) 0 0 0 0 0 (fun _ => 0) (fun _ => 0) (fun _ => 0) (fun _ => 0) (fun _ => 0) (fun _ => 0) nw0 (fun _ => 0) 0 0 (fun _ => 0) 0 0) : KJ p l e room_1 s m args below meth c 9 A 0 0 Q (CL E b []) 0 [(0, .ref bs)] [] := by
  refine cl_new (es2 := [.inr (4, [.null, .null, .int 0])]) C hE.1.1 inlX4 tyX4_ok (hts (.classLink RL 8 RX4) (by decide +kernel)) (hts (.instantiable RX4 3) (by decide +kernel)) (hts (.initialized RX4) (by decide +kernel)) rfl df_X4 (Nat.le_of_ble_eq_true rfl) (Nat.le_of_ble_eq_true rfl) dL_law_0 (n := 0) rfl rfl ?_
  refine k_dup C dL_law_3 rfl ?_
  refine cl_call (len := 0) (es0 := []) (es2 := es4 E b) C hE hA (c_X4_init l (E := E) (a := b + 0)) (cwI 0 C.2.2.2.2 gL_law_X4_init rfl rfl rfl (hts (.initialized RX4) (by decide +kernel)) (hts (.methodLink RL 76 yX4_init) (by decide +kernel)) (hts (.instanceMethod yX4_init) (by decide +kernel)) rfl (by decide +kernel) ⟨(Nat.le_of_ble_eq_true rfl), (Nat.le_of_ble_eq_true rfl)⟩) rfl rfl (Nat.le_of_ble_eq_true rfl) dL_law_4 ⟨(Nat.le_of_ble_eq_true rfl), (Nat.le_of_ble_eq_true rfl)⟩ rfl ?_
  refine k_astore_n (lv' := [(1, .ref b), (0, .ref bs)]) C dL_law_7 rfl (by decide) rfl ?_
  refine cl_new (es2 := es4 E b ++ [.inr (5, [.null, .null, .int 0, .int 0, .null, .long 0])]) C hE.1.1 inlX5 tyX5_ok (hts (.classLink RL 77 RX5) (by decide +kernel)) (hts (.instantiable RX5 6) (by decide +kernel)) (hts (.initialized RX5) (by decide +kernel)) rfl df_X5 (Nat.le_of_ble_eq_true rfl) (Nat.le_of_ble_eq_true rfl) dL_law_8 (n := 122) (es4_len E b) rfl ?_
  refine k_dup C dL_law_11 rfl ?_
  refine cl_call (len := 122) (es0 := es4 E b) (es2 := es4 E b ++ es5 E b) C hE hA (c_X5_init l (E := E) (a := b + 122)) (cwI 0 C.2.2.2.2 gL_law_X5_init rfl rfl rfl (hts (.initialized RX5) (by decide +kernel)) (hts (.methodLink RL 79 yX5_init) (by decide +kernel)) (hts (.instanceMethod yX5_init) (by decide +kernel)) rfl (by decide +kernel) ⟨(Nat.le_of_ble_eq_true rfl), (Nat.le_of_ble_eq_true rfl)⟩) rfl (es4_len E b) (Nat.le_of_ble_eq_true rfl) dL_law_12 ⟨(Nat.le_of_ble_eq_true rfl), (Nat.le_of_ble_eq_true rfl)⟩ rfl ?_
  refine k_astore_n (lv' := [(2, .ref (b + 122)), (1, .ref b), (0, .ref bs)]) C dL_law_15 rfl (by decide) rfl ?_
  refine k_iconst (v := 1) C dL_law_16 (by decide) ?_
  refine cl_newl (N := 1) (es2 := es6 E b) C hE.1.1 (hts (.arrayClass .long) (by decide +kernel)) (by decide) (by decide) (Nat.le_of_ble_eq_true rfl) (Nat.le_of_ble_eq_true rfl) (Nat.le_of_ble_eq_true rfl) dL_law_17 (len := 126) (es45_len E b) rfl ?_
  refine k_astore_n (lv' := [(3, .ref (b + 126)), (2, .ref (b + 122)), (1, .ref b), (0, .ref bs)]) C dL_law_19 rfl (by decide) rfl ?_
  refine k_iconst (v := 0) C dL_law_20 (by decide) ?_
  refine k_istore (lv' := [(4, .int 0), (3, .ref (b + 126)), (2, .ref (b + 122)), (1, .ref b), (0, .ref bs)]) C dL_law_21 (by decide) rfl ?_
  refine k_pre cl_world (k_wide (k2 := 601024 - 4 * n) (n2 := 7293034 - 24 * n) (by omega) (by omega) ?_)
  exact law_loop C hlt hA hX hScr hbl hbA hret n hn _ _ _ _ _ _ _ _ _ _ _ _ _ _ _ _ _ _ _ _ _ _ _ _ _ _ _ _ _ _ _ _ _ _ _ _ _ _ _ _ _ h
