noncomputable def wp_X4_mix (hash : Int64) (value : Int64) (k : Int64 → Prop) : Prop := k (((31 : Int64) * hash) + value)
set_option maxRecDepth 100000 in
set_option maxHeartbeats 4000000 in
theorem c_X4_mix (l : Launch) {E : EV} {P : Heap → Prop} {A : Nat → Prop} (hash : Int64) (value : Int64)  (k : Int64 → Prop) (h : wp_X4_mix  hash value k) : Met l yX4_mix wsX4_mix { frames := 0, cells := 0, slots := 0, locals := 0 } (va_Pc [.long hash, .long value] (fun U => P U.heap ∧ XE E U)) (kQl (fun r H => k r ∧ P H) A) 0 0 A := by
  refine k_body (cc := cX4_mix) (own := RX4) (maxL := 4) (ret := (some .long)) (lv0 := [(0, .long hash), (2, .long value)]) (by decide) rfl rfl (Nat.le_of_ble_eq_true rfl) rfl (fun p e s m below meth c C hr hlk hP hE => ?_)
  have lk0 := C.2.2.2.2 (.constantLong RX4 203 (31)) (by decide +kernel)
  refine k_ldc2 C lk0 dX4_mix_0 ?_
  refine k_lload_n C dX4_mix_3 0 rfl ?_
  refine k_lmul C dX4_mix_4 ?_
  refine k_lload_n C dX4_mix_5 1 rfl ?_
  refine k_ladd C dX4_mix_6 ?_
  exact k_lret C hr hlk dX4_mix_7 (fun H hP => ⟨h, hP⟩)
noncomputable def wp_X4_commonDivisor_L2 (k : Int32 → Prop) (num : Int32) (den : Int32) (fu : Nat) : Int32 → Prop := Nat.rec (motive := fun _ => Int32 → Prop) (fun _ => False) (fun _ rec2 x1 => (x1 ≤ 1 → (k 1)) ∧ (¬ (x1 ≤ 1) → ((¬ x1 = 0) ∧ (((num - num / x1 * x1) = 0 → (((den - den / x1 * x1) = 0 → (k x1)) ∧ (¬ (den - den / x1 * x1) = 0 → (∀ x7 : Int32, x7 = x1 + (-1) → (rec2 x7))))) ∧ (¬ (num - num / x1 * x1) = 0 → (∀ x5 : Int32, x5 = x1 + (-1) → (rec2 x5))))))) fu
noncomputable def wp_X4_commonDivisor (num : Int32) (den : Int32) (k : Int32 → Prop) : Prop := ∃ fu, wp_X4_commonDivisor_L2 k num den fu den
set_option maxRecDepth 100000 in
set_option maxHeartbeats 4000000 in
theorem c_X4_commonDivisor (l : Launch) {E : EV} {P : Heap → Prop} {A : Nat → Prop} (num : Int32) (den : Int32)  (k : Int32 → Prop) (h : wp_X4_commonDivisor  num den k) : Met l yX4_commonDivisor wsX4_commonDivisor { frames := 0, cells := 0, slots := 0, locals := 0 } (va_Pc [.int num, .int den] (fun U => P U.heap ∧ XE E U)) (kQi (fun r H => k r ∧ P H) A) 0 0 A := by
  refine k_body (cc := cX4_commonDivisor) (own := RX4) (maxL := 3) (ret := (some .int)) (lv0 := [(0, .int num), (1, .int den)]) (by decide) rfl rfl (Nat.le_of_ble_eq_true rfl) rfl (fun p e s m below meth c C hr hlk hP hE => ?_)
  refine k_iload_n C dX4_commonDivisor_0 1 rfl ?_
  refine k_istore_n (lv' := [(2, .int den), (0, .int num), (1, .int den)]) C dX4_commonDivisor_1 rfl (by decide) rfl ?_
  obtain ⟨n2, h⟩ := h
  refine k_pc (pc2 := 2) rfl ?_
  refine k_loop1 (wp_X4_commonDivisor_L2 k num den) (fun x1 => P ) (fun x1 => [(2, .int x1), (0, .int num), (1, .int den)]) (fun _ h => h) (fun n2 ih2 x1 h => ?_) n2 _ h
  refine k_iload_n C dX4_commonDivisor_2 0 rfl ?_
  refine k_iconst (v := 1) C dX4_commonDivisor_3 (by decide) ?_
  refine k_icmp_le (tgt := 27) C dX4_commonDivisor_4 (by decide) (fun c2 => ?_) (fun c2 => ?_)
  · replace h := h.1 c2
    refine k_iconst (v := 1) C dX4_commonDivisor_27 (by decide) ?_
    exact k_iret C hr hlk dX4_commonDivisor_28 (fun H hP => ⟨h, hP⟩)
  · replace h := h.2 c2
    refine k_iload_n C dX4_commonDivisor_7 1 rfl ?_
    refine k_iload_n C dX4_commonDivisor_8 0 rfl ?_
    obtain ⟨q3, h⟩ := h
    refine k_irem C dX4_commonDivisor_9 q3 ?_
    refine k_if_ne (tgt := 21) C dX4_commonDivisor_10 (by decide) (fun c4 => ?_) (fun c4 => ?_)
    · replace h := h.2 c4
      obtain ⟨x5, ex5⟩ : ∃ z : Int32, z = x1 + (-1) := ⟨_, rfl⟩
      replace h := h x5 ex5
      refine k_iinc (v := x5) (lv' := [(2, .int x5), (0, .int num), (1, .int den)]) (j := 0) C dX4_commonDivisor_21 rfl (by rw [ex5]; rfl) (by decide) rfl ?_
      refine k_goto (tgt := 2) C dX4_commonDivisor_24 (by decide) ?_
      refine k_pc (pc2 := 2) rfl ?_
      refine k_sub [0, 1, 2] rfl ?_
      exact ih2 _ h
    · replace h := h.1 c4
      refine k_iload_n C dX4_commonDivisor_13 2 rfl ?_
      refine k_iload_n C dX4_commonDivisor_14 0 rfl ?_
      refine k_irem C dX4_commonDivisor_15 q3 ?_
      refine k_if_ne (tgt := 21) C dX4_commonDivisor_16 (by decide) (fun c6 => ?_) (fun c6 => ?_)
      · replace h := h.2 c6
        obtain ⟨x7, ex7⟩ : ∃ z : Int32, z = x1 + (-1) := ⟨_, rfl⟩
        replace h := h x7 ex7
        refine k_iinc (v := x7) (lv' := [(2, .int x7), (0, .int num), (1, .int den)]) (j := 0) C dX4_commonDivisor_21 rfl (by rw [ex7]; rfl) (by decide) rfl ?_
        refine k_goto (tgt := 2) C dX4_commonDivisor_24 (by decide) ?_
        refine k_pc (pc2 := 2) rfl ?_
        refine k_sub [0, 1, 2] rfl ?_
        exact ih2 _ h
      · replace h := h.1 c6
        refine k_iload_n C dX4_commonDivisor_19 0 rfl ?_
        exact k_iret C hr hlk dX4_commonDivisor_20 (fun H hP => ⟨h, hP⟩)
noncomputable def wp_X2_isIdle (sUp : Nat → Int32) (sLen : Nat → Int32) (j : Nat) (k : Int32 → Prop) : Prop := ((sUp j) = 0 → (k 0)) ∧ (¬ ((sUp j) = 0) → (((sLen j) = 0 → (k 1)) ∧ (¬ (sLen j) = 0 → (k 0))))
set_option maxRecDepth 100000 in
set_option maxHeartbeats 4000000 in
theorem c_X2_isIdle (l : Launch) {E : EV} {a : Nat} {P : PF} {A : Nat → Prop} (F : Foc E a P) (hA : ∀ q, inSt a q → A q) (now : Int32) (rnd : Int64) (jm : Int32) (rp : Int32) (sc : Int32) (dc : Int32) (cn : Int32) (sUp : Nat → Int32) (sLen : Nat → Int32) (sWrk : Nat → Int32) (sReg : Nat → Int32) (sFst : Nat → Int32) (sLst : Nat → Int32) (dPol : Nat → Int32) (dPtr : Nat → Int32) (dCnt : Nat → Int32) (dIdl : Nat → Nat → Int32) (dKnw : Nat → Nat → Int32) (jCnt : Int32) (jFin : Int32) (jBeg : Int32) (jWs : Int32) (jMis : Int32) (jSrv : Nat → Int32) (jLft : Nat → Int32) (jSub : Nat → Int32) (jWai : Nat → Int32) (jNxt : Nat → Int32) (cnd : Nat → Int32) (j : Nat) (hj : j < 8) (k : Int32 → Prop) (h : wp_X2_isIdle sUp sLen j k) : Met l yX2_isIdle wsX2_isIdle { frames := 0, cells := 0, slots := 0, locals := 0 } (va_Pc [.ref (a + (2 + j))] (fun U => P now rnd jm rp sc dc cn sUp sLen sWrk sReg sFst sLst dPol dPtr dCnt dIdl dKnw jCnt jFin jBeg jWs jMis jSrv jLft jSub jWai jNxt cnd U.heap ∧ XE E U)) (kQi (fun r H => k r ∧ P now rnd jm rp sc dc cn sUp sLen sWrk sReg sFst sLst dPol dPtr dCnt dIdl dKnw jCnt jFin jBeg jWs jMis jSrv jLft jSub jWai jNxt cnd H) A) 0 0 A := by
  refine k_body (cc := cX2_isIdle) (own := RX2) (maxL := 1) (ret := (some .boolean)) (lv0 := [(0, .ref (a + (2 + j)))]) (by decide) rfl rfl (Nat.le_of_ble_eq_true rfl) rfl (fun p e s m below meth c C hr hlk hP hE => ?_)
  have hi2 : ∀ w ∈ u_ws RX2 TX2 6, w ∈ wsX2_isIdle := by decide +kernel
  have lk0 := C.2.2.2.2 (.fieldLink RX2 9 "IdleDispatcher$Server" "up" "Z") (by decide +kernel)
  have lk1 := C.2.2.2.2 (.fieldLink RX2 15 "IdleDispatcher$Server" "length" "I") (by decide +kernel)
  refine k_aload_n C dX2_isIdle_0 0 rfl ?_
  refine g_sUp C (foc_g F) hE.1 hi2 hj lk0 dX2_isIdle_1 ?_
  refine k_if_eq (tgt := 18) C dX2_isIdle_4 (by decide) (fun c1 => ?_) (fun c1 => ?_)
  · replace h := h.1 c1
    refine k_iconst (v := 0) C dX2_isIdle_18 (by decide) ?_
    exact k_zret C hr hlk rfl dX2_isIdle_19 (fun H hP => ⟨h, hP⟩)
  · replace h := h.2 c1
    refine k_aload_n C dX2_isIdle_7 0 rfl ?_
    refine g_sLen C (foc_g F) hE.1 hi2 hj lk1 dX2_isIdle_8 ?_
    refine k_if_ne (tgt := 18) C dX2_isIdle_11 (by decide) (fun c2 => ?_) (fun c2 => ?_)
    · replace h := h.2 c2
      refine k_iconst (v := 0) C dX2_isIdle_18 (by decide) ?_
      exact k_zret C hr hlk rfl dX2_isIdle_19 (fun H hP => ⟨h, hP⟩)
    · replace h := h.1 c2
      refine k_iconst (v := 1) C dX2_isIdle_14 (by decide) ?_
      refine k_goto (tgt := 19) C dX2_isIdle_15 (by decide) ?_
      exact k_zret C hr hlk rfl dX2_isIdle_19 (fun H hP => ⟨h, hP⟩)
noncomputable def wp_X2_mixAll (sUp : Nat → Int32) (sLen : Nat → Int32) (sWrk : Nat → Int32) (sReg : Nat → Int32) (j : Nat) (start : Int64) (k : Int64 → Prop) : Prop := ((sUp j) = 0 → (wp_X4_mix start (0 : Int64) (fun r2 => wp_X4_mix r2 ((sLen j).toInt64) (fun r3 => wp_X4_mix r3 ((sWrk j).toInt64) (fun r4 => wp_X4_mix r4 ((sReg j).toInt64) (fun r5 => k r5)))))) ∧ (¬ ((sUp j) = 0) → (wp_X4_mix start (1 : Int64) (fun r6 => wp_X4_mix r6 ((sLen j).toInt64) (fun r7 => wp_X4_mix r7 ((sWrk j).toInt64) (fun r8 => wp_X4_mix r8 ((sReg j).toInt64) (fun r9 => k r9))))))
set_option maxRecDepth 100000 in
set_option maxHeartbeats 4000000 in
theorem c_X2_mixAll (l : Launch) {E : EV} {a : Nat} {P : PF} {A : Nat → Prop} (F : Foc E a P) (hA : ∀ q, inSt a q → A q) (now : Int32) (rnd : Int64) (jm : Int32) (rp : Int32) (sc : Int32) (dc : Int32) (cn : Int32) (sUp : Nat → Int32) (sLen : Nat → Int32) (sWrk : Nat → Int32) (sReg : Nat → Int32) (sFst : Nat → Int32) (sLst : Nat → Int32) (dPol : Nat → Int32) (dPtr : Nat → Int32) (dCnt : Nat → Int32) (dIdl : Nat → Nat → Int32) (dKnw : Nat → Nat → Int32) (jCnt : Int32) (jFin : Int32) (jBeg : Int32) (jWs : Int32) (jMis : Int32) (jSrv : Nat → Int32) (jLft : Nat → Int32) (jSub : Nat → Int32) (jWai : Nat → Int32) (jNxt : Nat → Int32) (cnd : Nat → Int32) (j : Nat) (start : Int64) (hj : j < 8) (k : Int64 → Prop) (h : wp_X2_mixAll sUp sLen sWrk sReg j start k) : Met l yX2_mixAll wsX2_mixAll { frames := 1, cells := 0, slots := 0, locals := 23 } (va_Pc [.ref (a + (2 + j)), .long start] (fun U => P now rnd jm rp sc dc cn sUp sLen sWrk sReg sFst sLst dPol dPtr dCnt dIdl dKnw jCnt jFin jBeg jWs jMis jSrv jLft jSub jWai jNxt cnd U.heap ∧ XE E U)) (kQl (fun r H => k r ∧ P now rnd jm rp sc dc cn sUp sLen sWrk sReg sFst sLst dPol dPtr dCnt dIdl dKnw jCnt jFin jBeg jWs jMis jSrv jLft jSub jWai jNxt cnd H) A) 0 0 A := by
  refine k_body (cc := cX2_mixAll) (own := RX2) (maxL := 5) (ret := (some .long)) (lv0 := [(0, .ref (a + (2 + j))), (1, .long start)]) (by decide) rfl rfl (Nat.le_of_ble_eq_true rfl) rfl (fun p e s m below meth c C hr hlk hP hE => ?_)
  have hi2 : ∀ w ∈ u_ws RX2 TX2 6, w ∈ wsX2_mixAll := by decide +kernel
  have lk0 := C.2.2.2.2 (.fieldLink RX2 9 "IdleDispatcher$Server" "up" "Z") (by decide +kernel)
  have lk1 := C.2.2.2.2 (.fieldLink RX2 15 "IdleDispatcher$Server" "length" "I") (by decide +kernel)
  have lk2 := C.2.2.2.2 (.fieldLink RX2 19 "IdleDispatcher$Server" "work" "I") (by decide +kernel)
  have lk3 := C.2.2.2.2 (.fieldLink RX2 22 "IdleDispatcher$Server" "registeredAt" "I") (by decide +kernel)
  refine k_lload_n C dX2_mixAll_0 1 rfl ?_
  refine k_aload_n C dX2_mixAll_1 0 rfl ?_
  refine g_sUp C (foc_g F) hE.1 hi2 hj lk0 dX2_mixAll_2 ?_
  refine k_if_eq (tgt := 12) C dX2_mixAll_5 (by decide) (fun c1 => ?_) (fun c1 => ?_)
  · replace h := h.1 c1
    refine k_lconst (v := 0) C dX2_mixAll_12 (by decide) ?_
    refine k_callNl (st := []) C hE (c_X4_mix l (P := P now rnd jm rp sc dc cn sUp sLen sWrk sReg sFst sLst dPol dPtr dCnt dIdl dKnw jCnt jFin jBeg jWs jMis jSrv jLft jSub jWai jNxt cnd) (A := A) (E := E) start (0 : Int64) _ h) ⟨va_cnB 2 C.2.2.2.2 gX2_mixAll_X4_mix_n31 rfl rfl rfl hE.2.2.1 (C.2.2.2.2 _ (by decide +kernel : (.initialized RX4 : Cond) ∈ wsX2_mixAll)) (by decide +kernel) ⟨Nat.le_of_ble_eq_true rfl, Nat.le_of_ble_eq_true rfl⟩, C.2.2.2.2 _ (by decide +kernel : (.static yX4_mix : Cond) ∈ wsX2_mixAll), trivial⟩ rfl rfl (Nat.le_of_ble_eq_true rfl) dX2_mixAll_13 ⟨Nat.zero_le _, Nat.zero_le _⟩ (fun r2 => ?_)
    refine k_and (fun h => ?_)
    refine k_lstore_n (lv' := [(3, .long r2), (0, .ref (a + (2 + j))), (1, .long start)]) C dX2_mixAll_16 rfl (by decide) rfl ?_
    refine k_lload_n C dX2_mixAll_17 0 rfl ?_
    refine k_aload_n C dX2_mixAll_18 1 rfl ?_
    refine g_sLen C (foc_g F) hE.1 hi2 hj lk1 dX2_mixAll_19 ?_
    refine k_i2l C dX2_mixAll_22 ?_
    refine k_callNl (st := []) C hE (c_X4_mix l (P := P now rnd jm rp sc dc cn sUp sLen sWrk sReg sFst sLst dPol dPtr dCnt dIdl dKnw jCnt jFin jBeg jWs jMis jSrv jLft jSub jWai jNxt cnd) (A := A) (E := E) r2 ((sLen j).toInt64) _ h) ⟨va_cnB 2 C.2.2.2.2 gX2_mixAll_X4_mix_n31 rfl rfl rfl hE.2.2.1 (C.2.2.2.2 _ (by decide +kernel : (.initialized RX4 : Cond) ∈ wsX2_mixAll)) (by decide +kernel) ⟨Nat.le_of_ble_eq_true rfl, Nat.le_of_ble_eq_true rfl⟩, C.2.2.2.2 _ (by decide +kernel : (.static yX4_mix : Cond) ∈ wsX2_mixAll), trivial⟩ rfl rfl (Nat.le_of_ble_eq_true rfl) dX2_mixAll_23 ⟨Nat.zero_le _, Nat.zero_le _⟩ (fun r3 => ?_)
    refine k_and (fun h => ?_)
    refine k_lstore_n (lv' := [(3, .long r3), (0, .ref (a + (2 + j))), (1, .long start)]) C dX2_mixAll_26 rfl (by decide) rfl ?_
    refine k_lload_n C dX2_mixAll_27 0 rfl ?_
    refine k_aload_n C dX2_mixAll_28 1 rfl ?_
    refine g_sWrk C (foc_g F) hE.1 hi2 hj lk2 dX2_mixAll_29 ?_
    refine k_i2l C dX2_mixAll_32 ?_
    refine k_callNl (st := []) C hE (c_X4_mix l (P := P now rnd jm rp sc dc cn sUp sLen sWrk sReg sFst sLst dPol dPtr dCnt dIdl dKnw jCnt jFin jBeg jWs jMis jSrv jLft jSub jWai jNxt cnd) (A := A) (E := E) r3 ((sWrk j).toInt64) _ h) ⟨va_cnB 2 C.2.2.2.2 gX2_mixAll_X4_mix_n31 rfl rfl rfl hE.2.2.1 (C.2.2.2.2 _ (by decide +kernel : (.initialized RX4 : Cond) ∈ wsX2_mixAll)) (by decide +kernel) ⟨Nat.le_of_ble_eq_true rfl, Nat.le_of_ble_eq_true rfl⟩, C.2.2.2.2 _ (by decide +kernel : (.static yX4_mix : Cond) ∈ wsX2_mixAll), trivial⟩ rfl rfl (Nat.le_of_ble_eq_true rfl) dX2_mixAll_33 ⟨Nat.zero_le _, Nat.zero_le _⟩ (fun r4 => ?_)
    refine k_and (fun h => ?_)
    refine k_lstore_n (lv' := [(3, .long r4), (0, .ref (a + (2 + j))), (1, .long start)]) C dX2_mixAll_36 rfl (by decide) rfl ?_
    refine k_lload_n C dX2_mixAll_37 0 rfl ?_
    refine k_aload_n C dX2_mixAll_38 1 rfl ?_
    refine g_sReg C (foc_g F) hE.1 hi2 hj lk3 dX2_mixAll_39 ?_
    refine k_i2l C dX2_mixAll_42 ?_
    refine k_callNl (st := []) C hE (c_X4_mix l (P := P now rnd jm rp sc dc cn sUp sLen sWrk sReg sFst sLst dPol dPtr dCnt dIdl dKnw jCnt jFin jBeg jWs jMis jSrv jLft jSub jWai jNxt cnd) (A := A) (E := E) r4 ((sReg j).toInt64) _ h) ⟨va_cnB 2 C.2.2.2.2 gX2_mixAll_X4_mix_n31 rfl rfl rfl hE.2.2.1 (C.2.2.2.2 _ (by decide +kernel : (.initialized RX4 : Cond) ∈ wsX2_mixAll)) (by decide +kernel) ⟨Nat.le_of_ble_eq_true rfl, Nat.le_of_ble_eq_true rfl⟩, C.2.2.2.2 _ (by decide +kernel : (.static yX4_mix : Cond) ∈ wsX2_mixAll), trivial⟩ rfl rfl (Nat.le_of_ble_eq_true rfl) dX2_mixAll_43 ⟨Nat.zero_le _, Nat.zero_le _⟩ (fun r5 => ?_)
    refine k_and (fun h => ?_)
    exact k_lret C hr hlk dX2_mixAll_46 (fun H hP => ⟨h, hP⟩)
  · replace h := h.2 c1
    refine k_lconst (v := 1) C dX2_mixAll_8 (by decide) ?_
    refine k_goto (tgt := 13) C dX2_mixAll_9 (by decide) ?_
    refine k_callNl (st := []) C hE (c_X4_mix l (P := P now rnd jm rp sc dc cn sUp sLen sWrk sReg sFst sLst dPol dPtr dCnt dIdl dKnw jCnt jFin jBeg jWs jMis jSrv jLft jSub jWai jNxt cnd) (A := A) (E := E) start (1 : Int64) _ h) ⟨va_cnB 2 C.2.2.2.2 gX2_mixAll_X4_mix_n31 rfl rfl rfl hE.2.2.1 (C.2.2.2.2 _ (by decide +kernel : (.initialized RX4 : Cond) ∈ wsX2_mixAll)) (by decide +kernel) ⟨Nat.le_of_ble_eq_true rfl, Nat.le_of_ble_eq_true rfl⟩, C.2.2.2.2 _ (by decide +kernel : (.static yX4_mix : Cond) ∈ wsX2_mixAll), trivial⟩ rfl rfl (Nat.le_of_ble_eq_true rfl) dX2_mixAll_13 ⟨Nat.zero_le _, Nat.zero_le _⟩ (fun r6 => ?_)
    refine k_and (fun h => ?_)
    refine k_lstore_n (lv' := [(3, .long r6), (0, .ref (a + (2 + j))), (1, .long start)]) C dX2_mixAll_16 rfl (by decide) rfl ?_
    refine k_lload_n C dX2_mixAll_17 0 rfl ?_
    refine k_aload_n C dX2_mixAll_18 1 rfl ?_
    refine g_sLen C (foc_g F) hE.1 hi2 hj lk1 dX2_mixAll_19 ?_
    refine k_i2l C dX2_mixAll_22 ?_
    refine k_callNl (st := []) C hE (c_X4_mix l (P := P now rnd jm rp sc dc cn sUp sLen sWrk sReg sFst sLst dPol dPtr dCnt dIdl dKnw jCnt jFin jBeg jWs jMis jSrv jLft jSub jWai jNxt cnd) (A := A) (E := E) r6 ((sLen j).toInt64) _ h) ⟨va_cnB 2 C.2.2.2.2 gX2_mixAll_X4_mix_n31 rfl rfl rfl hE.2.2.1 (C.2.2.2.2 _ (by decide +kernel : (.initialized RX4 : Cond) ∈ wsX2_mixAll)) (by decide +kernel) ⟨Nat.le_of_ble_eq_true rfl, Nat.le_of_ble_eq_true rfl⟩, C.2.2.2.2 _ (by decide +kernel : (.static yX4_mix : Cond) ∈ wsX2_mixAll), trivial⟩ rfl rfl (Nat.le_of_ble_eq_true rfl) dX2_mixAll_23 ⟨Nat.zero_le _, Nat.zero_le _⟩ (fun r7 => ?_)
    refine k_and (fun h => ?_)
    refine k_lstore_n (lv' := [(3, .long r7), (0, .ref (a + (2 + j))), (1, .long start)]) C dX2_mixAll_26 rfl (by decide) rfl ?_
    refine k_lload_n C dX2_mixAll_27 0 rfl ?_
    refine k_aload_n C dX2_mixAll_28 1 rfl ?_
    refine g_sWrk C (foc_g F) hE.1 hi2 hj lk2 dX2_mixAll_29 ?_
    refine k_i2l C dX2_mixAll_32 ?_
    refine k_callNl (st := []) C hE (c_X4_mix l (P := P now rnd jm rp sc dc cn sUp sLen sWrk sReg sFst sLst dPol dPtr dCnt dIdl dKnw jCnt jFin jBeg jWs jMis jSrv jLft jSub jWai jNxt cnd) (A := A) (E := E) r7 ((sWrk j).toInt64) _ h) ⟨va_cnB 2 C.2.2.2.2 gX2_mixAll_X4_mix_n31 rfl rfl rfl hE.2.2.1 (C.2.2.2.2 _ (by decide +kernel : (.initialized RX4 : Cond) ∈ wsX2_mixAll)) (by decide +kernel) ⟨Nat.le_of_ble_eq_true rfl, Nat.le_of_ble_eq_true rfl⟩, C.2.2.2.2 _ (by decide +kernel : (.static yX4_mix : Cond) ∈ wsX2_mixAll), trivial⟩ rfl rfl (Nat.le_of_ble_eq_true rfl) dX2_mixAll_33 ⟨Nat.zero_le _, Nat.zero_le _⟩ (fun r8 => ?_)
    refine k_and (fun h => ?_)
    refine k_lstore_n (lv' := [(3, .long r8), (0, .ref (a + (2 + j))), (1, .long start)]) C dX2_mixAll_36 rfl (by decide) rfl ?_
    refine k_lload_n C dX2_mixAll_37 0 rfl ?_
    refine k_aload_n C dX2_mixAll_38 1 rfl ?_
    refine g_sReg C (foc_g F) hE.1 hi2 hj lk3 dX2_mixAll_39 ?_
    refine k_i2l C dX2_mixAll_42 ?_
    refine k_callNl (st := []) C hE (c_X4_mix l (P := P now rnd jm rp sc dc cn sUp sLen sWrk sReg sFst sLst dPol dPtr dCnt dIdl dKnw jCnt jFin jBeg jWs jMis jSrv jLft jSub jWai jNxt cnd) (A := A) (E := E) r8 ((sReg j).toInt64) _ h) ⟨va_cnB 2 C.2.2.2.2 gX2_mixAll_X4_mix_n31 rfl rfl rfl hE.2.2.1 (C.2.2.2.2 _ (by decide +kernel : (.initialized RX4 : Cond) ∈ wsX2_mixAll)) (by decide +kernel) ⟨Nat.le_of_ble_eq_true rfl, Nat.le_of_ble_eq_true rfl⟩, C.2.2.2.2 _ (by decide +kernel : (.static yX4_mix : Cond) ∈ wsX2_mixAll), trivial⟩ rfl rfl (Nat.le_of_ble_eq_true rfl) dX2_mixAll_43 ⟨Nat.zero_le _, Nat.zero_le _⟩ (fun r9 => ?_)
    refine k_and (fun h => ?_)
    exact k_lret C hr hlk dX2_mixAll_46 (fun H hP => ⟨h, hP⟩)
noncomputable def wp_X0_appendIdle (dCnt : Nat → Int32) (dIdl : Nat → Nat → Int32) (j : Nat) (srv : Int32) (k : (Nat → Int32) → (Nat → Nat → Int32) → Prop) : Prop := (8 ≤ (dCnt j) → (k dCnt dIdl)) ∧ (¬ (8 ≤ (dCnt j)) → ((vp_in (dCnt j) 8) ∧ (∀ dIdl_3 : Nat → Nat → Int32, dIdl_3 = va_up dIdl j (upd (dIdl j) (dCnt j).toNatClampNeg srv) → (∀ x4 : Int32, x4 = ((dCnt j) + 1) → (∀ dCnt_5 : Nat → Int32, dCnt_5 = upd dCnt j x4 → (k dCnt_5 dIdl_3))))))
set_option maxRecDepth 100000 in
set_option maxHeartbeats 4000000 in
theorem c_X0_appendIdle (l : Launch) {E : EV} {a : Nat} {P : PF} {A : Nat → Prop} (F : Foc E a P) (hA : ∀ q, inSt a q → A q) (now : Int32) (rnd : Int64) (jm : Int32) (rp : Int32) (sc : Int32) (dc : Int32) (cn : Int32) (sUp : Nat → Int32) (sLen : Nat → Int32) (sWrk : Nat → Int32) (sReg : Nat → Int32) (sFst : Nat → Int32) (sLst : Nat → Int32) (dPol : Nat → Int32) (dPtr : Nat → Int32) (dCnt : Nat → Int32) (dIdl : Nat → Nat → Int32) (dKnw : Nat → Nat → Int32) (jCnt : Int32) (jFin : Int32) (jBeg : Int32) (jWs : Int32) (jMis : Int32) (jSrv : Nat → Int32) (jLft : Nat → Int32) (jSub : Nat → Int32) (jWai : Nat → Int32) (jNxt : Nat → Int32) (cnd : Nat → Int32) (j : Nat) (srv : Int32) (hj : j < 4) (k : (Nat → Int32) → (Nat → Nat → Int32) → Prop) (h : wp_X0_appendIdle dCnt dIdl j srv k) : Met l yX0_appendIdle wsX0_appendIdle { frames := 0, cells := 0, slots := 0, locals := 0 } (va_Pc [.ref (a + (11 + 3 * j)), .int srv] (fun U => P now rnd jm rp sc dc cn sUp sLen sWrk sReg sFst sLst dPol dPtr dCnt dIdl dKnw jCnt jFin jBeg jWs jMis jSrv jLft jSub jWai jNxt cnd U.heap ∧ XE E U)) (kQv (fun H => ∃ dCnt9 : Nat → Int32, ∃ dIdl9 : Nat → Nat → Int32, k dCnt9 dIdl9 ∧ P now rnd jm rp sc dc cn sUp sLen sWrk sReg sFst sLst dPol dPtr dCnt9 dIdl9 dKnw jCnt jFin jBeg jWs jMis jSrv jLft jSub jWai jNxt cnd H) A) 0 0 A := by
  refine k_body (cc := cX0_appendIdle) (own := RX0) (maxL := 2) (ret := none) (lv0 := [(0, .ref (a + (11 + 3 * j))), (1, .int srv)]) (by decide) rfl rfl (Nat.le_of_ble_eq_true rfl) rfl (fun p e s m below meth c C hr hlk hP hE => ?_)
  have hi0 : ∀ w ∈ u_ws RX0 TX0 5, w ∈ wsX0_appendIdle := by decide +kernel
  have lk0 := C.2.2.2.2 (.fieldLink RX0 18 "IdleDispatcher$Dispatcher" "idleCount" "I") (by decide +kernel)
  have lk1 := C.2.2.2.2 (.fieldLink RX0 21 "IdleDispatcher$Dispatcher" "idle" "[I") (by decide +kernel)
  refine k_aload_n C dX0_appendIdle_0 0 rfl ?_
  refine g_dCnt C (foc_g F) hE.1 hi0 hj lk0 dX0_appendIdle_1 ?_
  refine k_bipush (v := 8) C dX0_appendIdle_4 (by decide) ?_
  refine k_icmp_ge (tgt := 29) C dX0_appendIdle_6 (by decide) (fun c1 => ?_) (fun c1 => ?_)
  · replace h := h.1 c1
    exact k_vret C hr hlk dX0_appendIdle_29 (fun H hP => ⟨dCnt, dIdl, h, hP⟩)
  · replace h := h.2 c1
    refine k_aload_n C dX0_appendIdle_9 0 rfl ?_
    refine g_Di_idle C (foc_g F) hE.1 hi0 hj lk1 dX0_appendIdle_10 ?_
    refine k_aload_n C dX0_appendIdle_13 0 rfl ?_
    refine g_dCnt C (foc_g F) hE.1 hi0 hj lk0 dX0_appendIdle_14 ?_
    refine k_iload_n C dX0_appendIdle_17 1 rfl ?_
    obtain ⟨q2, h⟩ := h
    obtain ⟨dIdl_3, edIdl_3⟩ : ∃ z : Nat → Nat → Int32, z = va_up dIdl j (upd (dIdl j) (dCnt j).toNatClampNeg srv) := ⟨_, rfl⟩
    replace h := h dIdl_3 edIdl_3
    refine p_dIdl C F hA hE.1 hj q2 edIdl_3 dX0_appendIdle_18 ?_
    refine k_aload_n C dX0_appendIdle_19 0 rfl ?_
    refine k_dup C dX0_appendIdle_20 rfl ?_
    refine g_dCnt C (foc_g F) hE.1 hi0 hj lk0 dX0_appendIdle_21 ?_
    refine k_iconst (v := 1) C dX0_appendIdle_24 (by decide) ?_
    refine k_iadd C dX0_appendIdle_25 ?_
    refine k_topi (fun x4 ex4 => ?_)
    replace h := h x4 ex4
    obtain ⟨dCnt_5, edCnt_5⟩ : ∃ z : Nat → Int32, z = upd dCnt j x4 := ⟨_, rfl⟩
    replace h := h dCnt_5 edCnt_5
    refine p_dCnt C F hA hE.1 hi0 hj edCnt_5 lk0 dX0_appendIdle_26 ?_
    exact k_vret C hr hlk dX0_appendIdle_29 (fun H hP => ⟨dCnt_5, dIdl_3, h, hP⟩)
noncomputable def wp_X0_removeIdle_L4 (dCnt : Nat → Int32) (j : Nat) (k : (Nat → Int32) → (Nat → Nat → Int32) → Prop) (srv : Int32) (fu : Nat) : Int32 → Int32 → (Nat → Nat → Int32) → Prop := Nat.rec (motive := fun _ => Int32 → Int32 → (Nat → Nat → Int32) → Prop) (fun _ _ _ => False) (fun _ rec4 x1 x2 dIdl_3 => ((dCnt j) ≤ x1 → (∀ dCnt_5 : Nat → Int32, dCnt_5 = upd dCnt j x2 → (k dCnt_5 dIdl_3))) ∧ (¬ ((dCnt j) ≤ x1) → ((vp_in x1 8) ∧ (((dIdl_3 j x1.toNatClampNeg) = srv → (∀ x8 : Int32, x8 = x1 + 1 → (rec4 x8 x2 dIdl_3))) ∧ (¬ ((dIdl_3 j x1.toNatClampNeg) = srv) → ((vp_in x2 8) ∧ (∀ dIdl_10 : Nat → Nat → Int32, dIdl_10 = va_up dIdl_3 j (upd (dIdl_3 j) x2.toNatClampNeg (dIdl_3 j x1.toNatClampNeg)) → (∀ x11 : Int32, x11 = x2 + 1 → (∀ x12 : Int32, x12 = x1 + 1 → (rec4 x12 x11 dIdl_10)))))))))) fu
noncomputable def wp_X0_removeIdle (dCnt : Nat → Int32) (dIdl : Nat → Nat → Int32) (j : Nat) (srv : Int32) (k : (Nat → Int32) → (Nat → Nat → Int32) → Prop) : Prop := ∃ fu, wp_X0_removeIdle_L4 dCnt j k srv fu 0 0 dIdl
set_option maxRecDepth 100000 in
set_option maxHeartbeats 4000000 in
theorem c_X0_removeIdle (l : Launch) {E : EV} {a : Nat} {P : PF} {A : Nat → Prop} (F : Foc E a P) (hA : ∀ q, inSt a q → A q) (now : Int32) (rnd : Int64) (jm : Int32) (rp : Int32) (sc : Int32) (dc : Int32) (cn : Int32) (sUp : Nat → Int32) (sLen : Nat → Int32) (sWrk : Nat → Int32) (sReg : Nat → Int32) (sFst : Nat → Int32) (sLst : Nat → Int32) (dPol : Nat → Int32) (dPtr : Nat → Int32) (dCnt : Nat → Int32) (dIdl : Nat → Nat → Int32) (dKnw : Nat → Nat → Int32) (jCnt : Int32) (jFin : Int32) (jBeg : Int32) (jWs : Int32) (jMis : Int32) (jSrv : Nat → Int32) (jLft : Nat → Int32) (jSub : Nat → Int32) (jWai : Nat → Int32) (jNxt : Nat → Int32) (cnd : Nat → Int32) (j : Nat) (srv : Int32) (hj : j < 4) (k : (Nat → Int32) → (Nat → Nat → Int32) → Prop) (h : wp_X0_removeIdle dCnt dIdl j srv k) : Met l yX0_removeIdle wsX0_removeIdle { frames := 0, cells := 0, slots := 0, locals := 0 } (va_Pc [.ref (a + (11 + 3 * j)), .int srv] (fun U => P now rnd jm rp sc dc cn sUp sLen sWrk sReg sFst sLst dPol dPtr dCnt dIdl dKnw jCnt jFin jBeg jWs jMis jSrv jLft jSub jWai jNxt cnd U.heap ∧ XE E U)) (kQv (fun H => ∃ dCnt9 : Nat → Int32, ∃ dIdl9 : Nat → Nat → Int32, k dCnt9 dIdl9 ∧ P now rnd jm rp sc dc cn sUp sLen sWrk sReg sFst sLst dPol dPtr dCnt9 dIdl9 dKnw jCnt jFin jBeg jWs jMis jSrv jLft jSub jWai jNxt cnd H) A) 0 0 A := by
  refine k_body (cc := cX0_removeIdle) (own := RX0) (maxL := 4) (ret := none) (lv0 := [(0, .ref (a + (11 + 3 * j))), (1, .int srv)]) (by decide) rfl rfl (Nat.le_of_ble_eq_true rfl) rfl (fun p e s m below meth c C hr hlk hP hE => ?_)
  have hi0 : ∀ w ∈ u_ws RX0 TX0 5, w ∈ wsX0_removeIdle := by decide +kernel
  have lk0 := C.2.2.2.2 (.fieldLink RX0 18 "IdleDispatcher$Dispatcher" "idleCount" "I") (by decide +kernel)
  have lk1 := C.2.2.2.2 (.fieldLink RX0 21 "IdleDispatcher$Dispatcher" "idle" "[I") (by decide +kernel)
  refine k_iconst (v := 0) C dX0_removeIdle_0 (by decide) ?_
  refine k_istore_n (lv' := [(2, .int 0), (0, .ref (a + (11 + 3 * j))), (1, .int srv)]) C dX0_removeIdle_1 rfl (by decide) rfl ?_
  refine k_iconst (v := 0) C dX0_removeIdle_2 (by decide) ?_
  refine k_istore_n (lv' := [(3, .int 0), (2, .int 0), (0, .ref (a + (11 + 3 * j))), (1, .int srv)]) C dX0_removeIdle_3 rfl (by decide) rfl ?_
  obtain ⟨n4, h⟩ := h
  refine k_pc (pc2 := 4) rfl ?_
  refine k_loop3 (wp_X0_removeIdle_L4 dCnt j k srv) (fun x1 x2 dIdl_3 => P now rnd jm rp sc dc cn sUp sLen sWrk sReg sFst sLst dPol dPtr dCnt dIdl_3 dKnw jCnt jFin jBeg jWs jMis jSrv jLft jSub jWai jNxt cnd) (fun x1 x2 dIdl_3 => [(3, .int x1), (2, .int x2), (0, .ref (a + (11 + 3 * j))), (1, .int srv)]) (fun _ _ _ h => h) (fun n4 ih4 x1 x2 dIdl_3 h => ?_) n4 _ _ _ h
  refine k_iload_n C dX0_removeIdle_4 0 rfl ?_
  refine k_aload_n C dX0_removeIdle_5 2 rfl ?_
  refine g_dCnt C (foc_g F) hE.1 hi0 hj lk0 dX0_removeIdle_6 ?_
  refine k_icmp_ge (tgt := 43) C dX0_removeIdle_9 (by decide) (fun c4 => ?_) (fun c4 => ?_)
  · replace h := h.1 c4
    refine k_aload_n C dX0_removeIdle_43 2 rfl ?_
    refine k_iload_n C dX0_removeIdle_44 1 rfl ?_
    obtain ⟨dCnt_5, edCnt_5⟩ : ∃ z : Nat → Int32, z = upd dCnt j x2 := ⟨_, rfl⟩
    replace h := h dCnt_5 edCnt_5
    refine p_dCnt C F hA hE.1 hi0 hj edCnt_5 lk0 dX0_removeIdle_45 ?_
    exact k_vret C hr hlk dX0_removeIdle_48 (fun H hP => ⟨dCnt_5, dIdl_3, h, hP⟩)
  · replace h := h.2 c4
    refine k_aload_n C dX0_removeIdle_12 2 rfl ?_
    refine g_Di_idle C (foc_g F) hE.1 hi0 hj lk1 dX0_removeIdle_13 ?_
    refine k_iload_n C dX0_removeIdle_16 0 rfl ?_
    obtain ⟨q6, h⟩ := h
    refine g_dIdl C (foc_g F) hE.1 hj q6 dX0_removeIdle_17 ?_
    refine k_iload_n C dX0_removeIdle_18 3 rfl ?_
    refine k_icmp_eq (tgt := 37) C dX0_removeIdle_19 (by decide) (fun c7 => ?_) (fun c7 => ?_)
    · replace h := h.1 c7
      obtain ⟨x8, ex8⟩ : ∃ z : Int32, z = x1 + 1 := ⟨_, rfl⟩
      replace h := h x8 ex8
      refine k_iinc (v := x8) (lv' := [(3, .int x8), (2, .int x2), (0, .ref (a + (11 + 3 * j))), (1, .int srv)]) (j := 0) C dX0_removeIdle_37 rfl (by rw [ex8]; rfl) (by decide) rfl ?_
      refine k_goto (tgt := 4) C dX0_removeIdle_40 (by decide) ?_
      refine k_pc (pc2 := 4) rfl ?_
      refine k_sub [0, 1, 2, 3] rfl ?_
      exact ih4 _ _ _ h
    · replace h := h.2 c7
      refine k_aload_n C dX0_removeIdle_22 2 rfl ?_
      refine g_Di_idle C (foc_g F) hE.1 hi0 hj lk1 dX0_removeIdle_23 ?_
      refine k_iload_n C dX0_removeIdle_26 1 rfl ?_
      refine k_aload_n C dX0_removeIdle_27 2 rfl ?_
      refine g_Di_idle C (foc_g F) hE.1 hi0 hj lk1 dX0_removeIdle_28 ?_
      refine k_iload_n C dX0_removeIdle_31 0 rfl ?_
      refine g_dIdl C (foc_g F) hE.1 hj q6 dX0_removeIdle_32 ?_
      obtain ⟨q9, h⟩ := h
      obtain ⟨dIdl_10, edIdl_10⟩ : ∃ z : Nat → Nat → Int32, z = va_up dIdl_3 j (upd (dIdl_3 j) x2.toNatClampNeg (dIdl_3 j x1.toNatClampNeg)) := ⟨_, rfl⟩
      replace h := h dIdl_10 edIdl_10
      refine p_dIdl C F hA hE.1 hj q9 edIdl_10 dX0_removeIdle_33 ?_
      obtain ⟨x11, ex11⟩ : ∃ z : Int32, z = x2 + 1 := ⟨_, rfl⟩
      replace h := h x11 ex11
      refine k_iinc (v := x11) (lv' := [(2, .int x11), (3, .int x1), (0, .ref (a + (11 + 3 * j))), (1, .int srv)]) (j := 1) C dX0_removeIdle_34 rfl (by rw [ex11]; rfl) (by decide) rfl ?_
      obtain ⟨x12, ex12⟩ : ∃ z : Int32, z = x1 + 1 := ⟨_, rfl⟩
      replace h := h x12 ex12
      refine k_iinc (v := x12) (lv' := [(3, .int x12), (2, .int x11), (0, .ref (a + (11 + 3 * j))), (1, .int srv)]) (j := 1) C dX0_removeIdle_37 rfl (by rw [ex12]; rfl) (by decide) rfl ?_
      refine k_goto (tgt := 4) C dX0_removeIdle_40 (by decide) ?_
      refine k_pc (pc2 := 4) rfl ?_
      refine k_sub [0, 1, 2, 3] rfl ?_
      exact ih4 _ _ _ h
noncomputable def wp_X0_mixAll_L71 (cntS : Int32) (k : Int64 → Prop) (dKnw : Nat → Nat → Int32) (j : Nat) (fu : Nat) : Int32 → Int64 → Prop := Nat.rec (motive := fun _ => Int32 → Int64 → Prop) (fun _ _ => False) (fun _ rec71 x7 x8 => (cntS ≤ x7 → (k x8)) ∧ (¬ (cntS ≤ x7) → ((vp_in x7 8) ∧ (wp_X4_mix x8 ((dKnw j x7.toNatClampNeg).toInt64) (fun r11 => ∀ x12 : Int32, x12 = x7 + 1 → (rec71 x12 r11)))))) fu
noncomputable def wp_X0_mixAll_L38 (dCnt : Nat → Int32) (j : Nat) (cntS : Int32) (k : Int64 → Prop) (dKnw : Nat → Nat → Int32) (dIdl : Nat → Nat → Int32) (fu : Nat) : Int32 → Int64 → Prop := Nat.rec (motive := fun _ => Int32 → Int64 → Prop) (fun _ _ => False) (fun _ rec38 x4 x5 => ((dCnt j) ≤ x4 → (∃ fu, wp_X0_mixAll_L71 cntS k dKnw j fu 0 x5)) ∧ (¬ ((dCnt j) ≤ x4) → ((vp_in x4 8) ∧ (wp_X4_mix x5 ((dIdl j x4.toNatClampNeg).toInt64) (fun r14 => ∀ x15 : Int32, x15 = x4 + 1 → (rec38 x15 r14)))))) fu
noncomputable def wp_X0_mixAll (dPol : Nat → Int32) (dPtr : Nat → Int32) (dCnt : Nat → Int32) (dIdl : Nat → Nat → Int32) (dKnw : Nat → Nat → Int32) (j : Nat) (start : Int64) (cntS : Int32) (k : Int64 → Prop) : Prop := wp_X4_mix start ((dPol j).toInt64) (fun r1 => wp_X4_mix r1 ((dPtr j).toInt64) (fun r2 => wp_X4_mix r2 ((dCnt j).toInt64) (fun r3 => ∃ fu, wp_X0_mixAll_L38 dCnt j cntS k dKnw dIdl fu 0 r3)))
set_option maxRecDepth 100000 in
set_option maxHeartbeats 4000000 in
theorem c_X0_mixAll (l : Launch) {E : EV} {a : Nat} {P : PF} {A : Nat → Prop} (F : Foc E a P) (hA : ∀ q, inSt a q → A q) (now : Int32) (rnd : Int64) (jm : Int32) (rp : Int32) (sc : Int32) (dc : Int32) (cn : Int32) (sUp : Nat → Int32) (sLen : Nat → Int32) (sWrk : Nat → Int32) (sReg : Nat → Int32) (sFst : Nat → Int32) (sLst : Nat → Int32) (dPol : Nat → Int32) (dPtr : Nat → Int32) (dCnt : Nat → Int32) (dIdl : Nat → Nat → Int32) (dKnw : Nat → Nat → Int32) (jCnt : Int32) (jFin : Int32) (jBeg : Int32) (jWs : Int32) (jMis : Int32) (jSrv : Nat → Int32) (jLft : Nat → Int32) (jSub : Nat → Int32) (jWai : Nat → Int32) (jNxt : Nat → Int32) (cnd : Nat → Int32) (j : Nat) (start : Int64) (cntS : Int32) (hj : j < 4) (k : Int64 → Prop) (h : wp_X0_mixAll dPol dPtr dCnt dIdl dKnw j start cntS k) : Met l yX0_mixAll wsX0_mixAll { frames := 1, cells := 0, slots := 0, locals := 23 } (va_Pc [.ref (a + (11 + 3 * j)), .long start, .int cntS] (fun U => P now rnd jm rp sc dc cn sUp sLen sWrk sReg sFst sLst dPol dPtr dCnt dIdl dKnw jCnt jFin jBeg jWs jMis jSrv jLft jSub jWai jNxt cnd U.heap ∧ XE E U)) (kQl (fun r H => k r ∧ P now rnd jm rp sc dc cn sUp sLen sWrk sReg sFst sLst dPol dPtr dCnt dIdl dKnw jCnt jFin jBeg jWs jMis jSrv jLft jSub jWai jNxt cnd H) A) 0 0 A := by
  refine k_body (cc := cX0_mixAll) (own := RX0) (maxL := 7) (ret := (some .long)) (lv0 := [(0, .ref (a + (11 + 3 * j))), (1, .long start), (3, .int cntS)]) (by decide) rfl rfl (Nat.le_of_ble_eq_true rfl) rfl (fun p e s m below meth c C hr hlk hP hE => ?_)
  have hi0 : ∀ w ∈ u_ws RX0 TX0 5, w ∈ wsX0_mixAll := by decide +kernel
  have lk0 := C.2.2.2.2 (.fieldLink RX0 9 "IdleDispatcher$Dispatcher" "policy" "I") (by decide +kernel)
  have lk1 := C.2.2.2.2 (.fieldLink RX0 15 "IdleDispatcher$Dispatcher" "pointer" "I") (by decide +kernel)
  have lk2 := C.2.2.2.2 (.fieldLink RX0 18 "IdleDispatcher$Dispatcher" "idleCount" "I") (by decide +kernel)
  have lk3 := C.2.2.2.2 (.fieldLink RX0 25 "IdleDispatcher$Dispatcher" "known" "[I") (by decide +kernel)
  have lk4 := C.2.2.2.2 (.fieldLink RX0 21 "IdleDispatcher$Dispatcher" "idle" "[I") (by decide +kernel)
  refine k_lload_n C dX0_mixAll_0 1 rfl ?_
  refine k_aload_n C dX0_mixAll_1 0 rfl ?_
  refine g_dPol C (foc_g F) hE.1 hi0 hj lk0 dX0_mixAll_2 ?_
  refine k_i2l C dX0_mixAll_5 ?_
  refine k_callNl (st := []) C hE (c_X4_mix l (P := P now rnd jm rp sc dc cn sUp sLen sWrk sReg sFst sLst dPol dPtr dCnt dIdl dKnw jCnt jFin jBeg jWs jMis jSrv jLft jSub jWai jNxt cnd) (A := A) (E := E) start ((dPol j).toInt64) _ h) ⟨va_cnB 2 C.2.2.2.2 gX0_mixAll_X4_mix_n34 rfl rfl rfl hE.2.1 (C.2.2.2.2 _ (by decide +kernel : (.initialized RX4 : Cond) ∈ wsX0_mixAll)) (by decide +kernel) ⟨Nat.le_of_ble_eq_true rfl, Nat.le_of_ble_eq_true rfl⟩, C.2.2.2.2 _ (by decide +kernel : (.static yX4_mix : Cond) ∈ wsX0_mixAll), trivial⟩ rfl rfl (Nat.le_of_ble_eq_true rfl) dX0_mixAll_6 ⟨Nat.zero_le _, Nat.zero_le _⟩ (fun r1 => ?_)
  refine k_and (fun h => ?_)
  refine k_lstore (lv' := [(4, .long r1), (0, .ref (a + (11 + 3 * j))), (1, .long start), (3, .int cntS)]) C dX0_mixAll_9 (by decide) rfl ?_
  refine k_lload C dX0_mixAll_11 0 rfl ?_
  refine k_aload_n C dX0_mixAll_13 1 rfl ?_
  refine g_dPtr C (foc_g F) hE.1 hi0 hj lk1 dX0_mixAll_14 ?_
  refine k_i2l C dX0_mixAll_17 ?_
  refine k_callNl (st := []) C hE (c_X4_mix l (P := P now rnd jm rp sc dc cn sUp sLen sWrk sReg sFst sLst dPol dPtr dCnt dIdl dKnw jCnt jFin jBeg jWs jMis jSrv jLft jSub jWai jNxt cnd) (A := A) (E := E) r1 ((dPtr j).toInt64) _ h) ⟨va_cnB 2 C.2.2.2.2 gX0_mixAll_X4_mix_n34 rfl rfl rfl hE.2.1 (C.2.2.2.2 _ (by decide +kernel : (.initialized RX4 : Cond) ∈ wsX0_mixAll)) (by decide +kernel) ⟨Nat.le_of_ble_eq_true rfl, Nat.le_of_ble_eq_true rfl⟩, C.2.2.2.2 _ (by decide +kernel : (.static yX4_mix : Cond) ∈ wsX0_mixAll), trivial⟩ rfl rfl (Nat.le_of_ble_eq_true rfl) dX0_mixAll_18 ⟨Nat.zero_le _, Nat.zero_le _⟩ (fun r2 => ?_)
  refine k_and (fun h => ?_)
  refine k_lstore (lv' := [(4, .long r2), (0, .ref (a + (11 + 3 * j))), (1, .long start), (3, .int cntS)]) C dX0_mixAll_21 (by decide) rfl ?_
  refine k_lload C dX0_mixAll_23 0 rfl ?_
  refine k_aload_n C dX0_mixAll_25 1 rfl ?_
  refine g_dCnt C (foc_g F) hE.1 hi0 hj lk2 dX0_mixAll_26 ?_
  refine k_i2l C dX0_mixAll_29 ?_
  refine k_callNl (st := []) C hE (c_X4_mix l (P := P now rnd jm rp sc dc cn sUp sLen sWrk sReg sFst sLst dPol dPtr dCnt dIdl dKnw jCnt jFin jBeg jWs jMis jSrv jLft jSub jWai jNxt cnd) (A := A) (E := E) r2 ((dCnt j).toInt64) _ h) ⟨va_cnB 2 C.2.2.2.2 gX0_mixAll_X4_mix_n34 rfl rfl rfl hE.2.1 (C.2.2.2.2 _ (by decide +kernel : (.initialized RX4 : Cond) ∈ wsX0_mixAll)) (by decide +kernel) ⟨Nat.le_of_ble_eq_true rfl, Nat.le_of_ble_eq_true rfl⟩, C.2.2.2.2 _ (by decide +kernel : (.static yX4_mix : Cond) ∈ wsX0_mixAll), trivial⟩ rfl rfl (Nat.le_of_ble_eq_true rfl) dX0_mixAll_30 ⟨Nat.zero_le _, Nat.zero_le _⟩ (fun r3 => ?_)
  refine k_and (fun h => ?_)
  refine k_lstore (lv' := [(4, .long r3), (0, .ref (a + (11 + 3 * j))), (1, .long start), (3, .int cntS)]) C dX0_mixAll_33 (by decide) rfl ?_
  refine k_iconst (v := 0) C dX0_mixAll_35 (by decide) ?_
  refine k_istore (lv' := [(6, .int 0), (4, .long r3), (0, .ref (a + (11 + 3 * j))), (1, .long start), (3, .int cntS)]) C dX0_mixAll_36 (by decide) rfl ?_
  obtain ⟨n38, h⟩ := h
  refine k_pc (pc2 := 38) rfl ?_
  refine k_loop2 (wp_X0_mixAll_L38 dCnt j cntS k dKnw dIdl) (fun x4 x5 => P now rnd jm rp sc dc cn sUp sLen sWrk sReg sFst sLst dPol dPtr dCnt dIdl dKnw jCnt jFin jBeg jWs jMis jSrv jLft jSub jWai jNxt cnd) (fun x4 x5 => [(6, .int x4), (4, .long x5), (0, .ref (a + (11 + 3 * j))), (1, .long start), (3, .int cntS)]) (fun _ _ h => h) (fun n38 ih38 x4 x5 h => ?_) n38 _ _ h
  refine k_iload C dX0_mixAll_38 0 rfl ?_
  refine k_aload_n C dX0_mixAll_40 2 rfl ?_
  refine g_dCnt C (foc_g F) hE.1 hi0 hj lk2 dX0_mixAll_41 ?_
  refine k_icmp_ge (tgt := 68) C dX0_mixAll_44 (by decide) (fun c6 => ?_) (fun c6 => ?_)
  · replace h := h.1 c6
    refine k_iconst (v := 0) C dX0_mixAll_68 (by decide) ?_
    refine k_istore (lv' := [(6, .int 0), (4, .long x5), (0, .ref (a + (11 + 3 * j))), (1, .long start), (3, .int cntS)]) C dX0_mixAll_69 (by decide) rfl ?_
    obtain ⟨n71, h⟩ := h
    refine k_pc (pc2 := 71) rfl ?_
    refine k_loop2 (wp_X0_mixAll_L71 cntS k dKnw j) (fun x7 x8 => P now rnd jm rp sc dc cn sUp sLen sWrk sReg sFst sLst dPol dPtr dCnt dIdl dKnw jCnt jFin jBeg jWs jMis jSrv jLft jSub jWai jNxt cnd) (fun x7 x8 => [(6, .int x7), (4, .long x8), (0, .ref (a + (11 + 3 * j))), (1, .long start), (3, .int cntS)]) (fun _ _ h => h) (fun n71 ih71 x7 x8 h => ?_) n71 _ _ h
    refine k_iload C dX0_mixAll_71 0 rfl ?_
    refine k_iload_n C dX0_mixAll_73 4 rfl ?_
    refine k_icmp_ge (tgt := 98) C dX0_mixAll_74 (by decide) (fun c9 => ?_) (fun c9 => ?_)
    · replace h := h.1 c9
      refine k_lload C dX0_mixAll_98 1 rfl ?_
      exact k_lret C hr hlk dX0_mixAll_100 (fun H hP => ⟨h, hP⟩)
    · replace h := h.2 c9
      refine k_lload C dX0_mixAll_77 1 rfl ?_
      refine k_aload_n C dX0_mixAll_79 2 rfl ?_
      refine g_Di_known C (foc_g F) hE.1 hi0 hj lk3 dX0_mixAll_80 ?_
      refine k_iload C dX0_mixAll_83 0 rfl ?_
      obtain ⟨q10, h⟩ := h
      refine g_dKnw C (foc_g F) hE.1 hj q10 dX0_mixAll_85 ?_
      refine k_i2l C dX0_mixAll_86 ?_
      refine k_callNl (st := []) C hE (c_X4_mix l (P := P now rnd jm rp sc dc cn sUp sLen sWrk sReg sFst sLst dPol dPtr dCnt dIdl dKnw jCnt jFin jBeg jWs jMis jSrv jLft jSub jWai jNxt cnd) (A := A) (E := E) x8 ((dKnw j x7.toNatClampNeg).toInt64) _ h) ⟨va_cnB 2 C.2.2.2.2 gX0_mixAll_X4_mix_n34 rfl rfl rfl hE.2.1 (C.2.2.2.2 _ (by decide +kernel : (.initialized RX4 : Cond) ∈ wsX0_mixAll)) (by decide +kernel) ⟨Nat.le_of_ble_eq_true rfl, Nat.le_of_ble_eq_true rfl⟩, C.2.2.2.2 _ (by decide +kernel : (.static yX4_mix : Cond) ∈ wsX0_mixAll), trivial⟩ rfl rfl (Nat.le_of_ble_eq_true rfl) dX0_mixAll_87 ⟨Nat.zero_le _, Nat.zero_le _⟩ (fun r11 => ?_)
      refine k_and (fun h => ?_)
      refine k_lstore (lv' := [(4, .long r11), (6, .int x7), (0, .ref (a + (11 + 3 * j))), (1, .long start), (3, .int cntS)]) C dX0_mixAll_90 (by decide) rfl ?_
      obtain ⟨x12, ex12⟩ : ∃ z : Int32, z = x7 + 1 := ⟨_, rfl⟩
      replace h := h x12 ex12
      refine k_iinc (v := x12) (lv' := [(6, .int x12), (4, .long r11), (0, .ref (a + (11 + 3 * j))), (1, .long start), (3, .int cntS)]) (j := 1) C dX0_mixAll_92 rfl (by rw [ex12]; rfl) (by decide) rfl ?_
      refine k_goto (tgt := 71) C dX0_mixAll_95 (by decide) ?_
      refine k_pc (pc2 := 71) rfl ?_
      refine k_sub [0, 1, 2, 3, 4] rfl ?_
      exact ih71 _ _ h
  · replace h := h.2 c6
    refine k_lload C dX0_mixAll_47 1 rfl ?_
    refine k_aload_n C dX0_mixAll_49 2 rfl ?_
    refine g_Di_idle C (foc_g F) hE.1 hi0 hj lk4 dX0_mixAll_50 ?_
    refine k_iload C dX0_mixAll_53 0 rfl ?_
    obtain ⟨q13, h⟩ := h
    refine g_dIdl C (foc_g F) hE.1 hj q13 dX0_mixAll_55 ?_
    refine k_i2l C dX0_mixAll_56 ?_
    refine k_callNl (st := []) C hE (c_X4_mix l (P := P now rnd jm rp sc dc cn sUp sLen sWrk sReg sFst sLst dPol dPtr dCnt dIdl dKnw jCnt jFin jBeg jWs jMis jSrv jLft jSub jWai jNxt cnd) (A := A) (E := E) x5 ((dIdl j x4.toNatClampNeg).toInt64) _ h) ⟨va_cnB 2 C.2.2.2.2 gX0_mixAll_X4_mix_n34 rfl rfl rfl hE.2.1 (C.2.2.2.2 _ (by decide +kernel : (.initialized RX4 : Cond) ∈ wsX0_mixAll)) (by decide +kernel) ⟨Nat.le_of_ble_eq_true rfl, Nat.le_of_ble_eq_true rfl⟩, C.2.2.2.2 _ (by decide +kernel : (.static yX4_mix : Cond) ∈ wsX0_mixAll), trivial⟩ rfl rfl (Nat.le_of_ble_eq_true rfl) dX0_mixAll_57 ⟨Nat.zero_le _, Nat.zero_le _⟩ (fun r14 => ?_)
    refine k_and (fun h => ?_)
    refine k_lstore (lv' := [(4, .long r14), (6, .int x4), (0, .ref (a + (11 + 3 * j))), (1, .long start), (3, .int cntS)]) C dX0_mixAll_60 (by decide) rfl ?_
    obtain ⟨x15, ex15⟩ : ∃ z : Int32, z = x4 + 1 := ⟨_, rfl⟩
    replace h := h x15 ex15
    refine k_iinc (v := x15) (lv' := [(6, .int x15), (4, .long r14), (0, .ref (a + (11 + 3 * j))), (1, .long start), (3, .int cntS)]) (j := 1) C dX0_mixAll_62 rfl (by rw [ex15]; rfl) (by decide) rfl ?_
    refine k_goto (tgt := 38) C dX0_mixAll_65 (by decide) ?_
    refine k_pc (pc2 := 38) rfl ?_
    refine k_sub [0, 1, 2, 3, 4] rfl ?_
    exact ih38 _ _ h
noncomputable def wp_X1_append (jCnt : Int32) (jSrv : Nat → Int32) (jLft : Nat → Int32) (jSub : Nat → Int32) (jWai : Nat → Int32) (jNxt : Nat → Int32) (toS : Int32) (size : Int32) (time : Int32) (k : Int32 → Int32 → (Nat → Int32) → (Nat → Int32) → (Nat → Int32) → (Nat → Int32) → (Nat → Int32) → Prop) : Prop := (jCnt < 200 → (∀ x2 : Int32, x2 = (jCnt + 1) → ((vp_in jCnt 200) ∧ (∀ jSrv_4 : Nat → Int32, jSrv_4 = upd jSrv jCnt.toNatClampNeg toS → (∀ jLft_5 : Nat → Int32, jLft_5 = upd jLft jCnt.toNatClampNeg size → (∀ jSub_6 : Nat → Int32, jSub_6 = upd jSub jCnt.toNatClampNeg time → (∀ jWai_7 : Nat → Int32, jWai_7 = upd jWai jCnt.toNatClampNeg (-1) → (∀ jNxt_8 : Nat → Int32, jNxt_8 = upd jNxt jCnt.toNatClampNeg (-1) → (k jCnt x2 jSrv_4 jLft_5 jSub_6 jWai_7 jNxt_8))))))))) ∧ (¬ (jCnt < 200) → (k (-1) jCnt jSrv jLft jSub jWai jNxt))
set_option maxRecDepth 100000 in
set_option maxHeartbeats 4000000 in
theorem c_X1_append (l : Launch) {E : EV} {a : Nat} {P : PF} {A : Nat → Prop} (F : Foc E a P) (hA : ∀ q, inSt a q → A q) (now : Int32) (rnd : Int64) (jm : Int32) (rp : Int32) (sc : Int32) (dc : Int32) (cn : Int32) (sUp : Nat → Int32) (sLen : Nat → Int32) (sWrk : Nat → Int32) (sReg : Nat → Int32) (sFst : Nat → Int32) (sLst : Nat → Int32) (dPol : Nat → Int32) (dPtr : Nat → Int32) (dCnt : Nat → Int32) (dIdl : Nat → Nat → Int32) (dKnw : Nat → Nat → Int32) (jCnt : Int32) (jFin : Int32) (jBeg : Int32) (jWs : Int32) (jMis : Int32) (jSrv : Nat → Int32) (jLft : Nat → Int32) (jSub : Nat → Int32) (jWai : Nat → Int32) (jNxt : Nat → Int32) (cnd : Nat → Int32) (toS : Int32) (size : Int32) (time : Int32)  (k : Int32 → Int32 → (Nat → Int32) → (Nat → Int32) → (Nat → Int32) → (Nat → Int32) → (Nat → Int32) → Prop) (h : wp_X1_append jCnt jSrv jLft jSub jWai jNxt toS size time k) : Met l yX1_append wsX1_append { frames := 0, cells := 0, slots := 0, locals := 0 } (va_Pc [.ref (a + (23)), .int toS, .int size, .int time] (fun U => P now rnd jm rp sc dc cn sUp sLen sWrk sReg sFst sLst dPol dPtr dCnt dIdl dKnw jCnt jFin jBeg jWs jMis jSrv jLft jSub jWai jNxt cnd U.heap ∧ XE E U)) (kQi (fun r H => ∃ jCnt9 : Int32, ∃ jSrv9 : Nat → Int32, ∃ jLft9 : Nat → Int32, ∃ jSub9 : Nat → Int32, ∃ jWai9 : Nat → Int32, ∃ jNxt9 : Nat → Int32, k r jCnt9 jSrv9 jLft9 jSub9 jWai9 jNxt9 ∧ P now rnd jm rp sc dc cn sUp sLen sWrk sReg sFst sLst dPol dPtr dCnt dIdl dKnw jCnt9 jFin jBeg jWs jMis jSrv9 jLft9 jSub9 jWai9 jNxt9 cnd H) A) 0 0 A := by
  refine k_body (cc := cX1_append) (own := RX1) (maxL := 5) (ret := (some .int)) (lv0 := [(0, .ref (a + (23))), (1, .int toS), (2, .int size), (3, .int time)]) (by decide) rfl rfl (Nat.le_of_ble_eq_true rfl) rfl (fun p e s m below meth c C hr hlk hP hE => ?_)
  have hi1 : ∀ w ∈ u_ws RX1 TX1 10, w ∈ wsX1_append := by decide +kernel
  have lk0 := C.2.2.2.2 (.fieldLink RX1 9 "IdleDispatcher$Jobs" "count" "I") (by decide +kernel)
  have lk1 := C.2.2.2.2 (.fieldLink RX1 27 "IdleDispatcher$Jobs" "server" "[I") (by decide +kernel)
  have lk2 := C.2.2.2.2 (.fieldLink RX1 31 "IdleDispatcher$Jobs" "left" "[I") (by decide +kernel)
  have lk3 := C.2.2.2.2 (.fieldLink RX1 34 "IdleDispatcher$Jobs" "submittedAt" "[I") (by decide +kernel)
  have lk4 := C.2.2.2.2 (.fieldLink RX1 37 "IdleDispatcher$Jobs" "wait" "[I") (by decide +kernel)
  have lk5 := C.2.2.2.2 (.fieldLink RX1 40 "IdleDispatcher$Jobs" "next" "[I") (by decide +kernel)
  refine k_aload_n C dX1_append_0 0 rfl ?_
  refine g_jCnt C (foc_g F) hE.1 hi1 lk0 dX1_append_1 ?_
  refine k_sipush (v := 200) C dX1_append_4 (by decide) ?_
  refine k_icmp_lt (tgt := 12) C dX1_append_7 (by decide) (fun c1 => ?_) (fun c1 => ?_)
  · replace h := h.1 c1
    refine k_aload_n C dX1_append_12 0 rfl ?_
    refine g_jCnt C (foc_g F) hE.1 hi1 lk0 dX1_append_13 ?_
    refine k_istore (lv' := [(4, .int jCnt), (0, .ref (a + (23))), (1, .int toS), (2, .int size), (3, .int time)]) C dX1_append_16 (by decide) rfl ?_
    refine k_aload_n C dX1_append_18 1 rfl ?_
    refine k_dup C dX1_append_19 rfl ?_
    refine g_jCnt C (foc_g F) hE.1 hi1 lk0 dX1_append_20 ?_
    refine k_iconst (v := 1) C dX1_append_23 (by decide) ?_
    refine k_iadd C dX1_append_24 ?_
    refine k_topi (fun x2 ex2 => ?_)
    replace h := h x2 ex2
    refine p_jCnt C F hA hE.1 hi1 lk0 dX1_append_25 ?_
    refine k_aload_n C dX1_append_28 1 rfl ?_
    refine g_Jo_server C (foc_g F) hE.1 hi1 lk1 dX1_append_29 ?_
    refine k_iload C dX1_append_32 0 rfl ?_
    refine k_iload_n C dX1_append_34 2 rfl ?_
    obtain ⟨q3, h⟩ := h
    obtain ⟨jSrv_4, ejSrv_4⟩ : ∃ z : Nat → Int32, z = upd jSrv jCnt.toNatClampNeg toS := ⟨_, rfl⟩
    replace h := h jSrv_4 ejSrv_4
    refine p_jSrv C F hA hE.1 q3 ejSrv_4 dX1_append_35 ?_
    refine k_aload_n C dX1_append_36 1 rfl ?_
    refine g_Jo_left C (foc_g F) hE.1 hi1 lk2 dX1_append_37 ?_
    refine k_iload C dX1_append_40 0 rfl ?_
    refine k_iload_n C dX1_append_42 3 rfl ?_
    obtain ⟨jLft_5, ejLft_5⟩ : ∃ z : Nat → Int32, z = upd jLft jCnt.toNatClampNeg size := ⟨_, rfl⟩
    replace h := h jLft_5 ejLft_5
    refine p_jLft C F hA hE.1 q3 ejLft_5 dX1_append_43 ?_
    refine k_aload_n C dX1_append_44 1 rfl ?_
    refine g_Jo_submittedAt C (foc_g F) hE.1 hi1 lk3 dX1_append_45 ?_
    refine k_iload C dX1_append_48 0 rfl ?_
    refine k_iload_n C dX1_append_50 4 rfl ?_
    obtain ⟨jSub_6, ejSub_6⟩ : ∃ z : Nat → Int32, z = upd jSub jCnt.toNatClampNeg time := ⟨_, rfl⟩
    replace h := h jSub_6 ejSub_6
    refine p_jSub C F hA hE.1 q3 ejSub_6 dX1_append_51 ?_
    refine k_aload_n C dX1_append_52 1 rfl ?_
    refine g_Jo_wait C (foc_g F) hE.1 hi1 lk4 dX1_append_53 ?_
    refine k_iload C dX1_append_56 0 rfl ?_
    refine k_iconst (v := (-1)) C dX1_append_58 (by decide) ?_
    obtain ⟨jWai_7, ejWai_7⟩ : ∃ z : Nat → Int32, z = upd jWai jCnt.toNatClampNeg (-1) := ⟨_, rfl⟩
    replace h := h jWai_7 ejWai_7
    refine p_jWai C F hA hE.1 q3 ejWai_7 dX1_append_59 ?_
    refine k_aload_n C dX1_append_60 1 rfl ?_
    refine g_Jo_next C (foc_g F) hE.1 hi1 lk5 dX1_append_61 ?_
    refine k_iload C dX1_append_64 0 rfl ?_
    refine k_iconst (v := (-1)) C dX1_append_66 (by decide) ?_
    obtain ⟨jNxt_8, ejNxt_8⟩ : ∃ z : Nat → Int32, z = upd jNxt jCnt.toNatClampNeg (-1) := ⟨_, rfl⟩
    replace h := h jNxt_8 ejNxt_8
    refine p_jNxt C F hA hE.1 q3 ejNxt_8 dX1_append_67 ?_
    refine k_iload C dX1_append_68 0 rfl ?_
    exact k_iret C hr hlk dX1_append_70 (fun H hP => ⟨x2, jSrv_4, jLft_5, jSub_6, jWai_7, jNxt_8, h, hP⟩)
  · replace h := h.2 c1
    refine k_iconst (v := (-1)) C dX1_append_10 (by decide) ?_
    exact k_iret C hr hlk dX1_append_11 (fun H hP => ⟨jCnt, jSrv, jLft, jSub, jWai, jNxt, h, hP⟩)
noncomputable def wp_X1_begin (jBeg : Int32) (jWs : Int32) (jSub : Nat → Int32) (jWai : Nat → Int32) (job : Int32) (time : Int32) (k : Int32 → Int32 → (Nat → Int32) → Prop) : Prop := (vp_in job 200) ∧ (∀ jWai_2 : Nat → Int32, jWai_2 = upd jWai job.toNatClampNeg (time - (jSub job.toNatClampNeg)) → (∀ x3 : Int32, x3 = (jWs + (jWai_2 job.toNatClampNeg)) → (∀ x4 : Int32, x4 = (jBeg + 1) → (k x4 x3 jWai_2))))
set_option maxRecDepth 100000 in
set_option maxHeartbeats 4000000 in
theorem c_X1_begin (l : Launch) {E : EV} {a : Nat} {P : PF} {A : Nat → Prop} (F : Foc E a P) (hA : ∀ q, inSt a q → A q) (now : Int32) (rnd : Int64) (jm : Int32) (rp : Int32) (sc : Int32) (dc : Int32) (cn : Int32) (sUp : Nat → Int32) (sLen : Nat → Int32) (sWrk : Nat → Int32) (sReg : Nat → Int32) (sFst : Nat → Int32) (sLst : Nat → Int32) (dPol : Nat → Int32) (dPtr : Nat → Int32) (dCnt : Nat → Int32) (dIdl : Nat → Nat → Int32) (dKnw : Nat → Nat → Int32) (jCnt : Int32) (jFin : Int32) (jBeg : Int32) (jWs : Int32) (jMis : Int32) (jSrv : Nat → Int32) (jLft : Nat → Int32) (jSub : Nat → Int32) (jWai : Nat → Int32) (jNxt : Nat → Int32) (cnd : Nat → Int32) (job : Int32) (time : Int32)  (k : Int32 → Int32 → (Nat → Int32) → Prop) (h : wp_X1_begin jBeg jWs jSub jWai job time k) : Met l yX1_begin wsX1_begin { frames := 0, cells := 0, slots := 0, locals := 0 } (va_Pc [.ref (a + (23)), .int job, .int time] (fun U => P now rnd jm rp sc dc cn sUp sLen sWrk sReg sFst sLst dPol dPtr dCnt dIdl dKnw jCnt jFin jBeg jWs jMis jSrv jLft jSub jWai jNxt cnd U.heap ∧ XE E U)) (kQv (fun H => ∃ jBeg9 : Int32, ∃ jWs9 : Int32, ∃ jWai9 : Nat → Int32, k jBeg9 jWs9 jWai9 ∧ P now rnd jm rp sc dc cn sUp sLen sWrk sReg sFst sLst dPol dPtr dCnt dIdl dKnw jCnt jFin jBeg9 jWs9 jMis jSrv jLft jSub jWai9 jNxt cnd H) A) 0 0 A := by
  refine k_body (cc := cX1_begin) (own := RX1) (maxL := 3) (ret := none) (lv0 := [(0, .ref (a + (23))), (1, .int job), (2, .int time)]) (by decide) rfl rfl (Nat.le_of_ble_eq_true rfl) rfl (fun p e s m below meth c C hr hlk hP hE => ?_)
  have hi1 : ∀ w ∈ u_ws RX1 TX1 10, w ∈ wsX1_begin := by decide +kernel
  have lk0 := C.2.2.2.2 (.fieldLink RX1 37 "IdleDispatcher$Jobs" "wait" "[I") (by decide +kernel)
  have lk1 := C.2.2.2.2 (.fieldLink RX1 34 "IdleDispatcher$Jobs" "submittedAt" "[I") (by decide +kernel)
  have lk2 := C.2.2.2.2 (.fieldLink RX1 21 "IdleDispatcher$Jobs" "waitSum" "I") (by decide +kernel)
  have lk3 := C.2.2.2.2 (.fieldLink RX1 18 "IdleDispatcher$Jobs" "begun" "I") (by decide +kernel)
  refine k_aload_n C dX1_begin_0 0 rfl ?_
  refine g_Jo_wait C (foc_g F) hE.1 hi1 lk0 dX1_begin_1 ?_
  refine k_iload_n C dX1_begin_4 1 rfl ?_
  refine k_iload_n C dX1_begin_5 2 rfl ?_
  refine k_aload_n C dX1_begin_6 0 rfl ?_
  refine g_Jo_submittedAt C (foc_g F) hE.1 hi1 lk1 dX1_begin_7 ?_
  refine k_iload_n C dX1_begin_10 1 rfl ?_
  obtain ⟨q1, h⟩ := h
  refine g_jSub C (foc_g F) hE.1 q1 dX1_begin_11 ?_
  refine k_isub C dX1_begin_12 ?_
  obtain ⟨jWai_2, ejWai_2⟩ : ∃ z : Nat → Int32, z = upd jWai job.toNatClampNeg (time - (jSub job.toNatClampNeg)) := ⟨_, rfl⟩
  replace h := h jWai_2 ejWai_2
  refine p_jWai C F hA hE.1 q1 ejWai_2 dX1_begin_13 ?_
  refine k_aload_n C dX1_begin_14 0 rfl ?_
  refine k_dup C dX1_begin_15 rfl ?_
  refine g_jWs C (foc_g F) hE.1 hi1 lk2 dX1_begin_16 ?_
  refine k_aload_n C dX1_begin_19 0 rfl ?_
  refine g_Jo_wait C (foc_g F) hE.1 hi1 lk0 dX1_begin_20 ?_
  refine k_iload_n C dX1_begin_23 1 rfl ?_
  refine g_jWai C (foc_g F) hE.1 q1 dX1_begin_24 ?_
  refine k_iadd C dX1_begin_25 ?_
  refine k_topi (fun x3 ex3 => ?_)
  replace h := h x3 ex3
  refine p_jWs C F hA hE.1 hi1 lk2 dX1_begin_26 ?_
  refine k_aload_n C dX1_begin_29 0 rfl ?_
  refine k_dup C dX1_begin_30 rfl ?_
  refine g_jBeg C (foc_g F) hE.1 hi1 lk3 dX1_begin_31 ?_
  refine k_iconst (v := 1) C dX1_begin_34 (by decide) ?_
  refine k_iadd C dX1_begin_35 ?_
  refine k_topi (fun x4 ex4 => ?_)
  replace h := h x4 ex4
  refine p_jBeg C F hA hE.1 hi1 lk3 dX1_begin_36 ?_
  exact k_vret C hr hlk dX1_begin_39 (fun H hP => ⟨x4, x3, jWai_2, h, hP⟩)
