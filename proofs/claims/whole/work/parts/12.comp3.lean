noncomputable def wp_X3_sumOverCandidates_L4 (cn : Int32) (k : Int32 → Prop) (cnd : Nat → Int32) (sLen : Nat → Int32) (fu : Nat) : Int32 → Int32 → Prop := Nat.rec (motive := fun _ => Int32 → Int32 → Prop) (fun _ _ => False) (fun _ rec4 x1 x2 => (cn ≤ x1 → (k x2)) ∧ (¬ (cn ≤ x1) → ((vp_in x1 8) ∧ ((vp_in (cnd x1.toNatClampNeg) 8) ∧ (∀ x6 : Int32, x6 = (x2 + (sLen (cnd x1.toNatClampNeg).toNatClampNeg)) → (∀ x7 : Int32, x7 = x1 + 1 → (rec4 x7 x6))))))) fu
noncomputable def wp_X3_sumOverCandidates (cn : Int32) (sLen : Nat → Int32) (cnd : Nat → Int32) (k : Int32 → Prop) : Prop := ∃ fu, wp_X3_sumOverCandidates_L4 cn k cnd sLen fu 0 0
set_option maxRecDepth 100000 in
set_option maxHeartbeats 4000000 in
theorem c_X3_sumOverCandidates (l : Launch) {E : EV} {a : Nat} {P : PF} {A : Nat → Prop} (F : Foc E a P) (hA : ∀ q, inSt a q → A q) (now : Int32) (rnd : Int64) (jm : Int32) (rp : Int32) (sc : Int32) (dc : Int32) (cn : Int32) (sUp : Nat → Int32) (sLen : Nat → Int32) (sWrk : Nat → Int32) (sReg : Nat → Int32) (sFst : Nat → Int32) (sLst : Nat → Int32) (dPol : Nat → Int32) (dPtr : Nat → Int32) (dCnt : Nat → Int32) (dIdl : Nat → Nat → Int32) (dKnw : Nat → Nat → Int32) (jCnt : Int32) (jFin : Int32) (jBeg : Int32) (jWs : Int32) (jMis : Int32) (jSrv : Nat → Int32) (jLft : Nat → Int32) (jSub : Nat → Int32) (jWai : Nat → Int32) (jNxt : Nat → Int32) (cnd : Nat → Int32)   (k : Int32 → Prop) (h : wp_X3_sumOverCandidates cn sLen cnd  k) : Met l yX3_sumOverCandidates wsX3_sumOverCandidates { frames := 0, cells := 0, slots := 0, locals := 0 } (va_Pc [.ref a] (fun U => P now rnd jm rp sc dc cn sUp sLen sWrk sReg sFst sLst dPol dPtr dCnt dIdl dKnw jCnt jFin jBeg jWs jMis jSrv jLft jSub jWai jNxt cnd U.heap ∧ XE E U)) (kQi (fun r H => k r ∧ P now rnd jm rp sc dc cn sUp sLen sWrk sReg sFst sLst dPol dPtr dCnt dIdl dKnw jCnt jFin jBeg jWs jMis jSrv jLft jSub jWai jNxt cnd H) A) 0 0 A := by
  refine k_body (cc := cX3_sumOverCandidates) (own := RX3) (maxL := 3) (ret := (some .int)) (lv0 := [(0, .ref a)]) (by decide) rfl rfl (Nat.le_of_ble_eq_true rfl) rfl (fun p e s m below meth c C hr hlk hP hE => ?_)
  have hi3 : ∀ w ∈ u_ws RX3 TX3 11, w ∈ wsX3_sumOverCandidates := by decide +kernel
  have hi2 : ∀ w ∈ u_ws RX2 TX2 6, w ∈ wsX3_sumOverCandidates := by decide +kernel
  have lk0 := C.2.2.2.2 (.fieldLink RX3 52 "IdleDispatcher$State" "candidateCount" "I") (by decide +kernel)
  have lk1 := C.2.2.2.2 (.fieldLink RX3 33 "IdleDispatcher$State" "servers" "[LIdleDispatcher$Server;") (by decide +kernel)
  have lk2 := C.2.2.2.2 (.fieldLink RX3 55 "IdleDispatcher$State" "candidates" "[I") (by decide +kernel)
  have lk3 := C.2.2.2.2 (.fieldLink RX3 86 "IdleDispatcher$Server" "length" "I") (by decide +kernel)
  refine k_iconst (v := 0) C dX3_sumOverCandidates_0 (by decide) ?_
  refine k_istore_n (lv' := [(1, .int 0), (0, .ref a)]) C dX3_sumOverCandidates_1 rfl (by decide) rfl ?_
  refine k_iconst (v := 0) C dX3_sumOverCandidates_2 (by decide) ?_
  refine k_istore_n (lv' := [(2, .int 0), (1, .int 0), (0, .ref a)]) C dX3_sumOverCandidates_3 rfl (by decide) rfl ?_
  obtain ⟨n4, h⟩ := h
  refine k_pc (pc2 := 4) rfl ?_
  refine k_loop2 (wp_X3_sumOverCandidates_L4 cn k cnd sLen) (fun x1 x2 => P now rnd jm rp sc dc cn sUp sLen sWrk sReg sFst sLst dPol dPtr dCnt dIdl dKnw jCnt jFin jBeg jWs jMis jSrv jLft jSub jWai jNxt cnd) (fun x1 x2 => [(2, .int x1), (1, .int x2), (0, .ref a)]) (fun _ _ h => h) (fun n4 ih4 x1 x2 h => ?_) n4 _ _ h
  refine k_iload_n C dX3_sumOverCandidates_4 0 rfl ?_
  refine k_aload_n C dX3_sumOverCandidates_5 2 rfl ?_
  refine g_cn C (foc_g F) hE.1 hi3 lk0 dX3_sumOverCandidates_6 ?_
  refine k_icmp_ge (tgt := 35) C dX3_sumOverCandidates_9 (by decide) (fun c3 => ?_) (fun c3 => ?_)
  · replace h := h.1 c3
    refine k_iload_n C dX3_sumOverCandidates_35 1 rfl ?_
    exact k_iret C hr hlk dX3_sumOverCandidates_36 (fun H hP => ⟨h, hP⟩)
  · replace h := h.2 c3
    refine k_iload_n C dX3_sumOverCandidates_12 1 rfl ?_
    refine k_aload_n C dX3_sumOverCandidates_13 2 rfl ?_
    refine g_St_servers C (foc_g F) hE.1 hi3 lk1 dX3_sumOverCandidates_14 ?_
    refine k_aload_n C dX3_sumOverCandidates_17 2 rfl ?_
    refine g_St_candidates C (foc_g F) hE.1 hi3 lk2 dX3_sumOverCandidates_18 ?_
    refine k_iload_n C dX3_sumOverCandidates_21 0 rfl ?_
    obtain ⟨q4, h⟩ := h
    refine g_cnd C (foc_g F) hE.1 q4 dX3_sumOverCandidates_22 ?_
    obtain ⟨q5, h⟩ := h
    refine g_SA C (foc_g F) hE.1 q5 dX3_sumOverCandidates_23 ?_
    refine g_sLen C (foc_g F) hE.1 hi2 (vp_lt q5) lk3 dX3_sumOverCandidates_24 ?_
    refine k_iadd C dX3_sumOverCandidates_27 ?_
    refine k_topi (fun x6 ex6 => ?_)
    replace h := h x6 ex6
    refine k_istore_n (lv' := [(1, .int x6), (2, .int x1), (0, .ref a)]) C dX3_sumOverCandidates_28 rfl (by decide) rfl ?_
    obtain ⟨x7, ex7⟩ : ∃ z : Int32, z = x1 + 1 := ⟨_, rfl⟩
    replace h := h x7 ex7
    refine k_iinc (v := x7) (lv' := [(2, .int x7), (1, .int x6), (0, .ref a)]) (j := 1) C dX3_sumOverCandidates_29 rfl (by rw [ex7]; rfl) (by decide) rfl ?_
    refine k_goto (tgt := 4) C dX3_sumOverCandidates_32 (by decide) ?_
    refine k_pc (pc2 := 4) rfl ?_
    refine k_sub [0, 1, 2] rfl ?_
    exact ih4 _ _ h
noncomputable def wp_X3_sumOverPairs_L30 (cn : Int32) (x1 : Int32) (rec4 : Int32 → Int32 → Prop) (cnd : Nat → Int32) (sLen : Nat → Int32) (x6 : Int32) (fu : Nat) : Int32 → Int32 → Prop := Nat.rec (motive := fun _ => Int32 → Int32 → Prop) (fun _ _ => False) (fun _ rec30 x7 x8 => (cn ≤ x7 → (∀ x10 : Int32, x10 = x1 + 1 → (rec4 x10 x8))) ∧ (¬ (cn ≤ x7) → ((vp_in x7 8) ∧ ((vp_in (cnd x7.toNatClampNeg) 8) ∧ (∀ x13 : Int32, x13 = (x8 + (if (sLen (cnd x7.toNatClampNeg).toNatClampNeg) < x6 then (sLen (cnd x7.toNatClampNeg).toNatClampNeg) else x6)) → (∀ x14 : Int32, x14 = x7 + 1 → (rec30 x14 x13))))))) fu
noncomputable def wp_X3_sumOverPairs_L4 (cn : Int32) (k : Int32 → Prop) (cnd : Nat → Int32) (sLen : Nat → Int32) (fu : Nat) : Int32 → Int32 → Prop := Nat.rec (motive := fun _ => Int32 → Int32 → Prop) (fun _ _ => False) (fun _ rec4 x1 x2 => (cn ≤ x1 → (k x2)) ∧ (¬ (cn ≤ x1) → ((vp_in x1 8) ∧ ((vp_in (cnd x1.toNatClampNeg) 8) ∧ (∀ x6 : Int32, x6 = (sLen (cnd x1.toNatClampNeg).toNatClampNeg) → (∃ fu, wp_X3_sumOverPairs_L30 cn x1 rec4 cnd sLen x6 fu 0 x2)))))) fu
noncomputable def wp_X3_sumOverPairs (cn : Int32) (sLen : Nat → Int32) (cnd : Nat → Int32) (k : Int32 → Prop) : Prop := ∃ fu, wp_X3_sumOverPairs_L4 cn k cnd sLen fu 0 0
set_option maxRecDepth 100000 in
set_option maxHeartbeats 4000000 in
theorem c_X3_sumOverPairs (l : Launch) {E : EV} {a : Nat} {P : PF} {A : Nat → Prop} (F : Foc E a P) (hA : ∀ q, inSt a q → A q) (now : Int32) (rnd : Int64) (jm : Int32) (rp : Int32) (sc : Int32) (dc : Int32) (cn : Int32) (sUp : Nat → Int32) (sLen : Nat → Int32) (sWrk : Nat → Int32) (sReg : Nat → Int32) (sFst : Nat → Int32) (sLst : Nat → Int32) (dPol : Nat → Int32) (dPtr : Nat → Int32) (dCnt : Nat → Int32) (dIdl : Nat → Nat → Int32) (dKnw : Nat → Nat → Int32) (jCnt : Int32) (jFin : Int32) (jBeg : Int32) (jWs : Int32) (jMis : Int32) (jSrv : Nat → Int32) (jLft : Nat → Int32) (jSub : Nat → Int32) (jWai : Nat → Int32) (jNxt : Nat → Int32) (cnd : Nat → Int32)   (k : Int32 → Prop) (h : wp_X3_sumOverPairs cn sLen cnd  k) : Met l yX3_sumOverPairs wsX3_sumOverPairs { frames := 1, cells := 0, slots := 0, locals := 21 } (va_Pc [.ref a] (fun U => P now rnd jm rp sc dc cn sUp sLen sWrk sReg sFst sLst dPol dPtr dCnt dIdl dKnw jCnt jFin jBeg jWs jMis jSrv jLft jSub jWai jNxt cnd U.heap ∧ XE E U)) (kQi (fun r H => k r ∧ P now rnd jm rp sc dc cn sUp sLen sWrk sReg sFst sLst dPol dPtr dCnt dIdl dKnw jCnt jFin jBeg jWs jMis jSrv jLft jSub jWai jNxt cnd H) A) 0 0 A := by
  refine k_body (cc := cX3_sumOverPairs) (own := RX3) (maxL := 5) (ret := (some .int)) (lv0 := [(0, .ref a)]) (by decide) rfl rfl (Nat.le_of_ble_eq_true rfl) rfl (fun p e s m below meth c C hr hlk hP hE => ?_)
  have hi3 : ∀ w ∈ u_ws RX3 TX3 11, w ∈ wsX3_sumOverPairs := by decide +kernel
  have hi2 : ∀ w ∈ u_ws RX2 TX2 6, w ∈ wsX3_sumOverPairs := by decide +kernel
  have lk0 := C.2.2.2.2 (.fieldLink RX3 52 "IdleDispatcher$State" "candidateCount" "I") (by decide +kernel)
  have lk1 := C.2.2.2.2 (.fieldLink RX3 33 "IdleDispatcher$State" "servers" "[LIdleDispatcher$Server;") (by decide +kernel)
  have lk2 := C.2.2.2.2 (.fieldLink RX3 55 "IdleDispatcher$State" "candidates" "[I") (by decide +kernel)
  have lk3 := C.2.2.2.2 (.fieldLink RX3 86 "IdleDispatcher$Server" "length" "I") (by decide +kernel)
  have lk4 := C.2.2.2.2 (.methodLink RX3 146 Lib.Math.min.name) (by decide +kernel)
  have lk5 := C.2.2.2.2 (.static Lib.Math.min.name) (by decide +kernel)
  have lk6 := C.2.2.2.2 (.initialized "java/lang/Math") (by decide +kernel)
  have lk7 := C.2.2.2.2 (.code Lib.Math.min.name Lib.Math.min.code 2 (some .int)) (by decide +kernel)
  refine k_iconst (v := 0) C dX3_sumOverPairs_0 (by decide) ?_
  refine k_istore_n (lv' := [(1, .int 0), (0, .ref a)]) C dX3_sumOverPairs_1 rfl (by decide) rfl ?_
  refine k_iconst (v := 0) C dX3_sumOverPairs_2 (by decide) ?_
  refine k_istore_n (lv' := [(2, .int 0), (1, .int 0), (0, .ref a)]) C dX3_sumOverPairs_3 rfl (by decide) rfl ?_
  obtain ⟨n4, h⟩ := h
  refine k_pc (pc2 := 4) rfl ?_
  refine k_loop2 (wp_X3_sumOverPairs_L4 cn k cnd sLen) (fun x1 x2 => P now rnd jm rp sc dc cn sUp sLen sWrk sReg sFst sLst dPol dPtr dCnt dIdl dKnw jCnt jFin jBeg jWs jMis jSrv jLft jSub jWai jNxt cnd) (fun x1 x2 => [(2, .int x1), (1, .int x2), (0, .ref a)]) (fun _ _ h => h) (fun n4 ih4 x1 x2 h => ?_) n4 _ _ h
  refine k_iload_n C dX3_sumOverPairs_4 0 rfl ?_
  refine k_aload_n C dX3_sumOverPairs_5 2 rfl ?_
  refine g_cn C (foc_g F) hE.1 hi3 lk0 dX3_sumOverPairs_6 ?_
  refine k_icmp_ge (tgt := 73) C dX3_sumOverPairs_9 (by decide) (fun c3 => ?_) (fun c3 => ?_)
  · replace h := h.1 c3
    refine k_iload_n C dX3_sumOverPairs_73 1 rfl ?_
    exact k_iret C hr hlk dX3_sumOverPairs_74 (fun H hP => ⟨h, hP⟩)
  · replace h := h.2 c3
    refine k_aload_n C dX3_sumOverPairs_12 2 rfl ?_
    refine g_St_servers C (foc_g F) hE.1 hi3 lk1 dX3_sumOverPairs_13 ?_
    refine k_aload_n C dX3_sumOverPairs_16 2 rfl ?_
    refine g_St_candidates C (foc_g F) hE.1 hi3 lk2 dX3_sumOverPairs_17 ?_
    refine k_iload_n C dX3_sumOverPairs_20 0 rfl ?_
    obtain ⟨q4, h⟩ := h
    refine g_cnd C (foc_g F) hE.1 q4 dX3_sumOverPairs_21 ?_
    obtain ⟨q5, h⟩ := h
    refine g_SA C (foc_g F) hE.1 q5 dX3_sumOverPairs_22 ?_
    refine g_sLen C (foc_g F) hE.1 hi2 (vp_lt q5) lk3 dX3_sumOverPairs_23 ?_
    refine k_topi (fun x6 ex6 => ?_)
    replace h := h x6 ex6
    refine k_istore_n (lv' := [(3, .int x6), (2, .int x1), (1, .int x2), (0, .ref a)]) C dX3_sumOverPairs_26 rfl (by decide) rfl ?_
    refine k_iconst (v := 0) C dX3_sumOverPairs_27 (by decide) ?_
    refine k_istore (lv' := [(4, .int 0), (3, .int x6), (2, .int x1), (1, .int x2), (0, .ref a)]) C dX3_sumOverPairs_28 (by decide) rfl ?_
    obtain ⟨n30, h⟩ := h
    refine k_pc (pc2 := 30) rfl ?_
    refine k_loop2 (wp_X3_sumOverPairs_L30 cn x1 (wp_X3_sumOverPairs_L4 cn k cnd sLen n4) cnd sLen x6) (fun x7 x8 => P now rnd jm rp sc dc cn sUp sLen sWrk sReg sFst sLst dPol dPtr dCnt dIdl dKnw jCnt jFin jBeg jWs jMis jSrv jLft jSub jWai jNxt cnd) (fun x7 x8 => [(4, .int x7), (3, .int x6), (2, .int x1), (1, .int x8), (0, .ref a)]) (fun _ _ h => h) (fun n30 ih30 x7 x8 h => ?_) n30 _ _ h
    refine k_iload C dX3_sumOverPairs_30 0 rfl ?_
    refine k_aload_n C dX3_sumOverPairs_32 4 rfl ?_
    refine g_cn C (foc_g F) hE.1 hi3 lk0 dX3_sumOverPairs_33 ?_
    refine k_icmp_ge (tgt := 67) C dX3_sumOverPairs_36 (by decide) (fun c9 => ?_) (fun c9 => ?_)
    · replace h := h.1 c9
      obtain ⟨x10, ex10⟩ : ∃ z : Int32, z = x1 + 1 := ⟨_, rfl⟩
      replace h := h x10 ex10
      refine k_iinc (v := x10) (lv' := [(2, .int x10), (4, .int x7), (3, .int x6), (1, .int x8), (0, .ref a)]) (j := 2) C dX3_sumOverPairs_67 rfl (by rw [ex10]; rfl) (by decide) rfl ?_
      refine k_goto (tgt := 4) C dX3_sumOverPairs_70 (by decide) ?_
      refine k_pc (pc2 := 4) rfl ?_
      refine k_sub [0, 3, 4] rfl ?_
      exact ih4 _ _ h
    · replace h := h.2 c9
      refine k_iload_n C dX3_sumOverPairs_39 3 rfl ?_
      refine k_iload_n C dX3_sumOverPairs_40 1 rfl ?_
      refine k_aload_n C dX3_sumOverPairs_41 4 rfl ?_
      refine g_St_servers C (foc_g F) hE.1 hi3 lk1 dX3_sumOverPairs_42 ?_
      refine k_aload_n C dX3_sumOverPairs_45 4 rfl ?_
      refine g_St_candidates C (foc_g F) hE.1 hi3 lk2 dX3_sumOverPairs_46 ?_
      refine k_iload C dX3_sumOverPairs_49 0 rfl ?_
      obtain ⟨q11, h⟩ := h
      refine g_cnd C (foc_g F) hE.1 q11 dX3_sumOverPairs_51 ?_
      obtain ⟨q12, h⟩ := h
      refine g_SA C (foc_g F) hE.1 q12 dX3_sumOverPairs_52 ?_
      refine g_sLen C (foc_g F) hE.1 hi2 (vp_lt q12) lk3 dX3_sumOverPairs_53 ?_
      refine k_min C lk4 lk5 lk6 lk7 (Nat.le_of_ble_eq_true rfl) (Nat.le_of_ble_eq_true rfl) (Nat.zero_le _) (Nat.zero_le _) dX3_sumOverPairs_56 ?_
      refine k_iadd C dX3_sumOverPairs_59 ?_
      refine k_topi (fun x13 ex13 => ?_)
      replace h := h x13 ex13
      refine k_istore_n (lv' := [(1, .int x13), (4, .int x7), (3, .int x6), (2, .int x1), (0, .ref a)]) C dX3_sumOverPairs_60 rfl (by decide) rfl ?_
      obtain ⟨x14, ex14⟩ : ∃ z : Int32, z = x7 + 1 := ⟨_, rfl⟩
      replace h := h x14 ex14
      refine k_iinc (v := x14) (lv' := [(4, .int x14), (1, .int x13), (3, .int x6), (2, .int x1), (0, .ref a)]) (j := 1) C dX3_sumOverPairs_61 rfl (by rw [ex14]; rfl) (by decide) rfl ?_
      refine k_goto (tgt := 30) C dX3_sumOverPairs_64 (by decide) ?_
      refine k_pc (pc2 := 30) rfl ?_
      refine k_sub [0, 2, 3, 1, 4] rfl ?_
      exact ih30 _ _ h
noncomputable def wp_X3_sumOverOutcomes (cn : Int32) (sLen : Nat → Int32) (dPol : Nat → Int32) (dPtr : Nat → Int32) (dCnt : Nat → Int32) (dIdl : Nat → Nat → Int32) (dKnw : Nat → Nat → Int32) (cnd : Nat → Int32) (num : Int32) (k : Int32 → Prop) : Prop := (vp_in num 4) ∧ (wp_X3_certainServer cn dPol dPtr dCnt dIdl dKnw cnd (num.toNatClampNeg) (fun r2 => (r2 = (-1) → (((dPol num.toNatClampNeg) = 2 → (wp_X3_sumOverPairs cn sLen cnd (fun r6 => k r6))) ∧ (¬ (dPol num.toNatClampNeg) = 2 → (wp_X3_sumOverCandidates cn sLen cnd (fun r5 => k r5))))) ∧ (¬ (r2 = (-1)) → ((vp_in r2 8) ∧ (k (sLen r2.toNatClampNeg))))))
set_option maxRecDepth 100000 in
set_option maxHeartbeats 4000000 in
theorem c_X3_sumOverOutcomes (l : Launch) {E : EV} {a : Nat} {P : PF} {A : Nat → Prop} (F : Foc E a P) (hA : ∀ q, inSt a q → A q) (now : Int32) (rnd : Int64) (jm : Int32) (rp : Int32) (sc : Int32) (dc : Int32) (cn : Int32) (sUp : Nat → Int32) (sLen : Nat → Int32) (sWrk : Nat → Int32) (sReg : Nat → Int32) (sFst : Nat → Int32) (sLst : Nat → Int32) (dPol : Nat → Int32) (dPtr : Nat → Int32) (dCnt : Nat → Int32) (dIdl : Nat → Nat → Int32) (dKnw : Nat → Nat → Int32) (jCnt : Int32) (jFin : Int32) (jBeg : Int32) (jWs : Int32) (jMis : Int32) (jSrv : Nat → Int32) (jLft : Nat → Int32) (jSub : Nat → Int32) (jWai : Nat → Int32) (jNxt : Nat → Int32) (cnd : Nat → Int32) (num : Int32)  (k : Int32 → Prop) (h : wp_X3_sumOverOutcomes cn sLen dPol dPtr dCnt dIdl dKnw cnd num k) : Met l yX3_sumOverOutcomes wsX3_sumOverOutcomes { frames := 2, cells := 0, slots := 0, locals := 45 } (va_Pc [.ref a, .int num] (fun U => P now rnd jm rp sc dc cn sUp sLen sWrk sReg sFst sLst dPol dPtr dCnt dIdl dKnw jCnt jFin jBeg jWs jMis jSrv jLft jSub jWai jNxt cnd U.heap ∧ XE E U)) (kQi (fun r H => k r ∧ P now rnd jm rp sc dc cn sUp sLen sWrk sReg sFst sLst dPol dPtr dCnt dIdl dKnw jCnt jFin jBeg jWs jMis jSrv jLft jSub jWai jNxt cnd H) A) 0 0 A := by
  refine k_body (cc := cX3_sumOverOutcomes) (own := RX3) (maxL := 4) (ret := (some .int)) (lv0 := [(0, .ref a), (1, .int num)]) (by decide) rfl rfl (Nat.le_of_ble_eq_true rfl) rfl (fun p e s m below meth c C hr hlk hP hE => ?_)
  have hi3 : ∀ w ∈ u_ws RX3 TX3 11, w ∈ wsX3_sumOverOutcomes := by decide +kernel
  have hi0 : ∀ w ∈ u_ws RX0 TX0 5, w ∈ wsX3_sumOverOutcomes := by decide +kernel
  have hi2 : ∀ w ∈ u_ws RX2 TX2 6, w ∈ wsX3_sumOverOutcomes := by decide +kernel
  have lk0 := C.2.2.2.2 (.fieldLink RX3 40 "IdleDispatcher$State" "dispatchers" "[LIdleDispatcher$Dispatcher;") (by decide +kernel)
  have lk1 := C.2.2.2.2 (.fieldLink RX3 76 "IdleDispatcher$Dispatcher" "policy" "I") (by decide +kernel)
  have lk2 := C.2.2.2.2 (.fieldLink RX3 33 "IdleDispatcher$State" "servers" "[LIdleDispatcher$Server;") (by decide +kernel)
  have lk3 := C.2.2.2.2 (.fieldLink RX3 86 "IdleDispatcher$Server" "length" "I") (by decide +kernel)
  refine k_aload_n C dX3_sumOverOutcomes_0 0 rfl ?_
  refine g_St_dispatchers C (foc_g F) hE.1 hi3 lk0 dX3_sumOverOutcomes_1 ?_
  refine k_iload_n C dX3_sumOverOutcomes_4 1 rfl ?_
  obtain ⟨q1, h⟩ := h
  refine g_DA C (foc_g F) hE.1 q1 dX3_sumOverOutcomes_5 ?_
  refine k_astore_n (lv' := [(2, .ref (a + (11 + 3 * num.toNatClampNeg))), (0, .ref a), (1, .int num)]) C dX3_sumOverOutcomes_6 rfl (by decide) rfl ?_
  refine k_aload_n C dX3_sumOverOutcomes_7 1 rfl ?_
  refine k_aload_n C dX3_sumOverOutcomes_8 0 rfl ?_
  refine k_callVi (st := []) C hE (c_X3_certainServer l F hA now rnd jm rp sc dc cn sUp sLen sWrk sReg sFst sLst dPol dPtr dCnt dIdl dKnw jCnt jFin jBeg jWs jMis jSrv jLft jSub jWai jNxt cnd (num.toNatClampNeg) (vp_lt q1) _ h) (cwV 1 C.2.2.2.2 gX3_sumOverOutcomes_X3_certainServer rfl rfl rfl (by decide +kernel) ⟨Nat.le_of_ble_eq_true rfl, Nat.le_of_ble_eq_true rfl⟩) (fun H hP => va_recv hE.1 (k_one (st_St ((foc_g F) H hP))) rfl (q0 := 0) rfl) rfl rfl (Nat.le_of_ble_eq_true rfl) dX3_sumOverOutcomes_9 ⟨Nat.zero_le _, Nat.zero_le _⟩ (fun r2 => ?_)
  refine k_and (fun h => ?_)
  refine k_istore_n (lv' := [(3, .int r2), (2, .ref (a + (11 + 3 * num.toNatClampNeg))), (0, .ref a), (1, .int num)]) C dX3_sumOverOutcomes_12 rfl (by decide) rfl ?_
  refine k_iload_n C dX3_sumOverOutcomes_13 0 rfl ?_
  refine k_iconst (v := (-1)) C dX3_sumOverOutcomes_14 (by decide) ?_
  refine k_icmp_eq (tgt := 28) C dX3_sumOverOutcomes_15 (by decide) (fun c3 => ?_) (fun c3 => ?_)
  · replace h := h.1 c3
    refine k_aload_n C dX3_sumOverOutcomes_28 1 rfl ?_
    refine g_dPol C (foc_g F) hE.1 hi0 (vp_lt q1) lk1 dX3_sumOverOutcomes_29 ?_
    refine k_iconst (v := 2) C dX3_sumOverOutcomes_32 (by decide) ?_
    refine k_icmp_ne (tgt := 43) C dX3_sumOverOutcomes_33 (by decide) (fun c4 => ?_) (fun c4 => ?_)
    · replace h := h.2 c4
      refine k_aload_n C dX3_sumOverOutcomes_43 2 rfl ?_
      refine k_callVi (st := []) C hE (c_X3_sumOverCandidates l F hA now rnd jm rp sc dc cn sUp sLen sWrk sReg sFst sLst dPol dPtr dCnt dIdl dKnw jCnt jFin jBeg jWs jMis jSrv jLft jSub jWai jNxt cnd   _ h) (cwV 0 C.2.2.2.2 gX3_sumOverOutcomes_X3_sumOverCandidates rfl rfl rfl (by decide +kernel) ⟨Nat.le_of_ble_eq_true rfl, Nat.le_of_ble_eq_true rfl⟩) (fun H hP => va_recv hE.1 (k_one (st_St ((foc_g F) H hP))) rfl (q0 := 0) rfl) rfl rfl (Nat.le_of_ble_eq_true rfl) dX3_sumOverOutcomes_44 ⟨Nat.zero_le _, Nat.zero_le _⟩ (fun r5 => ?_)
      refine k_and (fun h => ?_)
      exact k_iret C hr hlk dX3_sumOverOutcomes_47 (fun H hP => ⟨h, hP⟩)
    · replace h := h.1 c4
      refine k_aload_n C dX3_sumOverOutcomes_36 2 rfl ?_
      refine k_callVi (st := []) C hE (c_X3_sumOverPairs l F hA now rnd jm rp sc dc cn sUp sLen sWrk sReg sFst sLst dPol dPtr dCnt dIdl dKnw jCnt jFin jBeg jWs jMis jSrv jLft jSub jWai jNxt cnd   _ h) (cwV 0 C.2.2.2.2 gX3_sumOverOutcomes_X3_sumOverPairs rfl rfl rfl (by decide +kernel) ⟨Nat.le_of_ble_eq_true rfl, Nat.le_of_ble_eq_true rfl⟩) (fun H hP => va_recv hE.1 (k_one (st_St ((foc_g F) H hP))) rfl (q0 := 0) rfl) rfl rfl (Nat.le_of_ble_eq_true rfl) dX3_sumOverOutcomes_37 ⟨Nat.zero_le _, Nat.zero_le _⟩ (fun r6 => ?_)
      refine k_and (fun h => ?_)
      refine k_goto (tgt := 47) C dX3_sumOverOutcomes_40 (by decide) ?_
      exact k_iret C hr hlk dX3_sumOverOutcomes_47 (fun H hP => ⟨h, hP⟩)
  · replace h := h.2 c3
    refine k_aload_n C dX3_sumOverOutcomes_18 2 rfl ?_
    refine g_St_servers C (foc_g F) hE.1 hi3 lk2 dX3_sumOverOutcomes_19 ?_
    refine k_iload_n C dX3_sumOverOutcomes_22 0 rfl ?_
    obtain ⟨q7, h⟩ := h
    refine g_SA C (foc_g F) hE.1 q7 dX3_sumOverOutcomes_23 ?_
    refine g_sLen C (foc_g F) hE.1 hi2 (vp_lt q7) lk3 dX3_sumOverOutcomes_24 ?_
    exact k_iret C hr hlk dX3_sumOverOutcomes_27 (fun H hP => ⟨h, hP⟩)
noncomputable def wp_X3_countOutcomes (cn : Int32) (dPol : Nat → Int32) (dPtr : Nat → Int32) (dCnt : Nat → Int32) (dIdl : Nat → Nat → Int32) (dKnw : Nat → Nat → Int32) (cnd : Nat → Int32) (num : Int32) (k : Int32 → Prop) : Prop := (vp_in num 4) ∧ (wp_X3_certainServer cn dPol dPtr dCnt dIdl dKnw cnd (num.toNatClampNeg) (fun r2 => (r2 = (-1) → (((dPol num.toNatClampNeg) = 2 → (k (cn * cn))) ∧ (¬ (dPol num.toNatClampNeg) = 2 → (k cn)))) ∧ (¬ (r2 = (-1)) → (k 1))))
set_option maxRecDepth 100000 in
set_option maxHeartbeats 4000000 in
theorem c_X3_countOutcomes (l : Launch) {E : EV} {a : Nat} {P : PF} {A : Nat → Prop} (F : Foc E a P) (hA : ∀ q, inSt a q → A q) (now : Int32) (rnd : Int64) (jm : Int32) (rp : Int32) (sc : Int32) (dc : Int32) (cn : Int32) (sUp : Nat → Int32) (sLen : Nat → Int32) (sWrk : Nat → Int32) (sReg : Nat → Int32) (sFst : Nat → Int32) (sLst : Nat → Int32) (dPol : Nat → Int32) (dPtr : Nat → Int32) (dCnt : Nat → Int32) (dIdl : Nat → Nat → Int32) (dKnw : Nat → Nat → Int32) (jCnt : Int32) (jFin : Int32) (jBeg : Int32) (jWs : Int32) (jMis : Int32) (jSrv : Nat → Int32) (jLft : Nat → Int32) (jSub : Nat → Int32) (jWai : Nat → Int32) (jNxt : Nat → Int32) (cnd : Nat → Int32) (num : Int32)  (k : Int32 → Prop) (h : wp_X3_countOutcomes cn dPol dPtr dCnt dIdl dKnw cnd num k) : Met l yX3_countOutcomes wsX3_countOutcomes { frames := 2, cells := 0, slots := 0, locals := 44 } (va_Pc [.ref a, .int num] (fun U => P now rnd jm rp sc dc cn sUp sLen sWrk sReg sFst sLst dPol dPtr dCnt dIdl dKnw jCnt jFin jBeg jWs jMis jSrv jLft jSub jWai jNxt cnd U.heap ∧ XE E U)) (kQi (fun r H => k r ∧ P now rnd jm rp sc dc cn sUp sLen sWrk sReg sFst sLst dPol dPtr dCnt dIdl dKnw jCnt jFin jBeg jWs jMis jSrv jLft jSub jWai jNxt cnd H) A) 0 0 A := by
  refine k_body (cc := cX3_countOutcomes) (own := RX3) (maxL := 3) (ret := (some .int)) (lv0 := [(0, .ref a), (1, .int num)]) (by decide) rfl rfl (Nat.le_of_ble_eq_true rfl) rfl (fun p e s m below meth c C hr hlk hP hE => ?_)
  have hi3 : ∀ w ∈ u_ws RX3 TX3 11, w ∈ wsX3_countOutcomes := by decide +kernel
  have hi0 : ∀ w ∈ u_ws RX0 TX0 5, w ∈ wsX3_countOutcomes := by decide +kernel
  have lk0 := C.2.2.2.2 (.fieldLink RX3 40 "IdleDispatcher$State" "dispatchers" "[LIdleDispatcher$Dispatcher;") (by decide +kernel)
  have lk1 := C.2.2.2.2 (.fieldLink RX3 76 "IdleDispatcher$Dispatcher" "policy" "I") (by decide +kernel)
  have lk2 := C.2.2.2.2 (.fieldLink RX3 52 "IdleDispatcher$State" "candidateCount" "I") (by decide +kernel)
  refine k_aload_n C dX3_countOutcomes_0 0 rfl ?_
  refine g_St_dispatchers C (foc_g F) hE.1 hi3 lk0 dX3_countOutcomes_1 ?_
  refine k_iload_n C dX3_countOutcomes_4 1 rfl ?_
  obtain ⟨q1, h⟩ := h
  refine g_DA C (foc_g F) hE.1 q1 dX3_countOutcomes_5 ?_
  refine k_astore_n (lv' := [(2, .ref (a + (11 + 3 * num.toNatClampNeg))), (0, .ref a), (1, .int num)]) C dX3_countOutcomes_6 rfl (by decide) rfl ?_
  refine k_aload_n C dX3_countOutcomes_7 1 rfl ?_
  refine k_aload_n C dX3_countOutcomes_8 0 rfl ?_
  refine k_callVi (st := []) C hE (c_X3_certainServer l F hA now rnd jm rp sc dc cn sUp sLen sWrk sReg sFst sLst dPol dPtr dCnt dIdl dKnw jCnt jFin jBeg jWs jMis jSrv jLft jSub jWai jNxt cnd (num.toNatClampNeg) (vp_lt q1) _ h) (cwV 1 C.2.2.2.2 gX3_countOutcomes_X3_certainServer rfl rfl rfl (by decide +kernel) ⟨Nat.le_of_ble_eq_true rfl, Nat.le_of_ble_eq_true rfl⟩) (fun H hP => va_recv hE.1 (k_one (st_St ((foc_g F) H hP))) rfl (q0 := 0) rfl) rfl rfl (Nat.le_of_ble_eq_true rfl) dX3_countOutcomes_9 ⟨Nat.zero_le _, Nat.zero_le _⟩ (fun r2 => ?_)
  refine k_and (fun h => ?_)
  refine k_iconst (v := (-1)) C dX3_countOutcomes_12 (by decide) ?_
  refine k_icmp_eq (tgt := 18) C dX3_countOutcomes_13 (by decide) (fun c3 => ?_) (fun c3 => ?_)
  · replace h := h.1 c3
    refine k_aload_n C dX3_countOutcomes_18 0 rfl ?_
    refine g_dPol C (foc_g F) hE.1 hi0 (vp_lt q1) lk1 dX3_countOutcomes_19 ?_
    refine k_iconst (v := 2) C dX3_countOutcomes_22 (by decide) ?_
    refine k_icmp_ne (tgt := 38) C dX3_countOutcomes_23 (by decide) (fun c4 => ?_) (fun c4 => ?_)
    · replace h := h.2 c4
      refine k_aload_n C dX3_countOutcomes_38 1 rfl ?_
      refine g_cn C (foc_g F) hE.1 hi3 lk2 dX3_countOutcomes_39 ?_
      exact k_iret C hr hlk dX3_countOutcomes_42 (fun H hP => ⟨h, hP⟩)
    · replace h := h.1 c4
      refine k_aload_n C dX3_countOutcomes_26 1 rfl ?_
      refine g_cn C (foc_g F) hE.1 hi3 lk2 dX3_countOutcomes_27 ?_
      refine k_aload_n C dX3_countOutcomes_30 1 rfl ?_
      refine g_cn C (foc_g F) hE.1 hi3 lk2 dX3_countOutcomes_31 ?_
      refine k_imul C dX3_countOutcomes_34 ?_
      refine k_goto (tgt := 42) C dX3_countOutcomes_35 (by decide) ?_
      exact k_iret C hr hlk dX3_countOutcomes_42 (fun H hP => ⟨h, hP⟩)
  · replace h := h.2 c3
    refine k_iconst (v := 1) C dX3_countOutcomes_16 (by decide) ?_
    exact k_iret C hr hlk dX3_countOutcomes_17 (fun H hP => ⟨h, hP⟩)
noncomputable def wp_X3_anyIdle_L2 (sc : Int32) (k : Int32 → Prop) (sUp : Nat → Int32) (sLen : Nat → Int32) (fu : Nat) : Int32 → Prop := Nat.rec (motive := fun _ => Int32 → Prop) (fun _ => False) (fun _ rec2 x1 => (sc ≤ x1 → (k 0)) ∧ (¬ (sc ≤ x1) → ((vp_in x1 8) ∧ (wp_X2_isIdle sUp sLen (x1.toNatClampNeg) (fun r4 => (r4 = 0 → (∀ x6 : Int32, x6 = x1 + 1 → (rec2 x6))) ∧ (¬ (r4 = 0) → (k 1))))))) fu
noncomputable def wp_X3_anyIdle (sc : Int32) (sUp : Nat → Int32) (sLen : Nat → Int32) (k : Int32 → Prop) : Prop := ∃ fu, wp_X3_anyIdle_L2 sc k sUp sLen fu 0
set_option maxRecDepth 100000 in
set_option maxHeartbeats 4000000 in
theorem c_X3_anyIdle (l : Launch) {E : EV} {a : Nat} {P : PF} {A : Nat → Prop} (F : Foc E a P) (hA : ∀ q, inSt a q → A q) (now : Int32) (rnd : Int64) (jm : Int32) (rp : Int32) (sc : Int32) (dc : Int32) (cn : Int32) (sUp : Nat → Int32) (sLen : Nat → Int32) (sWrk : Nat → Int32) (sReg : Nat → Int32) (sFst : Nat → Int32) (sLst : Nat → Int32) (dPol : Nat → Int32) (dPtr : Nat → Int32) (dCnt : Nat → Int32) (dIdl : Nat → Nat → Int32) (dKnw : Nat → Nat → Int32) (jCnt : Int32) (jFin : Int32) (jBeg : Int32) (jWs : Int32) (jMis : Int32) (jSrv : Nat → Int32) (jLft : Nat → Int32) (jSub : Nat → Int32) (jWai : Nat → Int32) (jNxt : Nat → Int32) (cnd : Nat → Int32)   (k : Int32 → Prop) (h : wp_X3_anyIdle sc sUp sLen  k) : Met l yX3_anyIdle wsX3_anyIdle { frames := 1, cells := 0, slots := 0, locals := 20 } (va_Pc [.ref a] (fun U => P now rnd jm rp sc dc cn sUp sLen sWrk sReg sFst sLst dPol dPtr dCnt dIdl dKnw jCnt jFin jBeg jWs jMis jSrv jLft jSub jWai jNxt cnd U.heap ∧ XE E U)) (kQi (fun r H => k r ∧ P now rnd jm rp sc dc cn sUp sLen sWrk sReg sFst sLst dPol dPtr dCnt dIdl dKnw jCnt jFin jBeg jWs jMis jSrv jLft jSub jWai jNxt cnd H) A) 0 0 A := by
  refine k_body (cc := cX3_anyIdle) (own := RX3) (maxL := 2) (ret := (some .boolean)) (lv0 := [(0, .ref a)]) (by decide) rfl rfl (Nat.le_of_ble_eq_true rfl) rfl (fun p e s m below meth c C hr hlk hP hE => ?_)
  have hi3 : ∀ w ∈ u_ws RX3 TX3 11, w ∈ wsX3_anyIdle := by decide +kernel
  have lk0 := C.2.2.2.2 (.fieldLink RX3 25 "IdleDispatcher$State" "serverCount" "I") (by decide +kernel)
  have lk1 := C.2.2.2.2 (.fieldLink RX3 33 "IdleDispatcher$State" "servers" "[LIdleDispatcher$Server;") (by decide +kernel)
  refine k_iconst (v := 0) C dX3_anyIdle_0 (by decide) ?_
  refine k_istore_n (lv' := [(1, .int 0), (0, .ref a)]) C dX3_anyIdle_1 rfl (by decide) rfl ?_
  obtain ⟨n2, h⟩ := h
  refine k_pc (pc2 := 2) rfl ?_
  refine k_loop1 (wp_X3_anyIdle_L2 sc k sUp sLen) (fun x1 => P now rnd jm rp sc dc cn sUp sLen sWrk sReg sFst sLst dPol dPtr dCnt dIdl dKnw jCnt jFin jBeg jWs jMis jSrv jLft jSub jWai jNxt cnd) (fun x1 => [(1, .int x1), (0, .ref a)]) (fun _ h => h) (fun n2 ih2 x1 h => ?_) n2 _ h
  refine k_iload_n C dX3_anyIdle_2 0 rfl ?_
  refine k_aload_n C dX3_anyIdle_3 1 rfl ?_
  refine g_sc C (foc_g F) hE.1 hi3 lk0 dX3_anyIdle_4 ?_
  refine k_icmp_ge (tgt := 30) C dX3_anyIdle_7 (by decide) (fun c2 => ?_) (fun c2 => ?_)
  · replace h := h.1 c2
    refine k_iconst (v := 0) C dX3_anyIdle_30 (by decide) ?_
    exact k_zret C hr hlk rfl dX3_anyIdle_31 (fun H hP => ⟨h, hP⟩)
  · replace h := h.2 c2
    refine k_aload_n C dX3_anyIdle_10 1 rfl ?_
    refine g_St_servers C (foc_g F) hE.1 hi3 lk1 dX3_anyIdle_11 ?_
    refine k_iload_n C dX3_anyIdle_14 0 rfl ?_
    obtain ⟨q3, h⟩ := h
    refine g_SA C (foc_g F) hE.1 q3 dX3_anyIdle_15 ?_
    refine k_callVi (st := []) C hE (c_X2_isIdle l F hA now rnd jm rp sc dc cn sUp sLen sWrk sReg sFst sLst dPol dPtr dCnt dIdl dKnw jCnt jFin jBeg jWs jMis jSrv jLft jSub jWai jNxt cnd (x1.toNatClampNeg) (vp_lt q3) _ h) (cwV 0 C.2.2.2.2 gX3_anyIdle_X2_isIdle rfl rfl rfl (by decide +kernel) ⟨Nat.le_of_ble_eq_true rfl, Nat.le_of_ble_eq_true rfl⟩) (fun H hP => va_recv hE.1 (k_one (st_Sv (vp_lt q3) ((foc_g F) H hP))) rfl (q0 := 0) rfl) rfl rfl (Nat.le_of_ble_eq_true rfl) dX3_anyIdle_16 ⟨Nat.zero_le _, Nat.zero_le _⟩ (fun r4 => ?_)
    refine k_and (fun h => ?_)
    refine k_if_eq (tgt := 24) C dX3_anyIdle_19 (by decide) (fun c5 => ?_) (fun c5 => ?_)
    · replace h := h.1 c5
      obtain ⟨x6, ex6⟩ : ∃ z : Int32, z = x1 + 1 := ⟨_, rfl⟩
      replace h := h x6 ex6
      refine k_iinc (v := x6) (lv' := [(1, .int x6), (0, .ref a)]) (j := 0) C dX3_anyIdle_24 rfl (by rw [ex6]; rfl) (by decide) rfl ?_
      refine k_goto (tgt := 2) C dX3_anyIdle_27 (by decide) ?_
      refine k_pc (pc2 := 2) rfl ?_
      refine k_sub [0, 1] rfl ?_
      exact ih2 _ h
    · replace h := h.2 c5
      refine k_iconst (v := 1) C dX3_anyIdle_22 (by decide) ?_
      exact k_zret C hr hlk rfl dX3_anyIdle_23 (fun H hP => ⟨h, hP⟩)
noncomputable def wp_X3_enqueue (now : Int32) (sLen : Nat → Int32) (sWrk : Nat → Int32) (sFst : Nat → Int32) (sLst : Nat → Int32) (jCnt : Int32) (jBeg : Int32) (jWs : Int32) (jSrv : Nat → Int32) (jLft : Nat → Int32) (jSub : Nat → Int32) (jWai : Nat → Int32) (jNxt : Nat → Int32) (num : Int32) (size : Int32) (k : (Nat → Int32) → (Nat → Int32) → (Nat → Int32) → (Nat → Int32) → Int32 → Int32 → Int32 → (Nat → Int32) → (Nat → Int32) → (Nat → Int32) → (Nat → Int32) → (Nat → Int32) → Prop) : Prop := wp_X1_append jCnt jSrv jLft jSub jWai jNxt num size now (fun r1 jCnt_2 jSrv_3 jLft_4 jSub_5 jWai_6 jNxt_7 => (r1 = (-1) → (k sLen sWrk sFst sLst jCnt_2 jBeg jWs jSrv_3 jLft_4 jSub_5 jWai_6 jNxt_7)) ∧ (¬ r1 = (-1) → ((vp_in num 8) ∧ (((sLst num.toNatClampNeg) = (-1) → (∀ sFst_18 : Nat → Int32, sFst_18 = upd sFst (num.toNatClampNeg) r1 → (wp_X1_begin jBeg jWs jSub_5 jWai_6 r1 now (fun jBeg_19 jWs_20 jWai_21 => ∀ sLst_22 : Nat → Int32, sLst_22 = upd sLst (num.toNatClampNeg) r1 → (∀ x23 : Int32, x23 = ((sLen num.toNatClampNeg) + 1) → (∀ sLen_24 : Nat → Int32, sLen_24 = upd sLen (num.toNatClampNeg) x23 → (∀ x25 : Int32, x25 = ((sWrk num.toNatClampNeg) + size) → (∀ sWrk_26 : Nat → Int32, sWrk_26 = upd sWrk (num.toNatClampNeg) x25 → (k sLen_24 sWrk_26 sFst_18 sLst_22 jCnt_2 jBeg_19 jWs_20 jSrv_3 jLft_4 jSub_5 jWai_21 jNxt_7))))))))) ∧ (¬ (sLst num.toNatClampNeg) = (-1) → ((vp_in (sLst num.toNatClampNeg) 200) ∧ (∀ jNxt_12 : Nat → Int32, jNxt_12 = upd jNxt_7 (sLst num.toNatClampNeg).toNatClampNeg r1 → (∀ sLst_13 : Nat → Int32, sLst_13 = upd sLst (num.toNatClampNeg) r1 → (∀ x14 : Int32, x14 = ((sLen num.toNatClampNeg) + 1) → (∀ sLen_15 : Nat → Int32, sLen_15 = upd sLen (num.toNatClampNeg) x14 → (∀ x16 : Int32, x16 = ((sWrk num.toNatClampNeg) + size) → (∀ sWrk_17 : Nat → Int32, sWrk_17 = upd sWrk (num.toNatClampNeg) x16 → (k sLen_15 sWrk_17 sFst sLst_13 jCnt_2 jBeg jWs jSrv_3 jLft_4 jSub_5 jWai_6 jNxt_12)))))))))))))
set_option maxRecDepth 100000 in
set_option maxHeartbeats 4000000 in
theorem c_X3_enqueue (l : Launch) {E : EV} {a : Nat} {P : PF} {A : Nat → Prop} (F : Foc E a P) (hA : ∀ q, inSt a q → A q) (now : Int32) (rnd : Int64) (jm : Int32) (rp : Int32) (sc : Int32) (dc : Int32) (cn : Int32) (sUp : Nat → Int32) (sLen : Nat → Int32) (sWrk : Nat → Int32) (sReg : Nat → Int32) (sFst : Nat → Int32) (sLst : Nat → Int32) (dPol : Nat → Int32) (dPtr : Nat → Int32) (dCnt : Nat → Int32) (dIdl : Nat → Nat → Int32) (dKnw : Nat → Nat → Int32) (jCnt : Int32) (jFin : Int32) (jBeg : Int32) (jWs : Int32) (jMis : Int32) (jSrv : Nat → Int32) (jLft : Nat → Int32) (jSub : Nat → Int32) (jWai : Nat → Int32) (jNxt : Nat → Int32) (cnd : Nat → Int32) (num : Int32) (size : Int32)  (k : (Nat → Int32) → (Nat → Int32) → (Nat → Int32) → (Nat → Int32) → Int32 → Int32 → Int32 → (Nat → Int32) → (Nat → Int32) → (Nat → Int32) → (Nat → Int32) → (Nat → Int32) → Prop) (h : wp_X3_enqueue now sLen sWrk sFst sLst jCnt jBeg jWs jSrv jLft jSub jWai jNxt num size k) : Met l yX3_enqueue wsX3_enqueue { frames := 1, cells := 0, slots := 0, locals := 24 } (va_Pc [.ref a, .int num, .int size] (fun U => P now rnd jm rp sc dc cn sUp sLen sWrk sReg sFst sLst dPol dPtr dCnt dIdl dKnw jCnt jFin jBeg jWs jMis jSrv jLft jSub jWai jNxt cnd U.heap ∧ XE E U)) (kQv (fun H => ∃ sLen9 : Nat → Int32, ∃ sWrk9 : Nat → Int32, ∃ sFst9 : Nat → Int32, ∃ sLst9 : Nat → Int32, ∃ jCnt9 : Int32, ∃ jBeg9 : Int32, ∃ jWs9 : Int32, ∃ jSrv9 : Nat → Int32, ∃ jLft9 : Nat → Int32, ∃ jSub9 : Nat → Int32, ∃ jWai9 : Nat → Int32, ∃ jNxt9 : Nat → Int32, k sLen9 sWrk9 sFst9 sLst9 jCnt9 jBeg9 jWs9 jSrv9 jLft9 jSub9 jWai9 jNxt9 ∧ P now rnd jm rp sc dc cn sUp sLen9 sWrk9 sReg sFst9 sLst9 dPol dPtr dCnt dIdl dKnw jCnt9 jFin jBeg9 jWs9 jMis jSrv9 jLft9 jSub9 jWai9 jNxt9 cnd H) A) 0 0 A := by
  refine k_body (cc := cX3_enqueue) (own := RX3) (maxL := 5) (ret := none) (lv0 := [(0, .ref a), (1, .int num), (2, .int size)]) (by decide) rfl rfl (Nat.le_of_ble_eq_true rfl) rfl (fun p e s m below meth c C hr hlk hP hE => ?_)
  have hi3 : ∀ w ∈ u_ws RX3 TX3 11, w ∈ wsX3_enqueue := by decide +kernel
  have hi2 : ∀ w ∈ u_ws RX2 TX2 6, w ∈ wsX3_enqueue := by decide +kernel
  have hi1 : ∀ w ∈ u_ws RX1 TX1 10, w ∈ wsX3_enqueue := by decide +kernel
  have lk0 := C.2.2.2.2 (.fieldLink RX3 48 "IdleDispatcher$State" "jobs" "LIdleDispatcher$Jobs;") (by decide +kernel)
  have lk1 := C.2.2.2.2 (.fieldLink RX3 9 "IdleDispatcher$State" "now" "I") (by decide +kernel)
  have lk2 := C.2.2.2.2 (.fieldLink RX3 33 "IdleDispatcher$State" "servers" "[LIdleDispatcher$Server;") (by decide +kernel)
  have lk3 := C.2.2.2.2 (.fieldLink RX3 173 "IdleDispatcher$Server" "lastJob" "I") (by decide +kernel)
  have lk4 := C.2.2.2.2 (.fieldLink RX3 182 "IdleDispatcher$Jobs" "next" "[I") (by decide +kernel)
  have lk5 := C.2.2.2.2 (.fieldLink RX3 86 "IdleDispatcher$Server" "length" "I") (by decide +kernel)
  have lk6 := C.2.2.2.2 (.fieldLink RX3 185 "IdleDispatcher$Server" "work" "I") (by decide +kernel)
  have lk7 := C.2.2.2.2 (.fieldLink RX3 176 "IdleDispatcher$Server" "firstJob" "I") (by decide +kernel)
  refine k_aload_n C dX3_enqueue_0 0 rfl ?_
  refine g_St_jobs C (foc_g F) hE.1 hi3 lk0 dX3_enqueue_1 ?_
  refine k_iload_n C dX3_enqueue_4 1 rfl ?_
  refine k_iload_n C dX3_enqueue_5 2 rfl ?_
  refine k_aload_n C dX3_enqueue_6 0 rfl ?_
  refine g_now C (foc_g F) hE.1 hi3 lk1 dX3_enqueue_7 ?_
  refine k_callVi (st := []) C hE (c_X1_append l F hA now rnd jm rp sc dc cn sUp sLen sWrk sReg sFst sLst dPol dPtr dCnt dIdl dKnw jCnt jFin jBeg jWs jMis jSrv jLft jSub jWai jNxt cnd num size now  _ h) (cwV 3 C.2.2.2.2 gX3_enqueue_X1_append rfl rfl rfl (by decide +kernel) ⟨Nat.le_of_ble_eq_true rfl, Nat.le_of_ble_eq_true rfl⟩) (fun H hP => va_recv hE.1 (k_one (st_Jo ((foc_g F) H hP))) rfl (q0 := 0) rfl) rfl rfl (Nat.le_of_ble_eq_true rfl) dX3_enqueue_10 ⟨Nat.zero_le _, Nat.zero_le _⟩ (fun r1 => ?_)
  refine k_ex (fun jCnt_2 => k_ex (fun jSrv_3 => k_ex (fun jLft_4 => k_ex (fun jSub_5 => k_ex (fun jWai_6 => k_ex (fun jNxt_7 => k_and (fun h => ?_)))))))
  refine k_istore_n (lv' := [(3, .int r1), (0, .ref a), (1, .int num), (2, .int size)]) C dX3_enqueue_13 rfl (by decide) rfl ?_
  refine k_iload_n C dX3_enqueue_14 0 rfl ?_
  refine k_iconst (v := (-1)) C dX3_enqueue_15 (by decide) ?_
  refine k_icmp_ne (tgt := 20) C dX3_enqueue_16 (by decide) (fun c8 => ?_) (fun c8 => ?_)
  · replace h := h.2 c8
    refine k_aload_n C dX3_enqueue_20 1 rfl ?_
    refine g_St_servers C (foc_g F) hE.1 hi3 lk2 dX3_enqueue_21 ?_
    refine k_iload_n C dX3_enqueue_24 2 rfl ?_
    obtain ⟨q9, h⟩ := h
    refine g_SA C (foc_g F) hE.1 q9 dX3_enqueue_25 ?_
    refine k_astore (lv' := [(4, .ref (a + (2 + num.toNatClampNeg))), (3, .int r1), (0, .ref a), (1, .int num), (2, .int size)]) C dX3_enqueue_26 (by decide) rfl ?_
    refine k_aload C dX3_enqueue_28 0 rfl ?_
    refine g_sLst C (foc_g F) hE.1 hi2 (vp_lt q9) lk3 dX3_enqueue_30 ?_
    refine k_iconst (v := (-1)) C dX3_enqueue_33 (by decide) ?_
    refine k_icmp_ne (tgt := 58) C dX3_enqueue_34 (by decide) (fun c10 => ?_) (fun c10 => ?_)
    · replace h := h.2 c10
      refine k_aload_n C dX3_enqueue_58 2 rfl ?_
      refine g_St_jobs C (foc_g F) hE.1 hi3 lk0 dX3_enqueue_59 ?_
      refine g_Jo_next C (foc_g F) hE.1 hi1 lk4 dX3_enqueue_62 ?_
      refine k_aload C dX3_enqueue_65 0 rfl ?_
      refine g_sLst C (foc_g F) hE.1 hi2 (vp_lt q9) lk3 dX3_enqueue_67 ?_
      refine k_iload_n C dX3_enqueue_70 1 rfl ?_
      obtain ⟨q11, h⟩ := h
      obtain ⟨jNxt_12, ejNxt_12⟩ : ∃ z : Nat → Int32, z = upd jNxt_7 (sLst num.toNatClampNeg).toNatClampNeg r1 := ⟨_, rfl⟩
      replace h := h jNxt_12 ejNxt_12
      refine p_jNxt C F hA hE.1 q11 ejNxt_12 dX3_enqueue_71 ?_
      refine k_aload C dX3_enqueue_72 0 rfl ?_
      refine k_iload_n C dX3_enqueue_74 1 rfl ?_
      obtain ⟨sLst_13, esLst_13⟩ : ∃ z : Nat → Int32, z = upd sLst (num.toNatClampNeg) r1 := ⟨_, rfl⟩
      replace h := h sLst_13 esLst_13
      refine p_sLst C F hA hE.1 hi2 (vp_lt q9) esLst_13 lk3 dX3_enqueue_75 ?_
      refine k_aload C dX3_enqueue_78 0 rfl ?_
      refine k_dup C dX3_enqueue_80 rfl ?_
      refine g_sLen C (foc_g F) hE.1 hi2 (vp_lt q9) lk5 dX3_enqueue_81 ?_
      refine k_iconst (v := 1) C dX3_enqueue_84 (by decide) ?_
      refine k_iadd C dX3_enqueue_85 ?_
      refine k_topi (fun x14 ex14 => ?_)
      replace h := h x14 ex14
      obtain ⟨sLen_15, esLen_15⟩ : ∃ z : Nat → Int32, z = upd sLen (num.toNatClampNeg) x14 := ⟨_, rfl⟩
      replace h := h sLen_15 esLen_15
      refine p_sLen C F hA hE.1 hi2 (vp_lt q9) esLen_15 lk5 dX3_enqueue_86 ?_
      refine k_aload C dX3_enqueue_89 0 rfl ?_
      refine k_dup C dX3_enqueue_91 rfl ?_
      refine g_sWrk C (foc_g F) hE.1 hi2 (vp_lt q9) lk6 dX3_enqueue_92 ?_
      refine k_iload_n C dX3_enqueue_95 4 rfl ?_
      refine k_iadd C dX3_enqueue_96 ?_
      refine k_topi (fun x16 ex16 => ?_)
      replace h := h x16 ex16
      obtain ⟨sWrk_17, esWrk_17⟩ : ∃ z : Nat → Int32, z = upd sWrk (num.toNatClampNeg) x16 := ⟨_, rfl⟩
      replace h := h sWrk_17 esWrk_17
      refine p_sWrk C F hA hE.1 hi2 (vp_lt q9) esWrk_17 lk6 dX3_enqueue_97 ?_
      exact k_vret C hr hlk dX3_enqueue_100 (fun H hP => ⟨sLen_15, sWrk_17, sFst, sLst_13, jCnt_2, jBeg, jWs, jSrv_3, jLft_4, jSub_5, jWai_6, jNxt_12, h, hP⟩)
    · replace h := h.1 c10
      refine k_aload C dX3_enqueue_37 0 rfl ?_
      refine k_iload_n C dX3_enqueue_39 1 rfl ?_
      obtain ⟨sFst_18, esFst_18⟩ : ∃ z : Nat → Int32, z = upd sFst (num.toNatClampNeg) r1 := ⟨_, rfl⟩
      replace h := h sFst_18 esFst_18
      refine p_sFst C F hA hE.1 hi2 (vp_lt q9) esFst_18 lk7 dX3_enqueue_40 ?_
      refine k_aload_n C dX3_enqueue_43 2 rfl ?_
      refine g_St_jobs C (foc_g F) hE.1 hi3 lk0 dX3_enqueue_44 ?_
      refine k_iload_n C dX3_enqueue_47 1 rfl ?_
      refine k_aload_n C dX3_enqueue_48 2 rfl ?_
      refine g_now C (foc_g F) hE.1 hi3 lk1 dX3_enqueue_49 ?_
      refine k_callVv (st := []) C hE (c_X1_begin l F hA now rnd jm rp sc dc cn sUp sLen sWrk sReg sFst_18 sLst dPol dPtr dCnt dIdl dKnw jCnt_2 jFin jBeg jWs jMis jSrv_3 jLft_4 jSub_5 jWai_6 jNxt_7 cnd r1 now  _ h) (cwV 2 C.2.2.2.2 gX3_enqueue_X1_begin rfl rfl rfl (by decide +kernel) ⟨Nat.le_of_ble_eq_true rfl, Nat.le_of_ble_eq_true rfl⟩) (fun H hP => va_recv hE.1 (k_one (st_Jo ((foc_g F) H hP))) rfl (q0 := 0) rfl) rfl rfl (Nat.le_of_ble_eq_true rfl) dX3_enqueue_52 ⟨Nat.zero_le _, Nat.zero_le _⟩ (fun _ => ?_)
      refine k_ex (fun jBeg_19 => k_ex (fun jWs_20 => k_ex (fun jWai_21 => k_and (fun h => ?_))))
      refine k_goto (tgt := 72) C dX3_enqueue_55 (by decide) ?_
      refine k_aload C dX3_enqueue_72 0 rfl ?_
      refine k_iload_n C dX3_enqueue_74 1 rfl ?_
      obtain ⟨sLst_22, esLst_22⟩ : ∃ z : Nat → Int32, z = upd sLst (num.toNatClampNeg) r1 := ⟨_, rfl⟩
      replace h := h sLst_22 esLst_22
      refine p_sLst C F hA hE.1 hi2 (vp_lt q9) esLst_22 lk3 dX3_enqueue_75 ?_
      refine k_aload C dX3_enqueue_78 0 rfl ?_
      refine k_dup C dX3_enqueue_80 rfl ?_
      refine g_sLen C (foc_g F) hE.1 hi2 (vp_lt q9) lk5 dX3_enqueue_81 ?_
      refine k_iconst (v := 1) C dX3_enqueue_84 (by decide) ?_
      refine k_iadd C dX3_enqueue_85 ?_
      refine k_topi (fun x23 ex23 => ?_)
      replace h := h x23 ex23
      obtain ⟨sLen_24, esLen_24⟩ : ∃ z : Nat → Int32, z = upd sLen (num.toNatClampNeg) x23 := ⟨_, rfl⟩
      replace h := h sLen_24 esLen_24
      refine p_sLen C F hA hE.1 hi2 (vp_lt q9) esLen_24 lk5 dX3_enqueue_86 ?_
      refine k_aload C dX3_enqueue_89 0 rfl ?_
      refine k_dup C dX3_enqueue_91 rfl ?_
      refine g_sWrk C (foc_g F) hE.1 hi2 (vp_lt q9) lk6 dX3_enqueue_92 ?_
      refine k_iload_n C dX3_enqueue_95 4 rfl ?_
      refine k_iadd C dX3_enqueue_96 ?_
      refine k_topi (fun x25 ex25 => ?_)
      replace h := h x25 ex25
      obtain ⟨sWrk_26, esWrk_26⟩ : ∃ z : Nat → Int32, z = upd sWrk (num.toNatClampNeg) x25 := ⟨_, rfl⟩
      replace h := h sWrk_26 esWrk_26
      refine p_sWrk C F hA hE.1 hi2 (vp_lt q9) esWrk_26 lk6 dX3_enqueue_97 ?_
      exact k_vret C hr hlk dX3_enqueue_100 (fun H hP => ⟨sLen_24, sWrk_26, sFst_18, sLst_22, jCnt_2, jBeg_19, jWs_20, jSrv_3, jLft_4, jSub_5, jWai_21, jNxt_7, h, hP⟩)
  · replace h := h.1 c8
    exact k_vret C hr hlk dX3_enqueue_19 (fun H hP => ⟨sLen, sWrk, sFst, sLst, jCnt_2, jBeg, jWs, jSrv_3, jLft_4, jSub_5, jWai_6, jNxt_7, h, hP⟩)
noncomputable def wp_X3_dispatch (now : Int32) (rnd : Int64) (sc : Int32) (cn : Int32) (sUp : Nat → Int32) (sLen : Nat → Int32) (sWrk : Nat → Int32) (sReg : Nat → Int32) (sFst : Nat → Int32) (sLst : Nat → Int32) (dPol : Nat → Int32) (dPtr : Nat → Int32) (dCnt : Nat → Int32) (dIdl : Nat → Nat → Int32) (dKnw : Nat → Nat → Int32) (jCnt : Int32) (jBeg : Int32) (jWs : Int32) (jMis : Int32) (jSrv : Nat → Int32) (jLft : Nat → Int32) (jSub : Nat → Int32) (jWai : Nat → Int32) (jNxt : Nat → Int32) (cnd : Nat → Int32) (num : Int32) (size : Int32) (k : Int32 → Int64 → (Nat → Int32) → (Nat → Int32) → (Nat → Int32) → (Nat → Int32) → (Nat → Int32) → (Nat → Int32) → (Nat → Int32) → (Nat → Nat → Int32) → (Nat → Nat → Int32) → Int32 → Int32 → Int32 → Int32 → (Nat → Int32) → (Nat → Int32) → (Nat → Int32) → (Nat → Int32) → (Nat → Int32) → Prop) : Prop := (vp_in num 4) ∧ (wp_X3_takeServer rnd cn sLen dPol dPtr dCnt dIdl dKnw cnd (num.toNatClampNeg) (fun r2 rnd_3 dPtr_4 dKnw_5 => (vp_in r2 8) ∧ (((sLen r2.toNatClampNeg) ≤ 0 → (wp_X3_leaveIdleList sReg dCnt dIdl r2 (fun sReg_8 dCnt_9 dIdl_10 => wp_X3_enqueue now sLen sWrk sFst sLst jCnt jBeg jWs jSrv jLft jSub jWai jNxt r2 size (fun sLen_11 sWrk_12 sFst_13 sLst_14 jCnt_15 jBeg_16 jWs_17 jSrv_18 jLft_19 jSub_20 jWai_21 jNxt_22 => k r2 rnd_3 sLen_11 sWrk_12 sReg_8 sFst_13 sLst_14 dPtr_4 dCnt_9 dIdl_10 dKnw_5 jCnt_15 jBeg_16 jWs_17 jMis jSrv_18 jLft_19 jSub_20 jWai_21 jNxt_22)))) ∧ (¬ ((sLen r2.toNatClampNeg) ≤ 0) → (wp_X3_anyIdle sc sUp sLen (fun r23 => (r23 = 0 → (wp_X3_leaveIdleList sReg dCnt dIdl r2 (fun sReg_25 dCnt_26 dIdl_27 => wp_X3_enqueue now sLen sWrk sFst sLst jCnt jBeg jWs jSrv jLft jSub jWai jNxt r2 size (fun sLen_28 sWrk_29 sFst_30 sLst_31 jCnt_32 jBeg_33 jWs_34 jSrv_35 jLft_36 jSub_37 jWai_38 jNxt_39 => k r2 rnd_3 sLen_28 sWrk_29 sReg_25 sFst_30 sLst_31 dPtr_4 dCnt_26 dIdl_27 dKnw_5 jCnt_32 jBeg_33 jWs_34 jMis jSrv_35 jLft_36 jSub_37 jWai_38 jNxt_39)))) ∧ (¬ (r23 = 0) → (∀ x40 : Int32, x40 = (jMis + 1) → (wp_X3_leaveIdleList sReg dCnt dIdl r2 (fun sReg_41 dCnt_42 dIdl_43 => wp_X3_enqueue now sLen sWrk sFst sLst jCnt jBeg jWs jSrv jLft jSub jWai jNxt r2 size (fun sLen_44 sWrk_45 sFst_46 sLst_47 jCnt_48 jBeg_49 jWs_50 jSrv_51 jLft_52 jSub_53 jWai_54 jNxt_55 => k r2 rnd_3 sLen_44 sWrk_45 sReg_41 sFst_46 sLst_47 dPtr_4 dCnt_42 dIdl_43 dKnw_5 jCnt_48 jBeg_49 jWs_50 x40 jSrv_51 jLft_52 jSub_53 jWai_54 jNxt_55)))))))))))
set_option maxRecDepth 100000 in
set_option maxHeartbeats 4000000 in
theorem c_X3_dispatch (l : Launch) {E : EV} {a : Nat} {P : PF} {A : Nat → Prop} (F : Foc E a P) (hA : ∀ q, inSt a q → A q) (now : Int32) (rnd : Int64) (jm : Int32) (rp : Int32) (sc : Int32) (dc : Int32) (cn : Int32) (sUp : Nat → Int32) (sLen : Nat → Int32) (sWrk : Nat → Int32) (sReg : Nat → Int32) (sFst : Nat → Int32) (sLst : Nat → Int32) (dPol : Nat → Int32) (dPtr : Nat → Int32) (dCnt : Nat → Int32) (dIdl : Nat → Nat → Int32) (dKnw : Nat → Nat → Int32) (jCnt : Int32) (jFin : Int32) (jBeg : Int32) (jWs : Int32) (jMis : Int32) (jSrv : Nat → Int32) (jLft : Nat → Int32) (jSub : Nat → Int32) (jWai : Nat → Int32) (jNxt : Nat → Int32) (cnd : Nat → Int32) (num : Int32) (size : Int32)  (k : Int32 → Int64 → (Nat → Int32) → (Nat → Int32) → (Nat → Int32) → (Nat → Int32) → (Nat → Int32) → (Nat → Int32) → (Nat → Int32) → (Nat → Nat → Int32) → (Nat → Nat → Int32) → Int32 → Int32 → Int32 → Int32 → (Nat → Int32) → (Nat → Int32) → (Nat → Int32) → (Nat → Int32) → (Nat → Int32) → Prop) (h : wp_X3_dispatch now rnd sc cn sUp sLen sWrk sReg sFst sLst dPol dPtr dCnt dIdl dKnw jCnt jBeg jWs jMis jSrv jLft jSub jWai jNxt cnd num size k) : Met l yX3_dispatch wsX3_dispatch { frames := 3, cells := 0, slots := 0, locals := 67 } (va_Pc [.ref a, .int num, .int size] (fun U => P now rnd jm rp sc dc cn sUp sLen sWrk sReg sFst sLst dPol dPtr dCnt dIdl dKnw jCnt jFin jBeg jWs jMis jSrv jLft jSub jWai jNxt cnd U.heap ∧ XE E U)) (kQi (fun r H => ∃ rnd9 : Int64, ∃ sLen9 : Nat → Int32, ∃ sWrk9 : Nat → Int32, ∃ sReg9 : Nat → Int32, ∃ sFst9 : Nat → Int32, ∃ sLst9 : Nat → Int32, ∃ dPtr9 : Nat → Int32, ∃ dCnt9 : Nat → Int32, ∃ dIdl9 : Nat → Nat → Int32, ∃ dKnw9 : Nat → Nat → Int32, ∃ jCnt9 : Int32, ∃ jBeg9 : Int32, ∃ jWs9 : Int32, ∃ jMis9 : Int32, ∃ jSrv9 : Nat → Int32, ∃ jLft9 : Nat → Int32, ∃ jSub9 : Nat → Int32, ∃ jWai9 : Nat → Int32, ∃ jNxt9 : Nat → Int32, k r rnd9 sLen9 sWrk9 sReg9 sFst9 sLst9 dPtr9 dCnt9 dIdl9 dKnw9 jCnt9 jBeg9 jWs9 jMis9 jSrv9 jLft9 jSub9 jWai9 jNxt9 ∧ P now rnd9 jm rp sc dc cn sUp sLen9 sWrk9 sReg9 sFst9 sLst9 dPol dPtr9 dCnt9 dIdl9 dKnw9 jCnt9 jFin jBeg9 jWs9 jMis9 jSrv9 jLft9 jSub9 jWai9 jNxt9 cnd H) A) 0 0 A := by
  refine k_body (cc := cX3_dispatch) (own := RX3) (maxL := 4) (ret := (some .int)) (lv0 := [(0, .ref a), (1, .int num), (2, .int size)]) (by decide) rfl rfl (Nat.le_of_ble_eq_true rfl) rfl (fun p e s m below meth c C hr hlk hP hE => ?_)
  have hi3 : ∀ w ∈ u_ws RX3 TX3 11, w ∈ wsX3_dispatch := by decide +kernel
  have hi2 : ∀ w ∈ u_ws RX2 TX2 6, w ∈ wsX3_dispatch := by decide +kernel
  have hi1 : ∀ w ∈ u_ws RX1 TX1 10, w ∈ wsX3_dispatch := by decide +kernel
  have lk0 := C.2.2.2.2 (.fieldLink RX3 40 "IdleDispatcher$State" "dispatchers" "[LIdleDispatcher$Dispatcher;") (by decide +kernel)
  have lk1 := C.2.2.2.2 (.fieldLink RX3 33 "IdleDispatcher$State" "servers" "[LIdleDispatcher$Server;") (by decide +kernel)
  have lk2 := C.2.2.2.2 (.fieldLink RX3 86 "IdleDispatcher$Server" "length" "I") (by decide +kernel)
  have lk3 := C.2.2.2.2 (.fieldLink RX3 48 "IdleDispatcher$State" "jobs" "LIdleDispatcher$Jobs;") (by decide +kernel)
  have lk4 := C.2.2.2.2 (.fieldLink RX3 159 "IdleDispatcher$Jobs" "missed" "I") (by decide +kernel)
  refine k_aload_n C dX3_dispatch_0 0 rfl ?_
  refine k_aload_n C dX3_dispatch_1 0 rfl ?_
  refine g_St_dispatchers C (foc_g F) hE.1 hi3 lk0 dX3_dispatch_2 ?_
  refine k_iload_n C dX3_dispatch_5 1 rfl ?_
  obtain ⟨q1, h⟩ := h
  refine g_DA C (foc_g F) hE.1 q1 dX3_dispatch_6 ?_
  refine k_callVi (st := []) C hE (c_X3_takeServer l F hA now rnd jm rp sc dc cn sUp sLen sWrk sReg sFst sLst dPol dPtr dCnt dIdl dKnw jCnt jFin jBeg jWs jMis jSrv jLft jSub jWai jNxt cnd (num.toNatClampNeg) (vp_lt q1) _ h) (cwV 1 C.2.2.2.2 gX3_dispatch_X3_takeServer rfl rfl rfl (by decide +kernel) ⟨Nat.le_of_ble_eq_true rfl, Nat.le_of_ble_eq_true rfl⟩) (fun H hP => va_recv hE.1 (k_one (st_St ((foc_g F) H hP))) rfl (q0 := 0) rfl) rfl rfl (Nat.le_of_ble_eq_true rfl) dX3_dispatch_7 ⟨Nat.zero_le _, Nat.zero_le _⟩ (fun r2 => ?_)
  refine k_ex (fun rnd_3 => k_ex (fun dPtr_4 => k_ex (fun dKnw_5 => k_and (fun h => ?_))))
  refine k_istore_n (lv' := [(3, .int r2), (0, .ref a), (1, .int num), (2, .int size)]) C dX3_dispatch_10 rfl (by decide) rfl ?_
  refine k_aload_n C dX3_dispatch_11 1 rfl ?_
  refine g_St_servers C (foc_g F) hE.1 hi3 lk1 dX3_dispatch_12 ?_
  refine k_iload_n C dX3_dispatch_15 0 rfl ?_
  obtain ⟨q6, h⟩ := h
  refine g_SA C (foc_g F) hE.1 q6 dX3_dispatch_16 ?_
  refine g_sLen C (foc_g F) hE.1 hi2 (vp_lt q6) lk2 dX3_dispatch_17 ?_
  refine k_if_le (tgt := 43) C dX3_dispatch_20 (by decide) (fun c7 => ?_) (fun c7 => ?_)
  · replace h := h.1 c7
    refine k_aload_n C dX3_dispatch_43 1 rfl ?_
    refine k_iload_n C dX3_dispatch_44 0 rfl ?_
    refine k_callVv (st := []) C hE (c_X3_leaveIdleList l F hA now rnd_3 jm rp sc dc cn sUp sLen sWrk sReg sFst sLst dPol dPtr_4 dCnt dIdl dKnw_5 jCnt jFin jBeg jWs jMis jSrv jLft jSub jWai jNxt cnd r2  _ h) (cwV 1 C.2.2.2.2 gX3_dispatch_X3_leaveIdleList rfl rfl rfl (by decide +kernel) ⟨Nat.le_of_ble_eq_true rfl, Nat.le_of_ble_eq_true rfl⟩) (fun H hP => va_recv hE.1 (k_one (st_St ((foc_g F) H hP))) rfl (q0 := 0) rfl) rfl rfl (Nat.le_of_ble_eq_true rfl) dX3_dispatch_45 ⟨Nat.zero_le _, Nat.zero_le _⟩ (fun _ => ?_)
    refine k_ex (fun sReg_8 => k_ex (fun dCnt_9 => k_ex (fun dIdl_10 => k_and (fun h => ?_))))
    refine k_aload_n C dX3_dispatch_48 1 rfl ?_
    refine k_iload_n C dX3_dispatch_49 0 rfl ?_
    refine k_iload_n C dX3_dispatch_50 3 rfl ?_
    refine k_callVv (st := []) C hE (c_X3_enqueue l F hA now rnd_3 jm rp sc dc cn sUp sLen sWrk sReg_8 sFst sLst dPol dPtr_4 dCnt_9 dIdl_10 dKnw_5 jCnt jFin jBeg jWs jMis jSrv jLft jSub jWai jNxt cnd r2 size  _ h) (cwV 2 C.2.2.2.2 gX3_dispatch_X3_enqueue rfl rfl rfl (by decide +kernel) ⟨Nat.le_of_ble_eq_true rfl, Nat.le_of_ble_eq_true rfl⟩) (fun H hP => va_recv hE.1 (k_one (st_St ((foc_g F) H hP))) rfl (q0 := 0) rfl) rfl rfl (Nat.le_of_ble_eq_true rfl) dX3_dispatch_51 ⟨Nat.zero_le _, Nat.zero_le _⟩ (fun _ => ?_)
    refine k_ex (fun sLen_11 => k_ex (fun sWrk_12 => k_ex (fun sFst_13 => k_ex (fun sLst_14 => k_ex (fun jCnt_15 => k_ex (fun jBeg_16 => k_ex (fun jWs_17 => k_ex (fun jSrv_18 => k_ex (fun jLft_19 => k_ex (fun jSub_20 => k_ex (fun jWai_21 => k_ex (fun jNxt_22 => k_and (fun h => ?_)))))))))))))
    refine k_iload_n C dX3_dispatch_54 0 rfl ?_
    exact k_iret C hr hlk dX3_dispatch_55 (fun H hP => ⟨rnd_3, sLen_11, sWrk_12, sReg_8, sFst_13, sLst_14, dPtr_4, dCnt_9, dIdl_10, dKnw_5, jCnt_15, jBeg_16, jWs_17, jMis, jSrv_18, jLft_19, jSub_20, jWai_21, jNxt_22, h, hP⟩)
  · replace h := h.2 c7
    refine k_aload_n C dX3_dispatch_23 1 rfl ?_
    refine k_callVi (st := []) C hE (c_X3_anyIdle l F hA now rnd_3 jm rp sc dc cn sUp sLen sWrk sReg sFst sLst dPol dPtr_4 dCnt dIdl dKnw_5 jCnt jFin jBeg jWs jMis jSrv jLft jSub jWai jNxt cnd   _ h) (cwV 0 C.2.2.2.2 gX3_dispatch_X3_anyIdle rfl rfl rfl (by decide +kernel) ⟨Nat.le_of_ble_eq_true rfl, Nat.le_of_ble_eq_true rfl⟩) (fun H hP => va_recv hE.1 (k_one (st_St ((foc_g F) H hP))) rfl (q0 := 0) rfl) rfl rfl (Nat.le_of_ble_eq_true rfl) dX3_dispatch_24 ⟨Nat.zero_le _, Nat.zero_le _⟩ (fun r23 => ?_)
    refine k_and (fun h => ?_)
    refine k_if_eq (tgt := 43) C dX3_dispatch_27 (by decide) (fun c24 => ?_) (fun c24 => ?_)
    · replace h := h.1 c24
      refine k_aload_n C dX3_dispatch_43 1 rfl ?_
      refine k_iload_n C dX3_dispatch_44 0 rfl ?_
      refine k_callVv (st := []) C hE (c_X3_leaveIdleList l F hA now rnd_3 jm rp sc dc cn sUp sLen sWrk sReg sFst sLst dPol dPtr_4 dCnt dIdl dKnw_5 jCnt jFin jBeg jWs jMis jSrv jLft jSub jWai jNxt cnd r2  _ h) (cwV 1 C.2.2.2.2 gX3_dispatch_X3_leaveIdleList rfl rfl rfl (by decide +kernel) ⟨Nat.le_of_ble_eq_true rfl, Nat.le_of_ble_eq_true rfl⟩) (fun H hP => va_recv hE.1 (k_one (st_St ((foc_g F) H hP))) rfl (q0 := 0) rfl) rfl rfl (Nat.le_of_ble_eq_true rfl) dX3_dispatch_45 ⟨Nat.zero_le _, Nat.zero_le _⟩ (fun _ => ?_)
      refine k_ex (fun sReg_25 => k_ex (fun dCnt_26 => k_ex (fun dIdl_27 => k_and (fun h => ?_))))
      refine k_aload_n C dX3_dispatch_48 1 rfl ?_
      refine k_iload_n C dX3_dispatch_49 0 rfl ?_
      refine k_iload_n C dX3_dispatch_50 3 rfl ?_
      refine k_callVv (st := []) C hE (c_X3_enqueue l F hA now rnd_3 jm rp sc dc cn sUp sLen sWrk sReg_25 sFst sLst dPol dPtr_4 dCnt_26 dIdl_27 dKnw_5 jCnt jFin jBeg jWs jMis jSrv jLft jSub jWai jNxt cnd r2 size  _ h) (cwV 2 C.2.2.2.2 gX3_dispatch_X3_enqueue rfl rfl rfl (by decide +kernel) ⟨Nat.le_of_ble_eq_true rfl, Nat.le_of_ble_eq_true rfl⟩) (fun H hP => va_recv hE.1 (k_one (st_St ((foc_g F) H hP))) rfl (q0 := 0) rfl) rfl rfl (Nat.le_of_ble_eq_true rfl) dX3_dispatch_51 ⟨Nat.zero_le _, Nat.zero_le _⟩ (fun _ => ?_)
      refine k_ex (fun sLen_28 => k_ex (fun sWrk_29 => k_ex (fun sFst_30 => k_ex (fun sLst_31 => k_ex (fun jCnt_32 => k_ex (fun jBeg_33 => k_ex (fun jWs_34 => k_ex (fun jSrv_35 => k_ex (fun jLft_36 => k_ex (fun jSub_37 => k_ex (fun jWai_38 => k_ex (fun jNxt_39 => k_and (fun h => ?_)))))))))))))
      refine k_iload_n C dX3_dispatch_54 0 rfl ?_
      exact k_iret C hr hlk dX3_dispatch_55 (fun H hP => ⟨rnd_3, sLen_28, sWrk_29, sReg_25, sFst_30, sLst_31, dPtr_4, dCnt_26, dIdl_27, dKnw_5, jCnt_32, jBeg_33, jWs_34, jMis, jSrv_35, jLft_36, jSub_37, jWai_38, jNxt_39, h, hP⟩)
    · replace h := h.2 c24
      refine k_aload_n C dX3_dispatch_30 1 rfl ?_
      refine g_St_jobs C (foc_g F) hE.1 hi3 lk3 dX3_dispatch_31 ?_
      refine k_dup C dX3_dispatch_34 rfl ?_
      refine g_jMis C (foc_g F) hE.1 hi1 lk4 dX3_dispatch_35 ?_
      refine k_iconst (v := 1) C dX3_dispatch_38 (by decide) ?_
      refine k_iadd C dX3_dispatch_39 ?_
      refine k_topi (fun x40 ex40 => ?_)
      replace h := h x40 ex40
      refine p_jMis C F hA hE.1 hi1 lk4 dX3_dispatch_40 ?_
      refine k_aload_n C dX3_dispatch_43 1 rfl ?_
      refine k_iload_n C dX3_dispatch_44 0 rfl ?_
      refine k_callVv (st := []) C hE (c_X3_leaveIdleList l F hA now rnd_3 jm rp sc dc cn sUp sLen sWrk sReg sFst sLst dPol dPtr_4 dCnt dIdl dKnw_5 jCnt jFin jBeg jWs x40 jSrv jLft jSub jWai jNxt cnd r2  _ h) (cwV 1 C.2.2.2.2 gX3_dispatch_X3_leaveIdleList rfl rfl rfl (by decide +kernel) ⟨Nat.le_of_ble_eq_true rfl, Nat.le_of_ble_eq_true rfl⟩) (fun H hP => va_recv hE.1 (k_one (st_St ((foc_g F) H hP))) rfl (q0 := 0) rfl) rfl rfl (Nat.le_of_ble_eq_true rfl) dX3_dispatch_45 ⟨Nat.zero_le _, Nat.zero_le _⟩ (fun _ => ?_)
      refine k_ex (fun sReg_41 => k_ex (fun dCnt_42 => k_ex (fun dIdl_43 => k_and (fun h => ?_))))
      refine k_aload_n C dX3_dispatch_48 1 rfl ?_
      refine k_iload_n C dX3_dispatch_49 0 rfl ?_
      refine k_iload_n C dX3_dispatch_50 3 rfl ?_
      refine k_callVv (st := []) C hE (c_X3_enqueue l F hA now rnd_3 jm rp sc dc cn sUp sLen sWrk sReg_41 sFst sLst dPol dPtr_4 dCnt_42 dIdl_43 dKnw_5 jCnt jFin jBeg jWs x40 jSrv jLft jSub jWai jNxt cnd r2 size  _ h) (cwV 2 C.2.2.2.2 gX3_dispatch_X3_enqueue rfl rfl rfl (by decide +kernel) ⟨Nat.le_of_ble_eq_true rfl, Nat.le_of_ble_eq_true rfl⟩) (fun H hP => va_recv hE.1 (k_one (st_St ((foc_g F) H hP))) rfl (q0 := 0) rfl) rfl rfl (Nat.le_of_ble_eq_true rfl) dX3_dispatch_51 ⟨Nat.zero_le _, Nat.zero_le _⟩ (fun _ => ?_)
      refine k_ex (fun sLen_44 => k_ex (fun sWrk_45 => k_ex (fun sFst_46 => k_ex (fun sLst_47 => k_ex (fun jCnt_48 => k_ex (fun jBeg_49 => k_ex (fun jWs_50 => k_ex (fun jSrv_51 => k_ex (fun jLft_52 => k_ex (fun jSub_53 => k_ex (fun jWai_54 => k_ex (fun jNxt_55 => k_and (fun h => ?_)))))))))))))
      refine k_iload_n C dX3_dispatch_54 0 rfl ?_
      exact k_iret C hr hlk dX3_dispatch_55 (fun H hP => ⟨rnd_3, sLen_44, sWrk_45, sReg_41, sFst_46, sLst_47, dPtr_4, dCnt_42, dIdl_43, dKnw_5, jCnt_48, jBeg_49, jWs_50, x40, jSrv_51, jLft_52, jSub_53, jWai_54, jNxt_55, h, hP⟩)
noncomputable def wp_X3_finish (now : Int32) (sLen : Nat → Int32) (sFst : Nat → Int32) (sLst : Nat → Int32) (jFin : Int32) (jBeg : Int32) (jWs : Int32) (jSub : Nat → Int32) (jWai : Nat → Int32) (jNxt : Nat → Int32) (sj : Nat) (job : Int32) (k : (Nat → Int32) → (Nat → Int32) → (Nat → Int32) → Int32 → Int32 → Int32 → (Nat → Int32) → Prop) : Prop := ∀ x1 : Int32, x1 = (jFin + 1) → (∀ x2 : Int32, x2 = ((sLen sj) - 1) → (∀ sLen_3 : Nat → Int32, sLen_3 = upd sLen sj x2 → ((vp_in job 200) ∧ (∀ x5 : Int32, x5 = (jNxt job.toNatClampNeg) → (∀ sFst_6 : Nat → Int32, sFst_6 = upd sFst sj x5 → (((sFst_6 sj) = (-1) → (∀ sLst_11 : Nat → Int32, sLst_11 = upd sLst sj (-1) → (k sLen_3 sFst_6 sLst_11 x1 jBeg jWs jWai))) ∧ (¬ (sFst_6 sj) = (-1) → (wp_X1_begin jBeg jWs jSub jWai (sFst_6 sj) now (fun jBeg_8 jWs_9 jWai_10 => k sLen_3 sFst_6 sLst x1 jBeg_8 jWs_9 jWai_10)))))))))
set_option maxRecDepth 100000 in
set_option maxHeartbeats 4000000 in
theorem c_X3_finish (l : Launch) {E : EV} {a : Nat} {P : PF} {A : Nat → Prop} (F : Foc E a P) (hA : ∀ q, inSt a q → A q) (now : Int32) (rnd : Int64) (jm : Int32) (rp : Int32) (sc : Int32) (dc : Int32) (cn : Int32) (sUp : Nat → Int32) (sLen : Nat → Int32) (sWrk : Nat → Int32) (sReg : Nat → Int32) (sFst : Nat → Int32) (sLst : Nat → Int32) (dPol : Nat → Int32) (dPtr : Nat → Int32) (dCnt : Nat → Int32) (dIdl : Nat → Nat → Int32) (dKnw : Nat → Nat → Int32) (jCnt : Int32) (jFin : Int32) (jBeg : Int32) (jWs : Int32) (jMis : Int32) (jSrv : Nat → Int32) (jLft : Nat → Int32) (jSub : Nat → Int32) (jWai : Nat → Int32) (jNxt : Nat → Int32) (cnd : Nat → Int32) (sj : Nat) (job : Int32) (hsj : sj < 8) (k : (Nat → Int32) → (Nat → Int32) → (Nat → Int32) → Int32 → Int32 → Int32 → (Nat → Int32) → Prop) (h : wp_X3_finish now sLen sFst sLst jFin jBeg jWs jSub jWai jNxt sj job k) : Met l yX3_finish wsX3_finish { frames := 1, cells := 0, slots := 0, locals := 22 } (va_Pc [.ref a, .ref (a + (2 + sj)), .int job] (fun U => P now rnd jm rp sc dc cn sUp sLen sWrk sReg sFst sLst dPol dPtr dCnt dIdl dKnw jCnt jFin jBeg jWs jMis jSrv jLft jSub jWai jNxt cnd U.heap ∧ XE E U)) (kQv (fun H => ∃ sLen9 : Nat → Int32, ∃ sFst9 : Nat → Int32, ∃ sLst9 : Nat → Int32, ∃ jFin9 : Int32, ∃ jBeg9 : Int32, ∃ jWs9 : Int32, ∃ jWai9 : Nat → Int32, k sLen9 sFst9 sLst9 jFin9 jBeg9 jWs9 jWai9 ∧ P now rnd jm rp sc dc cn sUp sLen9 sWrk sReg sFst9 sLst9 dPol dPtr dCnt dIdl dKnw jCnt jFin9 jBeg9 jWs9 jMis jSrv jLft jSub jWai9 jNxt cnd H) A) 0 0 A := by
  refine k_body (cc := cX3_finish) (own := RX3) (maxL := 3) (ret := none) (lv0 := [(0, .ref a), (1, .ref (a + (2 + sj))), (2, .int job)]) (by decide) rfl rfl (Nat.le_of_ble_eq_true rfl) rfl (fun p e s m below meth c C hr hlk hP hE => ?_)
  have hi3 : ∀ w ∈ u_ws RX3 TX3 11, w ∈ wsX3_finish := by decide +kernel
  have hi1 : ∀ w ∈ u_ws RX1 TX1 10, w ∈ wsX3_finish := by decide +kernel
  have hi2 : ∀ w ∈ u_ws RX2 TX2 6, w ∈ wsX3_finish := by decide +kernel
  have lk0 := C.2.2.2.2 (.fieldLink RX3 48 "IdleDispatcher$State" "jobs" "LIdleDispatcher$Jobs;") (by decide +kernel)
  have lk1 := C.2.2.2.2 (.fieldLink RX3 201 "IdleDispatcher$Jobs" "finished" "I") (by decide +kernel)
  have lk2 := C.2.2.2.2 (.fieldLink RX3 86 "IdleDispatcher$Server" "length" "I") (by decide +kernel)
  have lk3 := C.2.2.2.2 (.fieldLink RX3 182 "IdleDispatcher$Jobs" "next" "[I") (by decide +kernel)
  have lk4 := C.2.2.2.2 (.fieldLink RX3 176 "IdleDispatcher$Server" "firstJob" "I") (by decide +kernel)
  have lk5 := C.2.2.2.2 (.fieldLink RX3 9 "IdleDispatcher$State" "now" "I") (by decide +kernel)
  have lk6 := C.2.2.2.2 (.fieldLink RX3 173 "IdleDispatcher$Server" "lastJob" "I") (by decide +kernel)
  refine k_aload_n C dX3_finish_0 0 rfl ?_
  refine g_St_jobs C (foc_g F) hE.1 hi3 lk0 dX3_finish_1 ?_
  refine k_dup C dX3_finish_4 rfl ?_
  refine g_jFin C (foc_g F) hE.1 hi1 lk1 dX3_finish_5 ?_
  refine k_iconst (v := 1) C dX3_finish_8 (by decide) ?_
  refine k_iadd C dX3_finish_9 ?_
  refine k_topi (fun x1 ex1 => ?_)
  replace h := h x1 ex1
  refine p_jFin C F hA hE.1 hi1 lk1 dX3_finish_10 ?_
  refine k_aload_n C dX3_finish_13 1 rfl ?_
  refine k_dup C dX3_finish_14 rfl ?_
  refine g_sLen C (foc_g F) hE.1 hi2 hsj lk2 dX3_finish_15 ?_
  refine k_iconst (v := 1) C dX3_finish_18 (by decide) ?_
  refine k_isub C dX3_finish_19 ?_
  refine k_topi (fun x2 ex2 => ?_)
  replace h := h x2 ex2
  obtain ⟨sLen_3, esLen_3⟩ : ∃ z : Nat → Int32, z = upd sLen sj x2 := ⟨_, rfl⟩
  replace h := h sLen_3 esLen_3
  refine p_sLen C F hA hE.1 hi2 hsj esLen_3 lk2 dX3_finish_20 ?_
  refine k_aload_n C dX3_finish_23 1 rfl ?_
  refine k_aload_n C dX3_finish_24 0 rfl ?_
  refine g_St_jobs C (foc_g F) hE.1 hi3 lk0 dX3_finish_25 ?_
  refine g_Jo_next C (foc_g F) hE.1 hi1 lk3 dX3_finish_28 ?_
  refine k_iload_n C dX3_finish_31 2 rfl ?_
  obtain ⟨q4, h⟩ := h
  refine g_jNxt C (foc_g F) hE.1 q4 dX3_finish_32 ?_
  refine k_topi (fun x5 ex5 => ?_)
  replace h := h x5 ex5
  obtain ⟨sFst_6, esFst_6⟩ : ∃ z : Nat → Int32, z = upd sFst sj x5 := ⟨_, rfl⟩
  replace h := h sFst_6 esFst_6
  refine p_sFst C F hA hE.1 hi2 hsj esFst_6 lk4 dX3_finish_33 ?_
  refine k_aload_n C dX3_finish_36 1 rfl ?_
  refine g_sFst C (foc_g F) hE.1 hi2 hsj lk4 dX3_finish_37 ?_
  refine k_iconst (v := (-1)) C dX3_finish_40 (by decide) ?_
  refine k_icmp_ne (tgt := 52) C dX3_finish_41 (by decide) (fun c7 => ?_) (fun c7 => ?_)
  · replace h := h.2 c7
    refine k_aload_n C dX3_finish_52 0 rfl ?_
    refine g_St_jobs C (foc_g F) hE.1 hi3 lk0 dX3_finish_53 ?_
    refine k_aload_n C dX3_finish_56 1 rfl ?_
    refine g_sFst C (foc_g F) hE.1 hi2 hsj lk4 dX3_finish_57 ?_
    refine k_aload_n C dX3_finish_60 0 rfl ?_
    refine g_now C (foc_g F) hE.1 hi3 lk5 dX3_finish_61 ?_
    refine k_callVv (st := []) C hE (c_X1_begin l F hA now rnd jm rp sc dc cn sUp sLen_3 sWrk sReg sFst_6 sLst dPol dPtr dCnt dIdl dKnw jCnt x1 jBeg jWs jMis jSrv jLft jSub jWai jNxt cnd (sFst_6 sj) now  _ h) (cwV 2 C.2.2.2.2 gX3_finish_X1_begin rfl rfl rfl (by decide +kernel) ⟨Nat.le_of_ble_eq_true rfl, Nat.le_of_ble_eq_true rfl⟩) (fun H hP => va_recv hE.1 (k_one (st_Jo ((foc_g F) H hP))) rfl (q0 := 0) rfl) rfl rfl (Nat.le_of_ble_eq_true rfl) dX3_finish_64 ⟨Nat.zero_le _, Nat.zero_le _⟩ (fun _ => ?_)
    refine k_ex (fun jBeg_8 => k_ex (fun jWs_9 => k_ex (fun jWai_10 => k_and (fun h => ?_))))
    exact k_vret C hr hlk dX3_finish_67 (fun H hP => ⟨sLen_3, sFst_6, sLst, x1, jBeg_8, jWs_9, jWai_10, h, hP⟩)
  · replace h := h.1 c7
    refine k_aload_n C dX3_finish_44 1 rfl ?_
    refine k_iconst (v := (-1)) C dX3_finish_45 (by decide) ?_
    obtain ⟨sLst_11, esLst_11⟩ : ∃ z : Nat → Int32, z = upd sLst sj (-1) := ⟨_, rfl⟩
    replace h := h sLst_11 esLst_11
    refine p_sLst C F hA hE.1 hi2 hsj esLst_11 lk6 dX3_finish_46 ?_
    refine k_goto (tgt := 67) C dX3_finish_49 (by decide) ?_
    exact k_vret C hr hlk dX3_finish_67 (fun H hP => ⟨sLen_3, sFst_6, sLst_11, x1, jBeg, jWs, jWai, h, hP⟩)
noncomputable def wp_X3_serve (now : Int32) (rnd : Int64) (jm : Int32) (dc : Int32) (sUp : Nat → Int32) (sLen : Nat → Int32) (sWrk : Nat → Int32) (sReg : Nat → Int32) (sFst : Nat → Int32) (sLst : Nat → Int32) (dCnt : Nat → Int32) (dIdl : Nat → Nat → Int32) (jFin : Int32) (jBeg : Int32) (jWs : Int32) (jLft : Nat → Int32) (jSub : Nat → Int32) (jWai : Nat → Int32) (jNxt : Nat → Int32) (num : Int32) (k : Int64 → (Nat → Int32) → (Nat → Int32) → (Nat → Int32) → (Nat → Int32) → (Nat → Int32) → (Nat → Int32) → (Nat → Nat → Int32) → Int32 → Int32 → Int32 → (Nat → Int32) → (Nat → Int32) → Prop) : Prop := (vp_in num 8) ∧ (∀ x2 : Int32, x2 = (sFst num.toNatClampNeg) → ((x2 = (-1) → (k rnd sLen sWrk sReg sFst sLst dCnt dIdl jFin jBeg jWs jLft jWai)) ∧ (¬ x2 = (-1) → (∀ x4 : Int32, x4 = ((sWrk num.toNatClampNeg) - 1) → (∀ sWrk_5 : Nat → Int32, sWrk_5 = upd sWrk (num.toNatClampNeg) x4 → ((vp_in x2 200) ∧ (∀ jLft_7 : Nat → Int32, jLft_7 = upd jLft x2.toNatClampNeg ((jLft x2.toNatClampNeg) - 1) → ((0 < (jLft_7 x2.toNatClampNeg) → (k rnd sLen sWrk_5 sReg sFst sLst dCnt dIdl jFin jBeg jWs jLft_7 jWai)) ∧ (¬ (0 < (jLft_7 x2.toNatClampNeg)) → (wp_X3_finish now sLen sFst sLst jFin jBeg jWs jSub jWai jNxt (num.toNatClampNeg) x2 (fun sLen_9 sFst_10 sLst_11 jFin_12 jBeg_13 jWs_14 jWai_15 => wp_X2_isIdle sUp sLen_9 (num.toNatClampNeg) (fun r16 => (r16 = 0 → (k rnd sLen_9 sWrk_5 sReg sFst_10 sLst_11 dCnt dIdl jFin_12 jBeg_13 jWs_14 jLft_7 jWai_15)) ∧ (¬ (r16 = 0) → (wp_X3_register rnd jm dc sReg dCnt dIdl num (fun rnd_18 sReg_19 dCnt_20 dIdl_21 => k rnd_18 sLen_9 sWrk_5 sReg_19 sFst_10 sLst_11 dCnt_20 dIdl_21 jFin_12 jBeg_13 jWs_14 jLft_7 jWai_15)))))))))))))))
set_option maxRecDepth 100000 in
set_option maxHeartbeats 4000000 in
theorem c_X3_serve (l : Launch) {E : EV} {a : Nat} {P : PF} {A : Nat → Prop} (F : Foc E a P) (hA : ∀ q, inSt a q → A q) (now : Int32) (rnd : Int64) (jm : Int32) (rp : Int32) (sc : Int32) (dc : Int32) (cn : Int32) (sUp : Nat → Int32) (sLen : Nat → Int32) (sWrk : Nat → Int32) (sReg : Nat → Int32) (sFst : Nat → Int32) (sLst : Nat → Int32) (dPol : Nat → Int32) (dPtr : Nat → Int32) (dCnt : Nat → Int32) (dIdl : Nat → Nat → Int32) (dKnw : Nat → Nat → Int32) (jCnt : Int32) (jFin : Int32) (jBeg : Int32) (jWs : Int32) (jMis : Int32) (jSrv : Nat → Int32) (jLft : Nat → Int32) (jSub : Nat → Int32) (jWai : Nat → Int32) (jNxt : Nat → Int32) (cnd : Nat → Int32) (num : Int32)  (k : Int64 → (Nat → Int32) → (Nat → Int32) → (Nat → Int32) → (Nat → Int32) → (Nat → Int32) → (Nat → Int32) → (Nat → Nat → Int32) → Int32 → Int32 → Int32 → (Nat → Int32) → (Nat → Int32) → Prop) (h : wp_X3_serve now rnd jm dc sUp sLen sWrk sReg sFst sLst dCnt dIdl jFin jBeg jWs jLft jSub jWai jNxt num k) : Met l yX3_serve wsX3_serve { frames := 3, cells := 0, slots := 0, locals := 66 } (va_Pc [.ref a, .int num] (fun U => P now rnd jm rp sc dc cn sUp sLen sWrk sReg sFst sLst dPol dPtr dCnt dIdl dKnw jCnt jFin jBeg jWs jMis jSrv jLft jSub jWai jNxt cnd U.heap ∧ XE E U)) (kQv (fun H => ∃ rnd9 : Int64, ∃ sLen9 : Nat → Int32, ∃ sWrk9 : Nat → Int32, ∃ sReg9 : Nat → Int32, ∃ sFst9 : Nat → Int32, ∃ sLst9 : Nat → Int32, ∃ dCnt9 : Nat → Int32, ∃ dIdl9 : Nat → Nat → Int32, ∃ jFin9 : Int32, ∃ jBeg9 : Int32, ∃ jWs9 : Int32, ∃ jLft9 : Nat → Int32, ∃ jWai9 : Nat → Int32, k rnd9 sLen9 sWrk9 sReg9 sFst9 sLst9 dCnt9 dIdl9 jFin9 jBeg9 jWs9 jLft9 jWai9 ∧ P now rnd9 jm rp sc dc cn sUp sLen9 sWrk9 sReg9 sFst9 sLst9 dPol dPtr dCnt9 dIdl9 dKnw jCnt jFin9 jBeg9 jWs9 jMis jSrv jLft9 jSub jWai9 jNxt cnd H) A) 0 0 A := by
  refine k_body (cc := cX3_serve) (own := RX3) (maxL := 4) (ret := none) (lv0 := [(0, .ref a), (1, .int num)]) (by decide) rfl rfl (Nat.le_of_ble_eq_true rfl) rfl (fun p e s m below meth c C hr hlk hP hE => ?_)
  have hi3 : ∀ w ∈ u_ws RX3 TX3 11, w ∈ wsX3_serve := by decide +kernel
  have hi2 : ∀ w ∈ u_ws RX2 TX2 6, w ∈ wsX3_serve := by decide +kernel
  have hi1 : ∀ w ∈ u_ws RX1 TX1 10, w ∈ wsX3_serve := by decide +kernel
  have lk0 := C.2.2.2.2 (.fieldLink RX3 33 "IdleDispatcher$State" "servers" "[LIdleDispatcher$Server;") (by decide +kernel)
  have lk1 := C.2.2.2.2 (.fieldLink RX3 176 "IdleDispatcher$Server" "firstJob" "I") (by decide +kernel)
  have lk2 := C.2.2.2.2 (.fieldLink RX3 185 "IdleDispatcher$Server" "work" "I") (by decide +kernel)
  have lk3 := C.2.2.2.2 (.fieldLink RX3 48 "IdleDispatcher$State" "jobs" "LIdleDispatcher$Jobs;") (by decide +kernel)
  have lk4 := C.2.2.2.2 (.fieldLink RX3 194 "IdleDispatcher$Jobs" "left" "[I") (by decide +kernel)
  refine k_aload_n C dX3_serve_0 0 rfl ?_
  refine g_St_servers C (foc_g F) hE.1 hi3 lk0 dX3_serve_1 ?_
  refine k_iload_n C dX3_serve_4 1 rfl ?_
  obtain ⟨q1, h⟩ := h
  refine g_SA C (foc_g F) hE.1 q1 dX3_serve_5 ?_
  refine k_astore_n (lv' := [(2, .ref (a + (2 + num.toNatClampNeg))), (0, .ref a), (1, .int num)]) C dX3_serve_6 rfl (by decide) rfl ?_
  refine k_aload_n C dX3_serve_7 0 rfl ?_
  refine g_sFst C (foc_g F) hE.1 hi2 (vp_lt q1) lk1 dX3_serve_8 ?_
  refine k_topi (fun x2 ex2 => ?_)
  replace h := h x2 ex2
  refine k_istore_n (lv' := [(3, .int x2), (2, .ref (a + (2 + num.toNatClampNeg))), (0, .ref a), (1, .int num)]) C dX3_serve_11 rfl (by decide) rfl ?_
  refine k_iload_n C dX3_serve_12 0 rfl ?_
  refine k_iconst (v := (-1)) C dX3_serve_13 (by decide) ?_
  refine k_icmp_ne (tgt := 18) C dX3_serve_14 (by decide) (fun c3 => ?_) (fun c3 => ?_)
  · replace h := h.2 c3
    refine k_aload_n C dX3_serve_18 1 rfl ?_
    refine k_dup C dX3_serve_19 rfl ?_
    refine g_sWrk C (foc_g F) hE.1 hi2 (vp_lt q1) lk2 dX3_serve_20 ?_
    refine k_iconst (v := 1) C dX3_serve_23 (by decide) ?_
    refine k_isub C dX3_serve_24 ?_
    refine k_topi (fun x4 ex4 => ?_)
    replace h := h x4 ex4
    obtain ⟨sWrk_5, esWrk_5⟩ : ∃ z : Nat → Int32, z = upd sWrk (num.toNatClampNeg) x4 := ⟨_, rfl⟩
    replace h := h sWrk_5 esWrk_5
    refine p_sWrk C F hA hE.1 hi2 (vp_lt q1) esWrk_5 lk2 dX3_serve_25 ?_
    refine k_aload_n C dX3_serve_28 2 rfl ?_
    refine g_St_jobs C (foc_g F) hE.1 hi3 lk3 dX3_serve_29 ?_
    refine g_Jo_left C (foc_g F) hE.1 hi1 lk4 dX3_serve_32 ?_
    refine k_iload_n C dX3_serve_35 0 rfl ?_
    refine k_dup2_11 C dX3_serve_36 rfl rfl ?_
    obtain ⟨q6, h⟩ := h
    refine g_jLft C (foc_g F) hE.1 q6 dX3_serve_37 ?_
    refine k_iconst (v := 1) C dX3_serve_38 (by decide) ?_
    refine k_isub C dX3_serve_39 ?_
    obtain ⟨jLft_7, ejLft_7⟩ : ∃ z : Nat → Int32, z = upd jLft x2.toNatClampNeg ((jLft x2.toNatClampNeg) - 1) := ⟨_, rfl⟩
    replace h := h jLft_7 ejLft_7
    refine p_jLft C F hA hE.1 q6 ejLft_7 dX3_serve_40 ?_
    refine k_aload_n C dX3_serve_41 2 rfl ?_
    refine g_St_jobs C (foc_g F) hE.1 hi3 lk3 dX3_serve_42 ?_
    refine g_Jo_left C (foc_g F) hE.1 hi1 lk4 dX3_serve_45 ?_
    refine k_iload_n C dX3_serve_48 0 rfl ?_
    refine g_jLft C (foc_g F) hE.1 q6 dX3_serve_49 ?_
    refine k_if_gt (tgt := 71) C dX3_serve_50 (by decide) (fun c8 => ?_) (fun c8 => ?_)
    · replace h := h.1 c8
      exact k_vret C hr hlk dX3_serve_71 (fun H hP => ⟨rnd, sLen, sWrk_5, sReg, sFst, sLst, dCnt, dIdl, jFin, jBeg, jWs, jLft_7, jWai, h, hP⟩)
    · replace h := h.2 c8
      refine k_aload_n C dX3_serve_53 2 rfl ?_
      refine k_aload_n C dX3_serve_54 1 rfl ?_
      refine k_iload_n C dX3_serve_55 0 rfl ?_
      refine k_callVv (st := []) C hE (c_X3_finish l F hA now rnd jm rp sc dc cn sUp sLen sWrk_5 sReg sFst sLst dPol dPtr dCnt dIdl dKnw jCnt jFin jBeg jWs jMis jSrv jLft_7 jSub jWai jNxt cnd (num.toNatClampNeg) x2 (vp_lt q1) _ h) (cwV 2 C.2.2.2.2 gX3_serve_X3_finish rfl rfl rfl (by decide +kernel) ⟨Nat.le_of_ble_eq_true rfl, Nat.le_of_ble_eq_true rfl⟩) (fun H hP => va_recv hE.1 (k_one (st_St ((foc_g F) H hP))) rfl (q0 := 0) rfl) rfl rfl (Nat.le_of_ble_eq_true rfl) dX3_serve_56 ⟨Nat.zero_le _, Nat.zero_le _⟩ (fun _ => ?_)
      refine k_ex (fun sLen_9 => k_ex (fun sFst_10 => k_ex (fun sLst_11 => k_ex (fun jFin_12 => k_ex (fun jBeg_13 => k_ex (fun jWs_14 => k_ex (fun jWai_15 => k_and (fun h => ?_))))))))
      refine k_aload_n C dX3_serve_59 1 rfl ?_
      refine k_callVi (st := []) C hE (c_X2_isIdle l F hA now rnd jm rp sc dc cn sUp sLen_9 sWrk_5 sReg sFst_10 sLst_11 dPol dPtr dCnt dIdl dKnw jCnt jFin_12 jBeg_13 jWs_14 jMis jSrv jLft_7 jSub jWai_15 jNxt cnd (num.toNatClampNeg) (vp_lt q1) _ h) (cwV 0 C.2.2.2.2 gX3_serve_X2_isIdle rfl rfl rfl (by decide +kernel) ⟨Nat.le_of_ble_eq_true rfl, Nat.le_of_ble_eq_true rfl⟩) (fun H hP => va_recv hE.1 (k_one (st_Sv (vp_lt q1) ((foc_g F) H hP))) rfl (q0 := 0) rfl) rfl rfl (Nat.le_of_ble_eq_true rfl) dX3_serve_60 ⟨Nat.zero_le _, Nat.zero_le _⟩ (fun r16 => ?_)
      refine k_and (fun h => ?_)
      refine k_if_eq (tgt := 71) C dX3_serve_63 (by decide) (fun c17 => ?_) (fun c17 => ?_)
      · replace h := h.1 c17
        exact k_vret C hr hlk dX3_serve_71 (fun H hP => ⟨rnd, sLen_9, sWrk_5, sReg, sFst_10, sLst_11, dCnt, dIdl, jFin_12, jBeg_13, jWs_14, jLft_7, jWai_15, h, hP⟩)
      · replace h := h.2 c17
        refine k_aload_n C dX3_serve_66 2 rfl ?_
        refine k_iload_n C dX3_serve_67 3 rfl ?_
        refine k_callVv (st := []) C hE (c_X3_register l F hA now rnd jm rp sc dc cn sUp sLen_9 sWrk_5 sReg sFst_10 sLst_11 dPol dPtr dCnt dIdl dKnw jCnt jFin_12 jBeg_13 jWs_14 jMis jSrv jLft_7 jSub jWai_15 jNxt cnd num  _ h) (cwV 1 C.2.2.2.2 gX3_serve_X3_register rfl rfl rfl (by decide +kernel) ⟨Nat.le_of_ble_eq_true rfl, Nat.le_of_ble_eq_true rfl⟩) (fun H hP => va_recv hE.1 (k_one (st_St ((foc_g F) H hP))) rfl (q0 := 0) rfl) rfl rfl (Nat.le_of_ble_eq_true rfl) dX3_serve_68 ⟨Nat.zero_le _, Nat.zero_le _⟩ (fun _ => ?_)
        refine k_ex (fun rnd_18 => k_ex (fun sReg_19 => k_ex (fun dCnt_20 => k_ex (fun dIdl_21 => k_and (fun h => ?_)))))
        exact k_vret C hr hlk dX3_serve_71 (fun H hP => ⟨rnd_18, sLen_9, sWrk_5, sReg_19, sFst_10, sLst_11, dCnt_20, dIdl_21, jFin_12, jBeg_13, jWs_14, jLft_7, jWai_15, h, hP⟩)
  · replace h := h.1 c3
    exact k_vret C hr hlk dX3_serve_17 (fun H hP => ⟨rnd, sLen, sWrk, sReg, sFst, sLst, dCnt, dIdl, jFin, jBeg, jWs, jLft, jWai, h, hP⟩)
noncomputable def wp_X3_report_L12 (sc : Int32) (x1 : Int32) (rec2 : Int32 → (Nat → Nat → Int32) → Prop) (sLen : Nat → Int32) (fu : Nat) : Int32 → (Nat → Nat → Int32) → Prop := Nat.rec (motive := fun _ => Int32 → (Nat → Nat → Int32) → Prop) (fun _ _ => False) (fun _ rec12 x4 dKnw_5 => (sc ≤ x4 → (∀ x7 : Int32, x7 = x1 + 1 → (rec2 x7 dKnw_5))) ∧ (¬ (sc ≤ x4) → ((vp_in x1 4) ∧ ((vp_in x4 8) ∧ (∀ dKnw_10 : Nat → Nat → Int32, dKnw_10 = va_up dKnw_5 (x1.toNatClampNeg) (upd (dKnw_5 x1.toNatClampNeg) x4.toNatClampNeg (sLen x4.toNatClampNeg)) → (∀ x11 : Int32, x11 = x4 + 1 → (rec12 x11 dKnw_10))))))) fu
noncomputable def wp_X3_report_L2 (dc : Int32) (k : (Nat → Nat → Int32) → Prop) (sc : Int32) (sLen : Nat → Int32) (fu : Nat) : Int32 → (Nat → Nat → Int32) → Prop := Nat.rec (motive := fun _ => Int32 → (Nat → Nat → Int32) → Prop) (fun _ _ => False) (fun _ rec2 x1 dKnw_2 => (dc ≤ x1 → (k dKnw_2)) ∧ (¬ (dc ≤ x1) → (∃ fu, wp_X3_report_L12 sc x1 rec2 sLen fu 0 dKnw_2))) fu
noncomputable def wp_X3_report (sc : Int32) (dc : Int32) (sLen : Nat → Int32) (dKnw : Nat → Nat → Int32) (k : (Nat → Nat → Int32) → Prop) : Prop := ∃ fu, wp_X3_report_L2 dc k sc sLen fu 0 dKnw
set_option maxRecDepth 100000 in
set_option maxHeartbeats 4000000 in
theorem c_X3_report (l : Launch) {E : EV} {a : Nat} {P : PF} {A : Nat → Prop} (F : Foc E a P) (hA : ∀ q, inSt a q → A q) (now : Int32) (rnd : Int64) (jm : Int32) (rp : Int32) (sc : Int32) (dc : Int32) (cn : Int32) (sUp : Nat → Int32) (sLen : Nat → Int32) (sWrk : Nat → Int32) (sReg : Nat → Int32) (sFst : Nat → Int32) (sLst : Nat → Int32) (dPol : Nat → Int32) (dPtr : Nat → Int32) (dCnt : Nat → Int32) (dIdl : Nat → Nat → Int32) (dKnw : Nat → Nat → Int32) (jCnt : Int32) (jFin : Int32) (jBeg : Int32) (jWs : Int32) (jMis : Int32) (jSrv : Nat → Int32) (jLft : Nat → Int32) (jSub : Nat → Int32) (jWai : Nat → Int32) (jNxt : Nat → Int32) (cnd : Nat → Int32)   (k : (Nat → Nat → Int32) → Prop) (h : wp_X3_report sc dc sLen dKnw  k) : Met l yX3_report wsX3_report { frames := 0, cells := 0, slots := 0, locals := 0 } (va_Pc [.ref a] (fun U => P now rnd jm rp sc dc cn sUp sLen sWrk sReg sFst sLst dPol dPtr dCnt dIdl dKnw jCnt jFin jBeg jWs jMis jSrv jLft jSub jWai jNxt cnd U.heap ∧ XE E U)) (kQv (fun H => ∃ dKnw9 : Nat → Nat → Int32, k dKnw9 ∧ P now rnd jm rp sc dc cn sUp sLen sWrk sReg sFst sLst dPol dPtr dCnt dIdl dKnw9 jCnt jFin jBeg jWs jMis jSrv jLft jSub jWai jNxt cnd H) A) 0 0 A := by
  refine k_body (cc := cX3_report) (own := RX3) (maxL := 3) (ret := none) (lv0 := [(0, .ref a)]) (by decide) rfl rfl (Nat.le_of_ble_eq_true rfl) rfl (fun p e s m below meth c C hr hlk hP hE => ?_)
  have hi3 : ∀ w ∈ u_ws RX3 TX3 11, w ∈ wsX3_report := by decide +kernel
  have hi0 : ∀ w ∈ u_ws RX0 TX0 5, w ∈ wsX3_report := by decide +kernel
  have hi2 : ∀ w ∈ u_ws RX2 TX2 6, w ∈ wsX3_report := by decide +kernel
  have lk0 := C.2.2.2.2 (.fieldLink RX3 28 "IdleDispatcher$State" "dispatcherCount" "I") (by decide +kernel)
  have lk1 := C.2.2.2.2 (.fieldLink RX3 25 "IdleDispatcher$State" "serverCount" "I") (by decide +kernel)
  have lk2 := C.2.2.2.2 (.fieldLink RX3 40 "IdleDispatcher$State" "dispatchers" "[LIdleDispatcher$Dispatcher;") (by decide +kernel)
  have lk3 := C.2.2.2.2 (.fieldLink RX3 125 "IdleDispatcher$Dispatcher" "known" "[I") (by decide +kernel)
  have lk4 := C.2.2.2.2 (.fieldLink RX3 33 "IdleDispatcher$State" "servers" "[LIdleDispatcher$Server;") (by decide +kernel)
  have lk5 := C.2.2.2.2 (.fieldLink RX3 86 "IdleDispatcher$Server" "length" "I") (by decide +kernel)
  refine k_iconst (v := 0) C dX3_report_0 (by decide) ?_
  refine k_istore_n (lv' := [(1, .int 0), (0, .ref a)]) C dX3_report_1 rfl (by decide) rfl ?_
  obtain ⟨n2, h⟩ := h
  refine k_pc (pc2 := 2) rfl ?_
  refine k_loop2 (wp_X3_report_L2 dc k sc sLen) (fun x1 dKnw_2 => P now rnd jm rp sc dc cn sUp sLen sWrk sReg sFst sLst dPol dPtr dCnt dIdl dKnw_2 jCnt jFin jBeg jWs jMis jSrv jLft jSub jWai jNxt cnd) (fun x1 dKnw_2 => [(1, .int x1), (0, .ref a)]) (fun _ _ h => h) (fun n2 ih2 x1 dKnw_2 h => ?_) n2 _ _ h
  refine k_iload_n C dX3_report_2 0 rfl ?_
  refine k_aload_n C dX3_report_3 1 rfl ?_
  refine g_dc C (foc_g F) hE.1 hi3 lk0 dX3_report_4 ?_
  refine k_icmp_ge (tgt := 52) C dX3_report_7 (by decide) (fun c3 => ?_) (fun c3 => ?_)
  · replace h := h.1 c3
    exact k_vret C hr hlk dX3_report_52 (fun H hP => ⟨dKnw_2, h, hP⟩)
  · replace h := h.2 c3
    refine k_iconst (v := 0) C dX3_report_10 (by decide) ?_
    refine k_istore_n (lv' := [(2, .int 0), (1, .int x1), (0, .ref a)]) C dX3_report_11 rfl (by decide) rfl ?_
    obtain ⟨n12, h⟩ := h
    refine k_pc (pc2 := 12) rfl ?_
    refine k_loop2 (wp_X3_report_L12 sc x1 (wp_X3_report_L2 dc k sc sLen n2) sLen) (fun x4 dKnw_5 => P now rnd jm rp sc dc cn sUp sLen sWrk sReg sFst sLst dPol dPtr dCnt dIdl dKnw_5 jCnt jFin jBeg jWs jMis jSrv jLft jSub jWai jNxt cnd) (fun x4 dKnw_5 => [(2, .int x4), (1, .int x1), (0, .ref a)]) (fun _ _ h => h) (fun n12 ih12 x4 dKnw_5 h => ?_) n12 _ _ h
    refine k_iload_n C dX3_report_12 0 rfl ?_
    refine k_aload_n C dX3_report_13 2 rfl ?_
    refine g_sc C (foc_g F) hE.1 hi3 lk1 dX3_report_14 ?_
    refine k_icmp_ge (tgt := 46) C dX3_report_17 (by decide) (fun c6 => ?_) (fun c6 => ?_)
    · replace h := h.1 c6
      obtain ⟨x7, ex7⟩ : ∃ z : Int32, z = x1 + 1 := ⟨_, rfl⟩
      replace h := h x7 ex7
      refine k_iinc (v := x7) (lv' := [(1, .int x7), (2, .int x4), (0, .ref a)]) (j := 1) C dX3_report_46 rfl (by rw [ex7]; rfl) (by decide) rfl ?_
      refine k_goto (tgt := 2) C dX3_report_49 (by decide) ?_
      refine k_pc (pc2 := 2) rfl ?_
      refine k_sub [0, 2] rfl ?_
      exact ih2 _ _ h
    · replace h := h.2 c6
      refine k_aload_n C dX3_report_20 2 rfl ?_
      refine g_St_dispatchers C (foc_g F) hE.1 hi3 lk2 dX3_report_21 ?_
      refine k_iload_n C dX3_report_24 1 rfl ?_
      obtain ⟨q8, h⟩ := h
      refine g_DA C (foc_g F) hE.1 q8 dX3_report_25 ?_
      refine g_Di_known C (foc_g F) hE.1 hi0 (vp_lt q8) lk3 dX3_report_26 ?_
      refine k_iload_n C dX3_report_29 0 rfl ?_
      refine k_aload_n C dX3_report_30 2 rfl ?_
      refine g_St_servers C (foc_g F) hE.1 hi3 lk4 dX3_report_31 ?_
      refine k_iload_n C dX3_report_34 0 rfl ?_
      obtain ⟨q9, h⟩ := h
      refine g_SA C (foc_g F) hE.1 q9 dX3_report_35 ?_
      refine g_sLen C (foc_g F) hE.1 hi2 (vp_lt q9) lk5 dX3_report_36 ?_
      obtain ⟨dKnw_10, edKnw_10⟩ : ∃ z : Nat → Nat → Int32, z = va_up dKnw_5 (x1.toNatClampNeg) (upd (dKnw_5 x1.toNatClampNeg) x4.toNatClampNeg (sLen x4.toNatClampNeg)) := ⟨_, rfl⟩
      replace h := h dKnw_10 edKnw_10
      refine p_dKnw C F hA hE.1 (vp_lt q8) q9 edKnw_10 dX3_report_39 ?_
      obtain ⟨x11, ex11⟩ : ∃ z : Int32, z = x4 + 1 := ⟨_, rfl⟩
      replace h := h x11 ex11
      refine k_iinc (v := x11) (lv' := [(2, .int x11), (1, .int x1), (0, .ref a)]) (j := 0) C dX3_report_40 rfl (by rw [ex11]; rfl) (by decide) rfl ?_
      refine k_goto (tgt := 12) C dX3_report_43 (by decide) ?_
      refine k_pc (pc2 := 12) rfl ?_
      refine k_sub [0, 1, 2] rfl ?_
      exact ih12 _ _ h
noncomputable def wp_X3_passTick_L12 (sc : Int32) (rp : Int32) (k : Int32 → Int64 → (Nat → Int32) → (Nat → Int32) → (Nat → Int32) → (Nat → Int32) → (Nat → Int32) → (Nat → Int32) → (Nat → Nat → Int32) → (Nat → Nat → Int32) → Int32 → Int32 → Int32 → (Nat → Int32) → (Nat → Int32) → Prop) (x1 : Int32) (dKnw : Nat → Nat → Int32) (dc : Int32) (jm : Int32) (sUp : Nat → Int32) (jSub : Nat → Int32) (jNxt : Nat → Int32) (fu : Nat) : Int32 → Int64 → (Nat → Int32) → (Nat → Int32) → (Nat → Int32) → (Nat → Int32) → (Nat → Int32) → (Nat → Int32) → (Nat → Nat → Int32) → Int32 → Int32 → Int32 → (Nat → Int32) → (Nat → Int32) → Prop := Nat.rec (motive := fun _ => Int32 → Int64 → (Nat → Int32) → (Nat → Int32) → (Nat → Int32) → (Nat → Int32) → (Nat → Int32) → (Nat → Int32) → (Nat → Nat → Int32) → Int32 → Int32 → Int32 → (Nat → Int32) → (Nat → Int32) → Prop) (fun _ _ _ _ _ _ _ _ _ _ _ _ _ _ => False) (fun _ rec12 x2 rnd_3 sLen_4 sWrk_5 sReg_6 sFst_7 sLst_8 dCnt_9 dIdl_10 jFin_11 jBeg_12 jWs_13 jLft_14 jWai_15 => (sc ≤ x2 → ((rp ≤ 0 → (k x1 rnd_3 sLen_4 sWrk_5 sReg_6 sFst_7 sLst_8 dCnt_9 dIdl_10 dKnw jFin_11 jBeg_12 jWs_13 jLft_14 jWai_15)) ∧ (¬ (rp ≤ 0) → ((¬ rp = 0) ∧ (((x1 - x1 / rp * rp) = 0 → (wp_X3_report sc dc sLen_4 dKnw (fun dKnw_20 => k x1 rnd_3 sLen_4 sWrk_5 sReg_6 sFst_7 sLst_8 dCnt_9 dIdl_10 dKnw_20 jFin_11 jBeg_12 jWs_13 jLft_14 jWai_15))) ∧ (¬ (x1 - x1 / rp * rp) = 0 → (k x1 rnd_3 sLen_4 sWrk_5 sReg_6 sFst_7 sLst_8 dCnt_9 dIdl_10 dKnw jFin_11 jBeg_12 jWs_13 jLft_14 jWai_15))))))) ∧ (¬ (sc ≤ x2) → (wp_X3_serve x1 rnd_3 jm dc sUp sLen_4 sWrk_5 sReg_6 sFst_7 sLst_8 dCnt_9 dIdl_10 jFin_11 jBeg_12 jWs_13 jLft_14 jSub jWai_15 jNxt x2 (fun rnd_21 sLen_22 sWrk_23 sReg_24 sFst_25 sLst_26 dCnt_27 dIdl_28 jFin_29 jBeg_30 jWs_31 jLft_32 jWai_33 => ∀ x34 : Int32, x34 = x2 + 1 → (rec12 x34 rnd_21 sLen_22 sWrk_23 sReg_24 sFst_25 sLst_26 dCnt_27 dIdl_28 jFin_29 jBeg_30 jWs_31 jLft_32 jWai_33))))) fu
noncomputable def wp_X3_passTick (now : Int32) (rnd : Int64) (jm : Int32) (rp : Int32) (sc : Int32) (dc : Int32) (sUp : Nat → Int32) (sLen : Nat → Int32) (sWrk : Nat → Int32) (sReg : Nat → Int32) (sFst : Nat → Int32) (sLst : Nat → Int32) (dCnt : Nat → Int32) (dIdl : Nat → Nat → Int32) (dKnw : Nat → Nat → Int32) (jFin : Int32) (jBeg : Int32) (jWs : Int32) (jLft : Nat → Int32) (jSub : Nat → Int32) (jWai : Nat → Int32) (jNxt : Nat → Int32) (k : Int32 → Int64 → (Nat → Int32) → (Nat → Int32) → (Nat → Int32) → (Nat → Int32) → (Nat → Int32) → (Nat → Int32) → (Nat → Nat → Int32) → (Nat → Nat → Int32) → Int32 → Int32 → Int32 → (Nat → Int32) → (Nat → Int32) → Prop) : Prop := ∀ x1 : Int32, x1 = (now + 1) → (∃ fu, wp_X3_passTick_L12 sc rp k x1 dKnw dc jm sUp jSub jNxt fu 0 rnd sLen sWrk sReg sFst sLst dCnt dIdl jFin jBeg jWs jLft jWai)
set_option maxRecDepth 100000 in
set_option maxHeartbeats 4000000 in
theorem c_X3_passTick (l : Launch) {E : EV} {a : Nat} {P : PF} {A : Nat → Prop} (F : Foc E a P) (hA : ∀ q, inSt a q → A q) (now : Int32) (rnd : Int64) (jm : Int32) (rp : Int32) (sc : Int32) (dc : Int32) (cn : Int32) (sUp : Nat → Int32) (sLen : Nat → Int32) (sWrk : Nat → Int32) (sReg : Nat → Int32) (sFst : Nat → Int32) (sLst : Nat → Int32) (dPol : Nat → Int32) (dPtr : Nat → Int32) (dCnt : Nat → Int32) (dIdl : Nat → Nat → Int32) (dKnw : Nat → Nat → Int32) (jCnt : Int32) (jFin : Int32) (jBeg : Int32) (jWs : Int32) (jMis : Int32) (jSrv : Nat → Int32) (jLft : Nat → Int32) (jSub : Nat → Int32) (jWai : Nat → Int32) (jNxt : Nat → Int32) (cnd : Nat → Int32)   (k : Int32 → Int64 → (Nat → Int32) → (Nat → Int32) → (Nat → Int32) → (Nat → Int32) → (Nat → Int32) → (Nat → Int32) → (Nat → Nat → Int32) → (Nat → Nat → Int32) → Int32 → Int32 → Int32 → (Nat → Int32) → (Nat → Int32) → Prop) (h : wp_X3_passTick now rnd jm rp sc dc sUp sLen sWrk sReg sFst sLst dCnt dIdl dKnw jFin jBeg jWs jLft jSub jWai jNxt  k) : Met l yX3_passTick wsX3_passTick { frames := 4, cells := 0, slots := 0, locals := 89 } (va_Pc [.ref a] (fun U => P now rnd jm rp sc dc cn sUp sLen sWrk sReg sFst sLst dPol dPtr dCnt dIdl dKnw jCnt jFin jBeg jWs jMis jSrv jLft jSub jWai jNxt cnd U.heap ∧ XE E U)) (kQv (fun H => ∃ now9 : Int32, ∃ rnd9 : Int64, ∃ sLen9 : Nat → Int32, ∃ sWrk9 : Nat → Int32, ∃ sReg9 : Nat → Int32, ∃ sFst9 : Nat → Int32, ∃ sLst9 : Nat → Int32, ∃ dCnt9 : Nat → Int32, ∃ dIdl9 : Nat → Nat → Int32, ∃ dKnw9 : Nat → Nat → Int32, ∃ jFin9 : Int32, ∃ jBeg9 : Int32, ∃ jWs9 : Int32, ∃ jLft9 : Nat → Int32, ∃ jWai9 : Nat → Int32, k now9 rnd9 sLen9 sWrk9 sReg9 sFst9 sLst9 dCnt9 dIdl9 dKnw9 jFin9 jBeg9 jWs9 jLft9 jWai9 ∧ P now9 rnd9 jm rp sc dc cn sUp sLen9 sWrk9 sReg9 sFst9 sLst9 dPol dPtr dCnt9 dIdl9 dKnw9 jCnt jFin9 jBeg9 jWs9 jMis jSrv jLft9 jSub jWai9 jNxt cnd H) A) 0 0 A := by
  refine k_body (cc := cX3_passTick) (own := RX3) (maxL := 2) (ret := none) (lv0 := [(0, .ref a)]) (by decide) rfl rfl (Nat.le_of_ble_eq_true rfl) rfl (fun p e s m below meth c C hr hlk hP hE => ?_)
  have hi3 : ∀ w ∈ u_ws RX3 TX3 11, w ∈ wsX3_passTick := by decide +kernel
  have lk0 := C.2.2.2.2 (.fieldLink RX3 9 "IdleDispatcher$State" "now" "I") (by decide +kernel)
  have lk1 := C.2.2.2.2 (.fieldLink RX3 25 "IdleDispatcher$State" "serverCount" "I") (by decide +kernel)
  have lk2 := C.2.2.2.2 (.fieldLink RX3 22 "IdleDispatcher$State" "reportPeriod" "I") (by decide +kernel)
  refine k_aload_n C dX3_passTick_0 0 rfl ?_
  refine k_dup C dX3_passTick_1 rfl ?_
  refine g_now C (foc_g F) hE.1 hi3 lk0 dX3_passTick_2 ?_
  refine k_iconst (v := 1) C dX3_passTick_5 (by decide) ?_
  refine k_iadd C dX3_passTick_6 ?_
  refine k_topi (fun x1 ex1 => ?_)
  replace h := h x1 ex1
  refine p_now C F hA hE.1 hi3 lk0 dX3_passTick_7 ?_
  refine k_iconst (v := 0) C dX3_passTick_10 (by decide) ?_
  refine k_istore_n (lv' := [(1, .int 0), (0, .ref a)]) C dX3_passTick_11 rfl (by decide) rfl ?_
  obtain ⟨n12, h⟩ := h
  refine k_pc (pc2 := 12) rfl ?_
  refine k_loop14 (wp_X3_passTick_L12 sc rp k x1 dKnw dc jm sUp jSub jNxt) (fun x2 rnd_3 sLen_4 sWrk_5 sReg_6 sFst_7 sLst_8 dCnt_9 dIdl_10 jFin_11 jBeg_12 jWs_13 jLft_14 jWai_15 => P x1 rnd_3 jm rp sc dc cn sUp sLen_4 sWrk_5 sReg_6 sFst_7 sLst_8 dPol dPtr dCnt_9 dIdl_10 dKnw jCnt jFin_11 jBeg_12 jWs_13 jMis jSrv jLft_14 jSub jWai_15 jNxt cnd) (fun x2 rnd_3 sLen_4 sWrk_5 sReg_6 sFst_7 sLst_8 dCnt_9 dIdl_10 jFin_11 jBeg_12 jWs_13 jLft_14 jWai_15 => [(1, .int x2), (0, .ref a)]) (fun _ _ _ _ _ _ _ _ _ _ _ _ _ _ h => h) (fun n12 ih12 x2 rnd_3 sLen_4 sWrk_5 sReg_6 sFst_7 sLst_8 dCnt_9 dIdl_10 jFin_11 jBeg_12 jWs_13 jLft_14 jWai_15 h => ?_) n12 _ _ _ _ _ _ _ _ _ _ _ _ _ _ h
  refine k_iload_n C dX3_passTick_12 0 rfl ?_
  refine k_aload_n C dX3_passTick_13 1 rfl ?_
  refine g_sc C (foc_g F) hE.1 hi3 lk1 dX3_passTick_14 ?_
  refine k_icmp_ge (tgt := 31) C dX3_passTick_17 (by decide) (fun c16 => ?_) (fun c16 => ?_)
  · replace h := h.1 c16
    refine k_aload_n C dX3_passTick_31 1 rfl ?_
    refine g_rp C (foc_g F) hE.1 hi3 lk2 dX3_passTick_32 ?_
    refine k_if_le (tgt := 54) C dX3_passTick_35 (by decide) (fun c17 => ?_) (fun c17 => ?_)
    · replace h := h.1 c17
      exact k_vret C hr hlk dX3_passTick_54 (fun H hP => ⟨x1, rnd_3, sLen_4, sWrk_5, sReg_6, sFst_7, sLst_8, dCnt_9, dIdl_10, dKnw, jFin_11, jBeg_12, jWs_13, jLft_14, jWai_15, h, hP⟩)
    · replace h := h.2 c17
      refine k_aload_n C dX3_passTick_38 1 rfl ?_
      refine g_now C (foc_g F) hE.1 hi3 lk0 dX3_passTick_39 ?_
      refine k_aload_n C dX3_passTick_42 1 rfl ?_
      refine g_rp C (foc_g F) hE.1 hi3 lk2 dX3_passTick_43 ?_
      obtain ⟨q18, h⟩ := h
      refine k_irem C dX3_passTick_46 q18 ?_
      refine k_if_ne (tgt := 54) C dX3_passTick_47 (by decide) (fun c19 => ?_) (fun c19 => ?_)
      · replace h := h.2 c19
        exact k_vret C hr hlk dX3_passTick_54 (fun H hP => ⟨x1, rnd_3, sLen_4, sWrk_5, sReg_6, sFst_7, sLst_8, dCnt_9, dIdl_10, dKnw, jFin_11, jBeg_12, jWs_13, jLft_14, jWai_15, h, hP⟩)
      · replace h := h.1 c19
        refine k_aload_n C dX3_passTick_50 1 rfl ?_
        refine k_callVv (st := []) C hE (c_X3_report l F hA x1 rnd_3 jm rp sc dc cn sUp sLen_4 sWrk_5 sReg_6 sFst_7 sLst_8 dPol dPtr dCnt_9 dIdl_10 dKnw jCnt jFin_11 jBeg_12 jWs_13 jMis jSrv jLft_14 jSub jWai_15 jNxt cnd   _ h) (cwV 0 C.2.2.2.2 gX3_passTick_X3_report rfl rfl rfl (by decide +kernel) ⟨Nat.le_of_ble_eq_true rfl, Nat.le_of_ble_eq_true rfl⟩) (fun H hP => va_recv hE.1 (k_one (st_St ((foc_g F) H hP))) rfl (q0 := 0) rfl) rfl rfl (Nat.le_of_ble_eq_true rfl) dX3_passTick_51 ⟨Nat.zero_le _, Nat.zero_le _⟩ (fun _ => ?_)
        refine k_ex (fun dKnw_20 => k_and (fun h => ?_))
        exact k_vret C hr hlk dX3_passTick_54 (fun H hP => ⟨x1, rnd_3, sLen_4, sWrk_5, sReg_6, sFst_7, sLst_8, dCnt_9, dIdl_10, dKnw_20, jFin_11, jBeg_12, jWs_13, jLft_14, jWai_15, h, hP⟩)
  · replace h := h.2 c16
    refine k_aload_n C dX3_passTick_20 1 rfl ?_
    refine k_iload_n C dX3_passTick_21 0 rfl ?_
    refine k_callVv (st := []) C hE (c_X3_serve l F hA x1 rnd_3 jm rp sc dc cn sUp sLen_4 sWrk_5 sReg_6 sFst_7 sLst_8 dPol dPtr dCnt_9 dIdl_10 dKnw jCnt jFin_11 jBeg_12 jWs_13 jMis jSrv jLft_14 jSub jWai_15 jNxt cnd x2  _ h) (cwV 1 C.2.2.2.2 gX3_passTick_X3_serve rfl rfl rfl (by decide +kernel) ⟨Nat.le_of_ble_eq_true rfl, Nat.le_of_ble_eq_true rfl⟩) (fun H hP => va_recv hE.1 (k_one (st_St ((foc_g F) H hP))) rfl (q0 := 0) rfl) rfl rfl (Nat.le_of_ble_eq_true rfl) dX3_passTick_22 ⟨Nat.zero_le _, Nat.zero_le _⟩ (fun _ => ?_)
    refine k_ex (fun rnd_21 => k_ex (fun sLen_22 => k_ex (fun sWrk_23 => k_ex (fun sReg_24 => k_ex (fun sFst_25 => k_ex (fun sLst_26 => k_ex (fun dCnt_27 => k_ex (fun dIdl_28 => k_ex (fun jFin_29 => k_ex (fun jBeg_30 => k_ex (fun jWs_31 => k_ex (fun jLft_32 => k_ex (fun jWai_33 => k_and (fun h => ?_))))))))))))))
    obtain ⟨x34, ex34⟩ : ∃ z : Int32, z = x2 + 1 := ⟨_, rfl⟩
    replace h := h x34 ex34
    refine k_iinc (v := x34) (lv' := [(1, .int x34), (0, .ref a)]) (j := 0) C dX3_passTick_25 rfl (by rw [ex34]; rfl) (by decide) rfl ?_
    refine k_goto (tgt := 12) C dX3_passTick_28 (by decide) ?_
    refine k_pc (pc2 := 12) rfl ?_
    refine k_sub [0, 1] rfl ?_
    exact ih12 _ _ _ _ _ _ _ _ _ _ _ _ _ _ h
noncomputable def wp_X3_mixAll_L92 (dc : Int32) (jCnt : Int32) (jFin : Int32) (jWs : Int32) (jMis : Int32) (k : Int64 → Prop) (dPol : Nat → Int32) (dPtr : Nat → Int32) (dCnt : Nat → Int32) (dIdl : Nat → Nat → Int32) (dKnw : Nat → Nat → Int32) (sc : Int32) (fu : Nat) : Int32 → Int64 → Prop := Nat.rec (motive := fun _ => Int32 → Int64 → Prop) (fun _ _ => False) (fun _ rec92 x10 x11 => (dc ≤ x10 → (wp_X4_mix x11 (jCnt.toInt64) (fun r13 => wp_X4_mix r13 (jFin.toInt64) (fun r14 => wp_X4_mix r14 (jWs.toInt64) (fun r15 => wp_X4_mix r15 (jMis.toInt64) (fun r16 => k r16)))))) ∧ (¬ (dc ≤ x10) → ((vp_in x10 4) ∧ (wp_X0_mixAll dPol dPtr dCnt dIdl dKnw (x10.toNatClampNeg) x11 sc (fun r18 => ∀ x19 : Int32, x19 = x10 + 1 → (rec92 x19 r18)))))) fu
noncomputable def wp_X3_mixAll_L52 (sc : Int32) (dc : Int32) (jCnt : Int32) (jFin : Int32) (jWs : Int32) (jMis : Int32) (k : Int64 → Prop) (dPol : Nat → Int32) (dPtr : Nat → Int32) (dCnt : Nat → Int32) (dIdl : Nat → Nat → Int32) (dKnw : Nat → Nat → Int32) (sUp : Nat → Int32) (sLen : Nat → Int32) (sWrk : Nat → Int32) (sReg : Nat → Int32) (fu : Nat) : Int32 → Int64 → Prop := Nat.rec (motive := fun _ => Int32 → Int64 → Prop) (fun _ _ => False) (fun _ rec52 x6 x7 => (sc ≤ x6 → (wp_X4_mix x7 (dc.toInt64) (fun r9 => ∃ fu, wp_X3_mixAll_L92 dc jCnt jFin jWs jMis k dPol dPtr dCnt dIdl dKnw sc fu 0 r9))) ∧ (¬ (sc ≤ x6) → ((vp_in x6 8) ∧ (wp_X2_mixAll sUp sLen sWrk sReg (x6.toNatClampNeg) x7 (fun r21 => ∀ x22 : Int32, x22 = x6 + 1 → (rec52 x22 r21)))))) fu
noncomputable def wp_X3_mixAll (now : Int32) (rnd : Int64) (jm : Int32) (rp : Int32) (sc : Int32) (dc : Int32) (sUp : Nat → Int32) (sLen : Nat → Int32) (sWrk : Nat → Int32) (sReg : Nat → Int32) (dPol : Nat → Int32) (dPtr : Nat → Int32) (dCnt : Nat → Int32) (dIdl : Nat → Nat → Int32) (dKnw : Nat → Nat → Int32) (jCnt : Int32) (jFin : Int32) (jWs : Int32) (jMis : Int32) (start : Int64) (k : Int64 → Prop) : Prop := wp_X4_mix start (now.toInt64) (fun r1 => wp_X4_mix r1 rnd (fun r2 => wp_X4_mix r2 (jm.toInt64) (fun r3 => wp_X4_mix r3 (rp.toInt64) (fun r4 => wp_X4_mix r4 (sc.toInt64) (fun r5 => ∃ fu, wp_X3_mixAll_L52 sc dc jCnt jFin jWs jMis k dPol dPtr dCnt dIdl dKnw sUp sLen sWrk sReg fu 0 r5)))))
set_option maxRecDepth 100000 in
set_option maxHeartbeats 4000000 in
theorem c_X3_mixAll (l : Launch) {E : EV} {a : Nat} {P : PF} {A : Nat → Prop} (F : Foc E a P) (hA : ∀ q, inSt a q → A q) (now : Int32) (rnd : Int64) (jm : Int32) (rp : Int32) (sc : Int32) (dc : Int32) (cn : Int32) (sUp : Nat → Int32) (sLen : Nat → Int32) (sWrk : Nat → Int32) (sReg : Nat → Int32) (sFst : Nat → Int32) (sLst : Nat → Int32) (dPol : Nat → Int32) (dPtr : Nat → Int32) (dCnt : Nat → Int32) (dIdl : Nat → Nat → Int32) (dKnw : Nat → Nat → Int32) (jCnt : Int32) (jFin : Int32) (jBeg : Int32) (jWs : Int32) (jMis : Int32) (jSrv : Nat → Int32) (jLft : Nat → Int32) (jSub : Nat → Int32) (jWai : Nat → Int32) (jNxt : Nat → Int32) (cnd : Nat → Int32) (start : Int64)  (k : Int64 → Prop) (h : wp_X3_mixAll now rnd jm rp sc dc sUp sLen sWrk sReg dPol dPtr dCnt dIdl dKnw jCnt jFin jWs jMis start k) : Met l yX3_mixAll wsX3_mixAll { frames := 2, cells := 0, slots := 0, locals := 49 } (va_Pc [.ref a, .long start] (fun U => P now rnd jm rp sc dc cn sUp sLen sWrk sReg sFst sLst dPol dPtr dCnt dIdl dKnw jCnt jFin jBeg jWs jMis jSrv jLft jSub jWai jNxt cnd U.heap ∧ XE E U)) (kQl (fun r H => k r ∧ P now rnd jm rp sc dc cn sUp sLen sWrk sReg sFst sLst dPol dPtr dCnt dIdl dKnw jCnt jFin jBeg jWs jMis jSrv jLft jSub jWai jNxt cnd H) A) 0 0 A := by
  refine k_body (cc := cX3_mixAll) (own := RX3) (maxL := 6) (ret := (some .long)) (lv0 := [(0, .ref a), (1, .long start)]) (by decide) rfl rfl (Nat.le_of_ble_eq_true rfl) rfl (fun p e s m below meth c C hr hlk hP hE => ?_)
  have hi3 : ∀ w ∈ u_ws RX3 TX3 11, w ∈ wsX3_mixAll := by decide +kernel
  have hi1 : ∀ w ∈ u_ws RX1 TX1 10, w ∈ wsX3_mixAll := by decide +kernel
  have lk0 := C.2.2.2.2 (.fieldLink RX3 9 "IdleDispatcher$State" "now" "I") (by decide +kernel)
  have lk1 := C.2.2.2.2 (.fieldLink RX3 15 "IdleDispatcher$State" "random" "J") (by decide +kernel)
  have lk2 := C.2.2.2.2 (.fieldLink RX3 19 "IdleDispatcher$State" "joinMode" "I") (by decide +kernel)
  have lk3 := C.2.2.2.2 (.fieldLink RX3 22 "IdleDispatcher$State" "reportPeriod" "I") (by decide +kernel)
  have lk4 := C.2.2.2.2 (.fieldLink RX3 25 "IdleDispatcher$State" "serverCount" "I") (by decide +kernel)
  have lk5 := C.2.2.2.2 (.fieldLink RX3 28 "IdleDispatcher$State" "dispatcherCount" "I") (by decide +kernel)
  have lk6 := C.2.2.2.2 (.fieldLink RX3 48 "IdleDispatcher$State" "jobs" "LIdleDispatcher$Jobs;") (by decide +kernel)
  have lk7 := C.2.2.2.2 (.fieldLink RX3 215 "IdleDispatcher$Jobs" "count" "I") (by decide +kernel)
  have lk8 := C.2.2.2.2 (.fieldLink RX3 201 "IdleDispatcher$Jobs" "finished" "I") (by decide +kernel)
  have lk9 := C.2.2.2.2 (.fieldLink RX3 218 "IdleDispatcher$Jobs" "waitSum" "I") (by decide +kernel)
  have lk10 := C.2.2.2.2 (.fieldLink RX3 159 "IdleDispatcher$Jobs" "missed" "I") (by decide +kernel)
  have lk11 := C.2.2.2.2 (.fieldLink RX3 40 "IdleDispatcher$State" "dispatchers" "[LIdleDispatcher$Dispatcher;") (by decide +kernel)
  have lk12 := C.2.2.2.2 (.fieldLink RX3 33 "IdleDispatcher$State" "servers" "[LIdleDispatcher$Server;") (by decide +kernel)
  refine k_lload_n C dX3_mixAll_0 1 rfl ?_
  refine k_aload_n C dX3_mixAll_1 0 rfl ?_
  refine g_now C (foc_g F) hE.1 hi3 lk0 dX3_mixAll_2 ?_
  refine k_i2l C dX3_mixAll_5 ?_
  refine k_callNl (st := []) C hE (c_X4_mix l (P := P now rnd jm rp sc dc cn sUp sLen sWrk sReg sFst sLst dPol dPtr dCnt dIdl dKnw jCnt jFin jBeg jWs jMis jSrv jLft jSub jWai jNxt cnd) (A := A) (E := E) start (now.toInt64) _ h) ⟨va_cnB 2 C.2.2.2.2 gX3_mixAll_X4_mix_n204 rfl rfl rfl hE.2.2.2 (C.2.2.2.2 _ (by decide +kernel : (.initialized RX4 : Cond) ∈ wsX3_mixAll)) (by decide +kernel) ⟨Nat.le_of_ble_eq_true rfl, Nat.le_of_ble_eq_true rfl⟩, C.2.2.2.2 _ (by decide +kernel : (.static yX4_mix : Cond) ∈ wsX3_mixAll), trivial⟩ rfl rfl (Nat.le_of_ble_eq_true rfl) dX3_mixAll_6 ⟨Nat.zero_le _, Nat.zero_le _⟩ (fun r1 => ?_)
  refine k_and (fun h => ?_)
  refine k_lstore_n (lv' := [(3, .long r1), (0, .ref a), (1, .long start)]) C dX3_mixAll_9 rfl (by decide) rfl ?_
  refine k_lload_n C dX3_mixAll_10 0 rfl ?_
  refine k_aload_n C dX3_mixAll_11 1 rfl ?_
  refine g_rnd C (foc_g F) hE.1 hi3 lk1 dX3_mixAll_12 ?_
  refine k_callNl (st := []) C hE (c_X4_mix l (P := P now rnd jm rp sc dc cn sUp sLen sWrk sReg sFst sLst dPol dPtr dCnt dIdl dKnw jCnt jFin jBeg jWs jMis jSrv jLft jSub jWai jNxt cnd) (A := A) (E := E) r1 rnd _ h) ⟨va_cnB 2 C.2.2.2.2 gX3_mixAll_X4_mix_n204 rfl rfl rfl hE.2.2.2 (C.2.2.2.2 _ (by decide +kernel : (.initialized RX4 : Cond) ∈ wsX3_mixAll)) (by decide +kernel) ⟨Nat.le_of_ble_eq_true rfl, Nat.le_of_ble_eq_true rfl⟩, C.2.2.2.2 _ (by decide +kernel : (.static yX4_mix : Cond) ∈ wsX3_mixAll), trivial⟩ rfl rfl (Nat.le_of_ble_eq_true rfl) dX3_mixAll_15 ⟨Nat.zero_le _, Nat.zero_le _⟩ (fun r2 => ?_)
  refine k_and (fun h => ?_)
  refine k_lstore_n (lv' := [(3, .long r2), (0, .ref a), (1, .long start)]) C dX3_mixAll_18 rfl (by decide) rfl ?_
  refine k_lload_n C dX3_mixAll_19 0 rfl ?_
  refine k_aload_n C dX3_mixAll_20 1 rfl ?_
  refine g_jm C (foc_g F) hE.1 hi3 lk2 dX3_mixAll_21 ?_
  refine k_i2l C dX3_mixAll_24 ?_
  refine k_callNl (st := []) C hE (c_X4_mix l (P := P now rnd jm rp sc dc cn sUp sLen sWrk sReg sFst sLst dPol dPtr dCnt dIdl dKnw jCnt jFin jBeg jWs jMis jSrv jLft jSub jWai jNxt cnd) (A := A) (E := E) r2 (jm.toInt64) _ h) ⟨va_cnB 2 C.2.2.2.2 gX3_mixAll_X4_mix_n204 rfl rfl rfl hE.2.2.2 (C.2.2.2.2 _ (by decide +kernel : (.initialized RX4 : Cond) ∈ wsX3_mixAll)) (by decide +kernel) ⟨Nat.le_of_ble_eq_true rfl, Nat.le_of_ble_eq_true rfl⟩, C.2.2.2.2 _ (by decide +kernel : (.static yX4_mix : Cond) ∈ wsX3_mixAll), trivial⟩ rfl rfl (Nat.le_of_ble_eq_true rfl) dX3_mixAll_25 ⟨Nat.zero_le _, Nat.zero_le _⟩ (fun r3 => ?_)
  refine k_and (fun h => ?_)
  refine k_lstore_n (lv' := [(3, .long r3), (0, .ref a), (1, .long start)]) C dX3_mixAll_28 rfl (by decide) rfl ?_
  refine k_lload_n C dX3_mixAll_29 0 rfl ?_
  refine k_aload_n C dX3_mixAll_30 1 rfl ?_
  refine g_rp C (foc_g F) hE.1 hi3 lk3 dX3_mixAll_31 ?_
  refine k_i2l C dX3_mixAll_34 ?_
  refine k_callNl (st := []) C hE (c_X4_mix l (P := P now rnd jm rp sc dc cn sUp sLen sWrk sReg sFst sLst dPol dPtr dCnt dIdl dKnw jCnt jFin jBeg jWs jMis jSrv jLft jSub jWai jNxt cnd) (A := A) (E := E) r3 (rp.toInt64) _ h) ⟨va_cnB 2 C.2.2.2.2 gX3_mixAll_X4_mix_n204 rfl rfl rfl hE.2.2.2 (C.2.2.2.2 _ (by decide +kernel : (.initialized RX4 : Cond) ∈ wsX3_mixAll)) (by decide +kernel) ⟨Nat.le_of_ble_eq_true rfl, Nat.le_of_ble_eq_true rfl⟩, C.2.2.2.2 _ (by decide +kernel : (.static yX4_mix : Cond) ∈ wsX3_mixAll), trivial⟩ rfl rfl (Nat.le_of_ble_eq_true rfl) dX3_mixAll_35 ⟨Nat.zero_le _, Nat.zero_le _⟩ (fun r4 => ?_)
  refine k_and (fun h => ?_)
  refine k_lstore_n (lv' := [(3, .long r4), (0, .ref a), (1, .long start)]) C dX3_mixAll_38 rfl (by decide) rfl ?_
  refine k_lload_n C dX3_mixAll_39 0 rfl ?_
  refine k_aload_n C dX3_mixAll_40 1 rfl ?_
  refine g_sc C (foc_g F) hE.1 hi3 lk4 dX3_mixAll_41 ?_
  refine k_i2l C dX3_mixAll_44 ?_
  refine k_callNl (st := []) C hE (c_X4_mix l (P := P now rnd jm rp sc dc cn sUp sLen sWrk sReg sFst sLst dPol dPtr dCnt dIdl dKnw jCnt jFin jBeg jWs jMis jSrv jLft jSub jWai jNxt cnd) (A := A) (E := E) r4 (sc.toInt64) _ h) ⟨va_cnB 2 C.2.2.2.2 gX3_mixAll_X4_mix_n204 rfl rfl rfl hE.2.2.2 (C.2.2.2.2 _ (by decide +kernel : (.initialized RX4 : Cond) ∈ wsX3_mixAll)) (by decide +kernel) ⟨Nat.le_of_ble_eq_true rfl, Nat.le_of_ble_eq_true rfl⟩, C.2.2.2.2 _ (by decide +kernel : (.static yX4_mix : Cond) ∈ wsX3_mixAll), trivial⟩ rfl rfl (Nat.le_of_ble_eq_true rfl) dX3_mixAll_45 ⟨Nat.zero_le _, Nat.zero_le _⟩ (fun r5 => ?_)
  refine k_and (fun h => ?_)
  refine k_lstore_n (lv' := [(3, .long r5), (0, .ref a), (1, .long start)]) C dX3_mixAll_48 rfl (by decide) rfl ?_
  refine k_iconst (v := 0) C dX3_mixAll_49 (by decide) ?_
  refine k_istore (lv' := [(5, .int 0), (3, .long r5), (0, .ref a), (1, .long start)]) C dX3_mixAll_50 (by decide) rfl ?_
  obtain ⟨n52, h⟩ := h
  refine k_pc (pc2 := 52) rfl ?_
  refine k_loop2 (wp_X3_mixAll_L52 sc dc jCnt jFin jWs jMis k dPol dPtr dCnt dIdl dKnw sUp sLen sWrk sReg) (fun x6 x7 => P now rnd jm rp sc dc cn sUp sLen sWrk sReg sFst sLst dPol dPtr dCnt dIdl dKnw jCnt jFin jBeg jWs jMis jSrv jLft jSub jWai jNxt cnd) (fun x6 x7 => [(5, .int x6), (3, .long x7), (0, .ref a), (1, .long start)]) (fun _ _ h => h) (fun n52 ih52 x6 x7 h => ?_) n52 _ _ h
  refine k_iload C dX3_mixAll_52 0 rfl ?_
  refine k_aload_n C dX3_mixAll_54 2 rfl ?_
  refine g_sc C (foc_g F) hE.1 hi3 lk4 dX3_mixAll_55 ?_
  refine k_icmp_ge (tgt := 79) C dX3_mixAll_58 (by decide) (fun c8 => ?_) (fun c8 => ?_)
  · replace h := h.1 c8
    refine k_lload_n C dX3_mixAll_79 1 rfl ?_
    refine k_aload_n C dX3_mixAll_80 2 rfl ?_
    refine g_dc C (foc_g F) hE.1 hi3 lk5 dX3_mixAll_81 ?_
    refine k_i2l C dX3_mixAll_84 ?_
    refine k_callNl (st := []) C hE (c_X4_mix l (P := P now rnd jm rp sc dc cn sUp sLen sWrk sReg sFst sLst dPol dPtr dCnt dIdl dKnw jCnt jFin jBeg jWs jMis jSrv jLft jSub jWai jNxt cnd) (A := A) (E := E) x7 (dc.toInt64) _ h) ⟨va_cnB 2 C.2.2.2.2 gX3_mixAll_X4_mix_n204 rfl rfl rfl hE.2.2.2 (C.2.2.2.2 _ (by decide +kernel : (.initialized RX4 : Cond) ∈ wsX3_mixAll)) (by decide +kernel) ⟨Nat.le_of_ble_eq_true rfl, Nat.le_of_ble_eq_true rfl⟩, C.2.2.2.2 _ (by decide +kernel : (.static yX4_mix : Cond) ∈ wsX3_mixAll), trivial⟩ rfl rfl (Nat.le_of_ble_eq_true rfl) dX3_mixAll_85 ⟨Nat.zero_le _, Nat.zero_le _⟩ (fun r9 => ?_)
    refine k_and (fun h => ?_)
    refine k_lstore_n (lv' := [(3, .long r9), (5, .int x6), (0, .ref a), (1, .long start)]) C dX3_mixAll_88 rfl (by decide) rfl ?_
    refine k_iconst (v := 0) C dX3_mixAll_89 (by decide) ?_
    refine k_istore (lv' := [(5, .int 0), (3, .long r9), (0, .ref a), (1, .long start)]) C dX3_mixAll_90 (by decide) rfl ?_
    obtain ⟨n92, h⟩ := h
    refine k_pc (pc2 := 92) rfl ?_
    refine k_loop2 (wp_X3_mixAll_L92 dc jCnt jFin jWs jMis k dPol dPtr dCnt dIdl dKnw sc) (fun x10 x11 => P now rnd jm rp sc dc cn sUp sLen sWrk sReg sFst sLst dPol dPtr dCnt dIdl dKnw jCnt jFin jBeg jWs jMis jSrv jLft jSub jWai jNxt cnd) (fun x10 x11 => [(5, .int x10), (3, .long x11), (0, .ref a), (1, .long start)]) (fun _ _ h => h) (fun n92 ih92 x10 x11 h => ?_) n92 _ _ h
    refine k_iload C dX3_mixAll_92 0 rfl ?_
    refine k_aload_n C dX3_mixAll_94 2 rfl ?_
    refine g_dc C (foc_g F) hE.1 hi3 lk5 dX3_mixAll_95 ?_
    refine k_icmp_ge (tgt := 123) C dX3_mixAll_98 (by decide) (fun c12 => ?_) (fun c12 => ?_)
    · replace h := h.1 c12
      refine k_lload_n C dX3_mixAll_123 1 rfl ?_
      refine k_aload_n C dX3_mixAll_124 2 rfl ?_
      refine g_St_jobs C (foc_g F) hE.1 hi3 lk6 dX3_mixAll_125 ?_
      refine g_jCnt C (foc_g F) hE.1 hi1 lk7 dX3_mixAll_128 ?_
      refine k_i2l C dX3_mixAll_131 ?_
      refine k_callNl (st := []) C hE (c_X4_mix l (P := P now rnd jm rp sc dc cn sUp sLen sWrk sReg sFst sLst dPol dPtr dCnt dIdl dKnw jCnt jFin jBeg jWs jMis jSrv jLft jSub jWai jNxt cnd) (A := A) (E := E) x11 (jCnt.toInt64) _ h) ⟨va_cnB 2 C.2.2.2.2 gX3_mixAll_X4_mix_n204 rfl rfl rfl hE.2.2.2 (C.2.2.2.2 _ (by decide +kernel : (.initialized RX4 : Cond) ∈ wsX3_mixAll)) (by decide +kernel) ⟨Nat.le_of_ble_eq_true rfl, Nat.le_of_ble_eq_true rfl⟩, C.2.2.2.2 _ (by decide +kernel : (.static yX4_mix : Cond) ∈ wsX3_mixAll), trivial⟩ rfl rfl (Nat.le_of_ble_eq_true rfl) dX3_mixAll_132 ⟨Nat.zero_le _, Nat.zero_le _⟩ (fun r13 => ?_)
      refine k_and (fun h => ?_)
      refine k_lstore_n (lv' := [(3, .long r13), (5, .int x10), (0, .ref a), (1, .long start)]) C dX3_mixAll_135 rfl (by decide) rfl ?_
      refine k_lload_n C dX3_mixAll_136 0 rfl ?_
      refine k_aload_n C dX3_mixAll_137 2 rfl ?_
      refine g_St_jobs C (foc_g F) hE.1 hi3 lk6 dX3_mixAll_138 ?_
      refine g_jFin C (foc_g F) hE.1 hi1 lk8 dX3_mixAll_141 ?_
      refine k_i2l C dX3_mixAll_144 ?_
      refine k_callNl (st := []) C hE (c_X4_mix l (P := P now rnd jm rp sc dc cn sUp sLen sWrk sReg sFst sLst dPol dPtr dCnt dIdl dKnw jCnt jFin jBeg jWs jMis jSrv jLft jSub jWai jNxt cnd) (A := A) (E := E) r13 (jFin.toInt64) _ h) ⟨va_cnB 2 C.2.2.2.2 gX3_mixAll_X4_mix_n204 rfl rfl rfl hE.2.2.2 (C.2.2.2.2 _ (by decide +kernel : (.initialized RX4 : Cond) ∈ wsX3_mixAll)) (by decide +kernel) ⟨Nat.le_of_ble_eq_true rfl, Nat.le_of_ble_eq_true rfl⟩, C.2.2.2.2 _ (by decide +kernel : (.static yX4_mix : Cond) ∈ wsX3_mixAll), trivial⟩ rfl rfl (Nat.le_of_ble_eq_true rfl) dX3_mixAll_145 ⟨Nat.zero_le _, Nat.zero_le _⟩ (fun r14 => ?_)
      refine k_and (fun h => ?_)
      refine k_lstore_n (lv' := [(3, .long r14), (5, .int x10), (0, .ref a), (1, .long start)]) C dX3_mixAll_148 rfl (by decide) rfl ?_
      refine k_lload_n C dX3_mixAll_149 0 rfl ?_
      refine k_aload_n C dX3_mixAll_150 2 rfl ?_
      refine g_St_jobs C (foc_g F) hE.1 hi3 lk6 dX3_mixAll_151 ?_
      refine g_jWs C (foc_g F) hE.1 hi1 lk9 dX3_mixAll_154 ?_
      refine k_i2l C dX3_mixAll_157 ?_
      refine k_callNl (st := []) C hE (c_X4_mix l (P := P now rnd jm rp sc dc cn sUp sLen sWrk sReg sFst sLst dPol dPtr dCnt dIdl dKnw jCnt jFin jBeg jWs jMis jSrv jLft jSub jWai jNxt cnd) (A := A) (E := E) r14 (jWs.toInt64) _ h) ⟨va_cnB 2 C.2.2.2.2 gX3_mixAll_X4_mix_n204 rfl rfl rfl hE.2.2.2 (C.2.2.2.2 _ (by decide +kernel : (.initialized RX4 : Cond) ∈ wsX3_mixAll)) (by decide +kernel) ⟨Nat.le_of_ble_eq_true rfl, Nat.le_of_ble_eq_true rfl⟩, C.2.2.2.2 _ (by decide +kernel : (.static yX4_mix : Cond) ∈ wsX3_mixAll), trivial⟩ rfl rfl (Nat.le_of_ble_eq_true rfl) dX3_mixAll_158 ⟨Nat.zero_le _, Nat.zero_le _⟩ (fun r15 => ?_)
      refine k_and (fun h => ?_)
      refine k_lstore_n (lv' := [(3, .long r15), (5, .int x10), (0, .ref a), (1, .long start)]) C dX3_mixAll_161 rfl (by decide) rfl ?_
      refine k_lload_n C dX3_mixAll_162 0 rfl ?_
      refine k_aload_n C dX3_mixAll_163 2 rfl ?_
      refine g_St_jobs C (foc_g F) hE.1 hi3 lk6 dX3_mixAll_164 ?_
      refine g_jMis C (foc_g F) hE.1 hi1 lk10 dX3_mixAll_167 ?_
      refine k_i2l C dX3_mixAll_170 ?_
      refine k_callNl (st := []) C hE (c_X4_mix l (P := P now rnd jm rp sc dc cn sUp sLen sWrk sReg sFst sLst dPol dPtr dCnt dIdl dKnw jCnt jFin jBeg jWs jMis jSrv jLft jSub jWai jNxt cnd) (A := A) (E := E) r15 (jMis.toInt64) _ h) ⟨va_cnB 2 C.2.2.2.2 gX3_mixAll_X4_mix_n204 rfl rfl rfl hE.2.2.2 (C.2.2.2.2 _ (by decide +kernel : (.initialized RX4 : Cond) ∈ wsX3_mixAll)) (by decide +kernel) ⟨Nat.le_of_ble_eq_true rfl, Nat.le_of_ble_eq_true rfl⟩, C.2.2.2.2 _ (by decide +kernel : (.static yX4_mix : Cond) ∈ wsX3_mixAll), trivial⟩ rfl rfl (Nat.le_of_ble_eq_true rfl) dX3_mixAll_171 ⟨Nat.zero_le _, Nat.zero_le _⟩ (fun r16 => ?_)
      refine k_and (fun h => ?_)
      exact k_lret C hr hlk dX3_mixAll_174 (fun H hP => ⟨h, hP⟩)
    · replace h := h.2 c12
      refine k_aload_n C dX3_mixAll_101 2 rfl ?_
      refine g_St_dispatchers C (foc_g F) hE.1 hi3 lk11 dX3_mixAll_102 ?_
      refine k_iload C dX3_mixAll_105 0 rfl ?_
      obtain ⟨q17, h⟩ := h
      refine g_DA C (foc_g F) hE.1 q17 dX3_mixAll_107 ?_
      refine k_lload_n C dX3_mixAll_108 1 rfl ?_
      refine k_aload_n C dX3_mixAll_109 2 rfl ?_
      refine g_sc C (foc_g F) hE.1 hi3 lk4 dX3_mixAll_110 ?_
      refine k_callVl (st := []) C hE (c_X0_mixAll l F hA now rnd jm rp sc dc cn sUp sLen sWrk sReg sFst sLst dPol dPtr dCnt dIdl dKnw jCnt jFin jBeg jWs jMis jSrv jLft jSub jWai jNxt cnd (x10.toNatClampNeg) x11 sc (vp_lt q17) _ h) (cwV 2 C.2.2.2.2 gX3_mixAll_X0_mixAll rfl rfl rfl (by decide +kernel) ⟨Nat.le_of_ble_eq_true rfl, Nat.le_of_ble_eq_true rfl⟩) (fun H hP => va_recv hE.1 (k_one (st_Di (vp_lt q17) ((foc_g F) H hP))) rfl (q0 := 0) rfl) rfl rfl (Nat.le_of_ble_eq_true rfl) dX3_mixAll_113 ⟨Nat.zero_le _, Nat.zero_le _⟩ (fun r18 => ?_)
      refine k_and (fun h => ?_)
      refine k_lstore_n (lv' := [(3, .long r18), (5, .int x10), (0, .ref a), (1, .long start)]) C dX3_mixAll_116 rfl (by decide) rfl ?_
      obtain ⟨x19, ex19⟩ : ∃ z : Int32, z = x10 + 1 := ⟨_, rfl⟩
      replace h := h x19 ex19
      refine k_iinc (v := x19) (lv' := [(5, .int x19), (3, .long r18), (0, .ref a), (1, .long start)]) (j := 1) C dX3_mixAll_117 rfl (by rw [ex19]; rfl) (by decide) rfl ?_
      refine k_goto (tgt := 92) C dX3_mixAll_120 (by decide) ?_
      refine k_pc (pc2 := 92) rfl ?_
      refine k_sub [0, 1, 2, 3] rfl ?_
      exact ih92 _ _ h
  · replace h := h.2 c8
    refine k_aload_n C dX3_mixAll_61 2 rfl ?_
    refine g_St_servers C (foc_g F) hE.1 hi3 lk12 dX3_mixAll_62 ?_
    refine k_iload C dX3_mixAll_65 0 rfl ?_
    obtain ⟨q20, h⟩ := h
    refine g_SA C (foc_g F) hE.1 q20 dX3_mixAll_67 ?_
    refine k_lload_n C dX3_mixAll_68 1 rfl ?_
    refine k_callVl (st := []) C hE (c_X2_mixAll l F hA now rnd jm rp sc dc cn sUp sLen sWrk sReg sFst sLst dPol dPtr dCnt dIdl dKnw jCnt jFin jBeg jWs jMis jSrv jLft jSub jWai jNxt cnd (x6.toNatClampNeg) x7 (vp_lt q20) _ h) (cwV 1 C.2.2.2.2 gX3_mixAll_X2_mixAll rfl rfl rfl (by decide +kernel) ⟨Nat.le_of_ble_eq_true rfl, Nat.le_of_ble_eq_true rfl⟩) (fun H hP => va_recv hE.1 (k_one (st_Sv (vp_lt q20) ((foc_g F) H hP))) rfl (q0 := 0) rfl) rfl rfl (Nat.le_of_ble_eq_true rfl) dX3_mixAll_69 ⟨Nat.zero_le _, Nat.zero_le _⟩ (fun r21 => ?_)
    refine k_and (fun h => ?_)
    refine k_lstore_n (lv' := [(3, .long r21), (5, .int x6), (0, .ref a), (1, .long start)]) C dX3_mixAll_72 rfl (by decide) rfl ?_
    obtain ⟨x22, ex22⟩ : ∃ z : Int32, z = x6 + 1 := ⟨_, rfl⟩
    replace h := h x22 ex22
    refine k_iinc (v := x22) (lv' := [(5, .int x22), (3, .long r21), (0, .ref a), (1, .long start)]) (j := 1) C dX3_mixAll_73 rfl (by rw [ex22]; rfl) (by decide) rfl ?_
    refine k_goto (tgt := 52) C dX3_mixAll_76 (by decide) ?_
    refine k_pc (pc2 := 52) rfl ?_
    refine k_sub [0, 1, 2, 3] rfl ?_
    exact ih52 _ _ h
