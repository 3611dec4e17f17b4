noncomputable def wp_X3_draw (rnd : Int64) (n : Int32) (k : Int32 → Int64 → Prop) : Prop := ∀ x1 : Int64, x1 = (((rnd * (1103515245 : Int64)) + (12345 : Int64)) - ((rnd * (1103515245 : Int64)) + (12345 : Int64)) / (2147483648 : Int64) * (2147483648 : Int64)) → ((1 ≤ n → ((¬ n.toInt64 = 0) ∧ (k (((x1 / (65536 : Int64)) - (x1 / (65536 : Int64)) / n.toInt64 * n.toInt64).toInt32) x1))) ∧ (¬ (1 ≤ n) → (k 0 x1)))
set_option maxRecDepth 100000 in
set_option maxHeartbeats 4000000 in
theorem c_X3_draw (l : Launch) {E : EV} {a : Nat} {P : PF} {A : Nat → Prop} (F : Foc E a P) (hA : ∀ q, inSt a q → A q) (now : Int32) (rnd : Int64) (jm : Int32) (rp : Int32) (sc : Int32) (dc : Int32) (cn : Int32) (sUp : Nat → Int32) (sLen : Nat → Int32) (sWrk : Nat → Int32) (sReg : Nat → Int32) (sFst : Nat → Int32) (sLst : Nat → Int32) (dPol : Nat → Int32) (dPtr : Nat → Int32) (dCnt : Nat → Int32) (dIdl : Nat → Nat → Int32) (dKnw : Nat → Nat → Int32) (jCnt : Int32) (jFin : Int32) (jBeg : Int32) (jWs : Int32) (jMis : Int32) (jSrv : Nat → Int32) (jLft : Nat → Int32) (jSub : Nat → Int32) (jWai : Nat → Int32) (jNxt : Nat → Int32) (cnd : Nat → Int32) (n : Int32)  (k : Int32 → Int64 → Prop) (h : wp_X3_draw rnd n k) : Met l yX3_draw wsX3_draw { frames := 0, cells := 0, slots := 0, locals := 0 } (va_Pc [.ref a, .int n] (fun U => P now rnd jm rp sc dc cn sUp sLen sWrk sReg sFst sLst dPol dPtr dCnt dIdl dKnw jCnt jFin jBeg jWs jMis jSrv jLft jSub jWai jNxt cnd U.heap ∧ XE E U)) (kQi (fun r H => ∃ rnd9 : Int64, k r rnd9 ∧ P now rnd9 jm rp sc dc cn sUp sLen sWrk sReg sFst sLst dPol dPtr dCnt dIdl dKnw jCnt jFin jBeg jWs jMis jSrv jLft jSub jWai jNxt cnd H) A) 0 0 A := by
  refine k_body (cc := cX3_draw) (own := RX3) (maxL := 2) (ret := (some .int)) (lv0 := [(0, .ref a), (1, .int n)]) (by decide) rfl rfl (Nat.le_of_ble_eq_true rfl) rfl (fun p e s m below meth c C hr hlk hP hE => ?_)
  have hi3 : ∀ w ∈ u_ws RX3 TX3 11, w ∈ wsX3_draw := by decide +kernel
  have lk0 := C.2.2.2.2 (.fieldLink RX3 15 "IdleDispatcher$State" "random" "J") (by decide +kernel)
  have lk1 := C.2.2.2.2 (.constantLong RX3 89 (1103515245)) (by decide +kernel)
  have lk2 := C.2.2.2.2 (.constantLong RX3 91 (12345)) (by decide +kernel)
  have lk3 := C.2.2.2.2 (.constantLong RX3 93 (2147483648)) (by decide +kernel)
  have lk4 := C.2.2.2.2 (.constantLong RX3 95 (65536)) (by decide +kernel)
  refine k_aload_n C dX3_draw_0 0 rfl ?_
  refine k_aload_n C dX3_draw_1 0 rfl ?_
  refine g_rnd C (foc_g F) hE.1 hi3 lk0 dX3_draw_2 ?_
  refine k_ldc2 C lk1 dX3_draw_5 ?_
  refine k_lmul C dX3_draw_8 ?_
  refine k_ldc2 C lk2 dX3_draw_9 ?_
  refine k_ladd C dX3_draw_12 ?_
  refine k_ldc2 C lk3 dX3_draw_13 ?_
  refine k_lrem C dX3_draw_16 (by decide) ?_
  refine k_topl (fun x1 ex1 => ?_)
  replace h := h x1 ex1
  refine p_rnd C F hA hE.1 hi3 lk0 dX3_draw_17 ?_
  refine k_iload_n C dX3_draw_20 1 rfl ?_
  refine k_iconst (v := 1) C dX3_draw_21 (by decide) ?_
  refine k_icmp_ge (tgt := 29) C dX3_draw_22 (by decide) (fun c2 => ?_) (fun c2 => ?_)
  · replace h := h.1 c2
    refine k_aload_n C dX3_draw_29 0 rfl ?_
    refine g_rnd C (foc_g F) hE.1 hi3 lk0 dX3_draw_30 ?_
    refine k_ldc2 C lk4 dX3_draw_33 ?_
    refine k_ldiv C dX3_draw_36 (by decide) ?_
    refine k_iload_n C dX3_draw_37 1 rfl ?_
    refine k_i2l C dX3_draw_38 ?_
    obtain ⟨q3, h⟩ := h
    refine k_lrem C dX3_draw_39 q3 ?_
    refine k_l2i C dX3_draw_40 ?_
    exact k_iret C hr hlk dX3_draw_41 (fun H hP => ⟨x1, h, hP⟩)
  · replace h := h.2 c2
    refine k_iconst (v := 0) C dX3_draw_25 (by decide) ?_
    refine k_goto (tgt := 41) C dX3_draw_26 (by decide) ?_
    exact k_iret C hr hlk dX3_draw_41 (fun H hP => ⟨x1, h, hP⟩)
noncomputable def wp_X3_chooseList (rnd : Int64) (jm : Int32) (dc : Int32) (dCnt : Nat → Int32) (num : Int32) (k : Int32 → Int64 → Prop) : Prop := (jm = 2 → ((1 ≤ dc → ((¬ dc = 0) ∧ (k (num - num / dc * dc) rnd))) ∧ (¬ (1 ≤ dc) → (k 0 rnd)))) ∧ (¬ jm = 2 → (wp_X3_draw rnd dc (fun r2 rnd_3 => (jm = 1 → (wp_X3_draw rnd_3 dc (fun r5 rnd_6 => (vp_in r5 4) ∧ ((vp_in r2 4) ∧ (((dCnt r2.toNatClampNeg) ≤ (dCnt r5.toNatClampNeg) → (k r2 rnd_6)) ∧ (¬ ((dCnt r2.toNatClampNeg) ≤ (dCnt r5.toNatClampNeg)) → (k r5 rnd_6))))))) ∧ (¬ (jm = 1) → (k r2 rnd_3)))))
set_option maxRecDepth 100000 in
set_option maxHeartbeats 4000000 in
theorem c_X3_chooseList (l : Launch) {E : EV} {a : Nat} {P : PF} {A : Nat → Prop} (F : Foc E a P) (hA : ∀ q, inSt a q → A q) (now : Int32) (rnd : Int64) (jm : Int32) (rp : Int32) (sc : Int32) (dc : Int32) (cn : Int32) (sUp : Nat → Int32) (sLen : Nat → Int32) (sWrk : Nat → Int32) (sReg : Nat → Int32) (sFst : Nat → Int32) (sLst : Nat → Int32) (dPol : Nat → Int32) (dPtr : Nat → Int32) (dCnt : Nat → Int32) (dIdl : Nat → Nat → Int32) (dKnw : Nat → Nat → Int32) (jCnt : Int32) (jFin : Int32) (jBeg : Int32) (jWs : Int32) (jMis : Int32) (jSrv : Nat → Int32) (jLft : Nat → Int32) (jSub : Nat → Int32) (jWai : Nat → Int32) (jNxt : Nat → Int32) (cnd : Nat → Int32) (num : Int32)  (k : Int32 → Int64 → Prop) (h : wp_X3_chooseList rnd jm dc dCnt num k) : Met l yX3_chooseList wsX3_chooseList { frames := 1, cells := 0, slots := 0, locals := 21 } (va_Pc [.ref a, .int num] (fun U => P now rnd jm rp sc dc cn sUp sLen sWrk sReg sFst sLst dPol dPtr dCnt dIdl dKnw jCnt jFin jBeg jWs jMis jSrv jLft jSub jWai jNxt cnd U.heap ∧ XE E U)) (kQi (fun r H => ∃ rnd9 : Int64, k r rnd9 ∧ P now rnd9 jm rp sc dc cn sUp sLen sWrk sReg sFst sLst dPol dPtr dCnt dIdl dKnw jCnt jFin jBeg jWs jMis jSrv jLft jSub jWai jNxt cnd H) A) 0 0 A := by
  refine k_body (cc := cX3_chooseList) (own := RX3) (maxL := 4) (ret := (some .int)) (lv0 := [(0, .ref a), (1, .int num)]) (by decide) rfl rfl (Nat.le_of_ble_eq_true rfl) rfl (fun p e s m below meth c C hr hlk hP hE => ?_)
  have hi3 : ∀ w ∈ u_ws RX3 TX3 11, w ∈ wsX3_chooseList := by decide +kernel
  have hi0 : ∀ w ∈ u_ws RX0 TX0 5, w ∈ wsX3_chooseList := by decide +kernel
  have lk0 := C.2.2.2.2 (.fieldLink RX3 19 "IdleDispatcher$State" "joinMode" "I") (by decide +kernel)
  have lk1 := C.2.2.2.2 (.fieldLink RX3 28 "IdleDispatcher$State" "dispatcherCount" "I") (by decide +kernel)
  have lk2 := C.2.2.2.2 (.fieldLink RX3 40 "IdleDispatcher$State" "dispatchers" "[LIdleDispatcher$Dispatcher;") (by decide +kernel)
  have lk3 := C.2.2.2.2 (.fieldLink RX3 110 "IdleDispatcher$Dispatcher" "idleCount" "I") (by decide +kernel)
  refine k_aload_n C dX3_chooseList_0 0 rfl ?_
  refine g_jm C (foc_g F) hE.1 hi3 lk0 dX3_chooseList_1 ?_
  refine k_iconst (v := 2) C dX3_chooseList_4 (by decide) ?_
  refine k_icmp_ne (tgt := 27) C dX3_chooseList_5 (by decide) (fun c1 => ?_) (fun c1 => ?_)
  · replace h := h.2 c1
    refine k_aload_n C dX3_chooseList_27 0 rfl ?_
    refine k_aload_n C dX3_chooseList_28 0 rfl ?_
    refine g_dc C (foc_g F) hE.1 hi3 lk1 dX3_chooseList_29 ?_
    refine k_callVi (st := []) C hE (c_X3_draw l F hA now rnd jm rp sc dc cn sUp sLen sWrk sReg sFst sLst dPol dPtr dCnt dIdl dKnw jCnt jFin jBeg jWs jMis jSrv jLft jSub jWai jNxt cnd dc  _ h) (cwV 1 C.2.2.2.2 gX3_chooseList_X3_draw rfl rfl rfl (by decide +kernel) ⟨Nat.le_of_ble_eq_true rfl, Nat.le_of_ble_eq_true rfl⟩) (fun H hP => va_recv hE.1 (k_one (st_St ((foc_g F) H hP))) rfl (q0 := 0) rfl) rfl rfl (Nat.le_of_ble_eq_true rfl) dX3_chooseList_32 ⟨Nat.zero_le _, Nat.zero_le _⟩ (fun r2 => ?_)
    refine k_ex (fun rnd_3 => k_and (fun h => ?_))
    refine k_istore_n (lv' := [(2, .int r2), (0, .ref a), (1, .int num)]) C dX3_chooseList_35 rfl (by decide) rfl ?_
    refine k_aload_n C dX3_chooseList_36 1 rfl ?_
    refine g_jm C (foc_g F) hE.1 hi3 lk0 dX3_chooseList_37 ?_
    refine k_iconst (v := 1) C dX3_chooseList_40 (by decide) ?_
    refine k_icmp_eq (tgt := 46) C dX3_chooseList_41 (by decide) (fun c4 => ?_) (fun c4 => ?_)
    · replace h := h.1 c4
      refine k_aload_n C dX3_chooseList_46 1 rfl ?_
      refine k_aload_n C dX3_chooseList_47 1 rfl ?_
      refine g_dc C (foc_g F) hE.1 hi3 lk1 dX3_chooseList_48 ?_
      refine k_callVi (st := []) C hE (c_X3_draw l F hA now rnd_3 jm rp sc dc cn sUp sLen sWrk sReg sFst sLst dPol dPtr dCnt dIdl dKnw jCnt jFin jBeg jWs jMis jSrv jLft jSub jWai jNxt cnd dc  _ h) (cwV 1 C.2.2.2.2 gX3_chooseList_X3_draw rfl rfl rfl (by decide +kernel) ⟨Nat.le_of_ble_eq_true rfl, Nat.le_of_ble_eq_true rfl⟩) (fun H hP => va_recv hE.1 (k_one (st_St ((foc_g F) H hP))) rfl (q0 := 0) rfl) rfl rfl (Nat.le_of_ble_eq_true rfl) dX3_chooseList_51 ⟨Nat.zero_le _, Nat.zero_le _⟩ (fun r5 => ?_)
      refine k_ex (fun rnd_6 => k_and (fun h => ?_))
      refine k_istore_n (lv' := [(3, .int r5), (2, .int r2), (0, .ref a), (1, .int num)]) C dX3_chooseList_54 rfl (by decide) rfl ?_
      refine k_aload_n C dX3_chooseList_55 2 rfl ?_
      refine g_St_dispatchers C (foc_g F) hE.1 hi3 lk2 dX3_chooseList_56 ?_
      refine k_iload_n C dX3_chooseList_59 0 rfl ?_
      obtain ⟨q7, h⟩ := h
      refine g_DA C (foc_g F) hE.1 q7 dX3_chooseList_60 ?_
      refine g_dCnt C (foc_g F) hE.1 hi0 (vp_lt q7) lk3 dX3_chooseList_61 ?_
      refine k_aload_n C dX3_chooseList_64 2 rfl ?_
      refine g_St_dispatchers C (foc_g F) hE.1 hi3 lk2 dX3_chooseList_65 ?_
      refine k_iload_n C dX3_chooseList_68 1 rfl ?_
      obtain ⟨q8, h⟩ := h
      refine g_DA C (foc_g F) hE.1 q8 dX3_chooseList_69 ?_
      refine g_dCnt C (foc_g F) hE.1 hi0 (vp_lt q8) lk3 dX3_chooseList_70 ?_
      refine k_icmp_ge (tgt := 80) C dX3_chooseList_73 (by decide) (fun c9 => ?_) (fun c9 => ?_)
      · replace h := h.1 c9
        refine k_iload_n C dX3_chooseList_80 1 rfl ?_
        exact k_iret C hr hlk dX3_chooseList_81 (fun H hP => ⟨rnd_6, h, hP⟩)
      · replace h := h.2 c9
        refine k_iload_n C dX3_chooseList_76 0 rfl ?_
        refine k_goto (tgt := 81) C dX3_chooseList_77 (by decide) ?_
        exact k_iret C hr hlk dX3_chooseList_81 (fun H hP => ⟨rnd_6, h, hP⟩)
    · replace h := h.2 c4
      refine k_iload_n C dX3_chooseList_44 0 rfl ?_
      exact k_iret C hr hlk dX3_chooseList_45 (fun H hP => ⟨rnd_3, h, hP⟩)
  · replace h := h.1 c1
    refine k_aload_n C dX3_chooseList_8 0 rfl ?_
    refine g_dc C (foc_g F) hE.1 hi3 lk1 dX3_chooseList_9 ?_
    refine k_iconst (v := 1) C dX3_chooseList_12 (by decide) ?_
    refine k_icmp_ge (tgt := 20) C dX3_chooseList_13 (by decide) (fun c10 => ?_) (fun c10 => ?_)
    · replace h := h.1 c10
      refine k_iload_n C dX3_chooseList_20 1 rfl ?_
      refine k_aload_n C dX3_chooseList_21 0 rfl ?_
      refine g_dc C (foc_g F) hE.1 hi3 lk1 dX3_chooseList_22 ?_
      obtain ⟨q11, h⟩ := h
      refine k_irem C dX3_chooseList_25 q11 ?_
      exact k_iret C hr hlk dX3_chooseList_26 (fun H hP => ⟨rnd, h, hP⟩)
    · replace h := h.2 c10
      refine k_iconst (v := 0) C dX3_chooseList_16 (by decide) ?_
      refine k_goto (tgt := 26) C dX3_chooseList_17 (by decide) ?_
      exact k_iret C hr hlk dX3_chooseList_26 (fun H hP => ⟨rnd, h, hP⟩)
noncomputable def wp_X3_register (rnd : Int64) (jm : Int32) (dc : Int32) (sReg : Nat → Int32) (dCnt : Nat → Int32) (dIdl : Nat → Nat → Int32) (num : Int32) (k : Int64 → (Nat → Int32) → (Nat → Int32) → (Nat → Nat → Int32) → Prop) : Prop := (1 ≤ dc → (wp_X3_chooseList rnd jm dc dCnt num (fun r2 rnd_3 => (vp_in r2 4) ∧ (wp_X0_appendIdle dCnt dIdl (r2.toNatClampNeg) num (fun dCnt_5 dIdl_6 => (vp_in num 8) ∧ (∀ sReg_8 : Nat → Int32, sReg_8 = upd sReg (num.toNatClampNeg) r2 → (k rnd_3 sReg_8 dCnt_5 dIdl_6))))))) ∧ (¬ (1 ≤ dc) → (k rnd sReg dCnt dIdl))
set_option maxRecDepth 100000 in
set_option maxHeartbeats 4000000 in
theorem c_X3_register (l : Launch) {E : EV} {a : Nat} {P : PF} {A : Nat → Prop} (F : Foc E a P) (hA : ∀ q, inSt a q → A q) (now : Int32) (rnd : Int64) (jm : Int32) (rp : Int32) (sc : Int32) (dc : Int32) (cn : Int32) (sUp : Nat → Int32) (sLen : Nat → Int32) (sWrk : Nat → Int32) (sReg : Nat → Int32) (sFst : Nat → Int32) (sLst : Nat → Int32) (dPol : Nat → Int32) (dPtr : Nat → Int32) (dCnt : Nat → Int32) (dIdl : Nat → Nat → Int32) (dKnw : Nat → Nat → Int32) (jCnt : Int32) (jFin : Int32) (jBeg : Int32) (jWs : Int32) (jMis : Int32) (jSrv : Nat → Int32) (jLft : Nat → Int32) (jSub : Nat → Int32) (jWai : Nat → Int32) (jNxt : Nat → Int32) (cnd : Nat → Int32) (num : Int32)  (k : Int64 → (Nat → Int32) → (Nat → Int32) → (Nat → Nat → Int32) → Prop) (h : wp_X3_register rnd jm dc sReg dCnt dIdl num k) : Met l yX3_register wsX3_register { frames := 2, cells := 0, slots := 0, locals := 44 } (va_Pc [.ref a, .int num] (fun U => P now rnd jm rp sc dc cn sUp sLen sWrk sReg sFst sLst dPol dPtr dCnt dIdl dKnw jCnt jFin jBeg jWs jMis jSrv jLft jSub jWai jNxt cnd U.heap ∧ XE E U)) (kQv (fun H => ∃ rnd9 : Int64, ∃ sReg9 : Nat → Int32, ∃ dCnt9 : Nat → Int32, ∃ dIdl9 : Nat → Nat → Int32, k rnd9 sReg9 dCnt9 dIdl9 ∧ P now rnd9 jm rp sc dc cn sUp sLen sWrk sReg9 sFst sLst dPol dPtr dCnt9 dIdl9 dKnw jCnt jFin jBeg jWs jMis jSrv jLft jSub jWai jNxt cnd H) A) 0 0 A := by
  refine k_body (cc := cX3_register) (own := RX3) (maxL := 3) (ret := none) (lv0 := [(0, .ref a), (1, .int num)]) (by decide) rfl rfl (Nat.le_of_ble_eq_true rfl) rfl (fun p e s m below meth c C hr hlk hP hE => ?_)
  have hi3 : ∀ w ∈ u_ws RX3 TX3 11, w ∈ wsX3_register := by decide +kernel
  have hi2 : ∀ w ∈ u_ws RX2 TX2 6, w ∈ wsX3_register := by decide +kernel
  have lk0 := C.2.2.2.2 (.fieldLink RX3 28 "IdleDispatcher$State" "dispatcherCount" "I") (by decide +kernel)
  have lk1 := C.2.2.2.2 (.fieldLink RX3 40 "IdleDispatcher$State" "dispatchers" "[LIdleDispatcher$Dispatcher;") (by decide +kernel)
  have lk2 := C.2.2.2.2 (.fieldLink RX3 33 "IdleDispatcher$State" "servers" "[LIdleDispatcher$Server;") (by decide +kernel)
  have lk3 := C.2.2.2.2 (.fieldLink RX3 104 "IdleDispatcher$Server" "registeredAt" "I") (by decide +kernel)
  refine k_aload_n C dX3_register_0 0 rfl ?_
  refine g_dc C (foc_g F) hE.1 hi3 lk0 dX3_register_1 ?_
  refine k_iconst (v := 1) C dX3_register_4 (by decide) ?_
  refine k_icmp_ge (tgt := 9) C dX3_register_5 (by decide) (fun c1 => ?_) (fun c1 => ?_)
  · replace h := h.1 c1
    refine k_aload_n C dX3_register_9 0 rfl ?_
    refine k_iload_n C dX3_register_10 1 rfl ?_
    refine k_callVi (st := []) C hE (c_X3_chooseList l F hA now rnd jm rp sc dc cn sUp sLen sWrk sReg sFst sLst dPol dPtr dCnt dIdl dKnw jCnt jFin jBeg jWs jMis jSrv jLft jSub jWai jNxt cnd num  _ h) (cwV 1 C.2.2.2.2 gX3_register_X3_chooseList rfl rfl rfl (by decide +kernel) ⟨Nat.le_of_ble_eq_true rfl, Nat.le_of_ble_eq_true rfl⟩) (fun H hP => va_recv hE.1 (k_one (st_St ((foc_g F) H hP))) rfl (q0 := 0) rfl) rfl rfl (Nat.le_of_ble_eq_true rfl) dX3_register_11 ⟨Nat.zero_le _, Nat.zero_le _⟩ (fun r2 => ?_)
    refine k_ex (fun rnd_3 => k_and (fun h => ?_))
    refine k_istore_n (lv' := [(2, .int r2), (0, .ref a), (1, .int num)]) C dX3_register_14 rfl (by decide) rfl ?_
    refine k_aload_n C dX3_register_15 1 rfl ?_
    refine g_St_dispatchers C (foc_g F) hE.1 hi3 lk1 dX3_register_16 ?_
    refine k_iload_n C dX3_register_19 0 rfl ?_
    obtain ⟨q4, h⟩ := h
    refine g_DA C (foc_g F) hE.1 q4 dX3_register_20 ?_
    refine k_iload_n C dX3_register_21 2 rfl ?_
    refine k_callVv (st := []) C hE (c_X0_appendIdle l F hA now rnd_3 jm rp sc dc cn sUp sLen sWrk sReg sFst sLst dPol dPtr dCnt dIdl dKnw jCnt jFin jBeg jWs jMis jSrv jLft jSub jWai jNxt cnd (r2.toNatClampNeg) num (vp_lt q4) _ h) (cwV 1 C.2.2.2.2 gX3_register_X0_appendIdle rfl rfl rfl (by decide +kernel) ⟨Nat.le_of_ble_eq_true rfl, Nat.le_of_ble_eq_true rfl⟩) (fun H hP => va_recv hE.1 (k_one (st_Di (vp_lt q4) ((foc_g F) H hP))) rfl (q0 := 0) rfl) rfl rfl (Nat.le_of_ble_eq_true rfl) dX3_register_22 ⟨Nat.zero_le _, Nat.zero_le _⟩ (fun _ => ?_)
    refine k_ex (fun dCnt_5 => k_ex (fun dIdl_6 => k_and (fun h => ?_)))
    refine k_aload_n C dX3_register_25 1 rfl ?_
    refine g_St_servers C (foc_g F) hE.1 hi3 lk2 dX3_register_26 ?_
    refine k_iload_n C dX3_register_29 2 rfl ?_
    obtain ⟨q7, h⟩ := h
    refine g_SA C (foc_g F) hE.1 q7 dX3_register_30 ?_
    refine k_iload_n C dX3_register_31 0 rfl ?_
    obtain ⟨sReg_8, esReg_8⟩ : ∃ z : Nat → Int32, z = upd sReg (num.toNatClampNeg) r2 := ⟨_, rfl⟩
    replace h := h sReg_8 esReg_8
    refine p_sReg C F hA hE.1 hi2 (vp_lt q7) esReg_8 lk3 dX3_register_32 ?_
    exact k_vret C hr hlk dX3_register_35 (fun H hP => ⟨rnd_3, sReg_8, dCnt_5, dIdl_6, h, hP⟩)
  · replace h := h.2 c1
    exact k_vret C hr hlk dX3_register_8 (fun H hP => ⟨rnd, sReg, dCnt, dIdl, h, hP⟩)
noncomputable def wp_X3_leaveIdleList (sReg : Nat → Int32) (dCnt : Nat → Int32) (dIdl : Nat → Nat → Int32) (num : Int32) (k : (Nat → Int32) → (Nat → Int32) → (Nat → Nat → Int32) → Prop) : Prop := (vp_in num 8) ∧ (∀ x2 : Int32, x2 = (sReg num.toNatClampNeg) → ((x2 = (-1) → (k sReg dCnt dIdl)) ∧ (¬ (x2 = (-1)) → ((vp_in x2 4) ∧ (wp_X0_removeIdle dCnt dIdl (x2.toNatClampNeg) num (fun dCnt_5 dIdl_6 => ∀ sReg_7 : Nat → Int32, sReg_7 = upd sReg (num.toNatClampNeg) (-1) → (k sReg_7 dCnt_5 dIdl_6)))))))
set_option maxRecDepth 100000 in
set_option maxHeartbeats 4000000 in
theorem c_X3_leaveIdleList (l : Launch) {E : EV} {a : Nat} {P : PF} {A : Nat → Prop} (F : Foc E a P) (hA : ∀ q, inSt a q → A q) (now : Int32) (rnd : Int64) (jm : Int32) (rp : Int32) (sc : Int32) (dc : Int32) (cn : Int32) (sUp : Nat → Int32) (sLen : Nat → Int32) (sWrk : Nat → Int32) (sReg : Nat → Int32) (sFst : Nat → Int32) (sLst : Nat → Int32) (dPol : Nat → Int32) (dPtr : Nat → Int32) (dCnt : Nat → Int32) (dIdl : Nat → Nat → Int32) (dKnw : Nat → Nat → Int32) (jCnt : Int32) (jFin : Int32) (jBeg : Int32) (jWs : Int32) (jMis : Int32) (jSrv : Nat → Int32) (jLft : Nat → Int32) (jSub : Nat → Int32) (jWai : Nat → Int32) (jNxt : Nat → Int32) (cnd : Nat → Int32) (num : Int32)  (k : (Nat → Int32) → (Nat → Int32) → (Nat → Nat → Int32) → Prop) (h : wp_X3_leaveIdleList sReg dCnt dIdl num k) : Met l yX3_leaveIdleList wsX3_leaveIdleList { frames := 1, cells := 0, slots := 0, locals := 23 } (va_Pc [.ref a, .int num] (fun U => P now rnd jm rp sc dc cn sUp sLen sWrk sReg sFst sLst dPol dPtr dCnt dIdl dKnw jCnt jFin jBeg jWs jMis jSrv jLft jSub jWai jNxt cnd U.heap ∧ XE E U)) (kQv (fun H => ∃ sReg9 : Nat → Int32, ∃ dCnt9 : Nat → Int32, ∃ dIdl9 : Nat → Nat → Int32, k sReg9 dCnt9 dIdl9 ∧ P now rnd jm rp sc dc cn sUp sLen sWrk sReg9 sFst sLst dPol dPtr dCnt9 dIdl9 dKnw jCnt jFin jBeg jWs jMis jSrv jLft jSub jWai jNxt cnd H) A) 0 0 A := by
  refine k_body (cc := cX3_leaveIdleList) (own := RX3) (maxL := 3) (ret := none) (lv0 := [(0, .ref a), (1, .int num)]) (by decide) rfl rfl (Nat.le_of_ble_eq_true rfl) rfl (fun p e s m below meth c C hr hlk hP hE => ?_)
  have hi3 : ∀ w ∈ u_ws RX3 TX3 11, w ∈ wsX3_leaveIdleList := by decide +kernel
  have hi2 : ∀ w ∈ u_ws RX2 TX2 6, w ∈ wsX3_leaveIdleList := by decide +kernel
  have lk0 := C.2.2.2.2 (.fieldLink RX3 33 "IdleDispatcher$State" "servers" "[LIdleDispatcher$Server;") (by decide +kernel)
  have lk1 := C.2.2.2.2 (.fieldLink RX3 104 "IdleDispatcher$Server" "registeredAt" "I") (by decide +kernel)
  have lk2 := C.2.2.2.2 (.fieldLink RX3 40 "IdleDispatcher$State" "dispatchers" "[LIdleDispatcher$Dispatcher;") (by decide +kernel)
  refine k_aload_n C dX3_leaveIdleList_0 0 rfl ?_
  refine g_St_servers C (foc_g F) hE.1 hi3 lk0 dX3_leaveIdleList_1 ?_
  refine k_iload_n C dX3_leaveIdleList_4 1 rfl ?_
  obtain ⟨q1, h⟩ := h
  refine g_SA C (foc_g F) hE.1 q1 dX3_leaveIdleList_5 ?_
  refine g_sReg C (foc_g F) hE.1 hi2 (vp_lt q1) lk1 dX3_leaveIdleList_6 ?_
  refine k_topi (fun x2 ex2 => ?_)
  replace h := h x2 ex2
  refine k_istore_n (lv' := [(2, .int x2), (0, .ref a), (1, .int num)]) C dX3_leaveIdleList_9 rfl (by decide) rfl ?_
  refine k_iload_n C dX3_leaveIdleList_10 0 rfl ?_
  refine k_iconst (v := (-1)) C dX3_leaveIdleList_11 (by decide) ?_
  refine k_icmp_eq (tgt := 35) C dX3_leaveIdleList_12 (by decide) (fun c3 => ?_) (fun c3 => ?_)
  · replace h := h.1 c3
    exact k_vret C hr hlk dX3_leaveIdleList_35 (fun H hP => ⟨sReg, dCnt, dIdl, h, hP⟩)
  · replace h := h.2 c3
    refine k_aload_n C dX3_leaveIdleList_15 1 rfl ?_
    refine g_St_dispatchers C (foc_g F) hE.1 hi3 lk2 dX3_leaveIdleList_16 ?_
    refine k_iload_n C dX3_leaveIdleList_19 0 rfl ?_
    obtain ⟨q4, h⟩ := h
    refine g_DA C (foc_g F) hE.1 q4 dX3_leaveIdleList_20 ?_
    refine k_iload_n C dX3_leaveIdleList_21 2 rfl ?_
    refine k_callVv (st := []) C hE (c_X0_removeIdle l F hA now rnd jm rp sc dc cn sUp sLen sWrk sReg sFst sLst dPol dPtr dCnt dIdl dKnw jCnt jFin jBeg jWs jMis jSrv jLft jSub jWai jNxt cnd (x2.toNatClampNeg) num (vp_lt q4) _ h) (cwV 1 C.2.2.2.2 gX3_leaveIdleList_X0_removeIdle rfl rfl rfl (by decide +kernel) ⟨Nat.le_of_ble_eq_true rfl, Nat.le_of_ble_eq_true rfl⟩) (fun H hP => va_recv hE.1 (k_one (st_Di (vp_lt q4) ((foc_g F) H hP))) rfl (q0 := 0) rfl) rfl rfl (Nat.le_of_ble_eq_true rfl) dX3_leaveIdleList_22 ⟨Nat.zero_le _, Nat.zero_le _⟩ (fun _ => ?_)
    refine k_ex (fun dCnt_5 => k_ex (fun dIdl_6 => k_and (fun h => ?_)))
    refine k_aload_n C dX3_leaveIdleList_25 1 rfl ?_
    refine g_St_servers C (foc_g F) hE.1 hi3 lk0 dX3_leaveIdleList_26 ?_
    refine k_iload_n C dX3_leaveIdleList_29 2 rfl ?_
    refine g_SA C (foc_g F) hE.1 q1 dX3_leaveIdleList_30 ?_
    refine k_iconst (v := (-1)) C dX3_leaveIdleList_31 (by decide) ?_
    obtain ⟨sReg_7, esReg_7⟩ : ∃ z : Nat → Int32, z = upd sReg (num.toNatClampNeg) (-1) := ⟨_, rfl⟩
    replace h := h sReg_7 esReg_7
    refine p_sReg C F hA hE.1 hi2 (vp_lt q1) esReg_7 lk1 dX3_leaveIdleList_32 ?_
    exact k_vret C hr hlk dX3_leaveIdleList_35 (fun H hP => ⟨sReg_7, dCnt_5, dIdl_6, h, hP⟩)
noncomputable def wp_X3_collectCandidates_L7 (sc : Int32) (k : Int32 → (Nat → Int32) → Prop) (sUp : Nat → Int32) (fu : Nat) : Int32 → Int32 → (Nat → Int32) → Prop := Nat.rec (motive := fun _ => Int32 → Int32 → (Nat → Int32) → Prop) (fun _ _ _ => False) (fun _ rec7 x1 cn_2 cnd_3 => (sc ≤ x1 → (k cn_2 cnd_3)) ∧ (¬ (sc ≤ x1) → ((vp_in x1 8) ∧ (((sUp x1.toNatClampNeg) = 0 → (∀ x7 : Int32, x7 = x1 + 1 → (rec7 x7 cn_2 cnd_3))) ∧ (¬ ((sUp x1.toNatClampNeg) = 0) → ((vp_in cn_2 8) ∧ (∀ cnd_9 : Nat → Int32, cnd_9 = upd cnd_3 cn_2.toNatClampNeg x1 → (∀ x10 : Int32, x10 = (cn_2 + 1) → (∀ x11 : Int32, x11 = x1 + 1 → (rec7 x11 x10 cnd_9)))))))))) fu
noncomputable def wp_X3_collectCandidates (sc : Int32) (sUp : Nat → Int32) (cnd : Nat → Int32) (k : Int32 → (Nat → Int32) → Prop) : Prop := ∃ fu, wp_X3_collectCandidates_L7 sc k sUp fu 0 0 cnd
set_option maxRecDepth 100000 in
set_option maxHeartbeats 4000000 in
theorem c_X3_collectCandidates (l : Launch) {E : EV} {a : Nat} {P : PF} {A : Nat → Prop} (F : Foc E a P) (hA : ∀ q, inSt a q → A q) (now : Int32) (rnd : Int64) (jm : Int32) (rp : Int32) (sc : Int32) (dc : Int32) (cn : Int32) (sUp : Nat → Int32) (sLen : Nat → Int32) (sWrk : Nat → Int32) (sReg : Nat → Int32) (sFst : Nat → Int32) (sLst : Nat → Int32) (dPol : Nat → Int32) (dPtr : Nat → Int32) (dCnt : Nat → Int32) (dIdl : Nat → Nat → Int32) (dKnw : Nat → Nat → Int32) (jCnt : Int32) (jFin : Int32) (jBeg : Int32) (jWs : Int32) (jMis : Int32) (jSrv : Nat → Int32) (jLft : Nat → Int32) (jSub : Nat → Int32) (jWai : Nat → Int32) (jNxt : Nat → Int32) (cnd : Nat → Int32)   (k : Int32 → (Nat → Int32) → Prop) (h : wp_X3_collectCandidates sc sUp cnd  k) : Met l yX3_collectCandidates wsX3_collectCandidates { frames := 0, cells := 0, slots := 0, locals := 0 } (va_Pc [.ref a] (fun U => P now rnd jm rp sc dc cn sUp sLen sWrk sReg sFst sLst dPol dPtr dCnt dIdl dKnw jCnt jFin jBeg jWs jMis jSrv jLft jSub jWai jNxt cnd U.heap ∧ XE E U)) (kQv (fun H => ∃ cn9 : Int32, ∃ cnd9 : Nat → Int32, k cn9 cnd9 ∧ P now rnd jm rp sc dc cn9 sUp sLen sWrk sReg sFst sLst dPol dPtr dCnt dIdl dKnw jCnt jFin jBeg jWs jMis jSrv jLft jSub jWai jNxt cnd9 H) A) 0 0 A := by
  refine k_body (cc := cX3_collectCandidates) (own := RX3) (maxL := 2) (ret := none) (lv0 := [(0, .ref a)]) (by decide) rfl rfl (Nat.le_of_ble_eq_true rfl) rfl (fun p e s m below meth c C hr hlk hP hE => ?_)
  have hi3 : ∀ w ∈ u_ws RX3 TX3 11, w ∈ wsX3_collectCandidates := by decide +kernel
  have hi2 : ∀ w ∈ u_ws RX2 TX2 6, w ∈ wsX3_collectCandidates := by decide +kernel
  have lk0 := C.2.2.2.2 (.fieldLink RX3 52 "IdleDispatcher$State" "candidateCount" "I") (by decide +kernel)
  have lk1 := C.2.2.2.2 (.fieldLink RX3 25 "IdleDispatcher$State" "serverCount" "I") (by decide +kernel)
  have lk2 := C.2.2.2.2 (.fieldLink RX3 33 "IdleDispatcher$State" "servers" "[LIdleDispatcher$Server;") (by decide +kernel)
  have lk3 := C.2.2.2.2 (.fieldLink RX3 79 "IdleDispatcher$Server" "up" "Z") (by decide +kernel)
  have lk4 := C.2.2.2.2 (.fieldLink RX3 55 "IdleDispatcher$State" "candidates" "[I") (by decide +kernel)
  refine k_aload_n C dX3_collectCandidates_0 0 rfl ?_
  refine k_iconst (v := 0) C dX3_collectCandidates_1 (by decide) ?_
  refine p_cn C F hA hE.1 hi3 lk0 dX3_collectCandidates_2 ?_
  refine k_iconst (v := 0) C dX3_collectCandidates_5 (by decide) ?_
  refine k_istore_n (lv' := [(1, .int 0), (0, .ref a)]) C dX3_collectCandidates_6 rfl (by decide) rfl ?_
  obtain ⟨n7, h⟩ := h
  refine k_pc (pc2 := 7) rfl ?_
  refine k_loop3 (wp_X3_collectCandidates_L7 sc k sUp) (fun x1 cn_2 cnd_3 => P now rnd jm rp sc dc cn_2 sUp sLen sWrk sReg sFst sLst dPol dPtr dCnt dIdl dKnw jCnt jFin jBeg jWs jMis jSrv jLft jSub jWai jNxt cnd_3) (fun x1 cn_2 cnd_3 => [(1, .int x1), (0, .ref a)]) (fun _ _ _ h => h) (fun n7 ih7 x1 cn_2 cnd_3 h => ?_) n7 _ _ _ h
  refine k_iload_n C dX3_collectCandidates_7 0 rfl ?_
  refine k_aload_n C dX3_collectCandidates_8 1 rfl ?_
  refine g_sc C (foc_g F) hE.1 hi3 lk1 dX3_collectCandidates_9 ?_
  refine k_icmp_ge (tgt := 53) C dX3_collectCandidates_12 (by decide) (fun c4 => ?_) (fun c4 => ?_)
  · replace h := h.1 c4
    exact k_vret C hr hlk dX3_collectCandidates_53 (fun H hP => ⟨cn_2, cnd_3, h, hP⟩)
  · replace h := h.2 c4
    refine k_aload_n C dX3_collectCandidates_15 1 rfl ?_
    refine g_St_servers C (foc_g F) hE.1 hi3 lk2 dX3_collectCandidates_16 ?_
    refine k_iload_n C dX3_collectCandidates_19 0 rfl ?_
    obtain ⟨q5, h⟩ := h
    refine g_SA C (foc_g F) hE.1 q5 dX3_collectCandidates_20 ?_
    refine g_sUp C (foc_g F) hE.1 hi2 (vp_lt q5) lk3 dX3_collectCandidates_21 ?_
    refine k_if_eq (tgt := 47) C dX3_collectCandidates_24 (by decide) (fun c6 => ?_) (fun c6 => ?_)
    · replace h := h.1 c6
      obtain ⟨x7, ex7⟩ : ∃ z : Int32, z = x1 + 1 := ⟨_, rfl⟩
      replace h := h x7 ex7
      refine k_iinc (v := x7) (lv' := [(1, .int x7), (0, .ref a)]) (j := 0) C dX3_collectCandidates_47 rfl (by rw [ex7]; rfl) (by decide) rfl ?_
      refine k_goto (tgt := 7) C dX3_collectCandidates_50 (by decide) ?_
      refine k_pc (pc2 := 7) rfl ?_
      refine k_sub [0, 1] rfl ?_
      exact ih7 _ _ _ h
    · replace h := h.2 c6
      refine k_aload_n C dX3_collectCandidates_27 1 rfl ?_
      refine g_St_candidates C (foc_g F) hE.1 hi3 lk4 dX3_collectCandidates_28 ?_
      refine k_aload_n C dX3_collectCandidates_31 1 rfl ?_
      refine g_cn C (foc_g F) hE.1 hi3 lk0 dX3_collectCandidates_32 ?_
      refine k_iload_n C dX3_collectCandidates_35 0 rfl ?_
      obtain ⟨q8, h⟩ := h
      obtain ⟨cnd_9, ecnd_9⟩ : ∃ z : Nat → Int32, z = upd cnd_3 cn_2.toNatClampNeg x1 := ⟨_, rfl⟩
      replace h := h cnd_9 ecnd_9
      refine p_cnd C F hA hE.1 q8 ecnd_9 dX3_collectCandidates_36 ?_
      refine k_aload_n C dX3_collectCandidates_37 1 rfl ?_
      refine k_dup C dX3_collectCandidates_38 rfl ?_
      refine g_cn C (foc_g F) hE.1 hi3 lk0 dX3_collectCandidates_39 ?_
      refine k_iconst (v := 1) C dX3_collectCandidates_42 (by decide) ?_
      refine k_iadd C dX3_collectCandidates_43 ?_
      refine k_topi (fun x10 ex10 => ?_)
      replace h := h x10 ex10
      refine p_cn C F hA hE.1 hi3 lk0 dX3_collectCandidates_44 ?_
      obtain ⟨x11, ex11⟩ : ∃ z : Int32, z = x1 + 1 := ⟨_, rfl⟩
      replace h := h x11 ex11
      refine k_iinc (v := x11) (lv' := [(1, .int x11), (0, .ref a)]) (j := 0) C dX3_collectCandidates_47 rfl (by rw [ex11]; rfl) (by decide) rfl ?_
      refine k_goto (tgt := 7) C dX3_collectCandidates_50 (by decide) ?_
      refine k_pc (pc2 := 7) rfl ?_
      refine k_sub [0, 1] rfl ?_
      exact ih7 _ _ _ h
noncomputable def wp_X3_openServer (rnd : Int64) (jm : Int32) (sc : Int32) (dc : Int32) (sUp : Nat → Int32) (sReg : Nat → Int32) (dCnt : Nat → Int32) (dIdl : Nat → Nat → Int32) (cnd : Nat → Int32) (k : Int32 → Int64 → Int32 → Int32 → (Nat → Int32) → (Nat → Int32) → (Nat → Nat → Int32) → (Nat → Int32) → Prop) : Prop := ∀ x1 : Int32, x1 = (sc + 1) → (wp_X3_collectCandidates x1 sUp cnd (fun cn_2 cnd_3 => wp_X3_register rnd jm dc sReg dCnt dIdl sc (fun rnd_4 sReg_5 dCnt_6 dIdl_7 => k sc rnd_4 x1 cn_2 sReg_5 dCnt_6 dIdl_7 cnd_3)))
set_option maxRecDepth 100000 in
set_option maxHeartbeats 4000000 in
theorem c_X3_openServer (l : Launch) {E : EV} {a : Nat} {P : PF} {A : Nat → Prop} (F : Foc E a P) (hA : ∀ q, inSt a q → A q) (now : Int32) (rnd : Int64) (jm : Int32) (rp : Int32) (sc : Int32) (dc : Int32) (cn : Int32) (sUp : Nat → Int32) (sLen : Nat → Int32) (sWrk : Nat → Int32) (sReg : Nat → Int32) (sFst : Nat → Int32) (sLst : Nat → Int32) (dPol : Nat → Int32) (dPtr : Nat → Int32) (dCnt : Nat → Int32) (dIdl : Nat → Nat → Int32) (dKnw : Nat → Nat → Int32) (jCnt : Int32) (jFin : Int32) (jBeg : Int32) (jWs : Int32) (jMis : Int32) (jSrv : Nat → Int32) (jLft : Nat → Int32) (jSub : Nat → Int32) (jWai : Nat → Int32) (jNxt : Nat → Int32) (cnd : Nat → Int32)   (k : Int32 → Int64 → Int32 → Int32 → (Nat → Int32) → (Nat → Int32) → (Nat → Nat → Int32) → (Nat → Int32) → Prop) (h : wp_X3_openServer rnd jm sc dc sUp sReg dCnt dIdl cnd  k) : Met l yX3_openServer wsX3_openServer { frames := 3, cells := 0, slots := 0, locals := 66 } (va_Pc [.ref a] (fun U => P now rnd jm rp sc dc cn sUp sLen sWrk sReg sFst sLst dPol dPtr dCnt dIdl dKnw jCnt jFin jBeg jWs jMis jSrv jLft jSub jWai jNxt cnd U.heap ∧ XE E U)) (kQi (fun r H => ∃ rnd9 : Int64, ∃ sc9 : Int32, ∃ cn9 : Int32, ∃ sReg9 : Nat → Int32, ∃ dCnt9 : Nat → Int32, ∃ dIdl9 : Nat → Nat → Int32, ∃ cnd9 : Nat → Int32, k r rnd9 sc9 cn9 sReg9 dCnt9 dIdl9 cnd9 ∧ P now rnd9 jm rp sc9 dc cn9 sUp sLen sWrk sReg9 sFst sLst dPol dPtr dCnt9 dIdl9 dKnw jCnt jFin jBeg jWs jMis jSrv jLft jSub jWai jNxt cnd9 H) A) 0 0 A := by
  refine k_body (cc := cX3_openServer) (own := RX3) (maxL := 2) (ret := (some .int)) (lv0 := [(0, .ref a)]) (by decide) rfl rfl (Nat.le_of_ble_eq_true rfl) rfl (fun p e s m below meth c C hr hlk hP hE => ?_)
  have hi3 : ∀ w ∈ u_ws RX3 TX3 11, w ∈ wsX3_openServer := by decide +kernel
  have lk0 := C.2.2.2.2 (.fieldLink RX3 25 "IdleDispatcher$State" "serverCount" "I") (by decide +kernel)
  refine k_aload_n C dX3_openServer_0 0 rfl ?_
  refine g_sc C (foc_g F) hE.1 hi3 lk0 dX3_openServer_1 ?_
  refine k_istore_n (lv' := [(1, .int sc), (0, .ref a)]) C dX3_openServer_4 rfl (by decide) rfl ?_
  refine k_aload_n C dX3_openServer_5 1 rfl ?_
  refine k_dup C dX3_openServer_6 rfl ?_
  refine g_sc C (foc_g F) hE.1 hi3 lk0 dX3_openServer_7 ?_
  refine k_iconst (v := 1) C dX3_openServer_10 (by decide) ?_
  refine k_iadd C dX3_openServer_11 ?_
  refine k_topi (fun x1 ex1 => ?_)
  replace h := h x1 ex1
  refine p_sc C F hA hE.1 hi3 lk0 dX3_openServer_12 ?_
  refine k_aload_n C dX3_openServer_15 1 rfl ?_
  refine k_callVv (st := []) C hE (c_X3_collectCandidates l F hA now rnd jm rp x1 dc cn sUp sLen sWrk sReg sFst sLst dPol dPtr dCnt dIdl dKnw jCnt jFin jBeg jWs jMis jSrv jLft jSub jWai jNxt cnd   _ h) (cwV 0 C.2.2.2.2 gX3_openServer_X3_collectCandidates rfl rfl rfl (by decide +kernel) ⟨Nat.le_of_ble_eq_true rfl, Nat.le_of_ble_eq_true rfl⟩) (fun H hP => va_recv hE.1 (k_one (st_St ((foc_g F) H hP))) rfl (q0 := 0) rfl) rfl rfl (Nat.le_of_ble_eq_true rfl) dX3_openServer_16 ⟨Nat.zero_le _, Nat.zero_le _⟩ (fun _ => ?_)
  refine k_ex (fun cn_2 => k_ex (fun cnd_3 => k_and (fun h => ?_)))
  refine k_aload_n C dX3_openServer_19 1 rfl ?_
  refine k_iload_n C dX3_openServer_20 0 rfl ?_
  refine k_callVv (st := []) C hE (c_X3_register l F hA now rnd jm rp x1 dc cn_2 sUp sLen sWrk sReg sFst sLst dPol dPtr dCnt dIdl dKnw jCnt jFin jBeg jWs jMis jSrv jLft jSub jWai jNxt cnd_3 sc  _ h) (cwV 1 C.2.2.2.2 gX3_openServer_X3_register rfl rfl rfl (by decide +kernel) ⟨Nat.le_of_ble_eq_true rfl, Nat.le_of_ble_eq_true rfl⟩) (fun H hP => va_recv hE.1 (k_one (st_St ((foc_g F) H hP))) rfl (q0 := 0) rfl) rfl rfl (Nat.le_of_ble_eq_true rfl) dX3_openServer_21 ⟨Nat.zero_le _, Nat.zero_le _⟩ (fun _ => ?_)
  refine k_ex (fun rnd_4 => k_ex (fun sReg_5 => k_ex (fun dCnt_6 => k_ex (fun dIdl_7 => k_and (fun h => ?_)))))
  refine k_iload_n C dX3_openServer_24 0 rfl ?_
  exact k_iret C hr hlk dX3_openServer_25 (fun H hP => ⟨rnd_4, x1, cn_2, sReg_5, dCnt_6, dIdl_7, cnd_3, h, hP⟩)
noncomputable def wp_X3_openDispatcher (dc : Int32) (dPol : Nat → Int32) (pol : Int32) (k : Int32 → Int32 → (Nat → Int32) → Prop) : Prop := ∀ x1 : Int32, x1 = (dc + 1) → ((vp_in dc 4) ∧ (∀ dPol_3 : Nat → Int32, dPol_3 = upd dPol (dc.toNatClampNeg) pol → (k dc x1 dPol_3)))
set_option maxRecDepth 100000 in
set_option maxHeartbeats 4000000 in
theorem c_X3_openDispatcher (l : Launch) {E : EV} {a : Nat} {P : PF} {A : Nat → Prop} (F : Foc E a P) (hA : ∀ q, inSt a q → A q) (now : Int32) (rnd : Int64) (jm : Int32) (rp : Int32) (sc : Int32) (dc : Int32) (cn : Int32) (sUp : Nat → Int32) (sLen : Nat → Int32) (sWrk : Nat → Int32) (sReg : Nat → Int32) (sFst : Nat → Int32) (sLst : Nat → Int32) (dPol : Nat → Int32) (dPtr : Nat → Int32) (dCnt : Nat → Int32) (dIdl : Nat → Nat → Int32) (dKnw : Nat → Nat → Int32) (jCnt : Int32) (jFin : Int32) (jBeg : Int32) (jWs : Int32) (jMis : Int32) (jSrv : Nat → Int32) (jLft : Nat → Int32) (jSub : Nat → Int32) (jWai : Nat → Int32) (jNxt : Nat → Int32) (cnd : Nat → Int32) (pol : Int32)  (k : Int32 → Int32 → (Nat → Int32) → Prop) (h : wp_X3_openDispatcher dc dPol pol k) : Met l yX3_openDispatcher wsX3_openDispatcher { frames := 0, cells := 0, slots := 0, locals := 0 } (va_Pc [.ref a, .int pol] (fun U => P now rnd jm rp sc dc cn sUp sLen sWrk sReg sFst sLst dPol dPtr dCnt dIdl dKnw jCnt jFin jBeg jWs jMis jSrv jLft jSub jWai jNxt cnd U.heap ∧ XE E U)) (kQi (fun r H => ∃ dc9 : Int32, ∃ dPol9 : Nat → Int32, k r dc9 dPol9 ∧ P now rnd jm rp sc dc9 cn sUp sLen sWrk sReg sFst sLst dPol9 dPtr dCnt dIdl dKnw jCnt jFin jBeg jWs jMis jSrv jLft jSub jWai jNxt cnd H) A) 0 0 A := by
  refine k_body (cc := cX3_openDispatcher) (own := RX3) (maxL := 3) (ret := (some .int)) (lv0 := [(0, .ref a), (1, .int pol)]) (by decide) rfl rfl (Nat.le_of_ble_eq_true rfl) rfl (fun p e s m below meth c C hr hlk hP hE => ?_)
  have hi3 : ∀ w ∈ u_ws RX3 TX3 11, w ∈ wsX3_openDispatcher := by decide +kernel
  have hi0 : ∀ w ∈ u_ws RX0 TX0 5, w ∈ wsX3_openDispatcher := by decide +kernel
  have lk0 := C.2.2.2.2 (.fieldLink RX3 28 "IdleDispatcher$State" "dispatcherCount" "I") (by decide +kernel)
  have lk1 := C.2.2.2.2 (.fieldLink RX3 40 "IdleDispatcher$State" "dispatchers" "[LIdleDispatcher$Dispatcher;") (by decide +kernel)
  have lk2 := C.2.2.2.2 (.fieldLink RX3 76 "IdleDispatcher$Dispatcher" "policy" "I") (by decide +kernel)
  refine k_aload_n C dX3_openDispatcher_0 0 rfl ?_
  refine g_dc C (foc_g F) hE.1 hi3 lk0 dX3_openDispatcher_1 ?_
  refine k_istore_n (lv' := [(2, .int dc), (0, .ref a), (1, .int pol)]) C dX3_openDispatcher_4 rfl (by decide) rfl ?_
  refine k_aload_n C dX3_openDispatcher_5 1 rfl ?_
  refine k_dup C dX3_openDispatcher_6 rfl ?_
  refine g_dc C (foc_g F) hE.1 hi3 lk0 dX3_openDispatcher_7 ?_
  refine k_iconst (v := 1) C dX3_openDispatcher_10 (by decide) ?_
  refine k_iadd C dX3_openDispatcher_11 ?_
  refine k_topi (fun x1 ex1 => ?_)
  replace h := h x1 ex1
  refine p_dc C F hA hE.1 hi3 lk0 dX3_openDispatcher_12 ?_
  refine k_aload_n C dX3_openDispatcher_15 1 rfl ?_
  refine g_St_dispatchers C (foc_g F) hE.1 hi3 lk1 dX3_openDispatcher_16 ?_
  refine k_iload_n C dX3_openDispatcher_19 0 rfl ?_
  obtain ⟨q2, h⟩ := h
  refine g_DA C (foc_g F) hE.1 q2 dX3_openDispatcher_20 ?_
  refine k_iload_n C dX3_openDispatcher_21 2 rfl ?_
  obtain ⟨dPol_3, edPol_3⟩ : ∃ z : Nat → Int32, z = upd dPol (dc.toNatClampNeg) pol := ⟨_, rfl⟩
  replace h := h dPol_3 edPol_3
  refine p_dPol C F hA hE.1 hi0 (vp_lt q2) edPol_3 lk2 dX3_openDispatcher_22 ?_
  refine k_iload_n C dX3_openDispatcher_25 0 rfl ?_
  exact k_iret C hr hlk dX3_openDispatcher_26 (fun H hP => ⟨x1, dPol_3, h, hP⟩)
noncomputable def wp_X3_switchServer (rnd : Int64) (jm : Int32) (sc : Int32) (dc : Int32) (sUp : Nat → Int32) (sLen : Nat → Int32) (sReg : Nat → Int32) (dCnt : Nat → Int32) (dIdl : Nat → Nat → Int32) (cnd : Nat → Int32) (num : Int32) (up : Int32) (k : Int32 → Int64 → Int32 → (Nat → Int32) → (Nat → Int32) → (Nat → Int32) → (Nat → Nat → Int32) → (Nat → Int32) → Prop) : Prop := (vp_in num 8) ∧ (∀ x2 : Int32, x2 = (sUp num.toNatClampNeg) → ((narrow .boolean (.int up) = .int up ∧ fits .boolean (.int up) = true) ∧ (∀ sUp_4 : Nat → Int32, sUp_4 = upd sUp (num.toNatClampNeg) up → (wp_X3_collectCandidates sc sUp_4 cnd (fun cn_5 cnd_6 => (up = 0 → (wp_X3_leaveIdleList sReg dCnt dIdl num (fun sReg_17 dCnt_18 dIdl_19 => (narrow .boolean (.int x2) = .int x2) ∧ (k x2 rnd cn_5 sUp_4 sReg_17 dCnt_18 dIdl_19 cnd_6)))) ∧ (¬ up = 0 → ((x2 = 0 → (((sLen num.toNatClampNeg) = 0 → (wp_X3_register rnd jm dc sReg dCnt dIdl num (fun rnd_12 sReg_13 dCnt_14 dIdl_15 => (narrow .boolean (.int x2) = .int x2) ∧ (k x2 rnd_12 cn_5 sUp_4 sReg_13 dCnt_14 dIdl_15 cnd_6)))) ∧ (¬ (sLen num.toNatClampNeg) = 0 → ((narrow .boolean (.int x2) = .int x2) ∧ (k x2 rnd cn_5 sUp_4 sReg dCnt dIdl cnd_6))))) ∧ (¬ x2 = 0 → ((narrow .boolean (.int x2) = .int x2) ∧ (k x2 rnd cn_5 sUp_4 sReg dCnt dIdl cnd_6))))))))))
set_option maxRecDepth 100000 in
set_option maxHeartbeats 4000000 in
theorem c_X3_switchServer (l : Launch) {E : EV} {a : Nat} {P : PF} {A : Nat → Prop} (F : Foc E a P) (hA : ∀ q, inSt a q → A q) (now : Int32) (rnd : Int64) (jm : Int32) (rp : Int32) (sc : Int32) (dc : Int32) (cn : Int32) (sUp : Nat → Int32) (sLen : Nat → Int32) (sWrk : Nat → Int32) (sReg : Nat → Int32) (sFst : Nat → Int32) (sLst : Nat → Int32) (dPol : Nat → Int32) (dPtr : Nat → Int32) (dCnt : Nat → Int32) (dIdl : Nat → Nat → Int32) (dKnw : Nat → Nat → Int32) (jCnt : Int32) (jFin : Int32) (jBeg : Int32) (jWs : Int32) (jMis : Int32) (jSrv : Nat → Int32) (jLft : Nat → Int32) (jSub : Nat → Int32) (jWai : Nat → Int32) (jNxt : Nat → Int32) (cnd : Nat → Int32) (num : Int32) (up : Int32)  (k : Int32 → Int64 → Int32 → (Nat → Int32) → (Nat → Int32) → (Nat → Int32) → (Nat → Nat → Int32) → (Nat → Int32) → Prop) (h : wp_X3_switchServer rnd jm sc dc sUp sLen sReg dCnt dIdl cnd num up k) : Met l yX3_switchServer wsX3_switchServer { frames := 3, cells := 0, slots := 0, locals := 66 } (va_Pc [.ref a, .int num, .int up] (fun U => P now rnd jm rp sc dc cn sUp sLen sWrk sReg sFst sLst dPol dPtr dCnt dIdl dKnw jCnt jFin jBeg jWs jMis jSrv jLft jSub jWai jNxt cnd U.heap ∧ XE E U)) (kQi (fun r H => ∃ rnd9 : Int64, ∃ cn9 : Int32, ∃ sUp9 : Nat → Int32, ∃ sReg9 : Nat → Int32, ∃ dCnt9 : Nat → Int32, ∃ dIdl9 : Nat → Nat → Int32, ∃ cnd9 : Nat → Int32, k r rnd9 cn9 sUp9 sReg9 dCnt9 dIdl9 cnd9 ∧ P now rnd9 jm rp sc dc cn9 sUp9 sLen sWrk sReg9 sFst sLst dPol dPtr dCnt9 dIdl9 dKnw jCnt jFin jBeg jWs jMis jSrv jLft jSub jWai jNxt cnd9 H) A) 0 0 A := by
  refine k_body (cc := cX3_switchServer) (own := RX3) (maxL := 5) (ret := (some .boolean)) (lv0 := [(0, .ref a), (1, .int num), (2, .int up)]) (by decide) rfl rfl (Nat.le_of_ble_eq_true rfl) rfl (fun p e s m below meth c C hr hlk hP hE => ?_)
  have hi3 : ∀ w ∈ u_ws RX3 TX3 11, w ∈ wsX3_switchServer := by decide +kernel
  have hi2 : ∀ w ∈ u_ws RX2 TX2 6, w ∈ wsX3_switchServer := by decide +kernel
  have lk0 := C.2.2.2.2 (.fieldLink RX3 33 "IdleDispatcher$State" "servers" "[LIdleDispatcher$Server;") (by decide +kernel)
  have lk1 := C.2.2.2.2 (.fieldLink RX3 79 "IdleDispatcher$Server" "up" "Z") (by decide +kernel)
  have lk2 := C.2.2.2.2 (.fieldLink RX3 86 "IdleDispatcher$Server" "length" "I") (by decide +kernel)
  refine k_aload_n C dX3_switchServer_0 0 rfl ?_
  refine g_St_servers C (foc_g F) hE.1 hi3 lk0 dX3_switchServer_1 ?_
  refine k_iload_n C dX3_switchServer_4 1 rfl ?_
  obtain ⟨q1, h⟩ := h
  refine g_SA C (foc_g F) hE.1 q1 dX3_switchServer_5 ?_
  refine k_astore_n (lv' := [(3, .ref (a + (2 + num.toNatClampNeg))), (0, .ref a), (1, .int num), (2, .int up)]) C dX3_switchServer_6 rfl (by decide) rfl ?_
  refine k_aload_n C dX3_switchServer_7 0 rfl ?_
  refine g_sUp C (foc_g F) hE.1 hi2 (vp_lt q1) lk1 dX3_switchServer_8 ?_
  refine k_topi (fun x2 ex2 => ?_)
  replace h := h x2 ex2
  refine k_istore (lv' := [(4, .int x2), (3, .ref (a + (2 + num.toNatClampNeg))), (0, .ref a), (1, .int num), (2, .int up)]) C dX3_switchServer_11 (by decide) rfl ?_
  refine k_aload_n C dX3_switchServer_13 1 rfl ?_
  refine k_iload_n C dX3_switchServer_14 4 rfl ?_
  obtain ⟨q3, h⟩ := h
  obtain ⟨sUp_4, esUp_4⟩ : ∃ z : Nat → Int32, z = upd sUp (num.toNatClampNeg) up := ⟨_, rfl⟩
  replace h := h sUp_4 esUp_4
  refine p_sUp C F hA hE.1 hi2 (vp_lt q1) q3.1 q3.2 esUp_4 lk1 dX3_switchServer_15 ?_
  refine k_aload_n C dX3_switchServer_18 2 rfl ?_
  refine k_callVv (st := []) C hE (c_X3_collectCandidates l F hA now rnd jm rp sc dc cn sUp_4 sLen sWrk sReg sFst sLst dPol dPtr dCnt dIdl dKnw jCnt jFin jBeg jWs jMis jSrv jLft jSub jWai jNxt cnd   _ h) (cwV 0 C.2.2.2.2 gX3_switchServer_X3_collectCandidates rfl rfl rfl (by decide +kernel) ⟨Nat.le_of_ble_eq_true rfl, Nat.le_of_ble_eq_true rfl⟩) (fun H hP => va_recv hE.1 (k_one (st_St ((foc_g F) H hP))) rfl (q0 := 0) rfl) rfl rfl (Nat.le_of_ble_eq_true rfl) dX3_switchServer_19 ⟨Nat.zero_le _, Nat.zero_le _⟩ (fun _ => ?_)
  refine k_ex (fun cn_5 => k_ex (fun cnd_6 => k_and (fun h => ?_)))
  refine k_iload_n C dX3_switchServer_22 4 rfl ?_
  refine k_if_ne (tgt := 34) C dX3_switchServer_23 (by decide) (fun c7 => ?_) (fun c7 => ?_)
  · replace h := h.2 c7
    refine k_iload C dX3_switchServer_34 0 rfl ?_
    refine k_if_ne (tgt := 51) C dX3_switchServer_36 (by decide) (fun c8 => ?_) (fun c8 => ?_)
    · replace h := h.2 c8
      refine k_iload C dX3_switchServer_51 0 rfl ?_
      obtain ⟨q9, h⟩ := h
      exact k_zret C hr hlk q9 dX3_switchServer_53 (fun H hP => ⟨rnd, cn_5, sUp_4, sReg, dCnt, dIdl, cnd_6, h, hP⟩)
    · replace h := h.1 c8
      refine k_aload_n C dX3_switchServer_39 1 rfl ?_
      refine g_sLen C (foc_g F) hE.1 hi2 (vp_lt q1) lk2 dX3_switchServer_40 ?_
      refine k_if_ne (tgt := 51) C dX3_switchServer_43 (by decide) (fun c10 => ?_) (fun c10 => ?_)
      · replace h := h.2 c10
        refine k_iload C dX3_switchServer_51 0 rfl ?_
        obtain ⟨q11, h⟩ := h
        exact k_zret C hr hlk q11 dX3_switchServer_53 (fun H hP => ⟨rnd, cn_5, sUp_4, sReg, dCnt, dIdl, cnd_6, h, hP⟩)
      · replace h := h.1 c10
        refine k_aload_n C dX3_switchServer_46 2 rfl ?_
        refine k_iload_n C dX3_switchServer_47 3 rfl ?_
        refine k_callVv (st := []) C hE (c_X3_register l F hA now rnd jm rp sc dc cn_5 sUp_4 sLen sWrk sReg sFst sLst dPol dPtr dCnt dIdl dKnw jCnt jFin jBeg jWs jMis jSrv jLft jSub jWai jNxt cnd_6 num  _ h) (cwV 1 C.2.2.2.2 gX3_switchServer_X3_register rfl rfl rfl (by decide +kernel) ⟨Nat.le_of_ble_eq_true rfl, Nat.le_of_ble_eq_true rfl⟩) (fun H hP => va_recv hE.1 (k_one (st_St ((foc_g F) H hP))) rfl (q0 := 0) rfl) rfl rfl (Nat.le_of_ble_eq_true rfl) dX3_switchServer_48 ⟨Nat.zero_le _, Nat.zero_le _⟩ (fun _ => ?_)
        refine k_ex (fun rnd_12 => k_ex (fun sReg_13 => k_ex (fun dCnt_14 => k_ex (fun dIdl_15 => k_and (fun h => ?_)))))
        refine k_iload C dX3_switchServer_51 0 rfl ?_
        obtain ⟨q16, h⟩ := h
        exact k_zret C hr hlk q16 dX3_switchServer_53 (fun H hP => ⟨rnd_12, cn_5, sUp_4, sReg_13, dCnt_14, dIdl_15, cnd_6, h, hP⟩)
  · replace h := h.1 c7
    refine k_aload_n C dX3_switchServer_26 2 rfl ?_
    refine k_iload_n C dX3_switchServer_27 3 rfl ?_
    refine k_callVv (st := []) C hE (c_X3_leaveIdleList l F hA now rnd jm rp sc dc cn_5 sUp_4 sLen sWrk sReg sFst sLst dPol dPtr dCnt dIdl dKnw jCnt jFin jBeg jWs jMis jSrv jLft jSub jWai jNxt cnd_6 num  _ h) (cwV 1 C.2.2.2.2 gX3_switchServer_X3_leaveIdleList rfl rfl rfl (by decide +kernel) ⟨Nat.le_of_ble_eq_true rfl, Nat.le_of_ble_eq_true rfl⟩) (fun H hP => va_recv hE.1 (k_one (st_St ((foc_g F) H hP))) rfl (q0 := 0) rfl) rfl rfl (Nat.le_of_ble_eq_true rfl) dX3_switchServer_28 ⟨Nat.zero_le _, Nat.zero_le _⟩ (fun _ => ?_)
    refine k_ex (fun sReg_17 => k_ex (fun dCnt_18 => k_ex (fun dIdl_19 => k_and (fun h => ?_))))
    refine k_goto (tgt := 51) C dX3_switchServer_31 (by decide) ?_
    refine k_iload C dX3_switchServer_51 0 rfl ?_
    obtain ⟨q20, h⟩ := h
    exact k_zret C hr hlk q20 dX3_switchServer_53 (fun H hP => ⟨rnd, cn_5, sUp_4, sReg_17, dCnt_18, dIdl_19, cnd_6, h, hP⟩)
noncomputable def wp_X3_nextInTurn_L2 (cn : Int32) (k : Int32 → Prop) (cnd : Nat → Int32) (ptr : Int32) (fu : Nat) : Int32 → Prop := Nat.rec (motive := fun _ => Int32 → Prop) (fun _ => False) (fun _ rec2 x1 => (cn ≤ x1 → (k (cnd 0))) ∧ (¬ (cn ≤ x1) → ((vp_in x1 8) ∧ (((cnd x1.toNatClampNeg) < ptr → (∀ x5 : Int32, x5 = x1 + 1 → (rec2 x5))) ∧ (¬ ((cnd x1.toNatClampNeg) < ptr) → (k (cnd x1.toNatClampNeg))))))) fu
noncomputable def wp_X3_nextInTurn (cn : Int32) (cnd : Nat → Int32) (ptr : Int32) (k : Int32 → Prop) : Prop := ∃ fu, wp_X3_nextInTurn_L2 cn k cnd ptr fu 0
set_option maxRecDepth 100000 in
set_option maxHeartbeats 4000000 in
theorem c_X3_nextInTurn (l : Launch) {E : EV} {a : Nat} {P : PF} {A : Nat → Prop} (F : Foc E a P) (hA : ∀ q, inSt a q → A q) (now : Int32) (rnd : Int64) (jm : Int32) (rp : Int32) (sc : Int32) (dc : Int32) (cn : Int32) (sUp : Nat → Int32) (sLen : Nat → Int32) (sWrk : Nat → Int32) (sReg : Nat → Int32) (sFst : Nat → Int32) (sLst : Nat → Int32) (dPol : Nat → Int32) (dPtr : Nat → Int32) (dCnt : Nat → Int32) (dIdl : Nat → Nat → Int32) (dKnw : Nat → Nat → Int32) (jCnt : Int32) (jFin : Int32) (jBeg : Int32) (jWs : Int32) (jMis : Int32) (jSrv : Nat → Int32) (jLft : Nat → Int32) (jSub : Nat → Int32) (jWai : Nat → Int32) (jNxt : Nat → Int32) (cnd : Nat → Int32) (ptr : Int32)  (k : Int32 → Prop) (h : wp_X3_nextInTurn cn cnd ptr k) : Met l yX3_nextInTurn wsX3_nextInTurn { frames := 0, cells := 0, slots := 0, locals := 0 } (va_Pc [.ref a, .int ptr] (fun U => P now rnd jm rp sc dc cn sUp sLen sWrk sReg sFst sLst dPol dPtr dCnt dIdl dKnw jCnt jFin jBeg jWs jMis jSrv jLft jSub jWai jNxt cnd U.heap ∧ XE E U)) (kQi (fun r H => k r ∧ P now rnd jm rp sc dc cn sUp sLen sWrk sReg sFst sLst dPol dPtr dCnt dIdl dKnw jCnt jFin jBeg jWs jMis jSrv jLft jSub jWai jNxt cnd H) A) 0 0 A := by
  refine k_body (cc := cX3_nextInTurn) (own := RX3) (maxL := 3) (ret := (some .int)) (lv0 := [(0, .ref a), (1, .int ptr)]) (by decide) rfl rfl (Nat.le_of_ble_eq_true rfl) rfl (fun p e s m below meth c C hr hlk hP hE => ?_)
  have hi3 : ∀ w ∈ u_ws RX3 TX3 11, w ∈ wsX3_nextInTurn := by decide +kernel
  have lk0 := C.2.2.2.2 (.fieldLink RX3 52 "IdleDispatcher$State" "candidateCount" "I") (by decide +kernel)
  have lk1 := C.2.2.2.2 (.fieldLink RX3 55 "IdleDispatcher$State" "candidates" "[I") (by decide +kernel)
  refine k_iconst (v := 0) C dX3_nextInTurn_0 (by decide) ?_
  refine k_istore_n (lv' := [(2, .int 0), (0, .ref a), (1, .int ptr)]) C dX3_nextInTurn_1 rfl (by decide) rfl ?_
  obtain ⟨n2, h⟩ := h
  refine k_pc (pc2 := 2) rfl ?_
  refine k_loop1 (wp_X3_nextInTurn_L2 cn k cnd ptr) (fun x1 => P now rnd jm rp sc dc cn sUp sLen sWrk sReg sFst sLst dPol dPtr dCnt dIdl dKnw jCnt jFin jBeg jWs jMis jSrv jLft jSub jWai jNxt cnd) (fun x1 => [(2, .int x1), (0, .ref a), (1, .int ptr)]) (fun _ h => h) (fun n2 ih2 x1 h => ?_) n2 _ h
  refine k_iload_n C dX3_nextInTurn_2 0 rfl ?_
  refine k_aload_n C dX3_nextInTurn_3 1 rfl ?_
  refine g_cn C (foc_g F) hE.1 hi3 lk0 dX3_nextInTurn_4 ?_
  refine k_icmp_ge (tgt := 33) C dX3_nextInTurn_7 (by decide) (fun c2 => ?_) (fun c2 => ?_)
  · replace h := h.1 c2
    refine k_aload_n C dX3_nextInTurn_33 1 rfl ?_
    refine g_St_candidates C (foc_g F) hE.1 hi3 lk1 dX3_nextInTurn_34 ?_
    refine k_iconst (v := 0) C dX3_nextInTurn_37 (by decide) ?_
    refine g_cnd C (foc_g F) hE.1 (vp_lit (i := 0) (n := 8) (by decide)) dX3_nextInTurn_38 ?_
    exact k_iret C hr hlk dX3_nextInTurn_39 (fun H hP => ⟨h, hP⟩)
  · replace h := h.2 c2
    refine k_aload_n C dX3_nextInTurn_10 1 rfl ?_
    refine g_St_candidates C (foc_g F) hE.1 hi3 lk1 dX3_nextInTurn_11 ?_
    refine k_iload_n C dX3_nextInTurn_14 0 rfl ?_
    obtain ⟨q3, h⟩ := h
    refine g_cnd C (foc_g F) hE.1 q3 dX3_nextInTurn_15 ?_
    refine k_iload_n C dX3_nextInTurn_16 2 rfl ?_
    refine k_icmp_lt (tgt := 27) C dX3_nextInTurn_17 (by decide) (fun c4 => ?_) (fun c4 => ?_)
    · replace h := h.1 c4
      obtain ⟨x5, ex5⟩ : ∃ z : Int32, z = x1 + 1 := ⟨_, rfl⟩
      replace h := h x5 ex5
      refine k_iinc (v := x5) (lv' := [(2, .int x5), (0, .ref a), (1, .int ptr)]) (j := 0) C dX3_nextInTurn_27 rfl (by rw [ex5]; rfl) (by decide) rfl ?_
      refine k_goto (tgt := 2) C dX3_nextInTurn_30 (by decide) ?_
      refine k_pc (pc2 := 2) rfl ?_
      refine k_sub [0, 1, 2] rfl ?_
      exact ih2 _ h
    · replace h := h.2 c4
      refine k_aload_n C dX3_nextInTurn_20 1 rfl ?_
      refine g_St_candidates C (foc_g F) hE.1 hi3 lk1 dX3_nextInTurn_21 ?_
      refine k_iload_n C dX3_nextInTurn_24 0 rfl ?_
      refine g_cnd C (foc_g F) hE.1 q3 dX3_nextInTurn_25 ?_
      exact k_iret C hr hlk dX3_nextInTurn_26 (fun H hP => ⟨h, hP⟩)
noncomputable def wp_X3_leastKnown_L9 (cn : Int32) (k : Int32 → Prop) (cnd : Nat → Int32) (dKnw : Nat → Nat → Int32) (dk : Nat) (fu : Nat) : Int32 → Int32 → Prop := Nat.rec (motive := fun _ => Int32 → Int32 → Prop) (fun _ _ => False) (fun _ rec9 x2 x3 => (cn ≤ x2 → (k x3)) ∧ (¬ (cn ≤ x2) → ((vp_in x2 8) ∧ ((vp_in (cnd x2.toNatClampNeg) 8) ∧ ((vp_in x3 8) ∧ (((dKnw dk x3.toNatClampNeg) ≤ (dKnw dk (cnd x2.toNatClampNeg).toNatClampNeg) → (∀ x9 : Int32, x9 = x2 + 1 → (rec9 x9 x3))) ∧ (¬ ((dKnw dk x3.toNatClampNeg) ≤ (dKnw dk (cnd x2.toNatClampNeg).toNatClampNeg)) → (∀ x10 : Int32, x10 = (cnd x2.toNatClampNeg) → (∀ x11 : Int32, x11 = x2 + 1 → (rec9 x11 x10)))))))))) fu
noncomputable def wp_X3_leastKnown (cn : Int32) (dKnw : Nat → Nat → Int32) (cnd : Nat → Int32) (dk : Nat) (k : Int32 → Prop) : Prop := ∀ x1 : Int32, x1 = (cnd 0) → (∃ fu, wp_X3_leastKnown_L9 cn k cnd dKnw dk fu 1 x1)
set_option maxRecDepth 100000 in
set_option maxHeartbeats 4000000 in
theorem c_X3_leastKnown (l : Launch) {E : EV} {a : Nat} {P : PF} {A : Nat → Prop} (F : Foc E a P) (hA : ∀ q, inSt a q → A q) (now : Int32) (rnd : Int64) (jm : Int32) (rp : Int32) (sc : Int32) (dc : Int32) (cn : Int32) (sUp : Nat → Int32) (sLen : Nat → Int32) (sWrk : Nat → Int32) (sReg : Nat → Int32) (sFst : Nat → Int32) (sLst : Nat → Int32) (dPol : Nat → Int32) (dPtr : Nat → Int32) (dCnt : Nat → Int32) (dIdl : Nat → Nat → Int32) (dKnw : Nat → Nat → Int32) (jCnt : Int32) (jFin : Int32) (jBeg : Int32) (jWs : Int32) (jMis : Int32) (jSrv : Nat → Int32) (jLft : Nat → Int32) (jSub : Nat → Int32) (jWai : Nat → Int32) (jNxt : Nat → Int32) (cnd : Nat → Int32) (dk : Nat) (hdk : dk < 4) (k : Int32 → Prop) (h : wp_X3_leastKnown cn dKnw cnd dk k) : Met l yX3_leastKnown wsX3_leastKnown { frames := 0, cells := 0, slots := 0, locals := 0 } (va_Pc [.ref a, .ref (a + (13 + 3 * dk))] (fun U => P now rnd jm rp sc dc cn sUp sLen sWrk sReg sFst sLst dPol dPtr dCnt dIdl dKnw jCnt jFin jBeg jWs jMis jSrv jLft jSub jWai jNxt cnd U.heap ∧ XE E U)) (kQi (fun r H => k r ∧ P now rnd jm rp sc dc cn sUp sLen sWrk sReg sFst sLst dPol dPtr dCnt dIdl dKnw jCnt jFin jBeg jWs jMis jSrv jLft jSub jWai jNxt cnd H) A) 0 0 A := by
  refine k_body (cc := cX3_leastKnown) (own := RX3) (maxL := 4) (ret := (some .int)) (lv0 := [(0, .ref a), (1, .ref (a + (13 + 3 * dk)))]) (by decide) rfl rfl (Nat.le_of_ble_eq_true rfl) rfl (fun p e s m below meth c C hr hlk hP hE => ?_)
  have hi3 : ∀ w ∈ u_ws RX3 TX3 11, w ∈ wsX3_leastKnown := by decide +kernel
  have lk0 := C.2.2.2.2 (.fieldLink RX3 55 "IdleDispatcher$State" "candidates" "[I") (by decide +kernel)
  have lk1 := C.2.2.2.2 (.fieldLink RX3 52 "IdleDispatcher$State" "candidateCount" "I") (by decide +kernel)
  refine k_aload_n C dX3_leastKnown_0 0 rfl ?_
  refine g_St_candidates C (foc_g F) hE.1 hi3 lk0 dX3_leastKnown_1 ?_
  refine k_iconst (v := 0) C dX3_leastKnown_4 (by decide) ?_
  refine g_cnd C (foc_g F) hE.1 (vp_lit (i := 0) (n := 8) (by decide)) dX3_leastKnown_5 ?_
  refine k_topi (fun x1 ex1 => ?_)
  replace h := h x1 ex1
  refine k_istore_n (lv' := [(2, .int x1), (0, .ref a), (1, .ref (a + (13 + 3 * dk)))]) C dX3_leastKnown_6 rfl (by decide) rfl ?_
  refine k_iconst (v := 1) C dX3_leastKnown_7 (by decide) ?_
  refine k_istore_n (lv' := [(3, .int 1), (2, .int x1), (0, .ref a), (1, .ref (a + (13 + 3 * dk)))]) C dX3_leastKnown_8 rfl (by decide) rfl ?_
  obtain ⟨n9, h⟩ := h
  refine k_pc (pc2 := 9) rfl ?_
  refine k_loop2 (wp_X3_leastKnown_L9 cn k cnd dKnw dk) (fun x2 x3 => P now rnd jm rp sc dc cn sUp sLen sWrk sReg sFst sLst dPol dPtr dCnt dIdl dKnw jCnt jFin jBeg jWs jMis jSrv jLft jSub jWai jNxt cnd) (fun x2 x3 => [(3, .int x2), (2, .int x3), (0, .ref a), (1, .ref (a + (13 + 3 * dk)))]) (fun _ _ h => h) (fun n9 ih9 x2 x3 h => ?_) n9 _ _ h
  refine k_iload_n C dX3_leastKnown_9 0 rfl ?_
  refine k_aload_n C dX3_leastKnown_10 2 rfl ?_
  refine g_cn C (foc_g F) hE.1 hi3 lk1 dX3_leastKnown_11 ?_
  refine k_icmp_ge (tgt := 44) C dX3_leastKnown_14 (by decide) (fun c4 => ?_) (fun c4 => ?_)
  · replace h := h.1 c4
    refine k_iload_n C dX3_leastKnown_44 1 rfl ?_
    exact k_iret C hr hlk dX3_leastKnown_45 (fun H hP => ⟨h, hP⟩)
  · replace h := h.2 c4
    refine k_aload_n C dX3_leastKnown_17 3 rfl ?_
    refine k_aload_n C dX3_leastKnown_18 2 rfl ?_
    refine g_St_candidates C (foc_g F) hE.1 hi3 lk0 dX3_leastKnown_19 ?_
    refine k_iload_n C dX3_leastKnown_22 0 rfl ?_
    obtain ⟨q5, h⟩ := h
    refine g_cnd C (foc_g F) hE.1 q5 dX3_leastKnown_23 ?_
    obtain ⟨q6, h⟩ := h
    refine g_dKnw C (foc_g F) hE.1 hdk q6 dX3_leastKnown_24 ?_
    refine k_aload_n C dX3_leastKnown_25 3 rfl ?_
    refine k_iload_n C dX3_leastKnown_26 1 rfl ?_
    obtain ⟨q7, h⟩ := h
    refine g_dKnw C (foc_g F) hE.1 hdk q7 dX3_leastKnown_27 ?_
    refine k_icmp_ge (tgt := 38) C dX3_leastKnown_28 (by decide) (fun c8 => ?_) (fun c8 => ?_)
    · replace h := h.1 c8
      obtain ⟨x9, ex9⟩ : ∃ z : Int32, z = x2 + 1 := ⟨_, rfl⟩
      replace h := h x9 ex9
      refine k_iinc (v := x9) (lv' := [(3, .int x9), (2, .int x3), (0, .ref a), (1, .ref (a + (13 + 3 * dk)))]) (j := 0) C dX3_leastKnown_38 rfl (by rw [ex9]; rfl) (by decide) rfl ?_
      refine k_goto (tgt := 9) C dX3_leastKnown_41 (by decide) ?_
      refine k_pc (pc2 := 9) rfl ?_
      refine k_sub [0, 1, 2, 3] rfl ?_
      exact ih9 _ _ h
    · replace h := h.2 c8
      refine k_aload_n C dX3_leastKnown_31 2 rfl ?_
      refine g_St_candidates C (foc_g F) hE.1 hi3 lk0 dX3_leastKnown_32 ?_
      refine k_iload_n C dX3_leastKnown_35 0 rfl ?_
      refine g_cnd C (foc_g F) hE.1 q5 dX3_leastKnown_36 ?_
      refine k_topi (fun x10 ex10 => ?_)
      replace h := h x10 ex10
      refine k_istore_n (lv' := [(2, .int x10), (3, .int x2), (0, .ref a), (1, .ref (a + (13 + 3 * dk)))]) C dX3_leastKnown_37 rfl (by decide) rfl ?_
      obtain ⟨x11, ex11⟩ : ∃ z : Int32, z = x2 + 1 := ⟨_, rfl⟩
      replace h := h x11 ex11
      refine k_iinc (v := x11) (lv' := [(3, .int x11), (2, .int x10), (0, .ref a), (1, .ref (a + (13 + 3 * dk)))]) (j := 1) C dX3_leastKnown_38 rfl (by rw [ex11]; rfl) (by decide) rfl ?_
      refine k_goto (tgt := 9) C dX3_leastKnown_41 (by decide) ?_
      refine k_pc (pc2 := 9) rfl ?_
      refine k_sub [0, 1, 2, 3] rfl ?_
      exact ih9 _ _ h
noncomputable def wp_X3_certainServer (cn : Int32) (dPol : Nat → Int32) (dPtr : Nat → Int32) (dCnt : Nat → Int32) (dIdl : Nat → Nat → Int32) (dKnw : Nat → Nat → Int32) (cnd : Nat → Int32) (dd : Nat) (k : Int32 → Prop) : Prop := ((dPol dd).toInt = 1 → (wp_X3_nextInTurn cn cnd (dPtr dd) (fun r2 => k r2))) ∧ ((dPol dd).toInt = 2 → (k (-1))) ∧ ((dPol dd).toInt = 3 → (((dCnt dd) ≤ 0 → (k (-1))) ∧ (¬ ((dCnt dd) ≤ 0) → (k (dIdl dd 0))))) ∧ ((dPol dd).toInt = 4 → (wp_X3_leastKnown cn dKnw cnd dd (fun r7 => k r7))) ∧ (((dPol dd).toInt < 1 ∨ 4 < (dPol dd).toInt) → (k (-1)))
set_option maxRecDepth 100000 in
set_option maxHeartbeats 4000000 in
theorem c_X3_certainServer (l : Launch) {E : EV} {a : Nat} {P : PF} {A : Nat → Prop} (F : Foc E a P) (hA : ∀ q, inSt a q → A q) (now : Int32) (rnd : Int64) (jm : Int32) (rp : Int32) (sc : Int32) (dc : Int32) (cn : Int32) (sUp : Nat → Int32) (sLen : Nat → Int32) (sWrk : Nat → Int32) (sReg : Nat → Int32) (sFst : Nat → Int32) (sLst : Nat → Int32) (dPol : Nat → Int32) (dPtr : Nat → Int32) (dCnt : Nat → Int32) (dIdl : Nat → Nat → Int32) (dKnw : Nat → Nat → Int32) (jCnt : Int32) (jFin : Int32) (jBeg : Int32) (jWs : Int32) (jMis : Int32) (jSrv : Nat → Int32) (jLft : Nat → Int32) (jSub : Nat → Int32) (jWai : Nat → Int32) (jNxt : Nat → Int32) (cnd : Nat → Int32) (dd : Nat) (hdd : dd < 4) (k : Int32 → Prop) (h : wp_X3_certainServer cn dPol dPtr dCnt dIdl dKnw cnd dd k) : Met l yX3_certainServer wsX3_certainServer { frames := 1, cells := 0, slots := 0, locals := 23 } (va_Pc [.ref a, .ref (a + (11 + 3 * dd))] (fun U => P now rnd jm rp sc dc cn sUp sLen sWrk sReg sFst sLst dPol dPtr dCnt dIdl dKnw jCnt jFin jBeg jWs jMis jSrv jLft jSub jWai jNxt cnd U.heap ∧ XE E U)) (kQi (fun r H => k r ∧ P now rnd jm rp sc dc cn sUp sLen sWrk sReg sFst sLst dPol dPtr dCnt dIdl dKnw jCnt jFin jBeg jWs jMis jSrv jLft jSub jWai jNxt cnd H) A) 0 0 A := by
  refine k_body (cc := cX3_certainServer) (own := RX3) (maxL := 2) (ret := (some .int)) (lv0 := [(0, .ref a), (1, .ref (a + (11 + 3 * dd)))]) (by decide) rfl rfl (Nat.le_of_ble_eq_true rfl) rfl (fun p e s m below meth c C hr hlk hP hE => ?_)
  have hi0 : ∀ w ∈ u_ws RX0 TX0 5, w ∈ wsX3_certainServer := by decide +kernel
  have lk0 := C.2.2.2.2 (.fieldLink RX3 76 "IdleDispatcher$Dispatcher" "policy" "I") (by decide +kernel)
  have lk1 := C.2.2.2.2 (.fieldLink RX3 116 "IdleDispatcher$Dispatcher" "pointer" "I") (by decide +kernel)
  have lk2 := C.2.2.2.2 (.fieldLink RX3 110 "IdleDispatcher$Dispatcher" "idleCount" "I") (by decide +kernel)
  have lk3 := C.2.2.2.2 (.fieldLink RX3 122 "IdleDispatcher$Dispatcher" "idle" "[I") (by decide +kernel)
  have lk4 := C.2.2.2.2 (.fieldLink RX3 125 "IdleDispatcher$Dispatcher" "known" "[I") (by decide +kernel)
  refine k_aload_n C dX3_certainServer_0 1 rfl ?_
  refine g_dPol C (foc_g F) hE.1 hi0 hdd lk0 dX3_certainServer_1 ?_
  by_cases c1 : (dPol dd).toInt = 1
  · refine k_tableIn (off := 32) (tgt := 36) C dX3_certainServer_4 (by omega) (by omega) (by rw [c1]; rfl) (by decide) ?_
    replace h := h.1 c1
    refine k_aload_n C dX3_certainServer_36 0 rfl ?_
    refine k_aload_n C dX3_certainServer_37 1 rfl ?_
    refine g_dPtr C (foc_g F) hE.1 hi0 hdd lk1 dX3_certainServer_38 ?_
    refine k_callVi (st := []) C hE (c_X3_nextInTurn l F hA now rnd jm rp sc dc cn sUp sLen sWrk sReg sFst sLst dPol dPtr dCnt dIdl dKnw jCnt jFin jBeg jWs jMis jSrv jLft jSub jWai jNxt cnd (dPtr dd)  _ h) (cwV 1 C.2.2.2.2 gX3_certainServer_X3_nextInTurn rfl rfl rfl (by decide +kernel) ⟨Nat.le_of_ble_eq_true rfl, Nat.le_of_ble_eq_true rfl⟩) (fun H hP => va_recv hE.1 (k_one (st_St ((foc_g F) H hP))) rfl (q0 := 0) rfl) rfl rfl (Nat.le_of_ble_eq_true rfl) dX3_certainServer_41 ⟨Nat.zero_le _, Nat.zero_le _⟩ (fun r2 => ?_)
    refine k_and (fun h => ?_)
    exact k_iret C hr hlk dX3_certainServer_44 (fun H hP => ⟨h, hP⟩)
  ·
    by_cases c3 : (dPol dd).toInt = 2
    · refine k_tableIn (off := 68) (tgt := 72) C dX3_certainServer_4 (by omega) (by omega) (by rw [c3]; rfl) (by decide) ?_
      replace h := h.2.1 c3
      refine k_iconst (v := (-1)) C dX3_certainServer_72 (by decide) ?_
      exact k_iret C hr hlk dX3_certainServer_73 (fun H hP => ⟨h, hP⟩)
    ·
      by_cases c4 : (dPol dd).toInt = 3
      · refine k_tableIn (off := 41) (tgt := 45) C dX3_certainServer_4 (by omega) (by omega) (by rw [c4]; rfl) (by decide) ?_
        replace h := h.2.2.1 c4
        refine k_aload_n C dX3_certainServer_45 1 rfl ?_
        refine g_dCnt C (foc_g F) hE.1 hi0 hdd lk2 dX3_certainServer_46 ?_
        refine k_if_le (tgt := 61) C dX3_certainServer_49 (by decide) (fun c5 => ?_) (fun c5 => ?_)
        · replace h := h.1 c5
          refine k_iconst (v := (-1)) C dX3_certainServer_61 (by decide) ?_
          exact k_iret C hr hlk dX3_certainServer_62 (fun H hP => ⟨h, hP⟩)
        · replace h := h.2 c5
          refine k_aload_n C dX3_certainServer_52 1 rfl ?_
          refine g_Di_idle C (foc_g F) hE.1 hi0 hdd lk3 dX3_certainServer_53 ?_
          refine k_iconst (v := 0) C dX3_certainServer_56 (by decide) ?_
          refine g_dIdl C (foc_g F) hE.1 hdd (vp_lit (i := 0) (n := 8) (by decide)) dX3_certainServer_57 ?_
          refine k_goto (tgt := 62) C dX3_certainServer_58 (by decide) ?_
          exact k_iret C hr hlk dX3_certainServer_62 (fun H hP => ⟨h, hP⟩)
      ·
        by_cases c6 : (dPol dd).toInt = 4
        · refine k_tableIn (off := 59) (tgt := 63) C dX3_certainServer_4 (by omega) (by omega) (by rw [c6]; rfl) (by decide) ?_
          replace h := h.2.2.2.1 c6
          refine k_aload_n C dX3_certainServer_63 0 rfl ?_
          refine k_aload_n C dX3_certainServer_64 1 rfl ?_
          refine g_Di_known C (foc_g F) hE.1 hi0 hdd lk4 dX3_certainServer_65 ?_
          refine k_callVi (st := []) C hE (c_X3_leastKnown l F hA now rnd jm rp sc dc cn sUp sLen sWrk sReg sFst sLst dPol dPtr dCnt dIdl dKnw jCnt jFin jBeg jWs jMis jSrv jLft jSub jWai jNxt cnd dd hdd _ h) (cwV 1 C.2.2.2.2 gX3_certainServer_X3_leastKnown rfl rfl rfl (by decide +kernel) ⟨Nat.le_of_ble_eq_true rfl, Nat.le_of_ble_eq_true rfl⟩) (fun H hP => va_recv hE.1 (k_one (st_St ((foc_g F) H hP))) rfl (q0 := 0) rfl) rfl rfl (Nat.le_of_ble_eq_true rfl) dX3_certainServer_68 ⟨Nat.zero_le _, Nat.zero_le _⟩ (fun r7 => ?_)
          refine k_and (fun h => ?_)
          exact k_iret C hr hlk dX3_certainServer_71 (fun H hP => ⟨h, hP⟩)
        ·
          have c8 : (dPol dd).toInt < 1 ∨ 4 < (dPol dd).toInt := by omega
          refine k_tableOut (tgt := 72) C dX3_certainServer_4 c8 (by decide) ?_
          replace h := h.2.2.2.2 c8
          refine k_iconst (v := (-1)) C dX3_certainServer_72 (by decide) ?_
          exact k_iret C hr hlk dX3_certainServer_73 (fun H hP => ⟨h, hP⟩)
noncomputable def wp_X3_drawServer (rnd : Int64) (cn : Int32) (sLen : Nat → Int32) (cnd : Nat → Int32) (pol : Int32) (k : Int32 → Int64 → Prop) : Prop := wp_X3_draw rnd cn (fun r1 rnd_2 => (vp_in r1 8) ∧ (∀ x4 : Int32, x4 = (cnd r1.toNatClampNeg) → ((pol = 2 → (wp_X3_draw rnd_2 cn (fun r6 rnd_7 => (vp_in r6 8) ∧ (∀ x9 : Int32, x9 = (cnd r6.toNatClampNeg) → ((vp_in x9 8) ∧ ((vp_in x4 8) ∧ (((sLen x4.toNatClampNeg) ≤ (sLen x9.toNatClampNeg) → (k x4 rnd_7)) ∧ (¬ ((sLen x4.toNatClampNeg) ≤ (sLen x9.toNatClampNeg)) → (k x9 rnd_7))))))))) ∧ (¬ (pol = 2) → (k x4 rnd_2)))))
set_option maxRecDepth 100000 in
set_option maxHeartbeats 4000000 in
theorem c_X3_drawServer (l : Launch) {E : EV} {a : Nat} {P : PF} {A : Nat → Prop} (F : Foc E a P) (hA : ∀ q, inSt a q → A q) (now : Int32) (rnd : Int64) (jm : Int32) (rp : Int32) (sc : Int32) (dc : Int32) (cn : Int32) (sUp : Nat → Int32) (sLen : Nat → Int32) (sWrk : Nat → Int32) (sReg : Nat → Int32) (sFst : Nat → Int32) (sLst : Nat → Int32) (dPol : Nat → Int32) (dPtr : Nat → Int32) (dCnt : Nat → Int32) (dIdl : Nat → Nat → Int32) (dKnw : Nat → Nat → Int32) (jCnt : Int32) (jFin : Int32) (jBeg : Int32) (jWs : Int32) (jMis : Int32) (jSrv : Nat → Int32) (jLft : Nat → Int32) (jSub : Nat → Int32) (jWai : Nat → Int32) (jNxt : Nat → Int32) (cnd : Nat → Int32) (pol : Int32)  (k : Int32 → Int64 → Prop) (h : wp_X3_drawServer rnd cn sLen cnd pol k) : Met l yX3_drawServer wsX3_drawServer { frames := 1, cells := 0, slots := 0, locals := 21 } (va_Pc [.ref a, .int pol] (fun U => P now rnd jm rp sc dc cn sUp sLen sWrk sReg sFst sLst dPol dPtr dCnt dIdl dKnw jCnt jFin jBeg jWs jMis jSrv jLft jSub jWai jNxt cnd U.heap ∧ XE E U)) (kQi (fun r H => ∃ rnd9 : Int64, k r rnd9 ∧ P now rnd9 jm rp sc dc cn sUp sLen sWrk sReg sFst sLst dPol dPtr dCnt dIdl dKnw jCnt jFin jBeg jWs jMis jSrv jLft jSub jWai jNxt cnd H) A) 0 0 A := by
  refine k_body (cc := cX3_drawServer) (own := RX3) (maxL := 4) (ret := (some .int)) (lv0 := [(0, .ref a), (1, .int pol)]) (by decide) rfl rfl (Nat.le_of_ble_eq_true rfl) rfl (fun p e s m below meth c C hr hlk hP hE => ?_)
  have hi3 : ∀ w ∈ u_ws RX3 TX3 11, w ∈ wsX3_drawServer := by decide +kernel
  have hi2 : ∀ w ∈ u_ws RX2 TX2 6, w ∈ wsX3_drawServer := by decide +kernel
  have lk0 := C.2.2.2.2 (.fieldLink RX3 55 "IdleDispatcher$State" "candidates" "[I") (by decide +kernel)
  have lk1 := C.2.2.2.2 (.fieldLink RX3 52 "IdleDispatcher$State" "candidateCount" "I") (by decide +kernel)
  have lk2 := C.2.2.2.2 (.fieldLink RX3 33 "IdleDispatcher$State" "servers" "[LIdleDispatcher$Server;") (by decide +kernel)
  have lk3 := C.2.2.2.2 (.fieldLink RX3 86 "IdleDispatcher$Server" "length" "I") (by decide +kernel)
  refine k_aload_n C dX3_drawServer_0 0 rfl ?_
  refine g_St_candidates C (foc_g F) hE.1 hi3 lk0 dX3_drawServer_1 ?_
  refine k_aload_n C dX3_drawServer_4 0 rfl ?_
  refine k_aload_n C dX3_drawServer_5 0 rfl ?_
  refine g_cn C (foc_g F) hE.1 hi3 lk1 dX3_drawServer_6 ?_
  refine k_callVi (st := [.ref (a + (29))]) C hE (c_X3_draw l F hA now rnd jm rp sc dc cn sUp sLen sWrk sReg sFst sLst dPol dPtr dCnt dIdl dKnw jCnt jFin jBeg jWs jMis jSrv jLft jSub jWai jNxt cnd cn  _ h) (cwV 1 C.2.2.2.2 gX3_drawServer_X3_draw rfl rfl rfl (by decide +kernel) ⟨Nat.le_of_ble_eq_true rfl, Nat.le_of_ble_eq_true rfl⟩) (fun H hP => va_recv hE.1 (k_one (st_St ((foc_g F) H hP))) rfl (q0 := 0) rfl) rfl rfl (Nat.le_of_ble_eq_true rfl) dX3_drawServer_9 ⟨Nat.zero_le _, Nat.zero_le _⟩ (fun r1 => ?_)
  refine k_ex (fun rnd_2 => k_and (fun h => ?_))
  obtain ⟨q3, h⟩ := h
  refine g_cnd C (foc_g F) hE.1 q3 dX3_drawServer_12 ?_
  refine k_topi (fun x4 ex4 => ?_)
  replace h := h x4 ex4
  refine k_istore_n (lv' := [(2, .int x4), (0, .ref a), (1, .int pol)]) C dX3_drawServer_13 rfl (by decide) rfl ?_
  refine k_iload_n C dX3_drawServer_14 2 rfl ?_
  refine k_iconst (v := 2) C dX3_drawServer_15 (by decide) ?_
  refine k_icmp_eq (tgt := 21) C dX3_drawServer_16 (by decide) (fun c5 => ?_) (fun c5 => ?_)
  · replace h := h.1 c5
    refine k_aload_n C dX3_drawServer_21 1 rfl ?_
    refine g_St_candidates C (foc_g F) hE.1 hi3 lk0 dX3_drawServer_22 ?_
    refine k_aload_n C dX3_drawServer_25 1 rfl ?_
    refine k_aload_n C dX3_drawServer_26 1 rfl ?_
    refine g_cn C (foc_g F) hE.1 hi3 lk1 dX3_drawServer_27 ?_
    refine k_callVi (st := [.ref (a + (29))]) C hE (c_X3_draw l F hA now rnd_2 jm rp sc dc cn sUp sLen sWrk sReg sFst sLst dPol dPtr dCnt dIdl dKnw jCnt jFin jBeg jWs jMis jSrv jLft jSub jWai jNxt cnd cn  _ h) (cwV 1 C.2.2.2.2 gX3_drawServer_X3_draw rfl rfl rfl (by decide +kernel) ⟨Nat.le_of_ble_eq_true rfl, Nat.le_of_ble_eq_true rfl⟩) (fun H hP => va_recv hE.1 (k_one (st_St ((foc_g F) H hP))) rfl (q0 := 0) rfl) rfl rfl (Nat.le_of_ble_eq_true rfl) dX3_drawServer_30 ⟨Nat.zero_le _, Nat.zero_le _⟩ (fun r6 => ?_)
    refine k_ex (fun rnd_7 => k_and (fun h => ?_))
    obtain ⟨q8, h⟩ := h
    refine g_cnd C (foc_g F) hE.1 q8 dX3_drawServer_33 ?_
    refine k_topi (fun x9 ex9 => ?_)
    replace h := h x9 ex9
    refine k_istore_n (lv' := [(3, .int x9), (2, .int x4), (0, .ref a), (1, .int pol)]) C dX3_drawServer_34 rfl (by decide) rfl ?_
    refine k_aload_n C dX3_drawServer_35 2 rfl ?_
    refine g_St_servers C (foc_g F) hE.1 hi3 lk2 dX3_drawServer_36 ?_
    refine k_iload_n C dX3_drawServer_39 0 rfl ?_
    obtain ⟨q10, h⟩ := h
    refine g_SA C (foc_g F) hE.1 q10 dX3_drawServer_40 ?_
    refine g_sLen C (foc_g F) hE.1 hi2 (vp_lt q10) lk3 dX3_drawServer_41 ?_
    refine k_aload_n C dX3_drawServer_44 2 rfl ?_
    refine g_St_servers C (foc_g F) hE.1 hi3 lk2 dX3_drawServer_45 ?_
    refine k_iload_n C dX3_drawServer_48 1 rfl ?_
    obtain ⟨q11, h⟩ := h
    refine g_SA C (foc_g F) hE.1 q11 dX3_drawServer_49 ?_
    refine g_sLen C (foc_g F) hE.1 hi2 (vp_lt q11) lk3 dX3_drawServer_50 ?_
    refine k_icmp_ge (tgt := 60) C dX3_drawServer_53 (by decide) (fun c12 => ?_) (fun c12 => ?_)
    · replace h := h.1 c12
      refine k_iload_n C dX3_drawServer_60 1 rfl ?_
      exact k_iret C hr hlk dX3_drawServer_61 (fun H hP => ⟨rnd_7, h, hP⟩)
    · replace h := h.2 c12
      refine k_iload_n C dX3_drawServer_56 0 rfl ?_
      refine k_goto (tgt := 61) C dX3_drawServer_57 (by decide) ?_
      exact k_iret C hr hlk dX3_drawServer_61 (fun H hP => ⟨rnd_7, h, hP⟩)
  · replace h := h.2 c5
    refine k_iload_n C dX3_drawServer_19 0 rfl ?_
    exact k_iret C hr hlk dX3_drawServer_20 (fun H hP => ⟨rnd_2, h, hP⟩)
noncomputable def wp_X3_takeServer (rnd : Int64) (cn : Int32) (sLen : Nat → Int32) (dPol : Nat → Int32) (dPtr : Nat → Int32) (dCnt : Nat → Int32) (dIdl : Nat → Nat → Int32) (dKnw : Nat → Nat → Int32) (cnd : Nat → Int32) (dd : Nat) (k : Int32 → Int64 → (Nat → Int32) → (Nat → Nat → Int32) → Prop) : Prop := wp_X3_certainServer cn dPol dPtr dCnt dIdl dKnw cnd dd (fun r1 => (r1 = (-1) → (wp_X3_drawServer rnd cn sLen cnd (dPol dd) (fun r9 rnd_10 => ((dPol dd) = 1 → (∀ x15 : Int32, x15 = (r9 + 1) → (∀ dPtr_16 : Nat → Int32, dPtr_16 = upd dPtr dd x15 → (k r9 rnd_10 dPtr_16 dKnw)))) ∧ (¬ (dPol dd) = 1 → (((dPol dd) = 4 → ((vp_in r9 8) ∧ (∀ dKnw_14 : Nat → Nat → Int32, dKnw_14 = va_up dKnw dd (upd (dKnw dd) r9.toNatClampNeg ((dKnw dd r9.toNatClampNeg) + 1)) → (k r9 rnd_10 dPtr dKnw_14)))) ∧ (¬ (dPol dd) = 4 → (k r9 rnd_10 dPtr dKnw))))))) ∧ (¬ r1 = (-1) → (((dPol dd) = 1 → (∀ x7 : Int32, x7 = (r1 + 1) → (∀ dPtr_8 : Nat → Int32, dPtr_8 = upd dPtr dd x7 → (k r1 rnd dPtr_8 dKnw)))) ∧ (¬ (dPol dd) = 1 → (((dPol dd) = 4 → ((vp_in r1 8) ∧ (∀ dKnw_6 : Nat → Nat → Int32, dKnw_6 = va_up dKnw dd (upd (dKnw dd) r1.toNatClampNeg ((dKnw dd r1.toNatClampNeg) + 1)) → (k r1 rnd dPtr dKnw_6)))) ∧ (¬ (dPol dd) = 4 → (k r1 rnd dPtr dKnw)))))))
set_option maxRecDepth 100000 in
set_option maxHeartbeats 4000000 in
theorem c_X3_takeServer (l : Launch) {E : EV} {a : Nat} {P : PF} {A : Nat → Prop} (F : Foc E a P) (hA : ∀ q, inSt a q → A q) (now : Int32) (rnd : Int64) (jm : Int32) (rp : Int32) (sc : Int32) (dc : Int32) (cn : Int32) (sUp : Nat → Int32) (sLen : Nat → Int32) (sWrk : Nat → Int32) (sReg : Nat → Int32) (sFst : Nat → Int32) (sLst : Nat → Int32) (dPol : Nat → Int32) (dPtr : Nat → Int32) (dCnt : Nat → Int32) (dIdl : Nat → Nat → Int32) (dKnw : Nat → Nat → Int32) (jCnt : Int32) (jFin : Int32) (jBeg : Int32) (jWs : Int32) (jMis : Int32) (jSrv : Nat → Int32) (jLft : Nat → Int32) (jSub : Nat → Int32) (jWai : Nat → Int32) (jNxt : Nat → Int32) (cnd : Nat → Int32) (dd : Nat) (hdd : dd < 4) (k : Int32 → Int64 → (Nat → Int32) → (Nat → Nat → Int32) → Prop) (h : wp_X3_takeServer rnd cn sLen dPol dPtr dCnt dIdl dKnw cnd dd k) : Met l yX3_takeServer wsX3_takeServer { frames := 2, cells := 0, slots := 0, locals := 44 } (va_Pc [.ref a, .ref (a + (11 + 3 * dd))] (fun U => P now rnd jm rp sc dc cn sUp sLen sWrk sReg sFst sLst dPol dPtr dCnt dIdl dKnw jCnt jFin jBeg jWs jMis jSrv jLft jSub jWai jNxt cnd U.heap ∧ XE E U)) (kQi (fun r H => ∃ rnd9 : Int64, ∃ dPtr9 : Nat → Int32, ∃ dKnw9 : Nat → Nat → Int32, k r rnd9 dPtr9 dKnw9 ∧ P now rnd9 jm rp sc dc cn sUp sLen sWrk sReg sFst sLst dPol dPtr9 dCnt dIdl dKnw9 jCnt jFin jBeg jWs jMis jSrv jLft jSub jWai jNxt cnd H) A) 0 0 A := by
  refine k_body (cc := cX3_takeServer) (own := RX3) (maxL := 4) (ret := (some .int)) (lv0 := [(0, .ref a), (1, .ref (a + (11 + 3 * dd)))]) (by decide) rfl rfl (Nat.le_of_ble_eq_true rfl) rfl (fun p e s m below meth c C hr hlk hP hE => ?_)
  have hi0 : ∀ w ∈ u_ws RX0 TX0 5, w ∈ wsX3_takeServer := by decide +kernel
  have lk0 := C.2.2.2.2 (.fieldLink RX3 76 "IdleDispatcher$Dispatcher" "policy" "I") (by decide +kernel)
  have lk1 := C.2.2.2.2 (.fieldLink RX3 125 "IdleDispatcher$Dispatcher" "known" "[I") (by decide +kernel)
  have lk2 := C.2.2.2.2 (.fieldLink RX3 116 "IdleDispatcher$Dispatcher" "pointer" "I") (by decide +kernel)
  refine k_aload_n C dX3_takeServer_0 0 rfl ?_
  refine k_aload_n C dX3_takeServer_1 1 rfl ?_
  refine k_callVi (st := []) C hE (c_X3_certainServer l F hA now rnd jm rp sc dc cn sUp sLen sWrk sReg sFst sLst dPol dPtr dCnt dIdl dKnw jCnt jFin jBeg jWs jMis jSrv jLft jSub jWai jNxt cnd dd hdd _ h) (cwV 1 C.2.2.2.2 gX3_takeServer_X3_certainServer rfl rfl rfl (by decide +kernel) ⟨Nat.le_of_ble_eq_true rfl, Nat.le_of_ble_eq_true rfl⟩) (fun H hP => va_recv hE.1 (k_one (st_St ((foc_g F) H hP))) rfl (q0 := 0) rfl) rfl rfl (Nat.le_of_ble_eq_true rfl) dX3_takeServer_2 ⟨Nat.zero_le _, Nat.zero_le _⟩ (fun r1 => ?_)
  refine k_and (fun h => ?_)
  refine k_istore_n (lv' := [(2, .int r1), (0, .ref a), (1, .ref (a + (11 + 3 * dd)))]) C dX3_takeServer_5 rfl (by decide) rfl ?_
  refine k_iload_n C dX3_takeServer_6 0 rfl ?_
  refine k_iconst (v := (-1)) C dX3_takeServer_7 (by decide) ?_
  refine k_icmp_ne (tgt := 22) C dX3_takeServer_8 (by decide) (fun c2 => ?_) (fun c2 => ?_)
  · replace h := h.2 c2
    refine k_iload_n C dX3_takeServer_22 0 rfl ?_
    refine k_istore_n (lv' := [(3, .int r1), (2, .int r1), (0, .ref a), (1, .ref (a + (11 + 3 * dd)))]) C dX3_takeServer_23 rfl (by decide) rfl ?_
    refine k_aload_n C dX3_takeServer_24 3 rfl ?_
    refine g_dPol C (foc_g F) hE.1 hi0 hdd lk0 dX3_takeServer_25 ?_
    refine k_iconst (v := 1) C dX3_takeServer_28 (by decide) ?_
    refine k_icmp_ne (tgt := 42) C dX3_takeServer_29 (by decide) (fun c3 => ?_) (fun c3 => ?_)
    · replace h := h.2 c3
      refine k_aload_n C dX3_takeServer_42 3 rfl ?_
      refine g_dPol C (foc_g F) hE.1 hi0 hdd lk0 dX3_takeServer_43 ?_
      refine k_iconst (v := 4) C dX3_takeServer_46 (by decide) ?_
      refine k_icmp_ne (tgt := 60) C dX3_takeServer_47 (by decide) (fun c4 => ?_) (fun c4 => ?_)
      · replace h := h.2 c4
        refine k_iload_n C dX3_takeServer_60 0 rfl ?_
        exact k_iret C hr hlk dX3_takeServer_61 (fun H hP => ⟨rnd, dPtr, dKnw, h, hP⟩)
      · replace h := h.1 c4
        refine k_aload_n C dX3_takeServer_50 3 rfl ?_
        refine g_Di_known C (foc_g F) hE.1 hi0 hdd lk1 dX3_takeServer_51 ?_
        refine k_iload_n C dX3_takeServer_54 0 rfl ?_
        refine k_dup2_11 C dX3_takeServer_55 rfl rfl ?_
        obtain ⟨q5, h⟩ := h
        refine g_dKnw C (foc_g F) hE.1 hdd q5 dX3_takeServer_56 ?_
        refine k_iconst (v := 1) C dX3_takeServer_57 (by decide) ?_
        refine k_iadd C dX3_takeServer_58 ?_
        obtain ⟨dKnw_6, edKnw_6⟩ : ∃ z : Nat → Nat → Int32, z = va_up dKnw dd (upd (dKnw dd) r1.toNatClampNeg ((dKnw dd r1.toNatClampNeg) + 1)) := ⟨_, rfl⟩
        replace h := h dKnw_6 edKnw_6
        refine p_dKnw C F hA hE.1 hdd q5 edKnw_6 dX3_takeServer_59 ?_
        refine k_iload_n C dX3_takeServer_60 0 rfl ?_
        exact k_iret C hr hlk dX3_takeServer_61 (fun H hP => ⟨rnd, dPtr, dKnw_6, h, hP⟩)
    · replace h := h.1 c3
      refine k_aload_n C dX3_takeServer_32 3 rfl ?_
      refine k_iload_n C dX3_takeServer_33 0 rfl ?_
      refine k_iconst (v := 1) C dX3_takeServer_34 (by decide) ?_
      refine k_iadd C dX3_takeServer_35 ?_
      refine k_topi (fun x7 ex7 => ?_)
      replace h := h x7 ex7
      obtain ⟨dPtr_8, edPtr_8⟩ : ∃ z : Nat → Int32, z = upd dPtr dd x7 := ⟨_, rfl⟩
      replace h := h dPtr_8 edPtr_8
      refine p_dPtr C F hA hE.1 hi0 hdd edPtr_8 lk2 dX3_takeServer_36 ?_
      refine k_goto (tgt := 60) C dX3_takeServer_39 (by decide) ?_
      refine k_iload_n C dX3_takeServer_60 0 rfl ?_
      exact k_iret C hr hlk dX3_takeServer_61 (fun H hP => ⟨rnd, dPtr_8, dKnw, h, hP⟩)
  · replace h := h.1 c2
    refine k_aload_n C dX3_takeServer_11 1 rfl ?_
    refine k_aload_n C dX3_takeServer_12 2 rfl ?_
    refine g_dPol C (foc_g F) hE.1 hi0 hdd lk0 dX3_takeServer_13 ?_
    refine k_callVi (st := []) C hE (c_X3_drawServer l F hA now rnd jm rp sc dc cn sUp sLen sWrk sReg sFst sLst dPol dPtr dCnt dIdl dKnw jCnt jFin jBeg jWs jMis jSrv jLft jSub jWai jNxt cnd (dPol dd)  _ h) (cwV 1 C.2.2.2.2 gX3_takeServer_X3_drawServer rfl rfl rfl (by decide +kernel) ⟨Nat.le_of_ble_eq_true rfl, Nat.le_of_ble_eq_true rfl⟩) (fun H hP => va_recv hE.1 (k_one (st_St ((foc_g F) H hP))) rfl (q0 := 0) rfl) rfl rfl (Nat.le_of_ble_eq_true rfl) dX3_takeServer_16 ⟨Nat.zero_le _, Nat.zero_le _⟩ (fun r9 => ?_)
    refine k_ex (fun rnd_10 => k_and (fun h => ?_))
    refine k_goto (tgt := 23) C dX3_takeServer_19 (by decide) ?_
    refine k_istore_n (lv' := [(3, .int r9), (2, .int r1), (0, .ref a), (1, .ref (a + (11 + 3 * dd)))]) C dX3_takeServer_23 rfl (by decide) rfl ?_
    refine k_aload_n C dX3_takeServer_24 3 rfl ?_
    refine g_dPol C (foc_g F) hE.1 hi0 hdd lk0 dX3_takeServer_25 ?_
    refine k_iconst (v := 1) C dX3_takeServer_28 (by decide) ?_
    refine k_icmp_ne (tgt := 42) C dX3_takeServer_29 (by decide) (fun c11 => ?_) (fun c11 => ?_)
    · replace h := h.2 c11
      refine k_aload_n C dX3_takeServer_42 3 rfl ?_
      refine g_dPol C (foc_g F) hE.1 hi0 hdd lk0 dX3_takeServer_43 ?_
      refine k_iconst (v := 4) C dX3_takeServer_46 (by decide) ?_
      refine k_icmp_ne (tgt := 60) C dX3_takeServer_47 (by decide) (fun c12 => ?_) (fun c12 => ?_)
      · replace h := h.2 c12
        refine k_iload_n C dX3_takeServer_60 0 rfl ?_
        exact k_iret C hr hlk dX3_takeServer_61 (fun H hP => ⟨rnd_10, dPtr, dKnw, h, hP⟩)
      · replace h := h.1 c12
        refine k_aload_n C dX3_takeServer_50 3 rfl ?_
        refine g_Di_known C (foc_g F) hE.1 hi0 hdd lk1 dX3_takeServer_51 ?_
        refine k_iload_n C dX3_takeServer_54 0 rfl ?_
        refine k_dup2_11 C dX3_takeServer_55 rfl rfl ?_
        obtain ⟨q13, h⟩ := h
        refine g_dKnw C (foc_g F) hE.1 hdd q13 dX3_takeServer_56 ?_
        refine k_iconst (v := 1) C dX3_takeServer_57 (by decide) ?_
        refine k_iadd C dX3_takeServer_58 ?_
        obtain ⟨dKnw_14, edKnw_14⟩ : ∃ z : Nat → Nat → Int32, z = va_up dKnw dd (upd (dKnw dd) r9.toNatClampNeg ((dKnw dd r9.toNatClampNeg) + 1)) := ⟨_, rfl⟩
        replace h := h dKnw_14 edKnw_14
        refine p_dKnw C F hA hE.1 hdd q13 edKnw_14 dX3_takeServer_59 ?_
        refine k_iload_n C dX3_takeServer_60 0 rfl ?_
        exact k_iret C hr hlk dX3_takeServer_61 (fun H hP => ⟨rnd_10, dPtr, dKnw_14, h, hP⟩)
    · replace h := h.1 c11
      refine k_aload_n C dX3_takeServer_32 3 rfl ?_
      refine k_iload_n C dX3_takeServer_33 0 rfl ?_
      refine k_iconst (v := 1) C dX3_takeServer_34 (by decide) ?_
      refine k_iadd C dX3_takeServer_35 ?_
      refine k_topi (fun x15 ex15 => ?_)
      replace h := h x15 ex15
      obtain ⟨dPtr_16, edPtr_16⟩ : ∃ z : Nat → Int32, z = upd dPtr dd x15 := ⟨_, rfl⟩
      replace h := h dPtr_16 edPtr_16
      refine p_dPtr C F hA hE.1 hi0 hdd edPtr_16 lk2 dX3_takeServer_36 ?_
      refine k_goto (tgt := 60) C dX3_takeServer_39 (by decide) ?_
      refine k_iload_n C dX3_takeServer_60 0 rfl ?_
      exact k_iret C hr hlk dX3_takeServer_61 (fun H hP => ⟨rnd_10, dPtr_16, dKnw, h, hP⟩)
