noncomputable def wp_X2_copyFrom (sUp : Nat → Int32) (sLen : Nat → Int32) (sWrk : Nat → Int32) (sReg : Nat → Int32) (sFst : Nat → Int32) (sLst : Nat → Int32) (sUp_o : Nat → Int32) (sLen_o : Nat → Int32) (sWrk_o : Nat → Int32) (sReg_o : Nat → Int32) (sFst_o : Nat → Int32) (sLst_o : Nat → Int32) (j : Nat) (jo : Nat) (k : (Nat → Int32) → (Nat → Int32) → (Nat → Int32) → (Nat → Int32) → (Nat → Int32) → (Nat → Int32) → Prop) : Prop := ∀ x1 : Int32, x1 = (sUp_o jo) → ((narrow .boolean (.int x1) = .int x1 ∧ fits .boolean (.int x1) = true) ∧ (∀ sUp_3 : Nat → Int32, sUp_3 = upd sUp j x1 → (∀ x4 : Int32, x4 = (sLen_o jo) → (∀ sLen_5 : Nat → Int32, sLen_5 = upd sLen j x4 → (∀ x6 : Int32, x6 = (sWrk_o jo) → (∀ sWrk_7 : Nat → Int32, sWrk_7 = upd sWrk j x6 → (∀ x8 : Int32, x8 = (sReg_o jo) → (∀ sReg_9 : Nat → Int32, sReg_9 = upd sReg j x8 → (∀ x10 : Int32, x10 = (sFst_o jo) → (∀ sFst_11 : Nat → Int32, sFst_11 = upd sFst j x10 → (∀ x12 : Int32, x12 = (sLst_o jo) → (∀ sLst_13 : Nat → Int32, sLst_13 = upd sLst j x12 → (k sUp_3 sLen_5 sWrk_7 sReg_9 sFst_11 sLst_13)))))))))))))
set_option maxRecDepth 100000 in
set_option maxHeartbeats 4000000 in
theorem c_X2_copyFrom (l : Launch) {E : EV} {a : Nat} {P : PF} {A : Nat → Prop} (F : Foc E a P) (hA : ∀ q, inSt a q → A q) (now : Int32) (rnd : Int64) (jm : Int32) (rp : Int32) (sc : Int32) (dc : Int32) (cn : Int32) (sUp : Nat → Int32) (sLen : Nat → Int32) (sWrk : Nat → Int32) (sReg : Nat → Int32) (sFst : Nat → Int32) (sLst : Nat → Int32) (dPol : Nat → Int32) (dPtr : Nat → Int32) (dCnt : Nat → Int32) (dIdl : Nat → Nat → Int32) (dKnw : Nat → Nat → Int32) (jCnt : Int32) (jFin : Int32) (jBeg : Int32) (jWs : Int32) (jMis : Int32) (jSrv : Nat → Int32) (jLft : Nat → Int32) (jSub : Nat → Int32) (jWai : Nat → Int32) (jNxt : Nat → Int32) (cnd : Nat → Int32) {a2 : Nat} (now_o : Int32) (rnd_o : Int64) (jm_o : Int32) (rp_o : Int32) (sc_o : Int32) (dc_o : Int32) (cn_o : Int32) (sUp_o : Nat → Int32) (sLen_o : Nat → Int32) (sWrk_o : Nat → Int32) (sReg_o : Nat → Int32) (sFst_o : Nat → Int32) (sLst_o : Nat → Int32) (dPol_o : Nat → Int32) (dPtr_o : Nat → Int32) (dCnt_o : Nat → Int32) (dIdl_o : Nat → Nat → Int32) (dKnw_o : Nat → Nat → Int32) (jCnt_o : Int32) (jFin_o : Int32) (jBeg_o : Int32) (jWs_o : Int32) (jMis_o : Int32) (jSrv_o : Nat → Int32) (jLft_o : Nat → Int32) (jSub_o : Nat → Int32) (jWai_o : Nat → Int32) (jNxt_o : Nat → Int32) (cnd_o : Nat → Int32) (O2 : ∀ {now : Int32} {rnd : Int64} {jm : Int32} {rp : Int32} {sc : Int32} {dc : Int32} {cn : Int32} {sUp : Nat → Int32} {sLen : Nat → Int32} {sWrk : Nat → Int32} {sReg : Nat → Int32} {sFst : Nat → Int32} {sLst : Nat → Int32} {dPol : Nat → Int32} {dPtr : Nat → Int32} {dCnt : Nat → Int32} {dIdl : Nat → Nat → Int32} {dKnw : Nat → Nat → Int32} {jCnt : Int32} {jFin : Int32} {jBeg : Int32} {jWs : Int32} {jMis : Int32} {jSrv : Nat → Int32} {jLft : Nat → Int32} {jSub : Nat → Int32} {jWai : Nat → Int32} {jNxt : Nat → Int32} {cnd : Nat → Int32} (H : Heap), P now rnd jm rp sc dc cn sUp sLen sWrk sReg sFst sLst dPol dPtr dCnt dIdl dKnw jCnt jFin jBeg jWs jMis jSrv jLft jSub jWai jNxt cnd H → stP E a2 now_o rnd_o jm_o rp_o sc_o dc_o cn_o sUp_o sLen_o sWrk_o sReg_o sFst_o sLst_o dPol_o dPtr_o dCnt_o dIdl_o dKnw_o jCnt_o jFin_o jBeg_o jWs_o jMis_o jSrv_o jLft_o jSub_o jWai_o jNxt_o cnd_o H) (j : Nat) (jo : Nat) (hj : j < 8) (hjo : jo < 8) (k : (Nat → Int32) → (Nat → Int32) → (Nat → Int32) → (Nat → Int32) → (Nat → Int32) → (Nat → Int32) → Prop) (h : wp_X2_copyFrom sUp sLen sWrk sReg sFst sLst sUp_o sLen_o sWrk_o sReg_o sFst_o sLst_o j jo k) : Met l yX2_copyFrom wsX2_copyFrom { frames := 0, cells := 0, slots := 0, locals := 0 } (va_Pc [.ref (a + (2 + j)), .ref (a2 + (2 + jo))] (fun U => P now rnd jm rp sc dc cn sUp sLen sWrk sReg sFst sLst dPol dPtr dCnt dIdl dKnw jCnt jFin jBeg jWs jMis jSrv jLft jSub jWai jNxt cnd U.heap ∧ XE E U)) (kQv (fun H => ∃ sUp9 : Nat → Int32, ∃ sLen9 : Nat → Int32, ∃ sWrk9 : Nat → Int32, ∃ sReg9 : Nat → Int32, ∃ sFst9 : Nat → Int32, ∃ sLst9 : Nat → Int32, k sUp9 sLen9 sWrk9 sReg9 sFst9 sLst9 ∧ P now rnd jm rp sc dc cn sUp9 sLen9 sWrk9 sReg9 sFst9 sLst9 dPol dPtr dCnt dIdl dKnw jCnt jFin jBeg jWs jMis jSrv jLft jSub jWai jNxt cnd H) A) 0 0 A := by
  refine k_body (cc := cX2_copyFrom) (own := RX2) (maxL := 2) (ret := none) (lv0 := [(0, .ref (a + (2 + j))), (1, .ref (a2 + (2 + jo)))]) (by decide) rfl rfl (Nat.le_of_ble_eq_true rfl) rfl (fun p e s m below meth c C hr hlk hP hE => ?_)
  have hi2 : ∀ w ∈ u_ws RX2 TX2 6, w ∈ wsX2_copyFrom := by decide +kernel
  have lk0 := C.2.2.2.2 (.fieldLink RX2 9 "IdleDispatcher$Server" "up" "Z") (by decide +kernel)
  have lk1 := C.2.2.2.2 (.fieldLink RX2 15 "IdleDispatcher$Server" "length" "I") (by decide +kernel)
  have lk2 := C.2.2.2.2 (.fieldLink RX2 19 "IdleDispatcher$Server" "work" "I") (by decide +kernel)
  have lk3 := C.2.2.2.2 (.fieldLink RX2 22 "IdleDispatcher$Server" "registeredAt" "I") (by decide +kernel)
  have lk4 := C.2.2.2.2 (.fieldLink RX2 25 "IdleDispatcher$Server" "firstJob" "I") (by decide +kernel)
  have lk5 := C.2.2.2.2 (.fieldLink RX2 28 "IdleDispatcher$Server" "lastJob" "I") (by decide +kernel)
  refine k_aload_n C dX2_copyFrom_0 0 rfl ?_
  refine k_aload_n C dX2_copyFrom_1 1 rfl ?_
  refine g_sUp C (fun H hP => O2 H hP) hE.1 hi2 hjo lk0 dX2_copyFrom_2 ?_
  refine k_topi (fun x1 ex1 => ?_)
  replace h := h x1 ex1
  obtain ⟨q2, h⟩ := h
  obtain ⟨sUp_3, esUp_3⟩ : ∃ z : Nat → Int32, z = upd sUp j x1 := ⟨_, rfl⟩
  replace h := h sUp_3 esUp_3
  refine p_sUp C F hA hE.1 hi2 hj q2.1 q2.2 esUp_3 lk0 dX2_copyFrom_5 ?_
  refine k_aload_n C dX2_copyFrom_8 0 rfl ?_
  refine k_aload_n C dX2_copyFrom_9 1 rfl ?_
  refine g_sLen C (fun H hP => O2 H hP) hE.1 hi2 hjo lk1 dX2_copyFrom_10 ?_
  refine k_topi (fun x4 ex4 => ?_)
  replace h := h x4 ex4
  obtain ⟨sLen_5, esLen_5⟩ : ∃ z : Nat → Int32, z = upd sLen j x4 := ⟨_, rfl⟩
  replace h := h sLen_5 esLen_5
  refine p_sLen C F hA hE.1 hi2 hj esLen_5 lk1 dX2_copyFrom_13 ?_
  refine k_aload_n C dX2_copyFrom_16 0 rfl ?_
  refine k_aload_n C dX2_copyFrom_17 1 rfl ?_
  refine g_sWrk C (fun H hP => O2 H hP) hE.1 hi2 hjo lk2 dX2_copyFrom_18 ?_
  refine k_topi (fun x6 ex6 => ?_)
  replace h := h x6 ex6
  obtain ⟨sWrk_7, esWrk_7⟩ : ∃ z : Nat → Int32, z = upd sWrk j x6 := ⟨_, rfl⟩
  replace h := h sWrk_7 esWrk_7
  refine p_sWrk C F hA hE.1 hi2 hj esWrk_7 lk2 dX2_copyFrom_21 ?_
  refine k_aload_n C dX2_copyFrom_24 0 rfl ?_
  refine k_aload_n C dX2_copyFrom_25 1 rfl ?_
  refine g_sReg C (fun H hP => O2 H hP) hE.1 hi2 hjo lk3 dX2_copyFrom_26 ?_
  refine k_topi (fun x8 ex8 => ?_)
  replace h := h x8 ex8
  obtain ⟨sReg_9, esReg_9⟩ : ∃ z : Nat → Int32, z = upd sReg j x8 := ⟨_, rfl⟩
  replace h := h sReg_9 esReg_9
  refine p_sReg C F hA hE.1 hi2 hj esReg_9 lk3 dX2_copyFrom_29 ?_
  refine k_aload_n C dX2_copyFrom_32 0 rfl ?_
  refine k_aload_n C dX2_copyFrom_33 1 rfl ?_
  refine g_sFst C (fun H hP => O2 H hP) hE.1 hi2 hjo lk4 dX2_copyFrom_34 ?_
  refine k_topi (fun x10 ex10 => ?_)
  replace h := h x10 ex10
  obtain ⟨sFst_11, esFst_11⟩ : ∃ z : Nat → Int32, z = upd sFst j x10 := ⟨_, rfl⟩
  replace h := h sFst_11 esFst_11
  refine p_sFst C F hA hE.1 hi2 hj esFst_11 lk4 dX2_copyFrom_37 ?_
  refine k_aload_n C dX2_copyFrom_40 0 rfl ?_
  refine k_aload_n C dX2_copyFrom_41 1 rfl ?_
  refine g_sLst C (fun H hP => O2 H hP) hE.1 hi2 hjo lk5 dX2_copyFrom_42 ?_
  refine k_topi (fun x12 ex12 => ?_)
  replace h := h x12 ex12
  obtain ⟨sLst_13, esLst_13⟩ : ∃ z : Nat → Int32, z = upd sLst j x12 := ⟨_, rfl⟩
  replace h := h sLst_13 esLst_13
  refine p_sLst C F hA hE.1 hi2 hj esLst_13 lk5 dX2_copyFrom_45 ?_
  exact k_vret C hr hlk dX2_copyFrom_48 (fun H hP => ⟨sUp_3, sLen_5, sWrk_7, sReg_9, sFst_11, sLst_13, h, hP⟩)
noncomputable def wp_X0_copyFrom (dPol : Nat → Int32) (dPtr : Nat → Int32) (dCnt : Nat → Int32) (dIdl : Nat → Nat → Int32) (dKnw : Nat → Nat → Int32) (dPol_o : Nat → Int32) (dPtr_o : Nat → Int32) (dCnt_o : Nat → Int32) (dIdl_o : Nat → Nat → Int32) (dKnw_o : Nat → Nat → Int32) (j : Nat) (jo : Nat) (k : (Nat → Int32) → (Nat → Int32) → (Nat → Int32) → (Nat → Nat → Int32) → (Nat → Nat → Int32) → Prop) : Prop := ∀ x1 : Int32, x1 = (dPol_o jo) → (∀ dPol_2 : Nat → Int32, dPol_2 = upd dPol j x1 → (∀ x3 : Int32, x3 = (dPtr_o jo) → (∀ dPtr_4 : Nat → Int32, dPtr_4 = upd dPtr j x3 → (∀ x5 : Int32, x5 = (dCnt_o jo) → (∀ dCnt_6 : Nat → Int32, dCnt_6 = upd dCnt j x5 → (∀ dIdl_7 : Nat → Nat → Int32, dIdl_7 = va_up dIdl j (va_cpy (dIdl_o jo) (dIdl j) 0 0 8) → (∀ dKnw_8 : Nat → Nat → Int32, dKnw_8 = va_up dKnw j (va_cpy (dKnw_o jo) (dKnw j) 0 0 8) → (k dPol_2 dPtr_4 dCnt_6 dIdl_7 dKnw_8))))))))
set_option maxRecDepth 100000 in
set_option maxHeartbeats 4000000 in
theorem c_X0_copyFrom (l : Launch) {E : EV} {a : Nat} {P : PF} {A : Nat → Prop} (F : Foc E a P) (hA : ∀ q, inSt a q → A q) (now : Int32) (rnd : Int64) (jm : Int32) (rp : Int32) (sc : Int32) (dc : Int32) (cn : Int32) (sUp : Nat → Int32) (sLen : Nat → Int32) (sWrk : Nat → Int32) (sReg : Nat → Int32) (sFst : Nat → Int32) (sLst : Nat → Int32) (dPol : Nat → Int32) (dPtr : Nat → Int32) (dCnt : Nat → Int32) (dIdl : Nat → Nat → Int32) (dKnw : Nat → Nat → Int32) (jCnt : Int32) (jFin : Int32) (jBeg : Int32) (jWs : Int32) (jMis : Int32) (jSrv : Nat → Int32) (jLft : Nat → Int32) (jSub : Nat → Int32) (jWai : Nat → Int32) (jNxt : Nat → Int32) (cnd : Nat → Int32) {a2 : Nat} (now_o : Int32) (rnd_o : Int64) (jm_o : Int32) (rp_o : Int32) (sc_o : Int32) (dc_o : Int32) (cn_o : Int32) (sUp_o : Nat → Int32) (sLen_o : Nat → Int32) (sWrk_o : Nat → Int32) (sReg_o : Nat → Int32) (sFst_o : Nat → Int32) (sLst_o : Nat → Int32) (dPol_o : Nat → Int32) (dPtr_o : Nat → Int32) (dCnt_o : Nat → Int32) (dIdl_o : Nat → Nat → Int32) (dKnw_o : Nat → Nat → Int32) (jCnt_o : Int32) (jFin_o : Int32) (jBeg_o : Int32) (jWs_o : Int32) (jMis_o : Int32) (jSrv_o : Nat → Int32) (jLft_o : Nat → Int32) (jSub_o : Nat → Int32) (jWai_o : Nat → Int32) (jNxt_o : Nat → Int32) (cnd_o : Nat → Int32) (O2 : ∀ {now : Int32} {rnd : Int64} {jm : Int32} {rp : Int32} {sc : Int32} {dc : Int32} {cn : Int32} {sUp : Nat → Int32} {sLen : Nat → Int32} {sWrk : Nat → Int32} {sReg : Nat → Int32} {sFst : Nat → Int32} {sLst : Nat → Int32} {dPol : Nat → Int32} {dPtr : Nat → Int32} {dCnt : Nat → Int32} {dIdl : Nat → Nat → Int32} {dKnw : Nat → Nat → Int32} {jCnt : Int32} {jFin : Int32} {jBeg : Int32} {jWs : Int32} {jMis : Int32} {jSrv : Nat → Int32} {jLft : Nat → Int32} {jSub : Nat → Int32} {jWai : Nat → Int32} {jNxt : Nat → Int32} {cnd : Nat → Int32} (H : Heap), P now rnd jm rp sc dc cn sUp sLen sWrk sReg sFst sLst dPol dPtr dCnt dIdl dKnw jCnt jFin jBeg jWs jMis jSrv jLft jSub jWai jNxt cnd H → stP E a2 now_o rnd_o jm_o rp_o sc_o dc_o cn_o sUp_o sLen_o sWrk_o sReg_o sFst_o sLst_o dPol_o dPtr_o dCnt_o dIdl_o dKnw_o jCnt_o jFin_o jBeg_o jWs_o jMis_o jSrv_o jLft_o jSub_o jWai_o jNxt_o cnd_o H) (j : Nat) (jo : Nat) (hj : j < 4) (hjo : jo < 4) (k : (Nat → Int32) → (Nat → Int32) → (Nat → Int32) → (Nat → Nat → Int32) → (Nat → Nat → Int32) → Prop) (h : wp_X0_copyFrom dPol dPtr dCnt dIdl dKnw dPol_o dPtr_o dCnt_o dIdl_o dKnw_o j jo k) : Met l yX0_copyFrom wsX0_copyFrom { frames := 1, cells := 0, slots := 0, locals := 26 } (va_Pc [.ref (a + (11 + 3 * j)), .ref (a2 + (11 + 3 * jo))] (fun U => P now rnd jm rp sc dc cn sUp sLen sWrk sReg sFst sLst dPol dPtr dCnt dIdl dKnw jCnt jFin jBeg jWs jMis jSrv jLft jSub jWai jNxt cnd U.heap ∧ XE E U)) (kQv (fun H => ∃ dPol9 : Nat → Int32, ∃ dPtr9 : Nat → Int32, ∃ dCnt9 : Nat → Int32, ∃ dIdl9 : Nat → Nat → Int32, ∃ dKnw9 : Nat → Nat → Int32, k dPol9 dPtr9 dCnt9 dIdl9 dKnw9 ∧ P now rnd jm rp sc dc cn sUp sLen sWrk sReg sFst sLst dPol9 dPtr9 dCnt9 dIdl9 dKnw9 jCnt jFin jBeg jWs jMis jSrv jLft jSub jWai jNxt cnd H) A) 0 0 A := by
  refine k_body (cc := cX0_copyFrom) (own := RX0) (maxL := 2) (ret := none) (lv0 := [(0, .ref (a + (11 + 3 * j))), (1, .ref (a2 + (11 + 3 * jo)))]) (by decide) rfl rfl (Nat.le_of_ble_eq_true rfl) rfl (fun p e s m below meth c C hr hlk hP hE => ?_)
  have hi0 : ∀ w ∈ u_ws RX0 TX0 5, w ∈ wsX0_copyFrom := by decide +kernel
  have lk0 := C.2.2.2.2 (.fieldLink RX0 9 "IdleDispatcher$Dispatcher" "policy" "I") (by decide +kernel)
  have lk1 := C.2.2.2.2 (.fieldLink RX0 15 "IdleDispatcher$Dispatcher" "pointer" "I") (by decide +kernel)
  have lk2 := C.2.2.2.2 (.fieldLink RX0 18 "IdleDispatcher$Dispatcher" "idleCount" "I") (by decide +kernel)
  have lk3 := C.2.2.2.2 (.fieldLink RX0 21 "IdleDispatcher$Dispatcher" "idle" "[I") (by decide +kernel)
  have lk4 := C.2.2.2.2 (.methodLink RX0 28 arraycopyName) (by decide +kernel)
  have lk5 := C.2.2.2.2 (.native arraycopyName) (by decide +kernel)
  have lk6 := C.2.2.2.2 (.static arraycopyName) (by decide +kernel)
  have lk7 := C.2.2.2.2 (.initialized "java/lang/System") (by decide +kernel)
  have lk8 := C.2.2.2.2 (.fieldLink RX0 25 "IdleDispatcher$Dispatcher" "known" "[I") (by decide +kernel)
  refine k_aload_n C dX0_copyFrom_0 0 rfl ?_
  refine k_aload_n C dX0_copyFrom_1 1 rfl ?_
  refine g_dPol C (fun H hP => O2 H hP) hE.1 hi0 hjo lk0 dX0_copyFrom_2 ?_
  refine k_topi (fun x1 ex1 => ?_)
  replace h := h x1 ex1
  obtain ⟨dPol_2, edPol_2⟩ : ∃ z : Nat → Int32, z = upd dPol j x1 := ⟨_, rfl⟩
  replace h := h dPol_2 edPol_2
  refine p_dPol C F hA hE.1 hi0 hj edPol_2 lk0 dX0_copyFrom_5 ?_
  refine k_aload_n C dX0_copyFrom_8 0 rfl ?_
  refine k_aload_n C dX0_copyFrom_9 1 rfl ?_
  refine g_dPtr C (fun H hP => O2 H hP) hE.1 hi0 hjo lk1 dX0_copyFrom_10 ?_
  refine k_topi (fun x3 ex3 => ?_)
  replace h := h x3 ex3
  obtain ⟨dPtr_4, edPtr_4⟩ : ∃ z : Nat → Int32, z = upd dPtr j x3 := ⟨_, rfl⟩
  replace h := h dPtr_4 edPtr_4
  refine p_dPtr C F hA hE.1 hi0 hj edPtr_4 lk1 dX0_copyFrom_13 ?_
  refine k_aload_n C dX0_copyFrom_16 0 rfl ?_
  refine k_aload_n C dX0_copyFrom_17 1 rfl ?_
  refine g_dCnt C (fun H hP => O2 H hP) hE.1 hi0 hjo lk2 dX0_copyFrom_18 ?_
  refine k_topi (fun x5 ex5 => ?_)
  replace h := h x5 ex5
  obtain ⟨dCnt_6, edCnt_6⟩ : ∃ z : Nat → Int32, z = upd dCnt j x5 := ⟨_, rfl⟩
  replace h := h dCnt_6 edCnt_6
  refine p_dCnt C F hA hE.1 hi0 hj edCnt_6 lk2 dX0_copyFrom_21 ?_
  refine k_aload_n C dX0_copyFrom_24 1 rfl ?_
  refine g_Di_idle C (fun H hP => O2 H hP) hE.1 hi0 hjo lk3 dX0_copyFrom_25 ?_
  refine k_iconst (v := 0) C dX0_copyFrom_28 (by decide) ?_
  refine k_aload_n C dX0_copyFrom_29 0 rfl ?_
  refine g_Di_idle C (foc_g F) hE.1 hi0 hj lk3 dX0_copyFrom_30 ?_
  refine k_iconst (v := 0) C dX0_copyFrom_33 (by decide) ?_
  refine k_bipush (v := 8) C dX0_copyFrom_34 (by decide) ?_
  obtain ⟨dIdl_7, edIdl_7⟩ : ∃ z : Nat → Nat → Int32, z = va_up dIdl j (va_cpy (dIdl_o jo) (dIdl j) 0 0 8) := ⟨_, rfl⟩
  replace h := h dIdl_7 edIdl_7
  refine cp_dIdl C (fun H hP => O2 H hP) F hA hE.1 lk4 lk5 lk6 lk7 hj hjo (by decide) (by decide) edIdl_7 (Nat.le_of_ble_eq_true rfl) (Nat.le_of_ble_eq_true rfl) dX0_copyFrom_36 ?_
  refine k_aload_n C dX0_copyFrom_39 1 rfl ?_
  refine g_Di_known C (fun H hP => O2 H hP) hE.1 hi0 hjo lk8 dX0_copyFrom_40 ?_
  refine k_iconst (v := 0) C dX0_copyFrom_43 (by decide) ?_
  refine k_aload_n C dX0_copyFrom_44 0 rfl ?_
  refine g_Di_known C (foc_g F) hE.1 hi0 hj lk8 dX0_copyFrom_45 ?_
  refine k_iconst (v := 0) C dX0_copyFrom_48 (by decide) ?_
  refine k_bipush (v := 8) C dX0_copyFrom_49 (by decide) ?_
  obtain ⟨dKnw_8, edKnw_8⟩ : ∃ z : Nat → Nat → Int32, z = va_up dKnw j (va_cpy (dKnw_o jo) (dKnw j) 0 0 8) := ⟨_, rfl⟩
  replace h := h dKnw_8 edKnw_8
  refine cp_dKnw C (fun H hP => O2 H hP) F hA hE.1 lk4 lk5 lk6 lk7 hj hjo (by decide) (by decide) edKnw_8 (Nat.le_of_ble_eq_true rfl) (Nat.le_of_ble_eq_true rfl) dX0_copyFrom_51 ?_
  exact k_vret C hr hlk dX0_copyFrom_54 (fun H hP => ⟨dPol_2, dPtr_4, dCnt_6, dIdl_7, dKnw_8, h, hP⟩)
noncomputable def wp_X1_copyFrom (jSrv : Nat → Int32) (jLft : Nat → Int32) (jSub : Nat → Int32) (jWai : Nat → Int32) (jNxt : Nat → Int32) (jCnt_o : Int32) (jFin_o : Int32) (jBeg_o : Int32) (jWs_o : Int32) (jMis_o : Int32) (jSrv_o : Nat → Int32) (jLft_o : Nat → Int32) (jSub_o : Nat → Int32) (jWai_o : Nat → Int32) (jNxt_o : Nat → Int32) (k : Int32 → Int32 → Int32 → Int32 → Int32 → (Nat → Int32) → (Nat → Int32) → (Nat → Int32) → (Nat → Int32) → (Nat → Int32) → Prop) : Prop := (¬ jCnt_o < 0 ∧ jCnt_o.toNatClampNeg ≤ 200) ∧ (∀ jSrv_2 : Nat → Int32, jSrv_2 = va_cpy jSrv_o jSrv 0 0 jCnt_o.toNatClampNeg → (∀ jLft_3 : Nat → Int32, jLft_3 = va_cpy jLft_o jLft 0 0 jCnt_o.toNatClampNeg → (∀ jSub_4 : Nat → Int32, jSub_4 = va_cpy jSub_o jSub 0 0 jCnt_o.toNatClampNeg → (∀ jWai_5 : Nat → Int32, jWai_5 = va_cpy jWai_o jWai 0 0 jCnt_o.toNatClampNeg → (∀ jNxt_6 : Nat → Int32, jNxt_6 = va_cpy jNxt_o jNxt 0 0 jCnt_o.toNatClampNeg → (k jCnt_o jFin_o jBeg_o jWs_o jMis_o jSrv_2 jLft_3 jSub_4 jWai_5 jNxt_6))))))
set_option maxRecDepth 100000 in
set_option maxHeartbeats 4000000 in
theorem c_X1_copyFrom (l : Launch) {E : EV} {a : Nat} {P : PF} {A : Nat → Prop} (F : Foc E a P) (hA : ∀ q, inSt a q → A q) (now : Int32) (rnd : Int64) (jm : Int32) (rp : Int32) (sc : Int32) (dc : Int32) (cn : Int32) (sUp : Nat → Int32) (sLen : Nat → Int32) (sWrk : Nat → Int32) (sReg : Nat → Int32) (sFst : Nat → Int32) (sLst : Nat → Int32) (dPol : Nat → Int32) (dPtr : Nat → Int32) (dCnt : Nat → Int32) (dIdl : Nat → Nat → Int32) (dKnw : Nat → Nat → Int32) (jCnt : Int32) (jFin : Int32) (jBeg : Int32) (jWs : Int32) (jMis : Int32) (jSrv : Nat → Int32) (jLft : Nat → Int32) (jSub : Nat → Int32) (jWai : Nat → Int32) (jNxt : Nat → Int32) (cnd : Nat → Int32) {a2 : Nat} (now_o : Int32) (rnd_o : Int64) (jm_o : Int32) (rp_o : Int32) (sc_o : Int32) (dc_o : Int32) (cn_o : Int32) (sUp_o : Nat → Int32) (sLen_o : Nat → Int32) (sWrk_o : Nat → Int32) (sReg_o : Nat → Int32) (sFst_o : Nat → Int32) (sLst_o : Nat → Int32) (dPol_o : Nat → Int32) (dPtr_o : Nat → Int32) (dCnt_o : Nat → Int32) (dIdl_o : Nat → Nat → Int32) (dKnw_o : Nat → Nat → Int32) (jCnt_o : Int32) (jFin_o : Int32) (jBeg_o : Int32) (jWs_o : Int32) (jMis_o : Int32) (jSrv_o : Nat → Int32) (jLft_o : Nat → Int32) (jSub_o : Nat → Int32) (jWai_o : Nat → Int32) (jNxt_o : Nat → Int32) (cnd_o : Nat → Int32) (O2 : ∀ {now : Int32} {rnd : Int64} {jm : Int32} {rp : Int32} {sc : Int32} {dc : Int32} {cn : Int32} {sUp : Nat → Int32} {sLen : Nat → Int32} {sWrk : Nat → Int32} {sReg : Nat → Int32} {sFst : Nat → Int32} {sLst : Nat → Int32} {dPol : Nat → Int32} {dPtr : Nat → Int32} {dCnt : Nat → Int32} {dIdl : Nat → Nat → Int32} {dKnw : Nat → Nat → Int32} {jCnt : Int32} {jFin : Int32} {jBeg : Int32} {jWs : Int32} {jMis : Int32} {jSrv : Nat → Int32} {jLft : Nat → Int32} {jSub : Nat → Int32} {jWai : Nat → Int32} {jNxt : Nat → Int32} {cnd : Nat → Int32} (H : Heap), P now rnd jm rp sc dc cn sUp sLen sWrk sReg sFst sLst dPol dPtr dCnt dIdl dKnw jCnt jFin jBeg jWs jMis jSrv jLft jSub jWai jNxt cnd H → stP E a2 now_o rnd_o jm_o rp_o sc_o dc_o cn_o sUp_o sLen_o sWrk_o sReg_o sFst_o sLst_o dPol_o dPtr_o dCnt_o dIdl_o dKnw_o jCnt_o jFin_o jBeg_o jWs_o jMis_o jSrv_o jLft_o jSub_o jWai_o jNxt_o cnd_o H)   (k : Int32 → Int32 → Int32 → Int32 → Int32 → (Nat → Int32) → (Nat → Int32) → (Nat → Int32) → (Nat → Int32) → (Nat → Int32) → Prop) (h : wp_X1_copyFrom jSrv jLft jSub jWai jNxt jCnt_o jFin_o jBeg_o jWs_o jMis_o jSrv_o jLft_o jSub_o jWai_o jNxt_o  k) : Met l yX1_copyFrom wsX1_copyFrom { frames := 1, cells := 0, slots := 0, locals := 26 } (va_Pc [.ref (a + (23)), .ref (a2 + (23))] (fun U => P now rnd jm rp sc dc cn sUp sLen sWrk sReg sFst sLst dPol dPtr dCnt dIdl dKnw jCnt jFin jBeg jWs jMis jSrv jLft jSub jWai jNxt cnd U.heap ∧ XE E U)) (kQv (fun H => ∃ jCnt9 : Int32, ∃ jFin9 : Int32, ∃ jBeg9 : Int32, ∃ jWs9 : Int32, ∃ jMis9 : Int32, ∃ jSrv9 : Nat → Int32, ∃ jLft9 : Nat → Int32, ∃ jSub9 : Nat → Int32, ∃ jWai9 : Nat → Int32, ∃ jNxt9 : Nat → Int32, k jCnt9 jFin9 jBeg9 jWs9 jMis9 jSrv9 jLft9 jSub9 jWai9 jNxt9 ∧ P now rnd jm rp sc dc cn sUp sLen sWrk sReg sFst sLst dPol dPtr dCnt dIdl dKnw jCnt9 jFin9 jBeg9 jWs9 jMis9 jSrv9 jLft9 jSub9 jWai9 jNxt9 cnd H) A) 0 0 A := by
  refine k_body (cc := cX1_copyFrom) (own := RX1) (maxL := 2) (ret := none) (lv0 := [(0, .ref (a + (23))), (1, .ref (a2 + (23)))]) (by decide) rfl rfl (Nat.le_of_ble_eq_true rfl) rfl (fun p e s m below meth c C hr hlk hP hE => ?_)
  have hi1 : ∀ w ∈ u_ws RX1 TX1 10, w ∈ wsX1_copyFrom := by decide +kernel
  have lk0 := C.2.2.2.2 (.fieldLink RX1 9 "IdleDispatcher$Jobs" "count" "I") (by decide +kernel)
  have lk1 := C.2.2.2.2 (.fieldLink RX1 15 "IdleDispatcher$Jobs" "finished" "I") (by decide +kernel)
  have lk2 := C.2.2.2.2 (.fieldLink RX1 18 "IdleDispatcher$Jobs" "begun" "I") (by decide +kernel)
  have lk3 := C.2.2.2.2 (.fieldLink RX1 21 "IdleDispatcher$Jobs" "waitSum" "I") (by decide +kernel)
  have lk4 := C.2.2.2.2 (.fieldLink RX1 24 "IdleDispatcher$Jobs" "missed" "I") (by decide +kernel)
  have lk5 := C.2.2.2.2 (.fieldLink RX1 27 "IdleDispatcher$Jobs" "server" "[I") (by decide +kernel)
  have lk6 := C.2.2.2.2 (.methodLink RX1 43 arraycopyName) (by decide +kernel)
  have lk7 := C.2.2.2.2 (.native arraycopyName) (by decide +kernel)
  have lk8 := C.2.2.2.2 (.static arraycopyName) (by decide +kernel)
  have lk9 := C.2.2.2.2 (.initialized "java/lang/System") (by decide +kernel)
  have lk10 := C.2.2.2.2 (.fieldLink RX1 31 "IdleDispatcher$Jobs" "left" "[I") (by decide +kernel)
  have lk11 := C.2.2.2.2 (.fieldLink RX1 34 "IdleDispatcher$Jobs" "submittedAt" "[I") (by decide +kernel)
  have lk12 := C.2.2.2.2 (.fieldLink RX1 37 "IdleDispatcher$Jobs" "wait" "[I") (by decide +kernel)
  have lk13 := C.2.2.2.2 (.fieldLink RX1 40 "IdleDispatcher$Jobs" "next" "[I") (by decide +kernel)
  refine k_aload_n C dX1_copyFrom_0 0 rfl ?_
  refine k_aload_n C dX1_copyFrom_1 1 rfl ?_
  refine g_jCnt C (fun H hP => O2 H hP) hE.1 hi1 lk0 dX1_copyFrom_2 ?_
  refine p_jCnt C F hA hE.1 hi1 lk0 dX1_copyFrom_5 ?_
  refine k_aload_n C dX1_copyFrom_8 0 rfl ?_
  refine k_aload_n C dX1_copyFrom_9 1 rfl ?_
  refine g_jFin C (fun H hP => O2 H hP) hE.1 hi1 lk1 dX1_copyFrom_10 ?_
  refine p_jFin C F hA hE.1 hi1 lk1 dX1_copyFrom_13 ?_
  refine k_aload_n C dX1_copyFrom_16 0 rfl ?_
  refine k_aload_n C dX1_copyFrom_17 1 rfl ?_
  refine g_jBeg C (fun H hP => O2 H hP) hE.1 hi1 lk2 dX1_copyFrom_18 ?_
  refine p_jBeg C F hA hE.1 hi1 lk2 dX1_copyFrom_21 ?_
  refine k_aload_n C dX1_copyFrom_24 0 rfl ?_
  refine k_aload_n C dX1_copyFrom_25 1 rfl ?_
  refine g_jWs C (fun H hP => O2 H hP) hE.1 hi1 lk3 dX1_copyFrom_26 ?_
  refine p_jWs C F hA hE.1 hi1 lk3 dX1_copyFrom_29 ?_
  refine k_aload_n C dX1_copyFrom_32 0 rfl ?_
  refine k_aload_n C dX1_copyFrom_33 1 rfl ?_
  refine g_jMis C (fun H hP => O2 H hP) hE.1 hi1 lk4 dX1_copyFrom_34 ?_
  refine p_jMis C F hA hE.1 hi1 lk4 dX1_copyFrom_37 ?_
  refine k_aload_n C dX1_copyFrom_40 1 rfl ?_
  refine g_Jo_server C (fun H hP => O2 H hP) hE.1 hi1 lk5 dX1_copyFrom_41 ?_
  refine k_iconst (v := 0) C dX1_copyFrom_44 (by decide) ?_
  refine k_aload_n C dX1_copyFrom_45 0 rfl ?_
  refine g_Jo_server C (foc_g F) hE.1 hi1 lk5 dX1_copyFrom_46 ?_
  refine k_iconst (v := 0) C dX1_copyFrom_49 (by decide) ?_
  refine k_aload_n C dX1_copyFrom_50 0 rfl ?_
  refine g_jCnt C (foc_g F) hE.1 hi1 lk0 dX1_copyFrom_51 ?_
  obtain ⟨q1, h⟩ := h
  obtain ⟨jSrv_2, ejSrv_2⟩ : ∃ z : Nat → Int32, z = va_cpy jSrv_o jSrv 0 0 jCnt_o.toNatClampNeg := ⟨_, rfl⟩
  replace h := h jSrv_2 ejSrv_2
  refine cp_jSrv C (fun H hP => O2 H hP) F hA hE.1 lk6 lk7 lk8 lk9 q1.1 q1.2 ejSrv_2 (Nat.le_of_ble_eq_true rfl) (Nat.le_of_ble_eq_true rfl) dX1_copyFrom_54 ?_
  refine k_aload_n C dX1_copyFrom_57 1 rfl ?_
  refine g_Jo_left C (fun H hP => O2 H hP) hE.1 hi1 lk10 dX1_copyFrom_58 ?_
  refine k_iconst (v := 0) C dX1_copyFrom_61 (by decide) ?_
  refine k_aload_n C dX1_copyFrom_62 0 rfl ?_
  refine g_Jo_left C (foc_g F) hE.1 hi1 lk10 dX1_copyFrom_63 ?_
  refine k_iconst (v := 0) C dX1_copyFrom_66 (by decide) ?_
  refine k_aload_n C dX1_copyFrom_67 0 rfl ?_
  refine g_jCnt C (foc_g F) hE.1 hi1 lk0 dX1_copyFrom_68 ?_
  obtain ⟨jLft_3, ejLft_3⟩ : ∃ z : Nat → Int32, z = va_cpy jLft_o jLft 0 0 jCnt_o.toNatClampNeg := ⟨_, rfl⟩
  replace h := h jLft_3 ejLft_3
  refine cp_jLft C (fun H hP => O2 H hP) F hA hE.1 lk6 lk7 lk8 lk9 q1.1 q1.2 ejLft_3 (Nat.le_of_ble_eq_true rfl) (Nat.le_of_ble_eq_true rfl) dX1_copyFrom_71 ?_
  refine k_aload_n C dX1_copyFrom_74 1 rfl ?_
  refine g_Jo_submittedAt C (fun H hP => O2 H hP) hE.1 hi1 lk11 dX1_copyFrom_75 ?_
  refine k_iconst (v := 0) C dX1_copyFrom_78 (by decide) ?_
  refine k_aload_n C dX1_copyFrom_79 0 rfl ?_
  refine g_Jo_submittedAt C (foc_g F) hE.1 hi1 lk11 dX1_copyFrom_80 ?_
  refine k_iconst (v := 0) C dX1_copyFrom_83 (by decide) ?_
  refine k_aload_n C dX1_copyFrom_84 0 rfl ?_
  refine g_jCnt C (foc_g F) hE.1 hi1 lk0 dX1_copyFrom_85 ?_
  obtain ⟨jSub_4, ejSub_4⟩ : ∃ z : Nat → Int32, z = va_cpy jSub_o jSub 0 0 jCnt_o.toNatClampNeg := ⟨_, rfl⟩
  replace h := h jSub_4 ejSub_4
  refine cp_jSub C (fun H hP => O2 H hP) F hA hE.1 lk6 lk7 lk8 lk9 q1.1 q1.2 ejSub_4 (Nat.le_of_ble_eq_true rfl) (Nat.le_of_ble_eq_true rfl) dX1_copyFrom_88 ?_
  refine k_aload_n C dX1_copyFrom_91 1 rfl ?_
  refine g_Jo_wait C (fun H hP => O2 H hP) hE.1 hi1 lk12 dX1_copyFrom_92 ?_
  refine k_iconst (v := 0) C dX1_copyFrom_95 (by decide) ?_
  refine k_aload_n C dX1_copyFrom_96 0 rfl ?_
  refine g_Jo_wait C (foc_g F) hE.1 hi1 lk12 dX1_copyFrom_97 ?_
  refine k_iconst (v := 0) C dX1_copyFrom_100 (by decide) ?_
  refine k_aload_n C dX1_copyFrom_101 0 rfl ?_
  refine g_jCnt C (foc_g F) hE.1 hi1 lk0 dX1_copyFrom_102 ?_
  obtain ⟨jWai_5, ejWai_5⟩ : ∃ z : Nat → Int32, z = va_cpy jWai_o jWai 0 0 jCnt_o.toNatClampNeg := ⟨_, rfl⟩
  replace h := h jWai_5 ejWai_5
  refine cp_jWai C (fun H hP => O2 H hP) F hA hE.1 lk6 lk7 lk8 lk9 q1.1 q1.2 ejWai_5 (Nat.le_of_ble_eq_true rfl) (Nat.le_of_ble_eq_true rfl) dX1_copyFrom_105 ?_
  refine k_aload_n C dX1_copyFrom_108 1 rfl ?_
  refine g_Jo_next C (fun H hP => O2 H hP) hE.1 hi1 lk13 dX1_copyFrom_109 ?_
  refine k_iconst (v := 0) C dX1_copyFrom_112 (by decide) ?_
  refine k_aload_n C dX1_copyFrom_113 0 rfl ?_
  refine g_Jo_next C (foc_g F) hE.1 hi1 lk13 dX1_copyFrom_114 ?_
  refine k_iconst (v := 0) C dX1_copyFrom_117 (by decide) ?_
  refine k_aload_n C dX1_copyFrom_118 0 rfl ?_
  refine g_jCnt C (foc_g F) hE.1 hi1 lk0 dX1_copyFrom_119 ?_
  obtain ⟨jNxt_6, ejNxt_6⟩ : ∃ z : Nat → Int32, z = va_cpy jNxt_o jNxt 0 0 jCnt_o.toNatClampNeg := ⟨_, rfl⟩
  replace h := h jNxt_6 ejNxt_6
  refine cp_jNxt C (fun H hP => O2 H hP) F hA hE.1 lk6 lk7 lk8 lk9 q1.1 q1.2 ejNxt_6 (Nat.le_of_ble_eq_true rfl) (Nat.le_of_ble_eq_true rfl) dX1_copyFrom_122 ?_
  exact k_vret C hr hlk dX1_copyFrom_125 (fun H hP => ⟨jCnt_o, jFin_o, jBeg_o, jWs_o, jMis_o, jSrv_2, jLft_3, jSub_4, jWai_5, jNxt_6, h, hP⟩)
noncomputable def wp_X3_copyFrom_L79 (jSrv : Nat → Int32) (jLft : Nat → Int32) (jSub : Nat → Int32) (jWai : Nat → Int32) (jNxt : Nat → Int32) (jCnt_o : Int32) (jFin_o : Int32) (jBeg_o : Int32) (jWs_o : Int32) (jMis_o : Int32) (jSrv_o : Nat → Int32) (jLft_o : Nat → Int32) (jSub_o : Nat → Int32) (jWai_o : Nat → Int32) (jNxt_o : Nat → Int32) (sc_o : Int32) (sUp_2 : Nat → Int32) (cnd : Nat → Int32) (k : Int32 → Int64 → Int32 → Int32 → Int32 → Int32 → Int32 → (Nat → Int32) → (Nat → Int32) → (Nat → Int32) → (Nat → Int32) → (Nat → Int32) → (Nat → Int32) → (Nat → Int32) → (Nat → Int32) → (Nat → Int32) → (Nat → Nat → Int32) → (Nat → Nat → Int32) → Int32 → Int32 → Int32 → Int32 → Int32 → (Nat → Int32) → (Nat → Int32) → (Nat → Int32) → (Nat → Int32) → (Nat → Int32) → (Nat → Int32) → Prop) (now_o : Int32) (rnd_o : Int64) (jm_o : Int32) (rp_o : Int32) (dc_o : Int32) (sLen_3 : Nat → Int32) (sWrk_4 : Nat → Int32) (sReg_5 : Nat → Int32) (sFst_6 : Nat → Int32) (sLst_7 : Nat → Int32) (dPol_o : Nat → Int32) (dPtr_o : Nat → Int32) (dCnt_o : Nat → Int32) (dIdl_o : Nat → Nat → Int32) (dKnw_o : Nat → Nat → Int32) (fu : Nat) : Int32 → (Nat → Int32) → (Nat → Int32) → (Nat → Int32) → (Nat → Nat → Int32) → (Nat → Nat → Int32) → Prop := Nat.rec (motive := fun _ => Int32 → (Nat → Int32) → (Nat → Int32) → (Nat → Int32) → (Nat → Nat → Int32) → (Nat → Nat → Int32) → Prop) (fun _ _ _ _ _ _ => False) (fun _ rec79 x9 dPol_10 dPtr_11 dCnt_12 dIdl_13 dKnw_14 => (4 ≤ x9 → (wp_X1_copyFrom jSrv jLft jSub jWai jNxt jCnt_o jFin_o jBeg_o jWs_o jMis_o jSrv_o jLft_o jSub_o jWai_o jNxt_o (fun jCnt_16 jFin_17 jBeg_18 jWs_19 jMis_20 jSrv_21 jLft_22 jSub_23 jWai_24 jNxt_25 => wp_X3_collectCandidates sc_o sUp_2 cnd (fun cn_26 cnd_27 => k now_o rnd_o jm_o rp_o sc_o dc_o cn_26 sUp_2 sLen_3 sWrk_4 sReg_5 sFst_6 sLst_7 dPol_10 dPtr_11 dCnt_12 dIdl_13 dKnw_14 jCnt_16 jFin_17 jBeg_18 jWs_19 jMis_20 jSrv_21 jLft_22 jSub_23 jWai_24 jNxt_25 cnd_27)))) ∧ (¬ (4 ≤ x9) → ((vp_in x9 4) ∧ (wp_X0_copyFrom dPol_10 dPtr_11 dCnt_12 dIdl_13 dKnw_14 dPol_o dPtr_o dCnt_o dIdl_o dKnw_o (x9.toNatClampNeg) (x9.toNatClampNeg) (fun dPol_29 dPtr_30 dCnt_31 dIdl_32 dKnw_33 => ∀ x34 : Int32, x34 = x9 + 1 → (rec79 x34 dPol_29 dPtr_30 dCnt_31 dIdl_32 dKnw_33)))))) fu
noncomputable def wp_X3_copyFrom_L50 (jSrv : Nat → Int32) (jLft : Nat → Int32) (jSub : Nat → Int32) (jWai : Nat → Int32) (jNxt : Nat → Int32) (jCnt_o : Int32) (jFin_o : Int32) (jBeg_o : Int32) (jWs_o : Int32) (jMis_o : Int32) (jSrv_o : Nat → Int32) (jLft_o : Nat → Int32) (jSub_o : Nat → Int32) (jWai_o : Nat → Int32) (jNxt_o : Nat → Int32) (sc_o : Int32) (cnd : Nat → Int32) (k : Int32 → Int64 → Int32 → Int32 → Int32 → Int32 → Int32 → (Nat → Int32) → (Nat → Int32) → (Nat → Int32) → (Nat → Int32) → (Nat → Int32) → (Nat → Int32) → (Nat → Int32) → (Nat → Int32) → (Nat → Int32) → (Nat → Nat → Int32) → (Nat → Nat → Int32) → Int32 → Int32 → Int32 → Int32 → Int32 → (Nat → Int32) → (Nat → Int32) → (Nat → Int32) → (Nat → Int32) → (Nat → Int32) → (Nat → Int32) → Prop) (now_o : Int32) (rnd_o : Int64) (jm_o : Int32) (rp_o : Int32) (dc_o : Int32) (dPol_o : Nat → Int32) (dPtr_o : Nat → Int32) (dCnt_o : Nat → Int32) (dIdl_o : Nat → Nat → Int32) (dKnw_o : Nat → Nat → Int32) (dPol : Nat → Int32) (dPtr : Nat → Int32) (dCnt : Nat → Int32) (dIdl : Nat → Nat → Int32) (dKnw : Nat → Nat → Int32) (sUp_o : Nat → Int32) (sLen_o : Nat → Int32) (sWrk_o : Nat → Int32) (sReg_o : Nat → Int32) (sFst_o : Nat → Int32) (sLst_o : Nat → Int32) (fu : Nat) : Int32 → (Nat → Int32) → (Nat → Int32) → (Nat → Int32) → (Nat → Int32) → (Nat → Int32) → (Nat → Int32) → Prop := Nat.rec (motive := fun _ => Int32 → (Nat → Int32) → (Nat → Int32) → (Nat → Int32) → (Nat → Int32) → (Nat → Int32) → (Nat → Int32) → Prop) (fun _ _ _ _ _ _ _ => False) (fun _ rec50 x1 sUp_2 sLen_3 sWrk_4 sReg_5 sFst_6 sLst_7 => (8 ≤ x1 → (∃ fu, wp_X3_copyFrom_L79 jSrv jLft jSub jWai jNxt jCnt_o jFin_o jBeg_o jWs_o jMis_o jSrv_o jLft_o jSub_o jWai_o jNxt_o sc_o sUp_2 cnd k now_o rnd_o jm_o rp_o dc_o sLen_3 sWrk_4 sReg_5 sFst_6 sLst_7 dPol_o dPtr_o dCnt_o dIdl_o dKnw_o fu 0 dPol dPtr dCnt dIdl dKnw)) ∧ (¬ (8 ≤ x1) → ((vp_in x1 8) ∧ (wp_X2_copyFrom sUp_2 sLen_3 sWrk_4 sReg_5 sFst_6 sLst_7 sUp_o sLen_o sWrk_o sReg_o sFst_o sLst_o (x1.toNatClampNeg) (x1.toNatClampNeg) (fun sUp_36 sLen_37 sWrk_38 sReg_39 sFst_40 sLst_41 => ∀ x42 : Int32, x42 = x1 + 1 → (rec50 x42 sUp_36 sLen_37 sWrk_38 sReg_39 sFst_40 sLst_41)))))) fu
noncomputable def wp_X3_copyFrom (sUp : Nat → Int32) (sLen : Nat → Int32) (sWrk : Nat → Int32) (sReg : Nat → Int32) (sFst : Nat → Int32) (sLst : Nat → Int32) (dPol : Nat → Int32) (dPtr : Nat → Int32) (dCnt : Nat → Int32) (dIdl : Nat → Nat → Int32) (dKnw : Nat → Nat → Int32) (jSrv : Nat → Int32) (jLft : Nat → Int32) (jSub : Nat → Int32) (jWai : Nat → Int32) (jNxt : Nat → Int32) (cnd : Nat → Int32) (now_o : Int32) (rnd_o : Int64) (jm_o : Int32) (rp_o : Int32) (sc_o : Int32) (dc_o : Int32) (sUp_o : Nat → Int32) (sLen_o : Nat → Int32) (sWrk_o : Nat → Int32) (sReg_o : Nat → Int32) (sFst_o : Nat → Int32) (sLst_o : Nat → Int32) (dPol_o : Nat → Int32) (dPtr_o : Nat → Int32) (dCnt_o : Nat → Int32) (dIdl_o : Nat → Nat → Int32) (dKnw_o : Nat → Nat → Int32) (jCnt_o : Int32) (jFin_o : Int32) (jBeg_o : Int32) (jWs_o : Int32) (jMis_o : Int32) (jSrv_o : Nat → Int32) (jLft_o : Nat → Int32) (jSub_o : Nat → Int32) (jWai_o : Nat → Int32) (jNxt_o : Nat → Int32) (k : Int32 → Int64 → Int32 → Int32 → Int32 → Int32 → Int32 → (Nat → Int32) → (Nat → Int32) → (Nat → Int32) → (Nat → Int32) → (Nat → Int32) → (Nat → Int32) → (Nat → Int32) → (Nat → Int32) → (Nat → Int32) → (Nat → Nat → Int32) → (Nat → Nat → Int32) → Int32 → Int32 → Int32 → Int32 → Int32 → (Nat → Int32) → (Nat → Int32) → (Nat → Int32) → (Nat → Int32) → (Nat → Int32) → (Nat → Int32) → Prop) : Prop := ∃ fu, wp_X3_copyFrom_L50 jSrv jLft jSub jWai jNxt jCnt_o jFin_o jBeg_o jWs_o jMis_o jSrv_o jLft_o jSub_o jWai_o jNxt_o sc_o cnd k now_o rnd_o jm_o rp_o dc_o dPol_o dPtr_o dCnt_o dIdl_o dKnw_o dPol dPtr dCnt dIdl dKnw sUp_o sLen_o sWrk_o sReg_o sFst_o sLst_o fu 0 sUp sLen sWrk sReg sFst sLst
set_option maxRecDepth 100000 in
set_option maxHeartbeats 4000000 in
theorem c_X3_copyFrom (l : Launch) {E : EV} {a : Nat} {P : PF} {A : Nat → Prop} (F : Foc E a P) (hA : ∀ q, inSt a q → A q) (now : Int32) (rnd : Int64) (jm : Int32) (rp : Int32) (sc : Int32) (dc : Int32) (cn : Int32) (sUp : Nat → Int32) (sLen : Nat → Int32) (sWrk : Nat → Int32) (sReg : Nat → Int32) (sFst : Nat → Int32) (sLst : Nat → Int32) (dPol : Nat → Int32) (dPtr : Nat → Int32) (dCnt : Nat → Int32) (dIdl : Nat → Nat → Int32) (dKnw : Nat → Nat → Int32) (jCnt : Int32) (jFin : Int32) (jBeg : Int32) (jWs : Int32) (jMis : Int32) (jSrv : Nat → Int32) (jLft : Nat → Int32) (jSub : Nat → Int32) (jWai : Nat → Int32) (jNxt : Nat → Int32) (cnd : Nat → Int32) {a2 : Nat} (now_o : Int32) (rnd_o : Int64) (jm_o : Int32) (rp_o : Int32) (sc_o : Int32) (dc_o : Int32) (cn_o : Int32) (sUp_o : Nat → Int32) (sLen_o : Nat → Int32) (sWrk_o : Nat → Int32) (sReg_o : Nat → Int32) (sFst_o : Nat → Int32) (sLst_o : Nat → Int32) (dPol_o : Nat → Int32) (dPtr_o : Nat → Int32) (dCnt_o : Nat → Int32) (dIdl_o : Nat → Nat → Int32) (dKnw_o : Nat → Nat → Int32) (jCnt_o : Int32) (jFin_o : Int32) (jBeg_o : Int32) (jWs_o : Int32) (jMis_o : Int32) (jSrv_o : Nat → Int32) (jLft_o : Nat → Int32) (jSub_o : Nat → Int32) (jWai_o : Nat → Int32) (jNxt_o : Nat → Int32) (cnd_o : Nat → Int32) (O2 : ∀ {now : Int32} {rnd : Int64} {jm : Int32} {rp : Int32} {sc : Int32} {dc : Int32} {cn : Int32} {sUp : Nat → Int32} {sLen : Nat → Int32} {sWrk : Nat → Int32} {sReg : Nat → Int32} {sFst : Nat → Int32} {sLst : Nat → Int32} {dPol : Nat → Int32} {dPtr : Nat → Int32} {dCnt : Nat → Int32} {dIdl : Nat → Nat → Int32} {dKnw : Nat → Nat → Int32} {jCnt : Int32} {jFin : Int32} {jBeg : Int32} {jWs : Int32} {jMis : Int32} {jSrv : Nat → Int32} {jLft : Nat → Int32} {jSub : Nat → Int32} {jWai : Nat → Int32} {jNxt : Nat → Int32} {cnd : Nat → Int32} (H : Heap), P now rnd jm rp sc dc cn sUp sLen sWrk sReg sFst sLst dPol dPtr dCnt dIdl dKnw jCnt jFin jBeg jWs jMis jSrv jLft jSub jWai jNxt cnd H → stP E a2 now_o rnd_o jm_o rp_o sc_o dc_o cn_o sUp_o sLen_o sWrk_o sReg_o sFst_o sLst_o dPol_o dPtr_o dCnt_o dIdl_o dKnw_o jCnt_o jFin_o jBeg_o jWs_o jMis_o jSrv_o jLft_o jSub_o jWai_o jNxt_o cnd_o H)   (k : Int32 → Int64 → Int32 → Int32 → Int32 → Int32 → Int32 → (Nat → Int32) → (Nat → Int32) → (Nat → Int32) → (Nat → Int32) → (Nat → Int32) → (Nat → Int32) → (Nat → Int32) → (Nat → Int32) → (Nat → Int32) → (Nat → Nat → Int32) → (Nat → Nat → Int32) → Int32 → Int32 → Int32 → Int32 → Int32 → (Nat → Int32) → (Nat → Int32) → (Nat → Int32) → (Nat → Int32) → (Nat → Int32) → (Nat → Int32) → Prop) (h : wp_X3_copyFrom sUp sLen sWrk sReg sFst sLst dPol dPtr dCnt dIdl dKnw jSrv jLft jSub jWai jNxt cnd now_o rnd_o jm_o rp_o sc_o dc_o sUp_o sLen_o sWrk_o sReg_o sFst_o sLst_o dPol_o dPtr_o dCnt_o dIdl_o dKnw_o jCnt_o jFin_o jBeg_o jWs_o jMis_o jSrv_o jLft_o jSub_o jWai_o jNxt_o  k) : Met l yX3_copyFrom wsX3_copyFrom { frames := 2, cells := 0, slots := 0, locals := 47 } (va_Pc [.ref a, .ref a2] (fun U => P now rnd jm rp sc dc cn sUp sLen sWrk sReg sFst sLst dPol dPtr dCnt dIdl dKnw jCnt jFin jBeg jWs jMis jSrv jLft jSub jWai jNxt cnd U.heap ∧ XE E U)) (kQv (fun H => ∃ now9 : Int32, ∃ rnd9 : Int64, ∃ jm9 : Int32, ∃ rp9 : Int32, ∃ sc9 : Int32, ∃ dc9 : Int32, ∃ cn9 : Int32, ∃ sUp9 : Nat → Int32, ∃ sLen9 : Nat → Int32, ∃ sWrk9 : Nat → Int32, ∃ sReg9 : Nat → Int32, ∃ sFst9 : Nat → Int32, ∃ sLst9 : Nat → Int32, ∃ dPol9 : Nat → Int32, ∃ dPtr9 : Nat → Int32, ∃ dCnt9 : Nat → Int32, ∃ dIdl9 : Nat → Nat → Int32, ∃ dKnw9 : Nat → Nat → Int32, ∃ jCnt9 : Int32, ∃ jFin9 : Int32, ∃ jBeg9 : Int32, ∃ jWs9 : Int32, ∃ jMis9 : Int32, ∃ jSrv9 : Nat → Int32, ∃ jLft9 : Nat → Int32, ∃ jSub9 : Nat → Int32, ∃ jWai9 : Nat → Int32, ∃ jNxt9 : Nat → Int32, ∃ cnd9 : Nat → Int32, k now9 rnd9 jm9 rp9 sc9 dc9 cn9 sUp9 sLen9 sWrk9 sReg9 sFst9 sLst9 dPol9 dPtr9 dCnt9 dIdl9 dKnw9 jCnt9 jFin9 jBeg9 jWs9 jMis9 jSrv9 jLft9 jSub9 jWai9 jNxt9 cnd9 ∧ P now9 rnd9 jm9 rp9 sc9 dc9 cn9 sUp9 sLen9 sWrk9 sReg9 sFst9 sLst9 dPol9 dPtr9 dCnt9 dIdl9 dKnw9 jCnt9 jFin9 jBeg9 jWs9 jMis9 jSrv9 jLft9 jSub9 jWai9 jNxt9 cnd9 H) A) 0 0 A := by
  refine k_body (cc := cX3_copyFrom) (own := RX3) (maxL := 3) (ret := none) (lv0 := [(0, .ref a), (1, .ref a2)]) (by decide) rfl rfl (Nat.le_of_ble_eq_true rfl) rfl (fun p e s m below meth c C hr hlk hP hE => ?_)
  have hi3 : ∀ w ∈ u_ws RX3 TX3 11, w ∈ wsX3_copyFrom := by decide +kernel
  have lk0 := C.2.2.2.2 (.fieldLink RX3 9 "IdleDispatcher$State" "now" "I") (by decide +kernel)
  have lk1 := C.2.2.2.2 (.fieldLink RX3 15 "IdleDispatcher$State" "random" "J") (by decide +kernel)
  have lk2 := C.2.2.2.2 (.fieldLink RX3 19 "IdleDispatcher$State" "joinMode" "I") (by decide +kernel)
  have lk3 := C.2.2.2.2 (.fieldLink RX3 22 "IdleDispatcher$State" "reportPeriod" "I") (by decide +kernel)
  have lk4 := C.2.2.2.2 (.fieldLink RX3 25 "IdleDispatcher$State" "serverCount" "I") (by decide +kernel)
  have lk5 := C.2.2.2.2 (.fieldLink RX3 28 "IdleDispatcher$State" "dispatcherCount" "I") (by decide +kernel)
  have lk6 := C.2.2.2.2 (.fieldLink RX3 48 "IdleDispatcher$State" "jobs" "LIdleDispatcher$Jobs;") (by decide +kernel)
  have lk7 := C.2.2.2.2 (.fieldLink RX3 40 "IdleDispatcher$State" "dispatchers" "[LIdleDispatcher$Dispatcher;") (by decide +kernel)
  have lk8 := C.2.2.2.2 (.fieldLink RX3 33 "IdleDispatcher$State" "servers" "[LIdleDispatcher$Server;") (by decide +kernel)
  refine k_aload_n C dX3_copyFrom_0 0 rfl ?_
  refine k_aload_n C dX3_copyFrom_1 1 rfl ?_
  refine g_now C (fun H hP => O2 H hP) hE.1 hi3 lk0 dX3_copyFrom_2 ?_
  refine p_now C F hA hE.1 hi3 lk0 dX3_copyFrom_5 ?_
  refine k_aload_n C dX3_copyFrom_8 0 rfl ?_
  refine k_aload_n C dX3_copyFrom_9 1 rfl ?_
  refine g_rnd C (fun H hP => O2 H hP) hE.1 hi3 lk1 dX3_copyFrom_10 ?_
  refine p_rnd C F hA hE.1 hi3 lk1 dX3_copyFrom_13 ?_
  refine k_aload_n C dX3_copyFrom_16 0 rfl ?_
  refine k_aload_n C dX3_copyFrom_17 1 rfl ?_
  refine g_jm C (fun H hP => O2 H hP) hE.1 hi3 lk2 dX3_copyFrom_18 ?_
  refine p_jm C F hA hE.1 hi3 lk2 dX3_copyFrom_21 ?_
  refine k_aload_n C dX3_copyFrom_24 0 rfl ?_
  refine k_aload_n C dX3_copyFrom_25 1 rfl ?_
  refine g_rp C (fun H hP => O2 H hP) hE.1 hi3 lk3 dX3_copyFrom_26 ?_
  refine p_rp C F hA hE.1 hi3 lk3 dX3_copyFrom_29 ?_
  refine k_aload_n C dX3_copyFrom_32 0 rfl ?_
  refine k_aload_n C dX3_copyFrom_33 1 rfl ?_
  refine g_sc C (fun H hP => O2 H hP) hE.1 hi3 lk4 dX3_copyFrom_34 ?_
  refine p_sc C F hA hE.1 hi3 lk4 dX3_copyFrom_37 ?_
  refine k_aload_n C dX3_copyFrom_40 0 rfl ?_
  refine k_aload_n C dX3_copyFrom_41 1 rfl ?_
  refine g_dc C (fun H hP => O2 H hP) hE.1 hi3 lk5 dX3_copyFrom_42 ?_
  refine p_dc C F hA hE.1 hi3 lk5 dX3_copyFrom_45 ?_
  refine k_iconst (v := 0) C dX3_copyFrom_48 (by decide) ?_
  refine k_istore_n (lv' := [(2, .int 0), (0, .ref a), (1, .ref a2)]) C dX3_copyFrom_49 rfl (by decide) rfl ?_
  obtain ⟨n50, h⟩ := h
  refine k_pc (pc2 := 50) rfl ?_
  refine k_loop7 (wp_X3_copyFrom_L50 jSrv jLft jSub jWai jNxt jCnt_o jFin_o jBeg_o jWs_o jMis_o jSrv_o jLft_o jSub_o jWai_o jNxt_o sc_o cnd k now_o rnd_o jm_o rp_o dc_o dPol_o dPtr_o dCnt_o dIdl_o dKnw_o dPol dPtr dCnt dIdl dKnw sUp_o sLen_o sWrk_o sReg_o sFst_o sLst_o) (fun x1 sUp_2 sLen_3 sWrk_4 sReg_5 sFst_6 sLst_7 => P now_o rnd_o jm_o rp_o sc_o dc_o cn sUp_2 sLen_3 sWrk_4 sReg_5 sFst_6 sLst_7 dPol dPtr dCnt dIdl dKnw jCnt jFin jBeg jWs jMis jSrv jLft jSub jWai jNxt cnd) (fun x1 sUp_2 sLen_3 sWrk_4 sReg_5 sFst_6 sLst_7 => [(2, .int x1), (0, .ref a), (1, .ref a2)]) (fun _ _ _ _ _ _ _ h => h) (fun n50 ih50 x1 sUp_2 sLen_3 sWrk_4 sReg_5 sFst_6 sLst_7 h => ?_) n50 _ _ _ _ _ _ _ h
  refine k_iload_n C dX3_copyFrom_50 0 rfl ?_
  refine k_bipush (v := 8) C dX3_copyFrom_51 (by decide) ?_
  refine k_icmp_ge (tgt := 77) C dX3_copyFrom_53 (by decide) (fun c8 => ?_) (fun c8 => ?_)
  · replace h := h.1 c8
    refine k_iconst (v := 0) C dX3_copyFrom_77 (by decide) ?_
    refine k_istore_n (lv' := [(2, .int 0), (0, .ref a), (1, .ref a2)]) C dX3_copyFrom_78 rfl (by decide) rfl ?_
    obtain ⟨n79, h⟩ := h
    refine k_pc (pc2 := 79) rfl ?_
    refine k_loop6 (wp_X3_copyFrom_L79 jSrv jLft jSub jWai jNxt jCnt_o jFin_o jBeg_o jWs_o jMis_o jSrv_o jLft_o jSub_o jWai_o jNxt_o sc_o sUp_2 cnd k now_o rnd_o jm_o rp_o dc_o sLen_3 sWrk_4 sReg_5 sFst_6 sLst_7 dPol_o dPtr_o dCnt_o dIdl_o dKnw_o) (fun x9 dPol_10 dPtr_11 dCnt_12 dIdl_13 dKnw_14 => P now_o rnd_o jm_o rp_o sc_o dc_o cn sUp_2 sLen_3 sWrk_4 sReg_5 sFst_6 sLst_7 dPol_10 dPtr_11 dCnt_12 dIdl_13 dKnw_14 jCnt jFin jBeg jWs jMis jSrv jLft jSub jWai jNxt cnd) (fun x9 dPol_10 dPtr_11 dCnt_12 dIdl_13 dKnw_14 => [(2, .int x9), (0, .ref a), (1, .ref a2)]) (fun _ _ _ _ _ _ h => h) (fun n79 ih79 x9 dPol_10 dPtr_11 dCnt_12 dIdl_13 dKnw_14 h => ?_) n79 _ _ _ _ _ _ h
    refine k_iload_n C dX3_copyFrom_79 0 rfl ?_
    refine k_iconst (v := 4) C dX3_copyFrom_80 (by decide) ?_
    refine k_icmp_ge (tgt := 105) C dX3_copyFrom_81 (by decide) (fun c15 => ?_) (fun c15 => ?_)
    · replace h := h.1 c15
      refine k_aload_n C dX3_copyFrom_105 1 rfl ?_
      refine g_St_jobs C (foc_g F) hE.1 hi3 lk6 dX3_copyFrom_106 ?_
      refine k_aload_n C dX3_copyFrom_109 2 rfl ?_
      refine g_St_jobs C (fun H hP => O2 H hP) hE.1 hi3 lk6 dX3_copyFrom_110 ?_
      refine k_callVv (st := []) C hE (c_X1_copyFrom l F hA now_o rnd_o jm_o rp_o sc_o dc_o cn sUp_2 sLen_3 sWrk_4 sReg_5 sFst_6 sLst_7 dPol_10 dPtr_11 dCnt_12 dIdl_13 dKnw_14 jCnt jFin jBeg jWs jMis jSrv jLft jSub jWai jNxt cnd now_o rnd_o jm_o rp_o sc_o dc_o cn_o sUp_o sLen_o sWrk_o sReg_o sFst_o sLst_o dPol_o dPtr_o dCnt_o dIdl_o dKnw_o jCnt_o jFin_o jBeg_o jWs_o jMis_o jSrv_o jLft_o jSub_o jWai_o jNxt_o cnd_o (fun H hP => O2 H hP)   _ h) (cwV 1 C.2.2.2.2 gX3_copyFrom_X1_copyFrom rfl rfl rfl (by decide +kernel) ⟨Nat.le_of_ble_eq_true rfl, Nat.le_of_ble_eq_true rfl⟩) (fun H hP => va_recv hE.1 (k_one (st_Jo ((foc_g F) H hP))) rfl (q0 := 0) rfl) rfl rfl (Nat.le_of_ble_eq_true rfl) dX3_copyFrom_113 ⟨Nat.zero_le _, Nat.zero_le _⟩ (fun _ => ?_)
      refine k_ex (fun jCnt_16 => k_ex (fun jFin_17 => k_ex (fun jBeg_18 => k_ex (fun jWs_19 => k_ex (fun jMis_20 => k_ex (fun jSrv_21 => k_ex (fun jLft_22 => k_ex (fun jSub_23 => k_ex (fun jWai_24 => k_ex (fun jNxt_25 => k_and (fun h => ?_)))))))))))
      refine k_aload_n C dX3_copyFrom_116 1 rfl ?_
      refine k_callVv (st := []) C hE (c_X3_collectCandidates l F hA now_o rnd_o jm_o rp_o sc_o dc_o cn sUp_2 sLen_3 sWrk_4 sReg_5 sFst_6 sLst_7 dPol_10 dPtr_11 dCnt_12 dIdl_13 dKnw_14 jCnt_16 jFin_17 jBeg_18 jWs_19 jMis_20 jSrv_21 jLft_22 jSub_23 jWai_24 jNxt_25 cnd   _ h) (cwV 0 C.2.2.2.2 gX3_copyFrom_X3_collectCandidates rfl rfl rfl (by decide +kernel) ⟨Nat.le_of_ble_eq_true rfl, Nat.le_of_ble_eq_true rfl⟩) (fun H hP => va_recv hE.1 (k_one (st_St ((foc_g F) H hP))) rfl (q0 := 0) rfl) rfl rfl (Nat.le_of_ble_eq_true rfl) dX3_copyFrom_117 ⟨Nat.zero_le _, Nat.zero_le _⟩ (fun _ => ?_)
      refine k_ex (fun cn_26 => k_ex (fun cnd_27 => k_and (fun h => ?_)))
      exact k_vret C hr hlk dX3_copyFrom_120 (fun H hP => ⟨now_o, rnd_o, jm_o, rp_o, sc_o, dc_o, cn_26, sUp_2, sLen_3, sWrk_4, sReg_5, sFst_6, sLst_7, dPol_10, dPtr_11, dCnt_12, dIdl_13, dKnw_14, jCnt_16, jFin_17, jBeg_18, jWs_19, jMis_20, jSrv_21, jLft_22, jSub_23, jWai_24, jNxt_25, cnd_27, h, hP⟩)
    · replace h := h.2 c15
      refine k_aload_n C dX3_copyFrom_84 1 rfl ?_
      refine g_St_dispatchers C (foc_g F) hE.1 hi3 lk7 dX3_copyFrom_85 ?_
      refine k_iload_n C dX3_copyFrom_88 0 rfl ?_
      obtain ⟨q28, h⟩ := h
      refine g_DA C (foc_g F) hE.1 q28 dX3_copyFrom_89 ?_
      refine k_aload_n C dX3_copyFrom_90 2 rfl ?_
      refine g_St_dispatchers C (fun H hP => O2 H hP) hE.1 hi3 lk7 dX3_copyFrom_91 ?_
      refine k_iload_n C dX3_copyFrom_94 0 rfl ?_
      refine g_DA C (fun H hP => O2 H hP) hE.1 q28 dX3_copyFrom_95 ?_
      refine k_callVv (st := []) C hE (c_X0_copyFrom l F hA now_o rnd_o jm_o rp_o sc_o dc_o cn sUp_2 sLen_3 sWrk_4 sReg_5 sFst_6 sLst_7 dPol_10 dPtr_11 dCnt_12 dIdl_13 dKnw_14 jCnt jFin jBeg jWs jMis jSrv jLft jSub jWai jNxt cnd now_o rnd_o jm_o rp_o sc_o dc_o cn_o sUp_o sLen_o sWrk_o sReg_o sFst_o sLst_o dPol_o dPtr_o dCnt_o dIdl_o dKnw_o jCnt_o jFin_o jBeg_o jWs_o jMis_o jSrv_o jLft_o jSub_o jWai_o jNxt_o cnd_o (fun H hP => O2 H hP) (x9.toNatClampNeg) (x9.toNatClampNeg) (vp_lt q28) (vp_lt q28) _ h) (cwV 1 C.2.2.2.2 gX3_copyFrom_X0_copyFrom rfl rfl rfl (by decide +kernel) ⟨Nat.le_of_ble_eq_true rfl, Nat.le_of_ble_eq_true rfl⟩) (fun H hP => va_recv hE.1 (k_one (st_Di (vp_lt q28) ((foc_g F) H hP))) rfl (q0 := 0) rfl) rfl rfl (Nat.le_of_ble_eq_true rfl) dX3_copyFrom_96 ⟨Nat.zero_le _, Nat.zero_le _⟩ (fun _ => ?_)
      refine k_ex (fun dPol_29 => k_ex (fun dPtr_30 => k_ex (fun dCnt_31 => k_ex (fun dIdl_32 => k_ex (fun dKnw_33 => k_and (fun h => ?_))))))
      obtain ⟨x34, ex34⟩ : ∃ z : Int32, z = x9 + 1 := ⟨_, rfl⟩
      replace h := h x34 ex34
      refine k_iinc (v := x34) (lv' := [(2, .int x34), (0, .ref a), (1, .ref a2)]) (j := 0) C dX3_copyFrom_99 rfl (by rw [ex34]; rfl) (by decide) rfl ?_
      refine k_goto (tgt := 79) C dX3_copyFrom_102 (by decide) ?_
      refine k_pc (pc2 := 79) rfl ?_
      refine k_sub [0, 1, 2] rfl ?_
      exact ih79 _ _ _ _ _ _ h
  · replace h := h.2 c8
    refine k_aload_n C dX3_copyFrom_56 1 rfl ?_
    refine g_St_servers C (foc_g F) hE.1 hi3 lk8 dX3_copyFrom_57 ?_
    refine k_iload_n C dX3_copyFrom_60 0 rfl ?_
    obtain ⟨q35, h⟩ := h
    refine g_SA C (foc_g F) hE.1 q35 dX3_copyFrom_61 ?_
    refine k_aload_n C dX3_copyFrom_62 2 rfl ?_
    refine g_St_servers C (fun H hP => O2 H hP) hE.1 hi3 lk8 dX3_copyFrom_63 ?_
    refine k_iload_n C dX3_copyFrom_66 0 rfl ?_
    refine g_SA C (fun H hP => O2 H hP) hE.1 q35 dX3_copyFrom_67 ?_
    refine k_callVv (st := []) C hE (c_X2_copyFrom l F hA now_o rnd_o jm_o rp_o sc_o dc_o cn sUp_2 sLen_3 sWrk_4 sReg_5 sFst_6 sLst_7 dPol dPtr dCnt dIdl dKnw jCnt jFin jBeg jWs jMis jSrv jLft jSub jWai jNxt cnd now_o rnd_o jm_o rp_o sc_o dc_o cn_o sUp_o sLen_o sWrk_o sReg_o sFst_o sLst_o dPol_o dPtr_o dCnt_o dIdl_o dKnw_o jCnt_o jFin_o jBeg_o jWs_o jMis_o jSrv_o jLft_o jSub_o jWai_o jNxt_o cnd_o (fun H hP => O2 H hP) (x1.toNatClampNeg) (x1.toNatClampNeg) (vp_lt q35) (vp_lt q35) _ h) (cwV 1 C.2.2.2.2 gX3_copyFrom_X2_copyFrom rfl rfl rfl (by decide +kernel) ⟨Nat.le_of_ble_eq_true rfl, Nat.le_of_ble_eq_true rfl⟩) (fun H hP => va_recv hE.1 (k_one (st_Sv (vp_lt q35) ((foc_g F) H hP))) rfl (q0 := 0) rfl) rfl rfl (Nat.le_of_ble_eq_true rfl) dX3_copyFrom_68 ⟨Nat.zero_le _, Nat.zero_le _⟩ (fun _ => ?_)
    refine k_ex (fun sUp_36 => k_ex (fun sLen_37 => k_ex (fun sWrk_38 => k_ex (fun sReg_39 => k_ex (fun sFst_40 => k_ex (fun sLst_41 => k_and (fun h => ?_)))))))
    obtain ⟨x42, ex42⟩ : ∃ z : Int32, z = x1 + 1 := ⟨_, rfl⟩
    replace h := h x42 ex42
    refine k_iinc (v := x42) (lv' := [(2, .int x42), (0, .ref a), (1, .ref a2)]) (j := 0) C dX3_copyFrom_71 rfl (by rw [ex42]; rfl) (by decide) rfl ?_
    refine k_goto (tgt := 50) C dX3_copyFrom_74 (by decide) ?_
    refine k_pc (pc2 := 50) rfl ?_
    refine k_sub [0, 1, 2] rfl ?_
    exact ih50 _ _ _ _ _ _ _ h
