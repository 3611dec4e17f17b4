noncomputable def wp_L_addServer (cur : Nat) (sav : Nat → Nat) (cnt : Int32) (ST : Nat → TT) (now : Int32) (rnd : Int64) (jm : Int32) (rp : Int32) (sc : Int32) (dc : Int32) (cn : Int32) (sUp : Nat → Int32) (sLen : Nat → Int32) (sWrk : Nat → Int32) (sReg : Nat → Int32) (sFst : Nat → Int32) (sLst : Nat → Int32) (dPol : Nat → Int32) (dPtr : Nat → Int32) (dCnt : Nat → Int32) (dIdl : Nat → Nat → Int32) (dKnw : Nat → Nat → Int32) (jCnt : Int32) (jFin : Int32) (jBeg : Int32) (jWs : Int32) (jMis : Int32) (jSrv : Nat → Int32) (jLft : Nat → Int32) (jSub : Nat → Int32) (jWai : Nat → Int32) (jNxt : Nat → Int32) (cnd : Nat → Int32) (ov : Int64) (k : Int32 → (Nat → Nat) → Int32 → (Nat → TT) → Int64 → Int32 → Int32 → (Nat → Int32) → (Nat → Int32) → (Nat → Nat → Int32) → (Nat → Int32) → Int64 → Prop) : Prop := wp_X4_addServer cur sav cnt ST now rnd jm rp sc dc cn sUp sLen sWrk sReg sFst sLst dPol dPtr dCnt dIdl dKnw jCnt jFin jBeg jWs jMis jSrv jLft jSub jWai jNxt cnd (fun r1 sav_2 cnt_3 ST_4 rnd_5 sc_6 cn_7 sReg_8 dCnt_9 dIdl_10 cnd_11 => ∀ x12 : Int64, x12 = r1.toInt64 → (k 0 sav_2 cnt_3 ST_4 rnd_5 sc_6 cn_7 sReg_8 dCnt_9 dIdl_10 cnd_11 x12)) (fun X9 => (X9 = "java/lang/IllegalStateException" ∧ (k 1 sav cnt ST rnd sc cn sReg dCnt dIdl cnd ov)))
set_option maxRecDepth 100000 in
set_option maxHeartbeats 4000000 in
theorem c_L_addServer (l : Launch) (hlt : l.stackTraces = false) {E : EV} {b : Nat} {A : Nat → Prop} (hA : ∀ q, b ≤ q → A q) (cur : Nat) (sav : Nat → Nat) (cnt : Int32) (ST : Nat → TT) (now : Int32) (rnd : Int64) (jm : Int32) (rp : Int32) (sc : Int32) (dc : Int32) (cn : Int32) (sUp : Nat → Int32) (sLen : Nat → Int32) (sWrk : Nat → Int32) (sReg : Nat → Int32) (sFst : Nat → Int32) (sLst : Nat → Int32) (dPol : Nat → Int32) (dPtr : Nat → Int32) (dCnt : Nat → Int32) (dIdl : Nat → Nat → Int32) (dKnw : Nat → Nat → Int32) (jCnt : Int32) (jFin : Int32) (jBeg : Int32) (jWs : Int32) (jMis : Int32) (jSrv : Nat → Int32) (jLft : Nat → Int32) (jSub : Nat → Int32) (jWai : Nat → Int32) (jNxt : Nat → Int32) (cnd : Nat → Int32) (nw : Nat → Int32) (hi : Nat → Int32) (sv : Int32) (th : Int32) (cd : Nat → Int32) (ha : Int64) (ov : Int64) (hcur : cur < 4)   (k : Int32 → (Nat → Nat) → Int32 → (Nat → TT) → Int64 → Int32 → Int32 → (Nat → Int32) → (Nat → Int32) → (Nat → Nat → Int32) → (Nat → Int32) → Int64 → Prop) (h : wp_L_addServer cur sav cnt ST now rnd jm rp sc dc cn sUp sLen sWrk sReg sFst sLst dPol dPtr dCnt dIdl dKnw jCnt jFin jBeg jWs jMis jSrv jLft jSub jWai jNxt cnd ov  k) : Met l yL_addServer wsL_addServer { frames := 7, cells := 1, slots := 6, locals := 110 } (va_Pc [.ref b, .ref (b + 126)] (fun U => XF (LX E b nw hi sv th cd ha ov) cur sav cnt ST now rnd jm rp sc dc cn sUp sLen sWrk sReg sFst sLst dPol dPtr dCnt dIdl dKnw jCnt jFin jBeg jWs jMis jSrv jLft jSub jWai jNxt cnd U.heap ∧ XL E A U)) (kQi (fun r H => ∃ sav9 : Nat → Nat, ∃ cnt9 : Int32, ∃ ST9 : Nat → TT, ∃ rnd9 : Int64, ∃ sc9 : Int32, ∃ cn9 : Int32, ∃ sReg9 : Nat → Int32, ∃ dCnt9 : Nat → Int32, ∃ dIdl9 : Nat → Nat → Int32, ∃ cnd9 : Nat → Int32, ∃ ov9 : Int64, k r sav9 cnt9 ST9 rnd9 sc9 cn9 sReg9 dCnt9 dIdl9 cnd9 ov9 ∧ XF (LX E b nw hi sv th cd ha ov9) cur sav9 cnt9 ST9 now rnd9 jm rp sc9 dc cn9 sUp sLen sWrk sReg9 sFst sLst dPol dPtr dCnt9 dIdl9 dKnw jCnt jFin jBeg jWs jMis jSrv jLft jSub jWai jNxt cnd9 H) A) 1 6 A := by
  refine kl_body (cc := cL_addServer) (own := RL) (maxL := 3) (ret := (some .int)) (hh := [(0, 8, 11, 13)]) (lv0 := [(0, .ref b), (1, .ref (b + 126))]) (by decide) rfl rfl (Nat.le_of_ble_eq_true rfl) rfl (fun p e s m below meth c C hr hlk htab hP hX => ?_)
  have hE := hX.1.1
  have lk0 := C.2.2.2.2 (.classLink RL 13 "java/lang/IllegalStateException") (by decide +kernel)
  refine k_aload_n C dL_addServer_0 1 rfl ?_
  refine k_iconst (v := 0) C dL_addServer_1 (by decide) ?_
  refine k_aload_n C dL_addServer_2 0 rfl ?_
  refine kl_callVi (st := [.int 0, .ref (b + 126)]) C hX (c_X4_addServer l hlt (focL_x E b) (fun q hq => hA q hq.1) cur sav cnt ST now rnd jm rp sc dc cn sUp sLen sWrk sReg sFst sLst dPol dPtr dCnt dIdl dKnw jCnt jFin jBeg jWs jMis jSrv jLft jSub jWai jNxt cnd hcur  _ _ h) (cwV 0 C.2.2.2.2 gL_addServer_X4_addServer rfl rfl rfl (by decide +kernel) ⟨Nat.le_of_ble_eq_true rfl, Nat.le_of_ble_eq_true rfl⟩) (fun H hP => va_recv hE.1 (k_one hP.1.1) rfl (q0 := 0) rfl) rfl rfl (Nat.le_of_ble_eq_true rfl) dL_addServer_3 ⟨Nat.le_of_ble_eq_true rfl, Nat.le_of_ble_eq_true rfl⟩ (fun X9 => kxj_and (fun hx => ?_)) (fun r1 => ?_)
  · rcases hx with ⟨rfl, h⟩
    · refine kj_catch C [] ⟨0, 8, 11, 13⟩ [] htab (fun z hz => nomatch hz) (by decide) (by decide) lk0 hX.1.2.2.1.1 (fun q9 => ?_)
      refine k_astore_n (lv' := [(2, .ref q9), (0, .ref b), (1, .ref (b + 126))]) C dL_addServer_11 rfl (by decide) rfl ?_
      refine k_iconst (v := 1) C dL_addServer_12 (by decide) ?_
      exact k_mret C hr hlk (Nat.le_of_ble_eq_true rfl) (Nat.le_of_ble_eq_true rfl) dL_addServer_13 (fun H hP => ⟨sav, cnt, ST, rnd, sc, cn, sReg, dCnt, dIdl, cnd, ov, h, hP⟩)
  refine k_ex (fun sav_2 => k_ex (fun cnt_3 => k_ex (fun ST_4 => k_ex (fun rnd_5 => k_ex (fun sc_6 => k_ex (fun cn_7 => k_ex (fun sReg_8 => k_ex (fun dCnt_9 => k_ex (fun dIdl_10 => k_ex (fun cnd_11 => k_and (fun h => ?_)))))))))))
  refine k_i2l C dL_addServer_6 ?_
  refine k_topl (fun x12 ex12 => ?_)
  replace h := h x12 ex12
  refine l_put C hA hE.1 dL_addServer_7 ?_
  refine k_goto (tgt := 14) C dL_addServer_8 (by decide) ?_
  refine k_iconst (v := 0) C dL_addServer_14 (by decide) ?_
  exact k_mret C hr hlk (Nat.le_of_ble_eq_true rfl) (Nat.le_of_ble_eq_true rfl) dL_addServer_15 (fun H hP => ⟨sav_2, cnt_3, ST_4, rnd_5, sc_6, cn_7, sReg_8, dCnt_9, dIdl_10, cnd_11, x12, h, hP⟩)
noncomputable def wp_L_addDispatcher (cur : Nat) (sav : Nat → Nat) (cnt : Int32) (ST : Nat → TT) (now : Int32) (rnd : Int64) (jm : Int32) (rp : Int32) (sc : Int32) (dc : Int32) (cn : Int32) (sUp : Nat → Int32) (sLen : Nat → Int32) (sWrk : Nat → Int32) (sReg : Nat → Int32) (sFst : Nat → Int32) (sLst : Nat → Int32) (dPol : Nat → Int32) (dPtr : Nat → Int32) (dCnt : Nat → Int32) (dIdl : Nat → Nat → Int32) (dKnw : Nat → Nat → Int32) (jCnt : Int32) (jFin : Int32) (jBeg : Int32) (jWs : Int32) (jMis : Int32) (jSrv : Nat → Int32) (jLft : Nat → Int32) (jSub : Nat → Int32) (jWai : Nat → Int32) (jNxt : Nat → Int32) (cnd : Nat → Int32) (ov : Int64) (p0 : Int32) (k : Int32 → (Nat → Nat) → Int32 → (Nat → TT) → Int32 → (Nat → Int32) → Int64 → Prop) : Prop := wp_X4_addDispatcher cur sav cnt ST now rnd jm rp sc dc cn sUp sLen sWrk sReg sFst sLst dPol dPtr dCnt dIdl dKnw jCnt jFin jBeg jWs jMis jSrv jLft jSub jWai jNxt cnd p0 (fun r1 sav_2 cnt_3 ST_4 dc_5 dPol_6 => ∀ x7 : Int64, x7 = r1.toInt64 → (k 0 sav_2 cnt_3 ST_4 dc_5 dPol_6 x7)) (fun X9 => (X9 = "java/lang/IllegalArgumentException" ∧ (k 1 sav cnt ST dc dPol ov)) ∨ (X9 = "java/lang/IllegalStateException" ∧ (k 2 sav cnt ST dc dPol ov)))
set_option maxRecDepth 100000 in
set_option maxHeartbeats 4000000 in
theorem c_L_addDispatcher (l : Launch) (hlt : l.stackTraces = false) {E : EV} {b : Nat} {A : Nat → Prop} (hA : ∀ q, b ≤ q → A q) (cur : Nat) (sav : Nat → Nat) (cnt : Int32) (ST : Nat → TT) (now : Int32) (rnd : Int64) (jm : Int32) (rp : Int32) (sc : Int32) (dc : Int32) (cn : Int32) (sUp : Nat → Int32) (sLen : Nat → Int32) (sWrk : Nat → Int32) (sReg : Nat → Int32) (sFst : Nat → Int32) (sLst : Nat → Int32) (dPol : Nat → Int32) (dPtr : Nat → Int32) (dCnt : Nat → Int32) (dIdl : Nat → Nat → Int32) (dKnw : Nat → Nat → Int32) (jCnt : Int32) (jFin : Int32) (jBeg : Int32) (jWs : Int32) (jMis : Int32) (jSrv : Nat → Int32) (jLft : Nat → Int32) (jSub : Nat → Int32) (jWai : Nat → Int32) (jNxt : Nat → Int32) (cnd : Nat → Int32) (nw : Nat → Int32) (hi : Nat → Int32) (sv : Int32) (th : Int32) (cd : Nat → Int32) (ha : Int64) (ov : Int64) (hcur : cur < 4) (p0 : Int32)  (k : Int32 → (Nat → Nat) → Int32 → (Nat → TT) → Int32 → (Nat → Int32) → Int64 → Prop) (h : wp_L_addDispatcher cur sav cnt ST now rnd jm rp sc dc cn sUp sLen sWrk sReg sFst sLst dPol dPtr dCnt dIdl dKnw jCnt jFin jBeg jWs jMis jSrv jLft jSub jWai jNxt cnd ov p0 k) : Met l yL_addDispatcher wsL_addDispatcher { frames := 8, cells := 2, slots := 12, locals := 133 } (va_Pc [.ref b, .int p0, .ref (b + 126)] (fun U => XF (LX E b nw hi sv th cd ha ov) cur sav cnt ST now rnd jm rp sc dc cn sUp sLen sWrk sReg sFst sLst dPol dPtr dCnt dIdl dKnw jCnt jFin jBeg jWs jMis jSrv jLft jSub jWai jNxt cnd U.heap ∧ XL E A U)) (kQi (fun r H => ∃ sav9 : Nat → Nat, ∃ cnt9 : Int32, ∃ ST9 : Nat → TT, ∃ dc9 : Int32, ∃ dPol9 : Nat → Int32, ∃ ov9 : Int64, k r sav9 cnt9 ST9 dc9 dPol9 ov9 ∧ XF (LX E b nw hi sv th cd ha ov9) cur sav9 cnt9 ST9 now rnd jm rp sc dc9 cn sUp sLen sWrk sReg sFst sLst dPol9 dPtr dCnt dIdl dKnw jCnt jFin jBeg jWs jMis jSrv jLft jSub jWai jNxt cnd H) A) 2 12 A := by
  refine kl_body (cc := cL_addDispatcher) (own := RL) (maxL := 4) (ret := (some .int)) (hh := [(0, 9, 12, 19), (0, 9, 15, 13)]) (lv0 := [(0, .ref b), (1, .int p0), (2, .ref (b + 126))]) (by decide) rfl rfl (Nat.le_of_ble_eq_true rfl) rfl (fun p e s m below meth c C hr hlk htab hP hX => ?_)
  have hE := hX.1.1
  have lk0 := C.2.2.2.2 (.classLink RL 19 "java/lang/IllegalArgumentException") (by decide +kernel)
  have lk1 := C.2.2.2.2 (.classLink RL 13 "java/lang/IllegalStateException") (by decide +kernel)
  refine k_aload_n C dL_addDispatcher_0 2 rfl ?_
  refine k_iconst (v := 0) C dL_addDispatcher_1 (by decide) ?_
  refine k_aload_n C dL_addDispatcher_2 0 rfl ?_
  refine k_iload_n C dL_addDispatcher_3 1 rfl ?_
  refine kl_callVi (st := [.int 0, .ref (b + 126)]) C hX (c_X4_addDispatcher l hlt (focL_x E b) (fun q hq => hA q hq.1) cur sav cnt ST now rnd jm rp sc dc cn sUp sLen sWrk sReg sFst sLst dPol dPtr dCnt dIdl dKnw jCnt jFin jBeg jWs jMis jSrv jLft jSub jWai jNxt cnd hcur p0 _ _ h) (cwV 1 C.2.2.2.2 gL_addDispatcher_X4_addDispatcher rfl rfl rfl (by decide +kernel) ⟨Nat.le_of_ble_eq_true rfl, Nat.le_of_ble_eq_true rfl⟩) (fun H hP => va_recv hE.1 (k_one hP.1.1) rfl (q0 := 0) rfl) rfl rfl (Nat.le_of_ble_eq_true rfl) dL_addDispatcher_4 ⟨Nat.le_of_ble_eq_true rfl, Nat.le_of_ble_eq_true rfl⟩ (fun X9 => kxj_and (fun hx => ?_)) (fun r1 => ?_)
  · rcases hx with ⟨rfl, h⟩ | ⟨rfl, h⟩
    · refine kj_catch C [] ⟨0, 9, 12, 19⟩ [⟨0, 9, 15, 13⟩] htab (fun z hz => nomatch hz) (by decide) (by decide) lk0 hX.1.2.2.1.2.1 (fun q9 => ?_)
      refine k_astore_n (lv' := [(3, .ref q9), (0, .ref b), (1, .int p0), (2, .ref (b + 126))]) C dL_addDispatcher_12 rfl (by decide) rfl ?_
      refine k_iconst (v := 1) C dL_addDispatcher_13 (by decide) ?_
      exact k_mret C hr hlk (Nat.le_of_ble_eq_true rfl) (Nat.le_of_ble_eq_true rfl) dL_addDispatcher_14 (fun H hP => ⟨sav, cnt, ST, dc, dPol, ov, h, hP⟩)
    · refine kj_catch C [⟨0, 9, 12, 19⟩] ⟨0, 9, 15, 13⟩ [] htab (fun z hz => Or.inr (by rw [List.mem_singleton.mp hz]; exact ⟨by decide, _, lk0, hX.2.1⟩)) (by decide) (by decide) lk1 hX.1.2.2.1.1 (fun q9 => ?_)
      refine k_astore_n (lv' := [(3, .ref q9), (0, .ref b), (1, .int p0), (2, .ref (b + 126))]) C dL_addDispatcher_15 rfl (by decide) rfl ?_
      refine k_iconst (v := 2) C dL_addDispatcher_16 (by decide) ?_
      exact k_mret C hr hlk (Nat.le_of_ble_eq_true rfl) (Nat.le_of_ble_eq_true rfl) dL_addDispatcher_17 (fun H hP => ⟨sav, cnt, ST, dc, dPol, ov, h, hP⟩)
  refine k_ex (fun sav_2 => k_ex (fun cnt_3 => k_ex (fun ST_4 => k_ex (fun dc_5 => k_ex (fun dPol_6 => k_and (fun h => ?_))))))
  refine k_i2l C dL_addDispatcher_7 ?_
  refine k_topl (fun x7 ex7 => ?_)
  replace h := h x7 ex7
  refine l_put C hA hE.1 dL_addDispatcher_8 ?_
  refine k_goto (tgt := 18) C dL_addDispatcher_9 (by decide) ?_
  refine k_iconst (v := 0) C dL_addDispatcher_18 (by decide) ?_
  exact k_mret C hr hlk (Nat.le_of_ble_eq_true rfl) (Nat.le_of_ble_eq_true rfl) dL_addDispatcher_19 (fun H hP => ⟨sav_2, cnt_3, ST_4, dc_5, dPol_6, x7, h, hP⟩)
noncomputable def wp_L_setPolicy (cur : Nat) (sav : Nat → Nat) (cnt : Int32) (ST : Nat → TT) (now : Int32) (rnd : Int64) (jm : Int32) (rp : Int32) (sc : Int32) (dc : Int32) (cn : Int32) (sUp : Nat → Int32) (sLen : Nat → Int32) (sWrk : Nat → Int32) (sReg : Nat → Int32) (sFst : Nat → Int32) (sLst : Nat → Int32) (dPol : Nat → Int32) (dPtr : Nat → Int32) (dCnt : Nat → Int32) (dIdl : Nat → Nat → Int32) (dKnw : Nat → Nat → Int32) (jCnt : Int32) (jFin : Int32) (jBeg : Int32) (jWs : Int32) (jMis : Int32) (jSrv : Nat → Int32) (jLft : Nat → Int32) (jSub : Nat → Int32) (jWai : Nat → Int32) (jNxt : Nat → Int32) (cnd : Nat → Int32) (ov : Int64) (p0 : Int32) (p1 : Int32) (k : Int32 → (Nat → Nat) → Int32 → (Nat → TT) → (Nat → Int32) → Int64 → Prop) : Prop := wp_X4_setPolicy cur sav cnt ST now rnd jm rp sc dc cn sUp sLen sWrk sReg sFst sLst dPol dPtr dCnt dIdl dKnw jCnt jFin jBeg jWs jMis jSrv jLft jSub jWai jNxt cnd p0 p1 (fun r1 sav_2 cnt_3 ST_4 dPol_5 => ∀ x6 : Int64, x6 = r1.toInt64 → (k 0 sav_2 cnt_3 ST_4 dPol_5 x6)) (fun X9 => (X9 = "java/lang/IllegalArgumentException" ∧ (k 1 sav cnt ST dPol ov)))
set_option maxRecDepth 100000 in
set_option maxHeartbeats 4000000 in
theorem c_L_setPolicy (l : Launch) (hlt : l.stackTraces = false) {E : EV} {b : Nat} {A : Nat → Prop} (hA : ∀ q, b ≤ q → A q) (cur : Nat) (sav : Nat → Nat) (cnt : Int32) (ST : Nat → TT) (now : Int32) (rnd : Int64) (jm : Int32) (rp : Int32) (sc : Int32) (dc : Int32) (cn : Int32) (sUp : Nat → Int32) (sLen : Nat → Int32) (sWrk : Nat → Int32) (sReg : Nat → Int32) (sFst : Nat → Int32) (sLst : Nat → Int32) (dPol : Nat → Int32) (dPtr : Nat → Int32) (dCnt : Nat → Int32) (dIdl : Nat → Nat → Int32) (dKnw : Nat → Nat → Int32) (jCnt : Int32) (jFin : Int32) (jBeg : Int32) (jWs : Int32) (jMis : Int32) (jSrv : Nat → Int32) (jLft : Nat → Int32) (jSub : Nat → Int32) (jWai : Nat → Int32) (jNxt : Nat → Int32) (cnd : Nat → Int32) (nw : Nat → Int32) (hi : Nat → Int32) (sv : Int32) (th : Int32) (cd : Nat → Int32) (ha : Int64) (ov : Int64) (hcur : cur < 4) (p0 : Int32) (p1 : Int32)  (k : Int32 → (Nat → Nat) → Int32 → (Nat → TT) → (Nat → Int32) → Int64 → Prop) (h : wp_L_setPolicy cur sav cnt ST now rnd jm rp sc dc cn sUp sLen sWrk sReg sFst sLst dPol dPtr dCnt dIdl dKnw jCnt jFin jBeg jWs jMis jSrv jLft jSub jWai jNxt cnd ov p0 p1 k) : Met l yL_setPolicy wsL_setPolicy { frames := 8, cells := 2, slots := 12, locals := 135 } (va_Pc [.ref b, .int p0, .int p1, .ref (b + 126)] (fun U => XF (LX E b nw hi sv th cd ha ov) cur sav cnt ST now rnd jm rp sc dc cn sUp sLen sWrk sReg sFst sLst dPol dPtr dCnt dIdl dKnw jCnt jFin jBeg jWs jMis jSrv jLft jSub jWai jNxt cnd U.heap ∧ XL E A U)) (kQi (fun r H => ∃ sav9 : Nat → Nat, ∃ cnt9 : Int32, ∃ ST9 : Nat → TT, ∃ dPol9 : Nat → Int32, ∃ ov9 : Int64, k r sav9 cnt9 ST9 dPol9 ov9 ∧ XF (LX E b nw hi sv th cd ha ov9) cur sav9 cnt9 ST9 now rnd jm rp sc dc cn sUp sLen sWrk sReg sFst sLst dPol9 dPtr dCnt dIdl dKnw jCnt jFin jBeg jWs jMis jSrv jLft jSub jWai jNxt cnd H) A) 2 12 A := by
  refine kl_body (cc := cL_setPolicy) (own := RL) (maxL := 5) (ret := (some .int)) (hh := [(0, 10, 13, 19)]) (lv0 := [(0, .ref b), (1, .int p0), (2, .int p1), (3, .ref (b + 126))]) (by decide) rfl rfl (Nat.le_of_ble_eq_true rfl) rfl (fun p e s m below meth c C hr hlk htab hP hX => ?_)
  have hE := hX.1.1
  have lk0 := C.2.2.2.2 (.classLink RL 19 "java/lang/IllegalArgumentException") (by decide +kernel)
  refine k_aload_n C dL_setPolicy_0 3 rfl ?_
  refine k_iconst (v := 0) C dL_setPolicy_1 (by decide) ?_
  refine k_aload_n C dL_setPolicy_2 0 rfl ?_
  refine k_iload_n C dL_setPolicy_3 1 rfl ?_
  refine k_iload_n C dL_setPolicy_4 2 rfl ?_
  refine kl_callVi (st := [.int 0, .ref (b + 126)]) C hX (c_X4_setPolicy l hlt (focL_x E b) (fun q hq => hA q hq.1) cur sav cnt ST now rnd jm rp sc dc cn sUp sLen sWrk sReg sFst sLst dPol dPtr dCnt dIdl dKnw jCnt jFin jBeg jWs jMis jSrv jLft jSub jWai jNxt cnd hcur p0 p1 _ _ h) (cwV 2 C.2.2.2.2 gL_setPolicy_X4_setPolicy rfl rfl rfl (by decide +kernel) ⟨Nat.le_of_ble_eq_true rfl, Nat.le_of_ble_eq_true rfl⟩) (fun H hP => va_recv hE.1 (k_one hP.1.1) rfl (q0 := 0) rfl) rfl rfl (Nat.le_of_ble_eq_true rfl) dL_setPolicy_5 ⟨Nat.le_of_ble_eq_true rfl, Nat.le_of_ble_eq_true rfl⟩ (fun X9 => kxj_and (fun hx => ?_)) (fun r1 => ?_)
  · rcases hx with ⟨rfl, h⟩
    · refine kj_catch C [] ⟨0, 10, 13, 19⟩ [] htab (fun z hz => nomatch hz) (by decide) (by decide) lk0 hX.1.2.2.1.2.1 (fun q9 => ?_)
      refine k_astore (lv' := [(4, .ref q9), (0, .ref b), (1, .int p0), (2, .int p1), (3, .ref (b + 126))]) C dL_setPolicy_13 (by decide) rfl ?_
      refine k_iconst (v := 1) C dL_setPolicy_15 (by decide) ?_
      exact k_mret C hr hlk (Nat.le_of_ble_eq_true rfl) (Nat.le_of_ble_eq_true rfl) dL_setPolicy_16 (fun H hP => ⟨sav, cnt, ST, dPol, ov, h, hP⟩)
  refine k_ex (fun sav_2 => k_ex (fun cnt_3 => k_ex (fun ST_4 => k_ex (fun dPol_5 => k_and (fun h => ?_)))))
  refine k_i2l C dL_setPolicy_8 ?_
  refine k_topl (fun x6 ex6 => ?_)
  replace h := h x6 ex6
  refine l_put C hA hE.1 dL_setPolicy_9 ?_
  refine k_goto (tgt := 17) C dL_setPolicy_10 (by decide) ?_
  refine k_iconst (v := 0) C dL_setPolicy_17 (by decide) ?_
  exact k_mret C hr hlk (Nat.le_of_ble_eq_true rfl) (Nat.le_of_ble_eq_true rfl) dL_setPolicy_18 (fun H hP => ⟨sav_2, cnt_3, ST_4, dPol_5, x6, h, hP⟩)
noncomputable def wp_L_setJoinMode (cur : Nat) (sav : Nat → Nat) (cnt : Int32) (ST : Nat → TT) (now : Int32) (rnd : Int64) (jm : Int32) (rp : Int32) (sc : Int32) (dc : Int32) (cn : Int32) (sUp : Nat → Int32) (sLen : Nat → Int32) (sWrk : Nat → Int32) (sReg : Nat → Int32) (sFst : Nat → Int32) (sLst : Nat → Int32) (dPol : Nat → Int32) (dPtr : Nat → Int32) (dCnt : Nat → Int32) (dIdl : Nat → Nat → Int32) (dKnw : Nat → Nat → Int32) (jCnt : Int32) (jFin : Int32) (jBeg : Int32) (jWs : Int32) (jMis : Int32) (jSrv : Nat → Int32) (jLft : Nat → Int32) (jSub : Nat → Int32) (jWai : Nat → Int32) (jNxt : Nat → Int32) (cnd : Nat → Int32) (ov : Int64) (p0 : Int32) (k : Int32 → (Nat → Nat) → Int32 → (Nat → TT) → Int32 → Int64 → Prop) : Prop := wp_X4_setJoinMode cur sav cnt ST now rnd jm rp sc dc cn sUp sLen sWrk sReg sFst sLst dPol dPtr dCnt dIdl dKnw jCnt jFin jBeg jWs jMis jSrv jLft jSub jWai jNxt cnd p0 (fun r1 sav_2 cnt_3 ST_4 jm_5 => ∀ x6 : Int64, x6 = r1.toInt64 → (k 0 sav_2 cnt_3 ST_4 jm_5 x6)) (fun X9 => (X9 = "java/lang/IllegalArgumentException" ∧ (k 1 sav cnt ST jm ov)))
set_option maxRecDepth 100000 in
set_option maxHeartbeats 4000000 in
theorem c_L_setJoinMode (l : Launch) (hlt : l.stackTraces = false) {E : EV} {b : Nat} {A : Nat → Prop} (hA : ∀ q, b ≤ q → A q) (cur : Nat) (sav : Nat → Nat) (cnt : Int32) (ST : Nat → TT) (now : Int32) (rnd : Int64) (jm : Int32) (rp : Int32) (sc : Int32) (dc : Int32) (cn : Int32) (sUp : Nat → Int32) (sLen : Nat → Int32) (sWrk : Nat → Int32) (sReg : Nat → Int32) (sFst : Nat → Int32) (sLst : Nat → Int32) (dPol : Nat → Int32) (dPtr : Nat → Int32) (dCnt : Nat → Int32) (dIdl : Nat → Nat → Int32) (dKnw : Nat → Nat → Int32) (jCnt : Int32) (jFin : Int32) (jBeg : Int32) (jWs : Int32) (jMis : Int32) (jSrv : Nat → Int32) (jLft : Nat → Int32) (jSub : Nat → Int32) (jWai : Nat → Int32) (jNxt : Nat → Int32) (cnd : Nat → Int32) (nw : Nat → Int32) (hi : Nat → Int32) (sv : Int32) (th : Int32) (cd : Nat → Int32) (ha : Int64) (ov : Int64) (hcur : cur < 4) (p0 : Int32)  (k : Int32 → (Nat → Nat) → Int32 → (Nat → TT) → Int32 → Int64 → Prop) (h : wp_L_setJoinMode cur sav cnt ST now rnd jm rp sc dc cn sUp sLen sWrk sReg sFst sLst dPol dPtr dCnt dIdl dKnw jCnt jFin jBeg jWs jMis jSrv jLft jSub jWai jNxt cnd ov p0 k) : Met l yL_setJoinMode wsL_setJoinMode { frames := 8, cells := 1, slots := 6, locals := 134 } (va_Pc [.ref b, .int p0, .ref (b + 126)] (fun U => XF (LX E b nw hi sv th cd ha ov) cur sav cnt ST now rnd jm rp sc dc cn sUp sLen sWrk sReg sFst sLst dPol dPtr dCnt dIdl dKnw jCnt jFin jBeg jWs jMis jSrv jLft jSub jWai jNxt cnd U.heap ∧ XL E A U)) (kQi (fun r H => ∃ sav9 : Nat → Nat, ∃ cnt9 : Int32, ∃ ST9 : Nat → TT, ∃ jm9 : Int32, ∃ ov9 : Int64, k r sav9 cnt9 ST9 jm9 ov9 ∧ XF (LX E b nw hi sv th cd ha ov9) cur sav9 cnt9 ST9 now rnd jm9 rp sc dc cn sUp sLen sWrk sReg sFst sLst dPol dPtr dCnt dIdl dKnw jCnt jFin jBeg jWs jMis jSrv jLft jSub jWai jNxt cnd H) A) 1 6 A := by
  refine kl_body (cc := cL_setJoinMode) (own := RL) (maxL := 4) (ret := (some .int)) (hh := [(0, 9, 12, 19)]) (lv0 := [(0, .ref b), (1, .int p0), (2, .ref (b + 126))]) (by decide) rfl rfl (Nat.le_of_ble_eq_true rfl) rfl (fun p e s m below meth c C hr hlk htab hP hX => ?_)
  have hE := hX.1.1
  have lk0 := C.2.2.2.2 (.classLink RL 19 "java/lang/IllegalArgumentException") (by decide +kernel)
  refine k_aload_n C dL_setJoinMode_0 2 rfl ?_
  refine k_iconst (v := 0) C dL_setJoinMode_1 (by decide) ?_
  refine k_aload_n C dL_setJoinMode_2 0 rfl ?_
  refine k_iload_n C dL_setJoinMode_3 1 rfl ?_
  refine kl_callVi (st := [.int 0, .ref (b + 126)]) C hX (c_X4_setJoinMode l hlt (focL_x E b) (fun q hq => hA q hq.1) cur sav cnt ST now rnd jm rp sc dc cn sUp sLen sWrk sReg sFst sLst dPol dPtr dCnt dIdl dKnw jCnt jFin jBeg jWs jMis jSrv jLft jSub jWai jNxt cnd hcur p0 _ _ h) (cwV 1 C.2.2.2.2 gL_setJoinMode_X4_setJoinMode rfl rfl rfl (by decide +kernel) ⟨Nat.le_of_ble_eq_true rfl, Nat.le_of_ble_eq_true rfl⟩) (fun H hP => va_recv hE.1 (k_one hP.1.1) rfl (q0 := 0) rfl) rfl rfl (Nat.le_of_ble_eq_true rfl) dL_setJoinMode_4 ⟨Nat.le_of_ble_eq_true rfl, Nat.le_of_ble_eq_true rfl⟩ (fun X9 => kxj_and (fun hx => ?_)) (fun r1 => ?_)
  · rcases hx with ⟨rfl, h⟩
    · refine kj_catch C [] ⟨0, 9, 12, 19⟩ [] htab (fun z hz => nomatch hz) (by decide) (by decide) lk0 hX.1.2.2.1.2.1 (fun q9 => ?_)
      refine k_astore_n (lv' := [(3, .ref q9), (0, .ref b), (1, .int p0), (2, .ref (b + 126))]) C dL_setJoinMode_12 rfl (by decide) rfl ?_
      refine k_iconst (v := 1) C dL_setJoinMode_13 (by decide) ?_
      exact k_mret C hr hlk (Nat.le_of_ble_eq_true rfl) (Nat.le_of_ble_eq_true rfl) dL_setJoinMode_14 (fun H hP => ⟨sav, cnt, ST, jm, ov, h, hP⟩)
  refine k_ex (fun sav_2 => k_ex (fun cnt_3 => k_ex (fun ST_4 => k_ex (fun jm_5 => k_and (fun h => ?_)))))
  refine k_i2l C dL_setJoinMode_7 ?_
  refine k_topl (fun x6 ex6 => ?_)
  replace h := h x6 ex6
  refine l_put C hA hE.1 dL_setJoinMode_8 ?_
  refine k_goto (tgt := 15) C dL_setJoinMode_9 (by decide) ?_
  refine k_iconst (v := 0) C dL_setJoinMode_15 (by decide) ?_
  exact k_mret C hr hlk (Nat.le_of_ble_eq_true rfl) (Nat.le_of_ble_eq_true rfl) dL_setJoinMode_16 (fun H hP => ⟨sav_2, cnt_3, ST_4, jm_5, x6, h, hP⟩)
noncomputable def wp_L_setReportPeriod (cur : Nat) (sav : Nat → Nat) (cnt : Int32) (ST : Nat → TT) (now : Int32) (rnd : Int64) (jm : Int32) (rp : Int32) (sc : Int32) (dc : Int32) (cn : Int32) (sUp : Nat → Int32) (sLen : Nat → Int32) (sWrk : Nat → Int32) (sReg : Nat → Int32) (sFst : Nat → Int32) (sLst : Nat → Int32) (dPol : Nat → Int32) (dPtr : Nat → Int32) (dCnt : Nat → Int32) (dIdl : Nat → Nat → Int32) (dKnw : Nat → Nat → Int32) (jCnt : Int32) (jFin : Int32) (jBeg : Int32) (jWs : Int32) (jMis : Int32) (jSrv : Nat → Int32) (jLft : Nat → Int32) (jSub : Nat → Int32) (jWai : Nat → Int32) (jNxt : Nat → Int32) (cnd : Nat → Int32) (ov : Int64) (p0 : Int32) (k : Int32 → (Nat → Nat) → Int32 → (Nat → TT) → Int32 → Int64 → Prop) : Prop := wp_X4_setReportPeriod cur sav cnt ST now rnd jm rp sc dc cn sUp sLen sWrk sReg sFst sLst dPol dPtr dCnt dIdl dKnw jCnt jFin jBeg jWs jMis jSrv jLft jSub jWai jNxt cnd p0 (fun r1 sav_2 cnt_3 ST_4 rp_5 => ∀ x6 : Int64, x6 = r1.toInt64 → (k 0 sav_2 cnt_3 ST_4 rp_5 x6)) (fun X9 => (X9 = "java/lang/IllegalArgumentException" ∧ (k 1 sav cnt ST rp ov)))
set_option maxRecDepth 100000 in
set_option maxHeartbeats 4000000 in
theorem c_L_setReportPeriod (l : Launch) (hlt : l.stackTraces = false) {E : EV} {b : Nat} {A : Nat → Prop} (hA : ∀ q, b ≤ q → A q) (cur : Nat) (sav : Nat → Nat) (cnt : Int32) (ST : Nat → TT) (now : Int32) (rnd : Int64) (jm : Int32) (rp : Int32) (sc : Int32) (dc : Int32) (cn : Int32) (sUp : Nat → Int32) (sLen : Nat → Int32) (sWrk : Nat → Int32) (sReg : Nat → Int32) (sFst : Nat → Int32) (sLst : Nat → Int32) (dPol : Nat → Int32) (dPtr : Nat → Int32) (dCnt : Nat → Int32) (dIdl : Nat → Nat → Int32) (dKnw : Nat → Nat → Int32) (jCnt : Int32) (jFin : Int32) (jBeg : Int32) (jWs : Int32) (jMis : Int32) (jSrv : Nat → Int32) (jLft : Nat → Int32) (jSub : Nat → Int32) (jWai : Nat → Int32) (jNxt : Nat → Int32) (cnd : Nat → Int32) (nw : Nat → Int32) (hi : Nat → Int32) (sv : Int32) (th : Int32) (cd : Nat → Int32) (ha : Int64) (ov : Int64) (hcur : cur < 4) (p0 : Int32)  (k : Int32 → (Nat → Nat) → Int32 → (Nat → TT) → Int32 → Int64 → Prop) (h : wp_L_setReportPeriod cur sav cnt ST now rnd jm rp sc dc cn sUp sLen sWrk sReg sFst sLst dPol dPtr dCnt dIdl dKnw jCnt jFin jBeg jWs jMis jSrv jLft jSub jWai jNxt cnd ov p0 k) : Met l yL_setReportPeriod wsL_setReportPeriod { frames := 8, cells := 1, slots := 6, locals := 134 } (va_Pc [.ref b, .int p0, .ref (b + 126)] (fun U => XF (LX E b nw hi sv th cd ha ov) cur sav cnt ST now rnd jm rp sc dc cn sUp sLen sWrk sReg sFst sLst dPol dPtr dCnt dIdl dKnw jCnt jFin jBeg jWs jMis jSrv jLft jSub jWai jNxt cnd U.heap ∧ XL E A U)) (kQi (fun r H => ∃ sav9 : Nat → Nat, ∃ cnt9 : Int32, ∃ ST9 : Nat → TT, ∃ rp9 : Int32, ∃ ov9 : Int64, k r sav9 cnt9 ST9 rp9 ov9 ∧ XF (LX E b nw hi sv th cd ha ov9) cur sav9 cnt9 ST9 now rnd jm rp9 sc dc cn sUp sLen sWrk sReg sFst sLst dPol dPtr dCnt dIdl dKnw jCnt jFin jBeg jWs jMis jSrv jLft jSub jWai jNxt cnd H) A) 1 6 A := by
  refine kl_body (cc := cL_setReportPeriod) (own := RL) (maxL := 4) (ret := (some .int)) (hh := [(0, 9, 12, 19)]) (lv0 := [(0, .ref b), (1, .int p0), (2, .ref (b + 126))]) (by decide) rfl rfl (Nat.le_of_ble_eq_true rfl) rfl (fun p e s m below meth c C hr hlk htab hP hX => ?_)
  have hE := hX.1.1
  have lk0 := C.2.2.2.2 (.classLink RL 19 "java/lang/IllegalArgumentException") (by decide +kernel)
  refine k_aload_n C dL_setReportPeriod_0 2 rfl ?_
  refine k_iconst (v := 0) C dL_setReportPeriod_1 (by decide) ?_
  refine k_aload_n C dL_setReportPeriod_2 0 rfl ?_
  refine k_iload_n C dL_setReportPeriod_3 1 rfl ?_
  refine kl_callVi (st := [.int 0, .ref (b + 126)]) C hX (c_X4_setReportPeriod l hlt (focL_x E b) (fun q hq => hA q hq.1) cur sav cnt ST now rnd jm rp sc dc cn sUp sLen sWrk sReg sFst sLst dPol dPtr dCnt dIdl dKnw jCnt jFin jBeg jWs jMis jSrv jLft jSub jWai jNxt cnd hcur p0 _ _ h) (cwV 1 C.2.2.2.2 gL_setReportPeriod_X4_setReportPeriod rfl rfl rfl (by decide +kernel) ⟨Nat.le_of_ble_eq_true rfl, Nat.le_of_ble_eq_true rfl⟩) (fun H hP => va_recv hE.1 (k_one hP.1.1) rfl (q0 := 0) rfl) rfl rfl (Nat.le_of_ble_eq_true rfl) dL_setReportPeriod_4 ⟨Nat.le_of_ble_eq_true rfl, Nat.le_of_ble_eq_true rfl⟩ (fun X9 => kxj_and (fun hx => ?_)) (fun r1 => ?_)
  · rcases hx with ⟨rfl, h⟩
    · refine kj_catch C [] ⟨0, 9, 12, 19⟩ [] htab (fun z hz => nomatch hz) (by decide) (by decide) lk0 hX.1.2.2.1.2.1 (fun q9 => ?_)
      refine k_astore_n (lv' := [(3, .ref q9), (0, .ref b), (1, .int p0), (2, .ref (b + 126))]) C dL_setReportPeriod_12 rfl (by decide) rfl ?_
      refine k_iconst (v := 1) C dL_setReportPeriod_13 (by decide) ?_
      exact k_mret C hr hlk (Nat.le_of_ble_eq_true rfl) (Nat.le_of_ble_eq_true rfl) dL_setReportPeriod_14 (fun H hP => ⟨sav, cnt, ST, rp, ov, h, hP⟩)
  refine k_ex (fun sav_2 => k_ex (fun cnt_3 => k_ex (fun ST_4 => k_ex (fun rp_5 => k_and (fun h => ?_)))))
  refine k_i2l C dL_setReportPeriod_7 ?_
  refine k_topl (fun x6 ex6 => ?_)
  replace h := h x6 ex6
  refine l_put C hA hE.1 dL_setReportPeriod_8 ?_
  refine k_goto (tgt := 15) C dL_setReportPeriod_9 (by decide) ?_
  refine k_iconst (v := 0) C dL_setReportPeriod_15 (by decide) ?_
  exact k_mret C hr hlk (Nat.le_of_ble_eq_true rfl) (Nat.le_of_ble_eq_true rfl) dL_setReportPeriod_16 (fun H hP => ⟨sav_2, cnt_3, ST_4, rp_5, x6, h, hP⟩)
noncomputable def wp_L_setRandom (cur : Nat) (sav : Nat → Nat) (cnt : Int32) (ST : Nat → TT) (now : Int32) (rnd : Int64) (jm : Int32) (rp : Int32) (sc : Int32) (dc : Int32) (cn : Int32) (sUp : Nat → Int32) (sLen : Nat → Int32) (sWrk : Nat → Int32) (sReg : Nat → Int32) (sFst : Nat → Int32) (sLst : Nat → Int32) (dPol : Nat → Int32) (dPtr : Nat → Int32) (dCnt : Nat → Int32) (dIdl : Nat → Nat → Int32) (dKnw : Nat → Nat → Int32) (jCnt : Int32) (jFin : Int32) (jBeg : Int32) (jWs : Int32) (jMis : Int32) (jSrv : Nat → Int32) (jLft : Nat → Int32) (jSub : Nat → Int32) (jWai : Nat → Int32) (jNxt : Nat → Int32) (cnd : Nat → Int32) (ov : Int64) (p0 : Int32) (k : Int32 → (Nat → Nat) → Int32 → (Nat → TT) → Int64 → Int64 → Prop) : Prop := wp_X4_setRandom cur sav cnt ST now rnd jm rp sc dc cn sUp sLen sWrk sReg sFst sLst dPol dPtr dCnt dIdl dKnw jCnt jFin jBeg jWs jMis jSrv jLft jSub jWai jNxt cnd p0 (fun r1 sav_2 cnt_3 ST_4 rnd_5 => ∀ x6 : Int64, x6 = r1.toInt64 → (k 0 sav_2 cnt_3 ST_4 rnd_5 x6)) (fun X9 => (X9 = "java/lang/IllegalArgumentException" ∧ (k 1 sav cnt ST rnd ov)))
set_option maxRecDepth 100000 in
set_option maxHeartbeats 4000000 in
theorem c_L_setRandom (l : Launch) (hlt : l.stackTraces = false) {E : EV} {b : Nat} {A : Nat → Prop} (hA : ∀ q, b ≤ q → A q) (cur : Nat) (sav : Nat → Nat) (cnt : Int32) (ST : Nat → TT) (now : Int32) (rnd : Int64) (jm : Int32) (rp : Int32) (sc : Int32) (dc : Int32) (cn : Int32) (sUp : Nat → Int32) (sLen : Nat → Int32) (sWrk : Nat → Int32) (sReg : Nat → Int32) (sFst : Nat → Int32) (sLst : Nat → Int32) (dPol : Nat → Int32) (dPtr : Nat → Int32) (dCnt : Nat → Int32) (dIdl : Nat → Nat → Int32) (dKnw : Nat → Nat → Int32) (jCnt : Int32) (jFin : Int32) (jBeg : Int32) (jWs : Int32) (jMis : Int32) (jSrv : Nat → Int32) (jLft : Nat → Int32) (jSub : Nat → Int32) (jWai : Nat → Int32) (jNxt : Nat → Int32) (cnd : Nat → Int32) (nw : Nat → Int32) (hi : Nat → Int32) (sv : Int32) (th : Int32) (cd : Nat → Int32) (ha : Int64) (ov : Int64) (hcur : cur < 4) (p0 : Int32)  (k : Int32 → (Nat → Nat) → Int32 → (Nat → TT) → Int64 → Int64 → Prop) (h : wp_L_setRandom cur sav cnt ST now rnd jm rp sc dc cn sUp sLen sWrk sReg sFst sLst dPol dPtr dCnt dIdl dKnw jCnt jFin jBeg jWs jMis jSrv jLft jSub jWai jNxt cnd ov p0 k) : Met l yL_setRandom wsL_setRandom { frames := 8, cells := 1, slots := 6, locals := 133 } (va_Pc [.ref b, .int p0, .ref (b + 126)] (fun U => XF (LX E b nw hi sv th cd ha ov) cur sav cnt ST now rnd jm rp sc dc cn sUp sLen sWrk sReg sFst sLst dPol dPtr dCnt dIdl dKnw jCnt jFin jBeg jWs jMis jSrv jLft jSub jWai jNxt cnd U.heap ∧ XL E A U)) (kQi (fun r H => ∃ sav9 : Nat → Nat, ∃ cnt9 : Int32, ∃ ST9 : Nat → TT, ∃ rnd9 : Int64, ∃ ov9 : Int64, k r sav9 cnt9 ST9 rnd9 ov9 ∧ XF (LX E b nw hi sv th cd ha ov9) cur sav9 cnt9 ST9 now rnd9 jm rp sc dc cn sUp sLen sWrk sReg sFst sLst dPol dPtr dCnt dIdl dKnw jCnt jFin jBeg jWs jMis jSrv jLft jSub jWai jNxt cnd H) A) 1 6 A := by
  refine kl_body (cc := cL_setRandom) (own := RL) (maxL := 4) (ret := (some .int)) (hh := [(0, 9, 12, 19)]) (lv0 := [(0, .ref b), (1, .int p0), (2, .ref (b + 126))]) (by decide) rfl rfl (Nat.le_of_ble_eq_true rfl) rfl (fun p e s m below meth c C hr hlk htab hP hX => ?_)
  have hE := hX.1.1
  have lk0 := C.2.2.2.2 (.classLink RL 19 "java/lang/IllegalArgumentException") (by decide +kernel)
  refine k_aload_n C dL_setRandom_0 2 rfl ?_
  refine k_iconst (v := 0) C dL_setRandom_1 (by decide) ?_
  refine k_aload_n C dL_setRandom_2 0 rfl ?_
  refine k_iload_n C dL_setRandom_3 1 rfl ?_
  refine kl_callVi (st := [.int 0, .ref (b + 126)]) C hX (c_X4_setRandom l hlt (focL_x E b) (fun q hq => hA q hq.1) cur sav cnt ST now rnd jm rp sc dc cn sUp sLen sWrk sReg sFst sLst dPol dPtr dCnt dIdl dKnw jCnt jFin jBeg jWs jMis jSrv jLft jSub jWai jNxt cnd hcur p0 _ _ h) (cwV 1 C.2.2.2.2 gL_setRandom_X4_setRandom rfl rfl rfl (by decide +kernel) ⟨Nat.le_of_ble_eq_true rfl, Nat.le_of_ble_eq_true rfl⟩) (fun H hP => va_recv hE.1 (k_one hP.1.1) rfl (q0 := 0) rfl) rfl rfl (Nat.le_of_ble_eq_true rfl) dL_setRandom_4 ⟨Nat.le_of_ble_eq_true rfl, Nat.le_of_ble_eq_true rfl⟩ (fun X9 => kxj_and (fun hx => ?_)) (fun r1 => ?_)
  · rcases hx with ⟨rfl, h⟩
    · refine kj_catch C [] ⟨0, 9, 12, 19⟩ [] htab (fun z hz => nomatch hz) (by decide) (by decide) lk0 hX.1.2.2.1.2.1 (fun q9 => ?_)
      refine k_astore_n (lv' := [(3, .ref q9), (0, .ref b), (1, .int p0), (2, .ref (b + 126))]) C dL_setRandom_12 rfl (by decide) rfl ?_
      refine k_iconst (v := 1) C dL_setRandom_13 (by decide) ?_
      exact k_mret C hr hlk (Nat.le_of_ble_eq_true rfl) (Nat.le_of_ble_eq_true rfl) dL_setRandom_14 (fun H hP => ⟨sav, cnt, ST, rnd, ov, h, hP⟩)
  refine k_ex (fun sav_2 => k_ex (fun cnt_3 => k_ex (fun ST_4 => k_ex (fun rnd_5 => k_and (fun h => ?_)))))
  refine k_i2l C dL_setRandom_7 ?_
  refine k_topl (fun x6 ex6 => ?_)
  replace h := h x6 ex6
  refine l_put C hA hE.1 dL_setRandom_8 ?_
  refine k_goto (tgt := 15) C dL_setRandom_9 (by decide) ?_
  refine k_iconst (v := 0) C dL_setRandom_15 (by decide) ?_
  exact k_mret C hr hlk (Nat.le_of_ble_eq_true rfl) (Nat.le_of_ble_eq_true rfl) dL_setRandom_16 (fun H hP => ⟨sav_2, cnt_3, ST_4, rnd_5, x6, h, hP⟩)
noncomputable def wp_L_setUp (cur : Nat) (sav : Nat → Nat) (cnt : Int32) (ST : Nat → TT) (now : Int32) (rnd : Int64) (jm : Int32) (rp : Int32) (sc : Int32) (dc : Int32) (cn : Int32) (sUp : Nat → Int32) (sLen : Nat → Int32) (sWrk : Nat → Int32) (sReg : Nat → Int32) (sFst : Nat → Int32) (sLst : Nat → Int32) (dPol : Nat → Int32) (dPtr : Nat → Int32) (dCnt : Nat → Int32) (dIdl : Nat → Nat → Int32) (dKnw : Nat → Nat → Int32) (jCnt : Int32) (jFin : Int32) (jBeg : Int32) (jWs : Int32) (jMis : Int32) (jSrv : Nat → Int32) (jLft : Nat → Int32) (jSub : Nat → Int32) (jWai : Nat → Int32) (jNxt : Nat → Int32) (cnd : Nat → Int32) (ov : Int64) (p0 : Int32) (p1 : Int32) (k : Int32 → (Nat → Nat) → Int32 → (Nat → TT) → Int64 → Int32 → (Nat → Int32) → (Nat → Int32) → (Nat → Int32) → (Nat → Nat → Int32) → (Nat → Int32) → Int64 → Prop) : Prop := wp_X4_setUp cur sav cnt ST now rnd jm rp sc dc cn sUp sLen sWrk sReg sFst sLst dPol dPtr dCnt dIdl dKnw jCnt jFin jBeg jWs jMis jSrv jLft jSub jWai jNxt cnd p0 p1 (fun r1 sav_2 cnt_3 ST_4 rnd_5 cn_6 sUp_7 sReg_8 dCnt_9 dIdl_10 cnd_11 => (r1 = 0 → (∀ x13 : Int64, x13 = (0 : Int64) → (k 0 sav_2 cnt_3 ST_4 rnd_5 cn_6 sUp_7 sReg_8 dCnt_9 dIdl_10 cnd_11 x13))) ∧ (¬ (r1 = 0) → (∀ x14 : Int64, x14 = (1 : Int64) → (k 0 sav_2 cnt_3 ST_4 rnd_5 cn_6 sUp_7 sReg_8 dCnt_9 dIdl_10 cnd_11 x14)))) (fun X9 => (X9 = "java/lang/IllegalArgumentException" ∧ (k 1 sav cnt ST rnd cn sUp sReg dCnt dIdl cnd ov)))
set_option maxRecDepth 100000 in
set_option maxHeartbeats 4000000 in
theorem c_L_setUp (l : Launch) (hlt : l.stackTraces = false) {E : EV} {b : Nat} {A : Nat → Prop} (hA : ∀ q, b ≤ q → A q) (cur : Nat) (sav : Nat → Nat) (cnt : Int32) (ST : Nat → TT) (now : Int32) (rnd : Int64) (jm : Int32) (rp : Int32) (sc : Int32) (dc : Int32) (cn : Int32) (sUp : Nat → Int32) (sLen : Nat → Int32) (sWrk : Nat → Int32) (sReg : Nat → Int32) (sFst : Nat → Int32) (sLst : Nat → Int32) (dPol : Nat → Int32) (dPtr : Nat → Int32) (dCnt : Nat → Int32) (dIdl : Nat → Nat → Int32) (dKnw : Nat → Nat → Int32) (jCnt : Int32) (jFin : Int32) (jBeg : Int32) (jWs : Int32) (jMis : Int32) (jSrv : Nat → Int32) (jLft : Nat → Int32) (jSub : Nat → Int32) (jWai : Nat → Int32) (jNxt : Nat → Int32) (cnd : Nat → Int32) (nw : Nat → Int32) (hi : Nat → Int32) (sv : Int32) (th : Int32) (cd : Nat → Int32) (ha : Int64) (ov : Int64) (hcur : cur < 4) (p0 : Int32) (p1 : Int32)  (k : Int32 → (Nat → Nat) → Int32 → (Nat → TT) → Int64 → Int32 → (Nat → Int32) → (Nat → Int32) → (Nat → Int32) → (Nat → Nat → Int32) → (Nat → Int32) → Int64 → Prop) (h : wp_L_setUp cur sav cnt ST now rnd jm rp sc dc cn sUp sLen sWrk sReg sFst sLst dPol dPtr dCnt dIdl dKnw jCnt jFin jBeg jWs jMis jSrv jLft jSub jWai jNxt cnd ov p0 p1 k) : Met l yL_setUp wsL_setUp { frames := 8, cells := 1, slots := 6, locals := 133 } (va_Pc [.ref b, .int p0, .int p1, .ref (b + 126)] (fun U => XF (LX E b nw hi sv th cd ha ov) cur sav cnt ST now rnd jm rp sc dc cn sUp sLen sWrk sReg sFst sLst dPol dPtr dCnt dIdl dKnw jCnt jFin jBeg jWs jMis jSrv jLft jSub jWai jNxt cnd U.heap ∧ XL E A U)) (kQi (fun r H => ∃ sav9 : Nat → Nat, ∃ cnt9 : Int32, ∃ ST9 : Nat → TT, ∃ rnd9 : Int64, ∃ cn9 : Int32, ∃ sUp9 : Nat → Int32, ∃ sReg9 : Nat → Int32, ∃ dCnt9 : Nat → Int32, ∃ dIdl9 : Nat → Nat → Int32, ∃ cnd9 : Nat → Int32, ∃ ov9 : Int64, k r sav9 cnt9 ST9 rnd9 cn9 sUp9 sReg9 dCnt9 dIdl9 cnd9 ov9 ∧ XF (LX E b nw hi sv th cd ha ov9) cur sav9 cnt9 ST9 now rnd9 jm rp sc dc cn9 sUp9 sLen sWrk sReg9 sFst sLst dPol dPtr dCnt9 dIdl9 dKnw jCnt jFin jBeg jWs jMis jSrv jLft jSub jWai jNxt cnd9 H) A) 1 6 A := by
  refine kl_body (cc := cL_setUp) (own := RL) (maxL := 5) (ret := (some .int)) (hh := [(0, 17, 20, 19)]) (lv0 := [(0, .ref b), (1, .int p0), (2, .int p1), (3, .ref (b + 126))]) (by decide) rfl rfl (Nat.le_of_ble_eq_true rfl) rfl (fun p e s m below meth c C hr hlk htab hP hX => ?_)
  have hE := hX.1.1
  have lk0 := C.2.2.2.2 (.classLink RL 19 "java/lang/IllegalArgumentException") (by decide +kernel)
  refine k_aload_n C dL_setUp_0 3 rfl ?_
  refine k_iconst (v := 0) C dL_setUp_1 (by decide) ?_
  refine k_aload_n C dL_setUp_2 0 rfl ?_
  refine k_iload_n C dL_setUp_3 1 rfl ?_
  refine k_iload_n C dL_setUp_4 2 rfl ?_
  refine kl_callVi (st := [.int 0, .ref (b + 126)]) C hX (c_X4_setUp l hlt (focL_x E b) (fun q hq => hA q hq.1) cur sav cnt ST now rnd jm rp sc dc cn sUp sLen sWrk sReg sFst sLst dPol dPtr dCnt dIdl dKnw jCnt jFin jBeg jWs jMis jSrv jLft jSub jWai jNxt cnd hcur p0 p1 _ _ h) (cwV 2 C.2.2.2.2 gL_setUp_X4_setUp rfl rfl rfl (by decide +kernel) ⟨Nat.le_of_ble_eq_true rfl, Nat.le_of_ble_eq_true rfl⟩) (fun H hP => va_recv hE.1 (k_one hP.1.1) rfl (q0 := 0) rfl) rfl rfl (Nat.le_of_ble_eq_true rfl) dL_setUp_5 ⟨Nat.le_of_ble_eq_true rfl, Nat.le_of_ble_eq_true rfl⟩ (fun X9 => kxj_and (fun hx => ?_)) (fun r1 => ?_)
  · rcases hx with ⟨rfl, h⟩
    · refine kj_catch C [] ⟨0, 17, 20, 19⟩ [] htab (fun z hz => nomatch hz) (by decide) (by decide) lk0 hX.1.2.2.1.2.1 (fun q9 => ?_)
      refine k_astore (lv' := [(4, .ref q9), (0, .ref b), (1, .int p0), (2, .int p1), (3, .ref (b + 126))]) C dL_setUp_20 (by decide) rfl ?_
      refine k_iconst (v := 1) C dL_setUp_22 (by decide) ?_
      exact k_mret C hr hlk (Nat.le_of_ble_eq_true rfl) (Nat.le_of_ble_eq_true rfl) dL_setUp_23 (fun H hP => ⟨sav, cnt, ST, rnd, cn, sUp, sReg, dCnt, dIdl, cnd, ov, h, hP⟩)
  refine k_ex (fun sav_2 => k_ex (fun cnt_3 => k_ex (fun ST_4 => k_ex (fun rnd_5 => k_ex (fun cn_6 => k_ex (fun sUp_7 => k_ex (fun sReg_8 => k_ex (fun dCnt_9 => k_ex (fun dIdl_10 => k_ex (fun cnd_11 => k_and (fun h => ?_)))))))))))
  refine k_if_eq (tgt := 15) C dL_setUp_8 (by decide) (fun c12 => ?_) (fun c12 => ?_)
  · replace h := h.1 c12
    refine k_lconst (v := 0) C dL_setUp_15 (by decide) ?_
    refine k_topl (fun x13 ex13 => ?_)
    replace h := h x13 ex13
    refine l_put C hA hE.1 dL_setUp_16 ?_
    refine k_goto (tgt := 24) C dL_setUp_17 (by decide) ?_
    refine k_iconst (v := 0) C dL_setUp_24 (by decide) ?_
    exact k_mret C hr hlk (Nat.le_of_ble_eq_true rfl) (Nat.le_of_ble_eq_true rfl) dL_setUp_25 (fun H hP => ⟨sav_2, cnt_3, ST_4, rnd_5, cn_6, sUp_7, sReg_8, dCnt_9, dIdl_10, cnd_11, x13, h, hP⟩)
  · replace h := h.2 c12
    refine k_lconst (v := 1) C dL_setUp_11 (by decide) ?_
    refine k_goto (tgt := 16) C dL_setUp_12 (by decide) ?_
    refine k_topl (fun x14 ex14 => ?_)
    replace h := h x14 ex14
    refine l_put C hA hE.1 dL_setUp_16 ?_
    refine k_goto (tgt := 24) C dL_setUp_17 (by decide) ?_
    refine k_iconst (v := 0) C dL_setUp_24 (by decide) ?_
    exact k_mret C hr hlk (Nat.le_of_ble_eq_true rfl) (Nat.le_of_ble_eq_true rfl) dL_setUp_25 (fun H hP => ⟨sav_2, cnt_3, ST_4, rnd_5, cn_6, sUp_7, sReg_8, dCnt_9, dIdl_10, cnd_11, x14, h, hP⟩)
noncomputable def wp_L_submit (cur : Nat) (sav : Nat → Nat) (cnt : Int32) (ST : Nat → TT) (now : Int32) (rnd : Int64) (jm : Int32) (rp : Int32) (sc : Int32) (dc : Int32) (cn : Int32) (sUp : Nat → Int32) (sLen : Nat → Int32) (sWrk : Nat → Int32) (sReg : Nat → Int32) (sFst : Nat → Int32) (sLst : Nat → Int32) (dPol : Nat → Int32) (dPtr : Nat → Int32) (dCnt : Nat → Int32) (dIdl : Nat → Nat → Int32) (dKnw : Nat → Nat → Int32) (jCnt : Int32) (jFin : Int32) (jBeg : Int32) (jWs : Int32) (jMis : Int32) (jSrv : Nat → Int32) (jLft : Nat → Int32) (jSub : Nat → Int32) (jWai : Nat → Int32) (jNxt : Nat → Int32) (cnd : Nat → Int32) (ov : Int64) (p0 : Int32) (p1 : Int32) (k : Int32 → (Nat → Nat) → Int32 → (Nat → TT) → Int64 → (Nat → Int32) → (Nat → Int32) → (Nat → Int32) → (Nat → Int32) → (Nat → Int32) → (Nat → Int32) → (Nat → Int32) → (Nat → Nat → Int32) → (Nat → Nat → Int32) → Int32 → Int32 → Int32 → Int32 → (Nat → Int32) → (Nat → Int32) → (Nat → Int32) → (Nat → Int32) → (Nat → Int32) → Int64 → Prop) : Prop := wp_X4_submit cur sav cnt ST now rnd jm rp sc dc cn sUp sLen sWrk sReg sFst sLst dPol dPtr dCnt dIdl dKnw jCnt jFin jBeg jWs jMis jSrv jLft jSub jWai jNxt cnd p0 p1 (fun r1 sav_2 cnt_3 ST_4 rnd_5 sLen_6 sWrk_7 sReg_8 sFst_9 sLst_10 dPtr_11 dCnt_12 dIdl_13 dKnw_14 jCnt_15 jBeg_16 jWs_17 jMis_18 jSrv_19 jLft_20 jSub_21 jWai_22 jNxt_23 => ∀ x24 : Int64, x24 = r1.toInt64 → (k 0 sav_2 cnt_3 ST_4 rnd_5 sLen_6 sWrk_7 sReg_8 sFst_9 sLst_10 dPtr_11 dCnt_12 dIdl_13 dKnw_14 jCnt_15 jBeg_16 jWs_17 jMis_18 jSrv_19 jLft_20 jSub_21 jWai_22 jNxt_23 x24)) (fun X9 => (X9 = "java/lang/IllegalArgumentException" ∧ (k 1 sav cnt ST rnd sLen sWrk sReg sFst sLst dPtr dCnt dIdl dKnw jCnt jBeg jWs jMis jSrv jLft jSub jWai jNxt ov)) ∨ (X9 = "java/lang/IllegalStateException" ∧ (k 2 sav cnt ST rnd sLen sWrk sReg sFst sLst dPtr dCnt dIdl dKnw jCnt jBeg jWs jMis jSrv jLft jSub jWai jNxt ov)))
set_option maxRecDepth 100000 in
set_option maxHeartbeats 4000000 in
theorem c_L_submit (l : Launch) (hlt : l.stackTraces = false) {E : EV} {b : Nat} {A : Nat → Prop} (hA : ∀ q, b ≤ q → A q) (cur : Nat) (sav : Nat → Nat) (cnt : Int32) (ST : Nat → TT) (now : Int32) (rnd : Int64) (jm : Int32) (rp : Int32) (sc : Int32) (dc : Int32) (cn : Int32) (sUp : Nat → Int32) (sLen : Nat → Int32) (sWrk : Nat → Int32) (sReg : Nat → Int32) (sFst : Nat → Int32) (sLst : Nat → Int32) (dPol : Nat → Int32) (dPtr : Nat → Int32) (dCnt : Nat → Int32) (dIdl : Nat → Nat → Int32) (dKnw : Nat → Nat → Int32) (jCnt : Int32) (jFin : Int32) (jBeg : Int32) (jWs : Int32) (jMis : Int32) (jSrv : Nat → Int32) (jLft : Nat → Int32) (jSub : Nat → Int32) (jWai : Nat → Int32) (jNxt : Nat → Int32) (cnd : Nat → Int32) (nw : Nat → Int32) (hi : Nat → Int32) (sv : Int32) (th : Int32) (cd : Nat → Int32) (ha : Int64) (ov : Int64) (hcur : cur < 4) (p0 : Int32) (p1 : Int32)  (k : Int32 → (Nat → Nat) → Int32 → (Nat → TT) → Int64 → (Nat → Int32) → (Nat → Int32) → (Nat → Int32) → (Nat → Int32) → (Nat → Int32) → (Nat → Int32) → (Nat → Int32) → (Nat → Nat → Int32) → (Nat → Nat → Int32) → Int32 → Int32 → Int32 → Int32 → (Nat → Int32) → (Nat → Int32) → (Nat → Int32) → (Nat → Int32) → (Nat → Int32) → Int64 → Prop) (h : wp_L_submit cur sav cnt ST now rnd jm rp sc dc cn sUp sLen sWrk sReg sFst sLst dPol dPtr dCnt dIdl dKnw jCnt jFin jBeg jWs jMis jSrv jLft jSub jWai jNxt cnd ov p0 p1 k) : Met l yL_submit wsL_submit { frames := 8, cells := 4, slots := 24, locals := 134 } (va_Pc [.ref b, .int p0, .int p1, .ref (b + 126)] (fun U => XF (LX E b nw hi sv th cd ha ov) cur sav cnt ST now rnd jm rp sc dc cn sUp sLen sWrk sReg sFst sLst dPol dPtr dCnt dIdl dKnw jCnt jFin jBeg jWs jMis jSrv jLft jSub jWai jNxt cnd U.heap ∧ XL E A U)) (kQi (fun r H => ∃ sav9 : Nat → Nat, ∃ cnt9 : Int32, ∃ ST9 : Nat → TT, ∃ rnd9 : Int64, ∃ sLen9 : Nat → Int32, ∃ sWrk9 : Nat → Int32, ∃ sReg9 : Nat → Int32, ∃ sFst9 : Nat → Int32, ∃ sLst9 : Nat → Int32, ∃ dPtr9 : Nat → Int32, ∃ dCnt9 : Nat → Int32, ∃ dIdl9 : Nat → Nat → Int32, ∃ dKnw9 : Nat → Nat → Int32, ∃ jCnt9 : Int32, ∃ jBeg9 : Int32, ∃ jWs9 : Int32, ∃ jMis9 : Int32, ∃ jSrv9 : Nat → Int32, ∃ jLft9 : Nat → Int32, ∃ jSub9 : Nat → Int32, ∃ jWai9 : Nat → Int32, ∃ jNxt9 : Nat → Int32, ∃ ov9 : Int64, k r sav9 cnt9 ST9 rnd9 sLen9 sWrk9 sReg9 sFst9 sLst9 dPtr9 dCnt9 dIdl9 dKnw9 jCnt9 jBeg9 jWs9 jMis9 jSrv9 jLft9 jSub9 jWai9 jNxt9 ov9 ∧ XF (LX E b nw hi sv th cd ha ov9) cur sav9 cnt9 ST9 now rnd9 jm rp sc dc cn sUp sLen9 sWrk9 sReg9 sFst9 sLst9 dPol dPtr9 dCnt9 dIdl9 dKnw9 jCnt9 jFin jBeg9 jWs9 jMis9 jSrv9 jLft9 jSub9 jWai9 jNxt9 cnd H) A) 4 24 A := by
  refine kl_body (cc := cL_submit) (own := RL) (maxL := 5) (ret := (some .int)) (hh := [(0, 10, 13, 19), (0, 10, 17, 13)]) (lv0 := [(0, .ref b), (1, .int p0), (2, .int p1), (3, .ref (b + 126))]) (by decide) rfl rfl (Nat.le_of_ble_eq_true rfl) rfl (fun p e s m below meth c C hr hlk htab hP hX => ?_)
  have hE := hX.1.1
  have lk0 := C.2.2.2.2 (.classLink RL 19 "java/lang/IllegalArgumentException") (by decide +kernel)
  have lk1 := C.2.2.2.2 (.classLink RL 13 "java/lang/IllegalStateException") (by decide +kernel)
  refine k_aload_n C dL_submit_0 3 rfl ?_
  refine k_iconst (v := 0) C dL_submit_1 (by decide) ?_
  refine k_aload_n C dL_submit_2 0 rfl ?_
  refine k_iload_n C dL_submit_3 1 rfl ?_
  refine k_iload_n C dL_submit_4 2 rfl ?_
  refine kl_callVi (st := [.int 0, .ref (b + 126)]) C hX (c_X4_submit l hlt (focL_x E b) (fun q hq => hA q hq.1) cur sav cnt ST now rnd jm rp sc dc cn sUp sLen sWrk sReg sFst sLst dPol dPtr dCnt dIdl dKnw jCnt jFin jBeg jWs jMis jSrv jLft jSub jWai jNxt cnd hcur p0 p1 _ _ h) (cwV 2 C.2.2.2.2 gL_submit_X4_submit rfl rfl rfl (by decide +kernel) ⟨Nat.le_of_ble_eq_true rfl, Nat.le_of_ble_eq_true rfl⟩) (fun H hP => va_recv hE.1 (k_one hP.1.1) rfl (q0 := 0) rfl) rfl rfl (Nat.le_of_ble_eq_true rfl) dL_submit_5 ⟨Nat.le_of_ble_eq_true rfl, Nat.le_of_ble_eq_true rfl⟩ (fun X9 => kxj_and (fun hx => ?_)) (fun r1 => ?_)
  · rcases hx with ⟨rfl, h⟩ | ⟨rfl, h⟩
    · refine kj_catch C [] ⟨0, 10, 13, 19⟩ [⟨0, 10, 17, 13⟩] htab (fun z hz => nomatch hz) (by decide) (by decide) lk0 hX.1.2.2.1.2.1 (fun q9 => ?_)
      refine k_astore (lv' := [(4, .ref q9), (0, .ref b), (1, .int p0), (2, .int p1), (3, .ref (b + 126))]) C dL_submit_13 (by decide) rfl ?_
      refine k_iconst (v := 1) C dL_submit_15 (by decide) ?_
      exact k_mret C hr hlk (Nat.le_of_ble_eq_true rfl) (Nat.le_of_ble_eq_true rfl) dL_submit_16 (fun H hP => ⟨sav, cnt, ST, rnd, sLen, sWrk, sReg, sFst, sLst, dPtr, dCnt, dIdl, dKnw, jCnt, jBeg, jWs, jMis, jSrv, jLft, jSub, jWai, jNxt, ov, h, hP⟩)
    · refine kj_catch C [⟨0, 10, 13, 19⟩] ⟨0, 10, 17, 13⟩ [] htab (fun z hz => Or.inr (by rw [List.mem_singleton.mp hz]; exact ⟨by decide, _, lk0, hX.2.1⟩)) (by decide) (by decide) lk1 hX.1.2.2.1.1 (fun q9 => ?_)
      refine k_astore (lv' := [(4, .ref q9), (0, .ref b), (1, .int p0), (2, .int p1), (3, .ref (b + 126))]) C dL_submit_17 (by decide) rfl ?_
      refine k_iconst (v := 2) C dL_submit_19 (by decide) ?_
      exact k_mret C hr hlk (Nat.le_of_ble_eq_true rfl) (Nat.le_of_ble_eq_true rfl) dL_submit_20 (fun H hP => ⟨sav, cnt, ST, rnd, sLen, sWrk, sReg, sFst, sLst, dPtr, dCnt, dIdl, dKnw, jCnt, jBeg, jWs, jMis, jSrv, jLft, jSub, jWai, jNxt, ov, h, hP⟩)
  refine k_ex (fun sav_2 => k_ex (fun cnt_3 => k_ex (fun ST_4 => k_ex (fun rnd_5 => k_ex (fun sLen_6 => k_ex (fun sWrk_7 => k_ex (fun sReg_8 => k_ex (fun sFst_9 => k_ex (fun sLst_10 => k_ex (fun dPtr_11 => k_ex (fun dCnt_12 => k_ex (fun dIdl_13 => k_ex (fun dKnw_14 => k_ex (fun jCnt_15 => k_ex (fun jBeg_16 => k_ex (fun jWs_17 => k_ex (fun jMis_18 => k_ex (fun jSrv_19 => k_ex (fun jLft_20 => k_ex (fun jSub_21 => k_ex (fun jWai_22 => k_ex (fun jNxt_23 => k_and (fun h => ?_)))))))))))))))))))))))
  refine k_i2l C dL_submit_8 ?_
  refine k_topl (fun x24 ex24 => ?_)
  replace h := h x24 ex24
  refine l_put C hA hE.1 dL_submit_9 ?_
  refine k_goto (tgt := 21) C dL_submit_10 (by decide) ?_
  refine k_iconst (v := 0) C dL_submit_21 (by decide) ?_
  exact k_mret C hr hlk (Nat.le_of_ble_eq_true rfl) (Nat.le_of_ble_eq_true rfl) dL_submit_22 (fun H hP => ⟨sav_2, cnt_3, ST_4, rnd_5, sLen_6, sWrk_7, sReg_8, sFst_9, sLst_10, dPtr_11, dCnt_12, dIdl_13, dKnw_14, jCnt_15, jBeg_16, jWs_17, jMis_18, jSrv_19, jLft_20, jSub_21, jWai_22, jNxt_23, x24, h, hP⟩)
noncomputable def wp_L_tick (cur : Nat) (sav : Nat → Nat) (cnt : Int32) (ST : Nat → TT) (now : Int32) (rnd : Int64) (jm : Int32) (rp : Int32) (sc : Int32) (dc : Int32) (cn : Int32) (sUp : Nat → Int32) (sLen : Nat → Int32) (sWrk : Nat → Int32) (sReg : Nat → Int32) (sFst : Nat → Int32) (sLst : Nat → Int32) (dPol : Nat → Int32) (dPtr : Nat → Int32) (dCnt : Nat → Int32) (dIdl : Nat → Nat → Int32) (dKnw : Nat → Nat → Int32) (jCnt : Int32) (jFin : Int32) (jBeg : Int32) (jWs : Int32) (jMis : Int32) (jSrv : Nat → Int32) (jLft : Nat → Int32) (jSub : Nat → Int32) (jWai : Nat → Int32) (jNxt : Nat → Int32) (cnd : Nat → Int32) (ov : Int64) (p0 : Int32) (k : Int32 → (Nat → Nat) → Int32 → (Nat → TT) → Int32 → Int64 → (Nat → Int32) → (Nat → Int32) → (Nat → Int32) → (Nat → Int32) → (Nat → Int32) → (Nat → Int32) → (Nat → Nat → Int32) → (Nat → Nat → Int32) → Int32 → Int32 → Int32 → (Nat → Int32) → (Nat → Int32) → Int64 → Prop) : Prop := wp_X4_tick cur sav cnt ST now rnd jm rp sc dc cn sUp sLen sWrk sReg sFst sLst dPol dPtr dCnt dIdl dKnw jCnt jFin jBeg jWs jMis jSrv jLft jSub jWai jNxt cnd p0 (fun r1 sav_2 cnt_3 ST_4 now_5 rnd_6 sLen_7 sWrk_8 sReg_9 sFst_10 sLst_11 dCnt_12 dIdl_13 dKnw_14 jFin_15 jBeg_16 jWs_17 jLft_18 jWai_19 => ∀ x20 : Int64, x20 = r1.toInt64 → (k 0 sav_2 cnt_3 ST_4 now_5 rnd_6 sLen_7 sWrk_8 sReg_9 sFst_10 sLst_11 dCnt_12 dIdl_13 dKnw_14 jFin_15 jBeg_16 jWs_17 jLft_18 jWai_19 x20)) (fun X9 => (X9 = "java/lang/IllegalArgumentException" ∧ (k 1 sav cnt ST now rnd sLen sWrk sReg sFst sLst dCnt dIdl dKnw jFin jBeg jWs jLft jWai ov)))
set_option maxRecDepth 100000 in
set_option maxHeartbeats 4000000 in
theorem c_L_tick (l : Launch) (hlt : l.stackTraces = false) {E : EV} {b : Nat} {A : Nat → Prop} (hA : ∀ q, b ≤ q → A q) (cur : Nat) (sav : Nat → Nat) (cnt : Int32) (ST : Nat → TT) (now : Int32) (rnd : Int64) (jm : Int32) (rp : Int32) (sc : Int32) (dc : Int32) (cn : Int32) (sUp : Nat → Int32) (sLen : Nat → Int32) (sWrk : Nat → Int32) (sReg : Nat → Int32) (sFst : Nat → Int32) (sLst : Nat → Int32) (dPol : Nat → Int32) (dPtr : Nat → Int32) (dCnt : Nat → Int32) (dIdl : Nat → Nat → Int32) (dKnw : Nat → Nat → Int32) (jCnt : Int32) (jFin : Int32) (jBeg : Int32) (jWs : Int32) (jMis : Int32) (jSrv : Nat → Int32) (jLft : Nat → Int32) (jSub : Nat → Int32) (jWai : Nat → Int32) (jNxt : Nat → Int32) (cnd : Nat → Int32) (nw : Nat → Int32) (hi : Nat → Int32) (sv : Int32) (th : Int32) (cd : Nat → Int32) (ha : Int64) (ov : Int64) (hcur : cur < 4) (p0 : Int32)  (k : Int32 → (Nat → Nat) → Int32 → (Nat → TT) → Int32 → Int64 → (Nat → Int32) → (Nat → Int32) → (Nat → Int32) → (Nat → Int32) → (Nat → Int32) → (Nat → Int32) → (Nat → Nat → Int32) → (Nat → Nat → Int32) → Int32 → Int32 → Int32 → (Nat → Int32) → (Nat → Int32) → Int64 → Prop) (h : wp_L_tick cur sav cnt ST now rnd jm rp sc dc cn sUp sLen sWrk sReg sFst sLst dPol dPtr dCnt dIdl dKnw jCnt jFin jBeg jWs jMis jSrv jLft jSub jWai jNxt cnd ov p0 k) : Met l yL_tick wsL_tick { frames := 8, cells := 1, slots := 6, locals := 135 } (va_Pc [.ref b, .int p0, .ref (b + 126)] (fun U => XF (LX E b nw hi sv th cd ha ov) cur sav cnt ST now rnd jm rp sc dc cn sUp sLen sWrk sReg sFst sLst dPol dPtr dCnt dIdl dKnw jCnt jFin jBeg jWs jMis jSrv jLft jSub jWai jNxt cnd U.heap ∧ XL E A U)) (kQi (fun r H => ∃ sav9 : Nat → Nat, ∃ cnt9 : Int32, ∃ ST9 : Nat → TT, ∃ now9 : Int32, ∃ rnd9 : Int64, ∃ sLen9 : Nat → Int32, ∃ sWrk9 : Nat → Int32, ∃ sReg9 : Nat → Int32, ∃ sFst9 : Nat → Int32, ∃ sLst9 : Nat → Int32, ∃ dCnt9 : Nat → Int32, ∃ dIdl9 : Nat → Nat → Int32, ∃ dKnw9 : Nat → Nat → Int32, ∃ jFin9 : Int32, ∃ jBeg9 : Int32, ∃ jWs9 : Int32, ∃ jLft9 : Nat → Int32, ∃ jWai9 : Nat → Int32, ∃ ov9 : Int64, k r sav9 cnt9 ST9 now9 rnd9 sLen9 sWrk9 sReg9 sFst9 sLst9 dCnt9 dIdl9 dKnw9 jFin9 jBeg9 jWs9 jLft9 jWai9 ov9 ∧ XF (LX E b nw hi sv th cd ha ov9) cur sav9 cnt9 ST9 now9 rnd9 jm rp sc dc cn sUp sLen9 sWrk9 sReg9 sFst9 sLst9 dPol dPtr dCnt9 dIdl9 dKnw9 jCnt jFin9 jBeg9 jWs9 jMis jSrv jLft9 jSub jWai9 jNxt cnd H) A) 1 6 A := by
  refine kl_body (cc := cL_tick) (own := RL) (maxL := 4) (ret := (some .int)) (hh := [(0, 9, 12, 19)]) (lv0 := [(0, .ref b), (1, .int p0), (2, .ref (b + 126))]) (by decide) rfl rfl (Nat.le_of_ble_eq_true rfl) rfl (fun p e s m below meth c C hr hlk htab hP hX => ?_)
  have hE := hX.1.1
  have lk0 := C.2.2.2.2 (.classLink RL 19 "java/lang/IllegalArgumentException") (by decide +kernel)
  refine k_aload_n C dL_tick_0 2 rfl ?_
  refine k_iconst (v := 0) C dL_tick_1 (by decide) ?_
  refine k_aload_n C dL_tick_2 0 rfl ?_
  refine k_iload_n C dL_tick_3 1 rfl ?_
  refine kl_callVi (st := [.int 0, .ref (b + 126)]) C hX (c_X4_tick l hlt (focL_x E b) (fun q hq => hA q hq.1) cur sav cnt ST now rnd jm rp sc dc cn sUp sLen sWrk sReg sFst sLst dPol dPtr dCnt dIdl dKnw jCnt jFin jBeg jWs jMis jSrv jLft jSub jWai jNxt cnd hcur p0 _ _ h) (cwV 1 C.2.2.2.2 gL_tick_X4_tick rfl rfl rfl (by decide +kernel) ⟨Nat.le_of_ble_eq_true rfl, Nat.le_of_ble_eq_true rfl⟩) (fun H hP => va_recv hE.1 (k_one hP.1.1) rfl (q0 := 0) rfl) rfl rfl (Nat.le_of_ble_eq_true rfl) dL_tick_4 ⟨Nat.le_of_ble_eq_true rfl, Nat.le_of_ble_eq_true rfl⟩ (fun X9 => kxj_and (fun hx => ?_)) (fun r1 => ?_)
  · rcases hx with ⟨rfl, h⟩
    · refine kj_catch C [] ⟨0, 9, 12, 19⟩ [] htab (fun z hz => nomatch hz) (by decide) (by decide) lk0 hX.1.2.2.1.2.1 (fun q9 => ?_)
      refine k_astore_n (lv' := [(3, .ref q9), (0, .ref b), (1, .int p0), (2, .ref (b + 126))]) C dL_tick_12 rfl (by decide) rfl ?_
      refine k_iconst (v := 1) C dL_tick_13 (by decide) ?_
      exact k_mret C hr hlk (Nat.le_of_ble_eq_true rfl) (Nat.le_of_ble_eq_true rfl) dL_tick_14 (fun H hP => ⟨sav, cnt, ST, now, rnd, sLen, sWrk, sReg, sFst, sLst, dCnt, dIdl, dKnw, jFin, jBeg, jWs, jLft, jWai, ov, h, hP⟩)
  refine k_ex (fun sav_2 => k_ex (fun cnt_3 => k_ex (fun ST_4 => k_ex (fun now_5 => k_ex (fun rnd_6 => k_ex (fun sLen_7 => k_ex (fun sWrk_8 => k_ex (fun sReg_9 => k_ex (fun sFst_10 => k_ex (fun sLst_11 => k_ex (fun dCnt_12 => k_ex (fun dIdl_13 => k_ex (fun dKnw_14 => k_ex (fun jFin_15 => k_ex (fun jBeg_16 => k_ex (fun jWs_17 => k_ex (fun jLft_18 => k_ex (fun jWai_19 => k_and (fun h => ?_)))))))))))))))))))
  refine k_i2l C dL_tick_7 ?_
  refine k_topl (fun x20 ex20 => ?_)
  replace h := h x20 ex20
  refine l_put C hA hE.1 dL_tick_8 ?_
  refine k_goto (tgt := 15) C dL_tick_9 (by decide) ?_
  refine k_iconst (v := 0) C dL_tick_15 (by decide) ?_
  exact k_mret C hr hlk (Nat.le_of_ble_eq_true rfl) (Nat.le_of_ble_eq_true rfl) dL_tick_16 (fun H hP => ⟨sav_2, cnt_3, ST_4, now_5, rnd_6, sLen_7, sWrk_8, sReg_9, sFst_10, sLst_11, dCnt_12, dIdl_13, dKnw_14, jFin_15, jBeg_16, jWs_17, jLft_18, jWai_19, x20, h, hP⟩)
noncomputable def wp_L_length (sc : Int32) (sLen : Nat → Int32) (ov : Int64) (p0 : Int32) (k : Int32 → Int64 → Prop) : Prop := wp_X4_length sc sLen p0 (fun r1 => ∀ x2 : Int64, x2 = r1.toInt64 → (k 0 x2)) (fun X9 => (X9 = "java/lang/IllegalArgumentException" ∧ (k 1 ov)))
set_option maxRecDepth 100000 in
set_option maxHeartbeats 4000000 in
theorem c_L_length (l : Launch) (hlt : l.stackTraces = false) {E : EV} {b : Nat} {A : Nat → Prop} (hA : ∀ q, b ≤ q → A q) (cur : Nat) (sav : Nat → Nat) (cnt : Int32) (ST : Nat → TT) (now : Int32) (rnd : Int64) (jm : Int32) (rp : Int32) (sc : Int32) (dc : Int32) (cn : Int32) (sUp : Nat → Int32) (sLen : Nat → Int32) (sWrk : Nat → Int32) (sReg : Nat → Int32) (sFst : Nat → Int32) (sLst : Nat → Int32) (dPol : Nat → Int32) (dPtr : Nat → Int32) (dCnt : Nat → Int32) (dIdl : Nat → Nat → Int32) (dKnw : Nat → Nat → Int32) (jCnt : Int32) (jFin : Int32) (jBeg : Int32) (jWs : Int32) (jMis : Int32) (jSrv : Nat → Int32) (jLft : Nat → Int32) (jSub : Nat → Int32) (jWai : Nat → Int32) (jNxt : Nat → Int32) (cnd : Nat → Int32) (nw : Nat → Int32) (hi : Nat → Int32) (sv : Int32) (th : Int32) (cd : Nat → Int32) (ha : Int64) (ov : Int64) (hcur : cur < 4) (p0 : Int32)  (k : Int32 → Int64 → Prop) (h : wp_L_length sc sLen ov p0 k) : Met l yL_length wsL_length { frames := 8, cells := 1, slots := 6, locals := 132 } (va_Pc [.ref b, .int p0, .ref (b + 126)] (fun U => XF (LX E b nw hi sv th cd ha ov) cur sav cnt ST now rnd jm rp sc dc cn sUp sLen sWrk sReg sFst sLst dPol dPtr dCnt dIdl dKnw jCnt jFin jBeg jWs jMis jSrv jLft jSub jWai jNxt cnd U.heap ∧ XL E A U)) (kQi (fun r H => ∃ ov9 : Int64, k r ov9 ∧ XF (LX E b nw hi sv th cd ha ov9) cur sav cnt ST now rnd jm rp sc dc cn sUp sLen sWrk sReg sFst sLst dPol dPtr dCnt dIdl dKnw jCnt jFin jBeg jWs jMis jSrv jLft jSub jWai jNxt cnd H) A) 1 6 A := by
  refine kl_body (cc := cL_length) (own := RL) (maxL := 4) (ret := (some .int)) (hh := [(0, 9, 12, 19)]) (lv0 := [(0, .ref b), (1, .int p0), (2, .ref (b + 126))]) (by decide) rfl rfl (Nat.le_of_ble_eq_true rfl) rfl (fun p e s m below meth c C hr hlk htab hP hX => ?_)
  have hE := hX.1.1
  have lk0 := C.2.2.2.2 (.classLink RL 19 "java/lang/IllegalArgumentException") (by decide +kernel)
  refine k_aload_n C dL_length_0 2 rfl ?_
  refine k_iconst (v := 0) C dL_length_1 (by decide) ?_
  refine k_aload_n C dL_length_2 0 rfl ?_
  refine k_iload_n C dL_length_3 1 rfl ?_
  refine kl_callVi (st := [.int 0, .ref (b + 126)]) C hX (c_X4_length l hlt (focL_x E b) (fun q hq => hA q hq.1) cur sav cnt ST now rnd jm rp sc dc cn sUp sLen sWrk sReg sFst sLst dPol dPtr dCnt dIdl dKnw jCnt jFin jBeg jWs jMis jSrv jLft jSub jWai jNxt cnd hcur p0 _ _ h) (cwV 1 C.2.2.2.2 gL_length_X4_length rfl rfl rfl (by decide +kernel) ⟨Nat.le_of_ble_eq_true rfl, Nat.le_of_ble_eq_true rfl⟩) (fun H hP => va_recv hE.1 (k_one hP.1.1) rfl (q0 := 0) rfl) rfl rfl (Nat.le_of_ble_eq_true rfl) dL_length_4 ⟨Nat.le_of_ble_eq_true rfl, Nat.le_of_ble_eq_true rfl⟩ (fun X9 => kxj_and (fun hx => ?_)) (fun r1 => ?_)
  · rcases hx with ⟨rfl, h⟩
    · refine kj_catch C [] ⟨0, 9, 12, 19⟩ [] htab (fun z hz => nomatch hz) (by decide) (by decide) lk0 hX.1.2.2.1.2.1 (fun q9 => ?_)
      refine k_astore_n (lv' := [(3, .ref q9), (0, .ref b), (1, .int p0), (2, .ref (b + 126))]) C dL_length_12 rfl (by decide) rfl ?_
      refine k_iconst (v := 1) C dL_length_13 (by decide) ?_
      exact k_mret C hr hlk (Nat.le_of_ble_eq_true rfl) (Nat.le_of_ble_eq_true rfl) dL_length_14 (fun H hP => ⟨ov, h, hP⟩)
  refine k_and (fun h => ?_)
  refine k_i2l C dL_length_7 ?_
  refine k_topl (fun x2 ex2 => ?_)
  replace h := h x2 ex2
  refine l_put C hA hE.1 dL_length_8 ?_
  refine k_goto (tgt := 15) C dL_length_9 (by decide) ?_
  refine k_iconst (v := 0) C dL_length_15 (by decide) ?_
  exact k_mret C hr hlk (Nat.le_of_ble_eq_true rfl) (Nat.le_of_ble_eq_true rfl) dL_length_16 (fun H hP => ⟨x2, h, hP⟩)
noncomputable def wp_L_work (sc : Int32) (sWrk : Nat → Int32) (ov : Int64) (p0 : Int32) (k : Int32 → Int64 → Prop) : Prop := wp_X4_work sc sWrk p0 (fun r1 => ∀ x2 : Int64, x2 = r1.toInt64 → (k 0 x2)) (fun X9 => (X9 = "java/lang/IllegalArgumentException" ∧ (k 1 ov)))
set_option maxRecDepth 100000 in
set_option maxHeartbeats 4000000 in
theorem c_L_work (l : Launch) (hlt : l.stackTraces = false) {E : EV} {b : Nat} {A : Nat → Prop} (hA : ∀ q, b ≤ q → A q) (cur : Nat) (sav : Nat → Nat) (cnt : Int32) (ST : Nat → TT) (now : Int32) (rnd : Int64) (jm : Int32) (rp : Int32) (sc : Int32) (dc : Int32) (cn : Int32) (sUp : Nat → Int32) (sLen : Nat → Int32) (sWrk : Nat → Int32) (sReg : Nat → Int32) (sFst : Nat → Int32) (sLst : Nat → Int32) (dPol : Nat → Int32) (dPtr : Nat → Int32) (dCnt : Nat → Int32) (dIdl : Nat → Nat → Int32) (dKnw : Nat → Nat → Int32) (jCnt : Int32) (jFin : Int32) (jBeg : Int32) (jWs : Int32) (jMis : Int32) (jSrv : Nat → Int32) (jLft : Nat → Int32) (jSub : Nat → Int32) (jWai : Nat → Int32) (jNxt : Nat → Int32) (cnd : Nat → Int32) (nw : Nat → Int32) (hi : Nat → Int32) (sv : Int32) (th : Int32) (cd : Nat → Int32) (ha : Int64) (ov : Int64) (hcur : cur < 4) (p0 : Int32)  (k : Int32 → Int64 → Prop) (h : wp_L_work sc sWrk ov p0 k) : Met l yL_work wsL_work { frames := 8, cells := 1, slots := 6, locals := 132 } (va_Pc [.ref b, .int p0, .ref (b + 126)] (fun U => XF (LX E b nw hi sv th cd ha ov) cur sav cnt ST now rnd jm rp sc dc cn sUp sLen sWrk sReg sFst sLst dPol dPtr dCnt dIdl dKnw jCnt jFin jBeg jWs jMis jSrv jLft jSub jWai jNxt cnd U.heap ∧ XL E A U)) (kQi (fun r H => ∃ ov9 : Int64, k r ov9 ∧ XF (LX E b nw hi sv th cd ha ov9) cur sav cnt ST now rnd jm rp sc dc cn sUp sLen sWrk sReg sFst sLst dPol dPtr dCnt dIdl dKnw jCnt jFin jBeg jWs jMis jSrv jLft jSub jWai jNxt cnd H) A) 1 6 A := by
  refine kl_body (cc := cL_work) (own := RL) (maxL := 4) (ret := (some .int)) (hh := [(0, 9, 12, 19)]) (lv0 := [(0, .ref b), (1, .int p0), (2, .ref (b + 126))]) (by decide) rfl rfl (Nat.le_of_ble_eq_true rfl) rfl (fun p e s m below meth c C hr hlk htab hP hX => ?_)
  have hE := hX.1.1
  have lk0 := C.2.2.2.2 (.classLink RL 19 "java/lang/IllegalArgumentException") (by decide +kernel)
  refine k_aload_n C dL_work_0 2 rfl ?_
  refine k_iconst (v := 0) C dL_work_1 (by decide) ?_
  refine k_aload_n C dL_work_2 0 rfl ?_
  refine k_iload_n C dL_work_3 1 rfl ?_
  refine kl_callVi (st := [.int 0, .ref (b + 126)]) C hX (c_X4_work l hlt (focL_x E b) (fun q hq => hA q hq.1) cur sav cnt ST now rnd jm rp sc dc cn sUp sLen sWrk sReg sFst sLst dPol dPtr dCnt dIdl dKnw jCnt jFin jBeg jWs jMis jSrv jLft jSub jWai jNxt cnd hcur p0 _ _ h) (cwV 1 C.2.2.2.2 gL_work_X4_work rfl rfl rfl (by decide +kernel) ⟨Nat.le_of_ble_eq_true rfl, Nat.le_of_ble_eq_true rfl⟩) (fun H hP => va_recv hE.1 (k_one hP.1.1) rfl (q0 := 0) rfl) rfl rfl (Nat.le_of_ble_eq_true rfl) dL_work_4 ⟨Nat.le_of_ble_eq_true rfl, Nat.le_of_ble_eq_true rfl⟩ (fun X9 => kxj_and (fun hx => ?_)) (fun r1 => ?_)
  · rcases hx with ⟨rfl, h⟩
    · refine kj_catch C [] ⟨0, 9, 12, 19⟩ [] htab (fun z hz => nomatch hz) (by decide) (by decide) lk0 hX.1.2.2.1.2.1 (fun q9 => ?_)
      refine k_astore_n (lv' := [(3, .ref q9), (0, .ref b), (1, .int p0), (2, .ref (b + 126))]) C dL_work_12 rfl (by decide) rfl ?_
      refine k_iconst (v := 1) C dL_work_13 (by decide) ?_
      exact k_mret C hr hlk (Nat.le_of_ble_eq_true rfl) (Nat.le_of_ble_eq_true rfl) dL_work_14 (fun H hP => ⟨ov, h, hP⟩)
  refine k_and (fun h => ?_)
  refine k_i2l C dL_work_7 ?_
  refine k_topl (fun x2 ex2 => ?_)
  replace h := h x2 ex2
  refine l_put C hA hE.1 dL_work_8 ?_
  refine k_goto (tgt := 15) C dL_work_9 (by decide) ?_
  refine k_iconst (v := 0) C dL_work_15 (by decide) ?_
  exact k_mret C hr hlk (Nat.le_of_ble_eq_true rfl) (Nat.le_of_ble_eq_true rfl) dL_work_16 (fun H hP => ⟨x2, h, hP⟩)
noncomputable def wp_L_registeredAt (sc : Int32) (sReg : Nat → Int32) (ov : Int64) (p0 : Int32) (k : Int32 → Int64 → Prop) : Prop := wp_X4_registeredAt sc sReg p0 (fun r1 => ∀ x2 : Int64, x2 = r1.toInt64 → (k 0 x2)) (fun X9 => (X9 = "java/lang/IllegalArgumentException" ∧ (k 1 ov)))
set_option maxRecDepth 100000 in
set_option maxHeartbeats 4000000 in
theorem c_L_registeredAt (l : Launch) (hlt : l.stackTraces = false) {E : EV} {b : Nat} {A : Nat → Prop} (hA : ∀ q, b ≤ q → A q) (cur : Nat) (sav : Nat → Nat) (cnt : Int32) (ST : Nat → TT) (now : Int32) (rnd : Int64) (jm : Int32) (rp : Int32) (sc : Int32) (dc : Int32) (cn : Int32) (sUp : Nat → Int32) (sLen : Nat → Int32) (sWrk : Nat → Int32) (sReg : Nat → Int32) (sFst : Nat → Int32) (sLst : Nat → Int32) (dPol : Nat → Int32) (dPtr : Nat → Int32) (dCnt : Nat → Int32) (dIdl : Nat → Nat → Int32) (dKnw : Nat → Nat → Int32) (jCnt : Int32) (jFin : Int32) (jBeg : Int32) (jWs : Int32) (jMis : Int32) (jSrv : Nat → Int32) (jLft : Nat → Int32) (jSub : Nat → Int32) (jWai : Nat → Int32) (jNxt : Nat → Int32) (cnd : Nat → Int32) (nw : Nat → Int32) (hi : Nat → Int32) (sv : Int32) (th : Int32) (cd : Nat → Int32) (ha : Int64) (ov : Int64) (hcur : cur < 4) (p0 : Int32)  (k : Int32 → Int64 → Prop) (h : wp_L_registeredAt sc sReg ov p0 k) : Met l yL_registeredAt wsL_registeredAt { frames := 8, cells := 1, slots := 6, locals := 132 } (va_Pc [.ref b, .int p0, .ref (b + 126)] (fun U => XF (LX E b nw hi sv th cd ha ov) cur sav cnt ST now rnd jm rp sc dc cn sUp sLen sWrk sReg sFst sLst dPol dPtr dCnt dIdl dKnw jCnt jFin jBeg jWs jMis jSrv jLft jSub jWai jNxt cnd U.heap ∧ XL E A U)) (kQi (fun r H => ∃ ov9 : Int64, k r ov9 ∧ XF (LX E b nw hi sv th cd ha ov9) cur sav cnt ST now rnd jm rp sc dc cn sUp sLen sWrk sReg sFst sLst dPol dPtr dCnt dIdl dKnw jCnt jFin jBeg jWs jMis jSrv jLft jSub jWai jNxt cnd H) A) 1 6 A := by
  refine kl_body (cc := cL_registeredAt) (own := RL) (maxL := 4) (ret := (some .int)) (hh := [(0, 9, 12, 19)]) (lv0 := [(0, .ref b), (1, .int p0), (2, .ref (b + 126))]) (by decide) rfl rfl (Nat.le_of_ble_eq_true rfl) rfl (fun p e s m below meth c C hr hlk htab hP hX => ?_)
  have hE := hX.1.1
  have lk0 := C.2.2.2.2 (.classLink RL 19 "java/lang/IllegalArgumentException") (by decide +kernel)
  refine k_aload_n C dL_registeredAt_0 2 rfl ?_
  refine k_iconst (v := 0) C dL_registeredAt_1 (by decide) ?_
  refine k_aload_n C dL_registeredAt_2 0 rfl ?_
  refine k_iload_n C dL_registeredAt_3 1 rfl ?_
  refine kl_callVi (st := [.int 0, .ref (b + 126)]) C hX (c_X4_registeredAt l hlt (focL_x E b) (fun q hq => hA q hq.1) cur sav cnt ST now rnd jm rp sc dc cn sUp sLen sWrk sReg sFst sLst dPol dPtr dCnt dIdl dKnw jCnt jFin jBeg jWs jMis jSrv jLft jSub jWai jNxt cnd hcur p0 _ _ h) (cwV 1 C.2.2.2.2 gL_registeredAt_X4_registeredAt rfl rfl rfl (by decide +kernel) ⟨Nat.le_of_ble_eq_true rfl, Nat.le_of_ble_eq_true rfl⟩) (fun H hP => va_recv hE.1 (k_one hP.1.1) rfl (q0 := 0) rfl) rfl rfl (Nat.le_of_ble_eq_true rfl) dL_registeredAt_4 ⟨Nat.le_of_ble_eq_true rfl, Nat.le_of_ble_eq_true rfl⟩ (fun X9 => kxj_and (fun hx => ?_)) (fun r1 => ?_)
  · rcases hx with ⟨rfl, h⟩
    · refine kj_catch C [] ⟨0, 9, 12, 19⟩ [] htab (fun z hz => nomatch hz) (by decide) (by decide) lk0 hX.1.2.2.1.2.1 (fun q9 => ?_)
      refine k_astore_n (lv' := [(3, .ref q9), (0, .ref b), (1, .int p0), (2, .ref (b + 126))]) C dL_registeredAt_12 rfl (by decide) rfl ?_
      refine k_iconst (v := 1) C dL_registeredAt_13 (by decide) ?_
      exact k_mret C hr hlk (Nat.le_of_ble_eq_true rfl) (Nat.le_of_ble_eq_true rfl) dL_registeredAt_14 (fun H hP => ⟨ov, h, hP⟩)
  refine k_and (fun h => ?_)
  refine k_i2l C dL_registeredAt_7 ?_
  refine k_topl (fun x2 ex2 => ?_)
  replace h := h x2 ex2
  refine l_put C hA hE.1 dL_registeredAt_8 ?_
  refine k_goto (tgt := 15) C dL_registeredAt_9 (by decide) ?_
  refine k_iconst (v := 0) C dL_registeredAt_15 (by decide) ?_
  exact k_mret C hr hlk (Nat.le_of_ble_eq_true rfl) (Nat.le_of_ble_eq_true rfl) dL_registeredAt_16 (fun H hP => ⟨x2, h, hP⟩)
noncomputable def wp_L_idleCount (dc : Int32) (dCnt : Nat → Int32) (ov : Int64) (p0 : Int32) (k : Int32 → Int64 → Prop) : Prop := wp_X4_idleCount dc dCnt p0 (fun r1 => ∀ x2 : Int64, x2 = r1.toInt64 → (k 0 x2)) (fun X9 => (X9 = "java/lang/IllegalArgumentException" ∧ (k 1 ov)))
set_option maxRecDepth 100000 in
set_option maxHeartbeats 4000000 in
theorem c_L_idleCount (l : Launch) (hlt : l.stackTraces = false) {E : EV} {b : Nat} {A : Nat → Prop} (hA : ∀ q, b ≤ q → A q) (cur : Nat) (sav : Nat → Nat) (cnt : Int32) (ST : Nat → TT) (now : Int32) (rnd : Int64) (jm : Int32) (rp : Int32) (sc : Int32) (dc : Int32) (cn : Int32) (sUp : Nat → Int32) (sLen : Nat → Int32) (sWrk : Nat → Int32) (sReg : Nat → Int32) (sFst : Nat → Int32) (sLst : Nat → Int32) (dPol : Nat → Int32) (dPtr : Nat → Int32) (dCnt : Nat → Int32) (dIdl : Nat → Nat → Int32) (dKnw : Nat → Nat → Int32) (jCnt : Int32) (jFin : Int32) (jBeg : Int32) (jWs : Int32) (jMis : Int32) (jSrv : Nat → Int32) (jLft : Nat → Int32) (jSub : Nat → Int32) (jWai : Nat → Int32) (jNxt : Nat → Int32) (cnd : Nat → Int32) (nw : Nat → Int32) (hi : Nat → Int32) (sv : Int32) (th : Int32) (cd : Nat → Int32) (ha : Int64) (ov : Int64) (hcur : cur < 4) (p0 : Int32)  (k : Int32 → Int64 → Prop) (h : wp_L_idleCount dc dCnt ov p0 k) : Met l yL_idleCount wsL_idleCount { frames := 8, cells := 1, slots := 6, locals := 132 } (va_Pc [.ref b, .int p0, .ref (b + 126)] (fun U => XF (LX E b nw hi sv th cd ha ov) cur sav cnt ST now rnd jm rp sc dc cn sUp sLen sWrk sReg sFst sLst dPol dPtr dCnt dIdl dKnw jCnt jFin jBeg jWs jMis jSrv jLft jSub jWai jNxt cnd U.heap ∧ XL E A U)) (kQi (fun r H => ∃ ov9 : Int64, k r ov9 ∧ XF (LX E b nw hi sv th cd ha ov9) cur sav cnt ST now rnd jm rp sc dc cn sUp sLen sWrk sReg sFst sLst dPol dPtr dCnt dIdl dKnw jCnt jFin jBeg jWs jMis jSrv jLft jSub jWai jNxt cnd H) A) 1 6 A := by
  refine kl_body (cc := cL_idleCount) (own := RL) (maxL := 4) (ret := (some .int)) (hh := [(0, 9, 12, 19)]) (lv0 := [(0, .ref b), (1, .int p0), (2, .ref (b + 126))]) (by decide) rfl rfl (Nat.le_of_ble_eq_true rfl) rfl (fun p e s m below meth c C hr hlk htab hP hX => ?_)
  have hE := hX.1.1
  have lk0 := C.2.2.2.2 (.classLink RL 19 "java/lang/IllegalArgumentException") (by decide +kernel)
  refine k_aload_n C dL_idleCount_0 2 rfl ?_
  refine k_iconst (v := 0) C dL_idleCount_1 (by decide) ?_
  refine k_aload_n C dL_idleCount_2 0 rfl ?_
  refine k_iload_n C dL_idleCount_3 1 rfl ?_
  refine kl_callVi (st := [.int 0, .ref (b + 126)]) C hX (c_X4_idleCount l hlt (focL_x E b) (fun q hq => hA q hq.1) cur sav cnt ST now rnd jm rp sc dc cn sUp sLen sWrk sReg sFst sLst dPol dPtr dCnt dIdl dKnw jCnt jFin jBeg jWs jMis jSrv jLft jSub jWai jNxt cnd hcur p0 _ _ h) (cwV 1 C.2.2.2.2 gL_idleCount_X4_idleCount rfl rfl rfl (by decide +kernel) ⟨Nat.le_of_ble_eq_true rfl, Nat.le_of_ble_eq_true rfl⟩) (fun H hP => va_recv hE.1 (k_one hP.1.1) rfl (q0 := 0) rfl) rfl rfl (Nat.le_of_ble_eq_true rfl) dL_idleCount_4 ⟨Nat.le_of_ble_eq_true rfl, Nat.le_of_ble_eq_true rfl⟩ (fun X9 => kxj_and (fun hx => ?_)) (fun r1 => ?_)
  · rcases hx with ⟨rfl, h⟩
    · refine kj_catch C [] ⟨0, 9, 12, 19⟩ [] htab (fun z hz => nomatch hz) (by decide) (by decide) lk0 hX.1.2.2.1.2.1 (fun q9 => ?_)
      refine k_astore_n (lv' := [(3, .ref q9), (0, .ref b), (1, .int p0), (2, .ref (b + 126))]) C dL_idleCount_12 rfl (by decide) rfl ?_
      refine k_iconst (v := 1) C dL_idleCount_13 (by decide) ?_
      exact k_mret C hr hlk (Nat.le_of_ble_eq_true rfl) (Nat.le_of_ble_eq_true rfl) dL_idleCount_14 (fun H hP => ⟨ov, h, hP⟩)
  refine k_and (fun h => ?_)
  refine k_i2l C dL_idleCount_7 ?_
  refine k_topl (fun x2 ex2 => ?_)
  replace h := h x2 ex2
  refine l_put C hA hE.1 dL_idleCount_8 ?_
  refine k_goto (tgt := 15) C dL_idleCount_9 (by decide) ?_
  refine k_iconst (v := 0) C dL_idleCount_15 (by decide) ?_
  exact k_mret C hr hlk (Nat.le_of_ble_eq_true rfl) (Nat.le_of_ble_eq_true rfl) dL_idleCount_16 (fun H hP => ⟨x2, h, hP⟩)
noncomputable def wp_L_idleAt (dc : Int32) (dCnt : Nat → Int32) (dIdl : Nat → Nat → Int32) (ov : Int64) (p0 : Int32) (p1 : Int32) (k : Int32 → Int64 → Prop) : Prop := wp_X4_idleAt dc dCnt dIdl p0 p1 (fun r1 => ∀ x2 : Int64, x2 = r1.toInt64 → (k 0 x2)) (fun X9 => (X9 = "java/lang/IllegalArgumentException" ∧ (k 1 ov)) ∨ (X9 = "java/lang/IndexOutOfBoundsException" ∧ (k 2 ov)))
set_option maxRecDepth 100000 in
set_option maxHeartbeats 4000000 in
theorem c_L_idleAt (l : Launch) (hlt : l.stackTraces = false) {E : EV} {b : Nat} {A : Nat → Prop} (hA : ∀ q, b ≤ q → A q) (cur : Nat) (sav : Nat → Nat) (cnt : Int32) (ST : Nat → TT) (now : Int32) (rnd : Int64) (jm : Int32) (rp : Int32) (sc : Int32) (dc : Int32) (cn : Int32) (sUp : Nat → Int32) (sLen : Nat → Int32) (sWrk : Nat → Int32) (sReg : Nat → Int32) (sFst : Nat → Int32) (sLst : Nat → Int32) (dPol : Nat → Int32) (dPtr : Nat → Int32) (dCnt : Nat → Int32) (dIdl : Nat → Nat → Int32) (dKnw : Nat → Nat → Int32) (jCnt : Int32) (jFin : Int32) (jBeg : Int32) (jWs : Int32) (jMis : Int32) (jSrv : Nat → Int32) (jLft : Nat → Int32) (jSub : Nat → Int32) (jWai : Nat → Int32) (jNxt : Nat → Int32) (cnd : Nat → Int32) (nw : Nat → Int32) (hi : Nat → Int32) (sv : Int32) (th : Int32) (cd : Nat → Int32) (ha : Int64) (ov : Int64) (hcur : cur < 4) (p0 : Int32) (p1 : Int32)  (k : Int32 → Int64 → Prop) (h : wp_L_idleAt dc dCnt dIdl ov p0 p1 k) : Met l yL_idleAt wsL_idleAt { frames := 8, cells := 2, slots := 12, locals := 133 } (va_Pc [.ref b, .int p0, .int p1, .ref (b + 126)] (fun U => XF (LX E b nw hi sv th cd ha ov) cur sav cnt ST now rnd jm rp sc dc cn sUp sLen sWrk sReg sFst sLst dPol dPtr dCnt dIdl dKnw jCnt jFin jBeg jWs jMis jSrv jLft jSub jWai jNxt cnd U.heap ∧ XL E A U)) (kQi (fun r H => ∃ ov9 : Int64, k r ov9 ∧ XF (LX E b nw hi sv th cd ha ov9) cur sav cnt ST now rnd jm rp sc dc cn sUp sLen sWrk sReg sFst sLst dPol dPtr dCnt dIdl dKnw jCnt jFin jBeg jWs jMis jSrv jLft jSub jWai jNxt cnd H) A) 2 12 A := by
  refine kl_body (cc := cL_idleAt) (own := RL) (maxL := 5) (ret := (some .int)) (hh := [(0, 10, 13, 19), (0, 10, 17, 59)]) (lv0 := [(0, .ref b), (1, .int p0), (2, .int p1), (3, .ref (b + 126))]) (by decide) rfl rfl (Nat.le_of_ble_eq_true rfl) rfl (fun p e s m below meth c C hr hlk htab hP hX => ?_)
  have hE := hX.1.1
  have lk0 := C.2.2.2.2 (.classLink RL 19 "java/lang/IllegalArgumentException") (by decide +kernel)
  have lk1 := C.2.2.2.2 (.classLink RL 59 "java/lang/IndexOutOfBoundsException") (by decide +kernel)
  refine k_aload_n C dL_idleAt_0 3 rfl ?_
  refine k_iconst (v := 0) C dL_idleAt_1 (by decide) ?_
  refine k_aload_n C dL_idleAt_2 0 rfl ?_
  refine k_iload_n C dL_idleAt_3 1 rfl ?_
  refine k_iload_n C dL_idleAt_4 2 rfl ?_
  refine kl_callVi (st := [.int 0, .ref (b + 126)]) C hX (c_X4_idleAt l hlt (focL_x E b) (fun q hq => hA q hq.1) cur sav cnt ST now rnd jm rp sc dc cn sUp sLen sWrk sReg sFst sLst dPol dPtr dCnt dIdl dKnw jCnt jFin jBeg jWs jMis jSrv jLft jSub jWai jNxt cnd hcur p0 p1 _ _ h) (cwV 2 C.2.2.2.2 gL_idleAt_X4_idleAt rfl rfl rfl (by decide +kernel) ⟨Nat.le_of_ble_eq_true rfl, Nat.le_of_ble_eq_true rfl⟩) (fun H hP => va_recv hE.1 (k_one hP.1.1) rfl (q0 := 0) rfl) rfl rfl (Nat.le_of_ble_eq_true rfl) dL_idleAt_5 ⟨Nat.le_of_ble_eq_true rfl, Nat.le_of_ble_eq_true rfl⟩ (fun X9 => kxj_and (fun hx => ?_)) (fun r1 => ?_)
  · rcases hx with ⟨rfl, h⟩ | ⟨rfl, h⟩
    · refine kj_catch C [] ⟨0, 10, 13, 19⟩ [⟨0, 10, 17, 59⟩] htab (fun z hz => nomatch hz) (by decide) (by decide) lk0 hX.1.2.2.1.2.1 (fun q9 => ?_)
      refine k_astore (lv' := [(4, .ref q9), (0, .ref b), (1, .int p0), (2, .int p1), (3, .ref (b + 126))]) C dL_idleAt_13 (by decide) rfl ?_
      refine k_iconst (v := 1) C dL_idleAt_15 (by decide) ?_
      exact k_mret C hr hlk (Nat.le_of_ble_eq_true rfl) (Nat.le_of_ble_eq_true rfl) dL_idleAt_16 (fun H hP => ⟨ov, h, hP⟩)
    · refine kj_catch C [⟨0, 10, 13, 19⟩] ⟨0, 10, 17, 59⟩ [] htab (fun z hz => Or.inr (by rw [List.mem_singleton.mp hz]; exact ⟨by decide, _, lk0, hX.2.2⟩)) (by decide) (by decide) lk1 hX.1.2.2.1.2.2.1 (fun q9 => ?_)
      refine k_astore (lv' := [(4, .ref q9), (0, .ref b), (1, .int p0), (2, .int p1), (3, .ref (b + 126))]) C dL_idleAt_17 (by decide) rfl ?_
      refine k_iconst (v := 2) C dL_idleAt_19 (by decide) ?_
      exact k_mret C hr hlk (Nat.le_of_ble_eq_true rfl) (Nat.le_of_ble_eq_true rfl) dL_idleAt_20 (fun H hP => ⟨ov, h, hP⟩)
  refine k_and (fun h => ?_)
  refine k_i2l C dL_idleAt_8 ?_
  refine k_topl (fun x2 ex2 => ?_)
  replace h := h x2 ex2
  refine l_put C hA hE.1 dL_idleAt_9 ?_
  refine k_goto (tgt := 21) C dL_idleAt_10 (by decide) ?_
  refine k_iconst (v := 0) C dL_idleAt_21 (by decide) ?_
  exact k_mret C hr hlk (Nat.le_of_ble_eq_true rfl) (Nat.le_of_ble_eq_true rfl) dL_idleAt_22 (fun H hP => ⟨x2, h, hP⟩)
noncomputable def wp_L_knownLength (sc : Int32) (dc : Int32) (dKnw : Nat → Nat → Int32) (ov : Int64) (p0 : Int32) (p1 : Int32) (k : Int32 → Int64 → Prop) : Prop := wp_X4_knownLength sc dc dKnw p0 p1 (fun r1 => ∀ x2 : Int64, x2 = r1.toInt64 → (k 0 x2)) (fun X9 => (X9 = "java/lang/IllegalArgumentException" ∧ (k 1 ov)))
set_option maxRecDepth 100000 in
set_option maxHeartbeats 4000000 in
theorem c_L_knownLength (l : Launch) (hlt : l.stackTraces = false) {E : EV} {b : Nat} {A : Nat → Prop} (hA : ∀ q, b ≤ q → A q) (cur : Nat) (sav : Nat → Nat) (cnt : Int32) (ST : Nat → TT) (now : Int32) (rnd : Int64) (jm : Int32) (rp : Int32) (sc : Int32) (dc : Int32) (cn : Int32) (sUp : Nat → Int32) (sLen : Nat → Int32) (sWrk : Nat → Int32) (sReg : Nat → Int32) (sFst : Nat → Int32) (sLst : Nat → Int32) (dPol : Nat → Int32) (dPtr : Nat → Int32) (dCnt : Nat → Int32) (dIdl : Nat → Nat → Int32) (dKnw : Nat → Nat → Int32) (jCnt : Int32) (jFin : Int32) (jBeg : Int32) (jWs : Int32) (jMis : Int32) (jSrv : Nat → Int32) (jLft : Nat → Int32) (jSub : Nat → Int32) (jWai : Nat → Int32) (jNxt : Nat → Int32) (cnd : Nat → Int32) (nw : Nat → Int32) (hi : Nat → Int32) (sv : Int32) (th : Int32) (cd : Nat → Int32) (ha : Int64) (ov : Int64) (hcur : cur < 4) (p0 : Int32) (p1 : Int32)  (k : Int32 → Int64 → Prop) (h : wp_L_knownLength sc dc dKnw ov p0 p1 k) : Met l yL_knownLength wsL_knownLength { frames := 8, cells := 2, slots := 12, locals := 133 } (va_Pc [.ref b, .int p0, .int p1, .ref (b + 126)] (fun U => XF (LX E b nw hi sv th cd ha ov) cur sav cnt ST now rnd jm rp sc dc cn sUp sLen sWrk sReg sFst sLst dPol dPtr dCnt dIdl dKnw jCnt jFin jBeg jWs jMis jSrv jLft jSub jWai jNxt cnd U.heap ∧ XL E A U)) (kQi (fun r H => ∃ ov9 : Int64, k r ov9 ∧ XF (LX E b nw hi sv th cd ha ov9) cur sav cnt ST now rnd jm rp sc dc cn sUp sLen sWrk sReg sFst sLst dPol dPtr dCnt dIdl dKnw jCnt jFin jBeg jWs jMis jSrv jLft jSub jWai jNxt cnd H) A) 2 12 A := by
  refine kl_body (cc := cL_knownLength) (own := RL) (maxL := 5) (ret := (some .int)) (hh := [(0, 10, 13, 19)]) (lv0 := [(0, .ref b), (1, .int p0), (2, .int p1), (3, .ref (b + 126))]) (by decide) rfl rfl (Nat.le_of_ble_eq_true rfl) rfl (fun p e s m below meth c C hr hlk htab hP hX => ?_)
  have hE := hX.1.1
  have lk0 := C.2.2.2.2 (.classLink RL 19 "java/lang/IllegalArgumentException") (by decide +kernel)
  refine k_aload_n C dL_knownLength_0 3 rfl ?_
  refine k_iconst (v := 0) C dL_knownLength_1 (by decide) ?_
  refine k_aload_n C dL_knownLength_2 0 rfl ?_
  refine k_iload_n C dL_knownLength_3 1 rfl ?_
  refine k_iload_n C dL_knownLength_4 2 rfl ?_
  refine kl_callVi (st := [.int 0, .ref (b + 126)]) C hX (c_X4_knownLength l hlt (focL_x E b) (fun q hq => hA q hq.1) cur sav cnt ST now rnd jm rp sc dc cn sUp sLen sWrk sReg sFst sLst dPol dPtr dCnt dIdl dKnw jCnt jFin jBeg jWs jMis jSrv jLft jSub jWai jNxt cnd hcur p0 p1 _ _ h) (cwV 2 C.2.2.2.2 gL_knownLength_X4_knownLength rfl rfl rfl (by decide +kernel) ⟨Nat.le_of_ble_eq_true rfl, Nat.le_of_ble_eq_true rfl⟩) (fun H hP => va_recv hE.1 (k_one hP.1.1) rfl (q0 := 0) rfl) rfl rfl (Nat.le_of_ble_eq_true rfl) dL_knownLength_5 ⟨Nat.le_of_ble_eq_true rfl, Nat.le_of_ble_eq_true rfl⟩ (fun X9 => kxj_and (fun hx => ?_)) (fun r1 => ?_)
  · rcases hx with ⟨rfl, h⟩
    · refine kj_catch C [] ⟨0, 10, 13, 19⟩ [] htab (fun z hz => nomatch hz) (by decide) (by decide) lk0 hX.1.2.2.1.2.1 (fun q9 => ?_)
      refine k_astore (lv' := [(4, .ref q9), (0, .ref b), (1, .int p0), (2, .int p1), (3, .ref (b + 126))]) C dL_knownLength_13 (by decide) rfl ?_
      refine k_iconst (v := 1) C dL_knownLength_15 (by decide) ?_
      exact k_mret C hr hlk (Nat.le_of_ble_eq_true rfl) (Nat.le_of_ble_eq_true rfl) dL_knownLength_16 (fun H hP => ⟨ov, h, hP⟩)
  refine k_and (fun h => ?_)
  refine k_i2l C dL_knownLength_8 ?_
  refine k_topl (fun x2 ex2 => ?_)
  replace h := h x2 ex2
  refine l_put C hA hE.1 dL_knownLength_9 ?_
  refine k_goto (tgt := 17) C dL_knownLength_10 (by decide) ?_
  refine k_iconst (v := 0) C dL_knownLength_17 (by decide) ?_
  exact k_mret C hr hlk (Nat.le_of_ble_eq_true rfl) (Nat.le_of_ble_eq_true rfl) dL_knownLength_18 (fun H hP => ⟨x2, h, hP⟩)
noncomputable def wp_L_expectedLength (dc : Int32) (cn : Int32) (sLen : Nat → Int32) (dPol : Nat → Int32) (dPtr : Nat → Int32) (dCnt : Nat → Int32) (dIdl : Nat → Nat → Int32) (dKnw : Nat → Nat → Int32) (cnd : Nat → Int32) (ov : Int64) (p0 : Int32) (p1 : Int32) (k : Int32 → Int64 → Prop) : Prop := wp_X4_expectedLength dc cn sLen dPol dPtr dCnt dIdl dKnw cnd p0 p1 (fun r1 => ∀ x2 : Int64, x2 = r1.toInt64 → (k 0 x2)) (fun X9 => (X9 = "java/lang/IllegalArgumentException" ∧ (k 1 ov)) ∨ (X9 = "java/lang/IllegalStateException" ∧ (k 2 ov)))
set_option maxRecDepth 100000 in
set_option maxHeartbeats 4000000 in
theorem c_L_expectedLength (l : Launch) (hlt : l.stackTraces = false) {E : EV} {b : Nat} {A : Nat → Prop} (hA : ∀ q, b ≤ q → A q) (cur : Nat) (sav : Nat → Nat) (cnt : Int32) (ST : Nat → TT) (now : Int32) (rnd : Int64) (jm : Int32) (rp : Int32) (sc : Int32) (dc : Int32) (cn : Int32) (sUp : Nat → Int32) (sLen : Nat → Int32) (sWrk : Nat → Int32) (sReg : Nat → Int32) (sFst : Nat → Int32) (sLst : Nat → Int32) (dPol : Nat → Int32) (dPtr : Nat → Int32) (dCnt : Nat → Int32) (dIdl : Nat → Nat → Int32) (dKnw : Nat → Nat → Int32) (jCnt : Int32) (jFin : Int32) (jBeg : Int32) (jWs : Int32) (jMis : Int32) (jSrv : Nat → Int32) (jLft : Nat → Int32) (jSub : Nat → Int32) (jWai : Nat → Int32) (jNxt : Nat → Int32) (cnd : Nat → Int32) (nw : Nat → Int32) (hi : Nat → Int32) (sv : Int32) (th : Int32) (cd : Nat → Int32) (ha : Int64) (ov : Int64) (hcur : cur < 4) (p0 : Int32) (p1 : Int32)  (k : Int32 → Int64 → Prop) (h : wp_L_expectedLength dc cn sLen dPol dPtr dCnt dIdl dKnw cnd ov p0 p1 k) : Met l yL_expectedLength wsL_expectedLength { frames := 8, cells := 3, slots := 18, locals := 137 } (va_Pc [.ref b, .int p0, .int p1, .ref (b + 126)] (fun U => XF (LX E b nw hi sv th cd ha ov) cur sav cnt ST now rnd jm rp sc dc cn sUp sLen sWrk sReg sFst sLst dPol dPtr dCnt dIdl dKnw jCnt jFin jBeg jWs jMis jSrv jLft jSub jWai jNxt cnd U.heap ∧ XL E A U)) (kQi (fun r H => ∃ ov9 : Int64, k r ov9 ∧ XF (LX E b nw hi sv th cd ha ov9) cur sav cnt ST now rnd jm rp sc dc cn sUp sLen sWrk sReg sFst sLst dPol dPtr dCnt dIdl dKnw jCnt jFin jBeg jWs jMis jSrv jLft jSub jWai jNxt cnd H) A) 3 18 A := by
  refine kl_body (cc := cL_expectedLength) (own := RL) (maxL := 5) (ret := (some .int)) (hh := [(0, 10, 13, 19), (0, 10, 17, 13)]) (lv0 := [(0, .ref b), (1, .int p0), (2, .int p1), (3, .ref (b + 126))]) (by decide) rfl rfl (Nat.le_of_ble_eq_true rfl) rfl (fun p e s m below meth c C hr hlk htab hP hX => ?_)
  have hE := hX.1.1
  have lk0 := C.2.2.2.2 (.classLink RL 19 "java/lang/IllegalArgumentException") (by decide +kernel)
  have lk1 := C.2.2.2.2 (.classLink RL 13 "java/lang/IllegalStateException") (by decide +kernel)
  refine k_aload_n C dL_expectedLength_0 3 rfl ?_
  refine k_iconst (v := 0) C dL_expectedLength_1 (by decide) ?_
  refine k_aload_n C dL_expectedLength_2 0 rfl ?_
  refine k_iload_n C dL_expectedLength_3 1 rfl ?_
  refine k_iload_n C dL_expectedLength_4 2 rfl ?_
  refine kl_callVi (st := [.int 0, .ref (b + 126)]) C hX (c_X4_expectedLength l hlt (focL_x E b) (fun q hq => hA q hq.1) cur sav cnt ST now rnd jm rp sc dc cn sUp sLen sWrk sReg sFst sLst dPol dPtr dCnt dIdl dKnw jCnt jFin jBeg jWs jMis jSrv jLft jSub jWai jNxt cnd hcur p0 p1 _ _ h) (cwV 2 C.2.2.2.2 gL_expectedLength_X4_expectedLength rfl rfl rfl (by decide +kernel) ⟨Nat.le_of_ble_eq_true rfl, Nat.le_of_ble_eq_true rfl⟩) (fun H hP => va_recv hE.1 (k_one hP.1.1) rfl (q0 := 0) rfl) rfl rfl (Nat.le_of_ble_eq_true rfl) dL_expectedLength_5 ⟨Nat.le_of_ble_eq_true rfl, Nat.le_of_ble_eq_true rfl⟩ (fun X9 => kxj_and (fun hx => ?_)) (fun r1 => ?_)
  · rcases hx with ⟨rfl, h⟩ | ⟨rfl, h⟩
    · refine kj_catch C [] ⟨0, 10, 13, 19⟩ [⟨0, 10, 17, 13⟩] htab (fun z hz => nomatch hz) (by decide) (by decide) lk0 hX.1.2.2.1.2.1 (fun q9 => ?_)
      refine k_astore (lv' := [(4, .ref q9), (0, .ref b), (1, .int p0), (2, .int p1), (3, .ref (b + 126))]) C dL_expectedLength_13 (by decide) rfl ?_
      refine k_iconst (v := 1) C dL_expectedLength_15 (by decide) ?_
      exact k_mret C hr hlk (Nat.le_of_ble_eq_true rfl) (Nat.le_of_ble_eq_true rfl) dL_expectedLength_16 (fun H hP => ⟨ov, h, hP⟩)
    · refine kj_catch C [⟨0, 10, 13, 19⟩] ⟨0, 10, 17, 13⟩ [] htab (fun z hz => Or.inr (by rw [List.mem_singleton.mp hz]; exact ⟨by decide, _, lk0, hX.2.1⟩)) (by decide) (by decide) lk1 hX.1.2.2.1.1 (fun q9 => ?_)
      refine k_astore (lv' := [(4, .ref q9), (0, .ref b), (1, .int p0), (2, .int p1), (3, .ref (b + 126))]) C dL_expectedLength_17 (by decide) rfl ?_
      refine k_iconst (v := 2) C dL_expectedLength_19 (by decide) ?_
      exact k_mret C hr hlk (Nat.le_of_ble_eq_true rfl) (Nat.le_of_ble_eq_true rfl) dL_expectedLength_20 (fun H hP => ⟨ov, h, hP⟩)
  refine k_and (fun h => ?_)
  refine k_i2l C dL_expectedLength_8 ?_
  refine k_topl (fun x2 ex2 => ?_)
  replace h := h x2 ex2
  refine l_put C hA hE.1 dL_expectedLength_9 ?_
  refine k_goto (tgt := 21) C dL_expectedLength_10 (by decide) ?_
  refine k_iconst (v := 0) C dL_expectedLength_21 (by decide) ?_
  exact k_mret C hr hlk (Nat.le_of_ble_eq_true rfl) (Nat.le_of_ble_eq_true rfl) dL_expectedLength_22 (fun H hP => ⟨x2, h, hP⟩)
noncomputable def wp_L_serverOf (jCnt : Int32) (jSrv : Nat → Int32) (ov : Int64) (p0 : Int32) (k : Int32 → Int64 → Prop) : Prop := wp_X4_serverOf jCnt jSrv p0 (fun r1 => ∀ x2 : Int64, x2 = r1.toInt64 → (k 0 x2)) (fun X9 => (X9 = "java/lang/IndexOutOfBoundsException" ∧ (k 1 ov)))
set_option maxRecDepth 100000 in
set_option maxHeartbeats 4000000 in
theorem c_L_serverOf (l : Launch) (hlt : l.stackTraces = false) {E : EV} {b : Nat} {A : Nat → Prop} (hA : ∀ q, b ≤ q → A q) (cur : Nat) (sav : Nat → Nat) (cnt : Int32) (ST : Nat → TT) (now : Int32) (rnd : Int64) (jm : Int32) (rp : Int32) (sc : Int32) (dc : Int32) (cn : Int32) (sUp : Nat → Int32) (sLen : Nat → Int32) (sWrk : Nat → Int32) (sReg : Nat → Int32) (sFst : Nat → Int32) (sLst : Nat → Int32) (dPol : Nat → Int32) (dPtr : Nat → Int32) (dCnt : Nat → Int32) (dIdl : Nat → Nat → Int32) (dKnw : Nat → Nat → Int32) (jCnt : Int32) (jFin : Int32) (jBeg : Int32) (jWs : Int32) (jMis : Int32) (jSrv : Nat → Int32) (jLft : Nat → Int32) (jSub : Nat → Int32) (jWai : Nat → Int32) (jNxt : Nat → Int32) (cnd : Nat → Int32) (nw : Nat → Int32) (hi : Nat → Int32) (sv : Int32) (th : Int32) (cd : Nat → Int32) (ha : Int64) (ov : Int64) (hcur : cur < 4) (p0 : Int32)  (k : Int32 → Int64 → Prop) (h : wp_L_serverOf jCnt jSrv ov p0 k) : Met l yL_serverOf wsL_serverOf { frames := 8, cells := 1, slots := 6, locals := 132 } (va_Pc [.ref b, .int p0, .ref (b + 126)] (fun U => XF (LX E b nw hi sv th cd ha ov) cur sav cnt ST now rnd jm rp sc dc cn sUp sLen sWrk sReg sFst sLst dPol dPtr dCnt dIdl dKnw jCnt jFin jBeg jWs jMis jSrv jLft jSub jWai jNxt cnd U.heap ∧ XL E A U)) (kQi (fun r H => ∃ ov9 : Int64, k r ov9 ∧ XF (LX E b nw hi sv th cd ha ov9) cur sav cnt ST now rnd jm rp sc dc cn sUp sLen sWrk sReg sFst sLst dPol dPtr dCnt dIdl dKnw jCnt jFin jBeg jWs jMis jSrv jLft jSub jWai jNxt cnd H) A) 1 6 A := by
  refine kl_body (cc := cL_serverOf) (own := RL) (maxL := 4) (ret := (some .int)) (hh := [(0, 9, 12, 59)]) (lv0 := [(0, .ref b), (1, .int p0), (2, .ref (b + 126))]) (by decide) rfl rfl (Nat.le_of_ble_eq_true rfl) rfl (fun p e s m below meth c C hr hlk htab hP hX => ?_)
  have hE := hX.1.1
  have lk0 := C.2.2.2.2 (.classLink RL 59 "java/lang/IndexOutOfBoundsException") (by decide +kernel)
  refine k_aload_n C dL_serverOf_0 2 rfl ?_
  refine k_iconst (v := 0) C dL_serverOf_1 (by decide) ?_
  refine k_aload_n C dL_serverOf_2 0 rfl ?_
  refine k_iload_n C dL_serverOf_3 1 rfl ?_
  refine kl_callVi (st := [.int 0, .ref (b + 126)]) C hX (c_X4_serverOf l hlt (focL_x E b) (fun q hq => hA q hq.1) cur sav cnt ST now rnd jm rp sc dc cn sUp sLen sWrk sReg sFst sLst dPol dPtr dCnt dIdl dKnw jCnt jFin jBeg jWs jMis jSrv jLft jSub jWai jNxt cnd hcur p0 _ _ h) (cwV 1 C.2.2.2.2 gL_serverOf_X4_serverOf rfl rfl rfl (by decide +kernel) ⟨Nat.le_of_ble_eq_true rfl, Nat.le_of_ble_eq_true rfl⟩) (fun H hP => va_recv hE.1 (k_one hP.1.1) rfl (q0 := 0) rfl) rfl rfl (Nat.le_of_ble_eq_true rfl) dL_serverOf_4 ⟨Nat.le_of_ble_eq_true rfl, Nat.le_of_ble_eq_true rfl⟩ (fun X9 => kxj_and (fun hx => ?_)) (fun r1 => ?_)
  · rcases hx with ⟨rfl, h⟩
    · refine kj_catch C [] ⟨0, 9, 12, 59⟩ [] htab (fun z hz => nomatch hz) (by decide) (by decide) lk0 hX.1.2.2.1.2.2.1 (fun q9 => ?_)
      refine k_astore_n (lv' := [(3, .ref q9), (0, .ref b), (1, .int p0), (2, .ref (b + 126))]) C dL_serverOf_12 rfl (by decide) rfl ?_
      refine k_iconst (v := 1) C dL_serverOf_13 (by decide) ?_
      exact k_mret C hr hlk (Nat.le_of_ble_eq_true rfl) (Nat.le_of_ble_eq_true rfl) dL_serverOf_14 (fun H hP => ⟨ov, h, hP⟩)
  refine k_and (fun h => ?_)
  refine k_i2l C dL_serverOf_7 ?_
  refine k_topl (fun x2 ex2 => ?_)
  replace h := h x2 ex2
  refine l_put C hA hE.1 dL_serverOf_8 ?_
  refine k_goto (tgt := 15) C dL_serverOf_9 (by decide) ?_
  refine k_iconst (v := 0) C dL_serverOf_15 (by decide) ?_
  exact k_mret C hr hlk (Nat.le_of_ble_eq_true rfl) (Nat.le_of_ble_eq_true rfl) dL_serverOf_16 (fun H hP => ⟨x2, h, hP⟩)
noncomputable def wp_L_waitOf (jCnt : Int32) (jWai : Nat → Int32) (ov : Int64) (p0 : Int32) (k : Int32 → Int64 → Prop) : Prop := wp_X4_waitOf jCnt jWai p0 (fun r1 => ∀ x2 : Int64, x2 = r1.toInt64 → (k 0 x2)) (fun X9 => (X9 = "java/lang/IndexOutOfBoundsException" ∧ (k 1 ov)))
set_option maxRecDepth 100000 in
set_option maxHeartbeats 4000000 in
theorem c_L_waitOf (l : Launch) (hlt : l.stackTraces = false) {E : EV} {b : Nat} {A : Nat → Prop} (hA : ∀ q, b ≤ q → A q) (cur : Nat) (sav : Nat → Nat) (cnt : Int32) (ST : Nat → TT) (now : Int32) (rnd : Int64) (jm : Int32) (rp : Int32) (sc : Int32) (dc : Int32) (cn : Int32) (sUp : Nat → Int32) (sLen : Nat → Int32) (sWrk : Nat → Int32) (sReg : Nat → Int32) (sFst : Nat → Int32) (sLst : Nat → Int32) (dPol : Nat → Int32) (dPtr : Nat → Int32) (dCnt : Nat → Int32) (dIdl : Nat → Nat → Int32) (dKnw : Nat → Nat → Int32) (jCnt : Int32) (jFin : Int32) (jBeg : Int32) (jWs : Int32) (jMis : Int32) (jSrv : Nat → Int32) (jLft : Nat → Int32) (jSub : Nat → Int32) (jWai : Nat → Int32) (jNxt : Nat → Int32) (cnd : Nat → Int32) (nw : Nat → Int32) (hi : Nat → Int32) (sv : Int32) (th : Int32) (cd : Nat → Int32) (ha : Int64) (ov : Int64) (hcur : cur < 4) (p0 : Int32)  (k : Int32 → Int64 → Prop) (h : wp_L_waitOf jCnt jWai ov p0 k) : Met l yL_waitOf wsL_waitOf { frames := 8, cells := 1, slots := 6, locals := 132 } (va_Pc [.ref b, .int p0, .ref (b + 126)] (fun U => XF (LX E b nw hi sv th cd ha ov) cur sav cnt ST now rnd jm rp sc dc cn sUp sLen sWrk sReg sFst sLst dPol dPtr dCnt dIdl dKnw jCnt jFin jBeg jWs jMis jSrv jLft jSub jWai jNxt cnd U.heap ∧ XL E A U)) (kQi (fun r H => ∃ ov9 : Int64, k r ov9 ∧ XF (LX E b nw hi sv th cd ha ov9) cur sav cnt ST now rnd jm rp sc dc cn sUp sLen sWrk sReg sFst sLst dPol dPtr dCnt dIdl dKnw jCnt jFin jBeg jWs jMis jSrv jLft jSub jWai jNxt cnd H) A) 1 6 A := by
  refine kl_body (cc := cL_waitOf) (own := RL) (maxL := 4) (ret := (some .int)) (hh := [(0, 9, 12, 59)]) (lv0 := [(0, .ref b), (1, .int p0), (2, .ref (b + 126))]) (by decide) rfl rfl (Nat.le_of_ble_eq_true rfl) rfl (fun p e s m below meth c C hr hlk htab hP hX => ?_)
  have hE := hX.1.1
  have lk0 := C.2.2.2.2 (.classLink RL 59 "java/lang/IndexOutOfBoundsException") (by decide +kernel)
  refine k_aload_n C dL_waitOf_0 2 rfl ?_
  refine k_iconst (v := 0) C dL_waitOf_1 (by decide) ?_
  refine k_aload_n C dL_waitOf_2 0 rfl ?_
  refine k_iload_n C dL_waitOf_3 1 rfl ?_
  refine kl_callVi (st := [.int 0, .ref (b + 126)]) C hX (c_X4_waitOf l hlt (focL_x E b) (fun q hq => hA q hq.1) cur sav cnt ST now rnd jm rp sc dc cn sUp sLen sWrk sReg sFst sLst dPol dPtr dCnt dIdl dKnw jCnt jFin jBeg jWs jMis jSrv jLft jSub jWai jNxt cnd hcur p0 _ _ h) (cwV 1 C.2.2.2.2 gL_waitOf_X4_waitOf rfl rfl rfl (by decide +kernel) ⟨Nat.le_of_ble_eq_true rfl, Nat.le_of_ble_eq_true rfl⟩) (fun H hP => va_recv hE.1 (k_one hP.1.1) rfl (q0 := 0) rfl) rfl rfl (Nat.le_of_ble_eq_true rfl) dL_waitOf_4 ⟨Nat.le_of_ble_eq_true rfl, Nat.le_of_ble_eq_true rfl⟩ (fun X9 => kxj_and (fun hx => ?_)) (fun r1 => ?_)
  · rcases hx with ⟨rfl, h⟩
    · refine kj_catch C [] ⟨0, 9, 12, 59⟩ [] htab (fun z hz => nomatch hz) (by decide) (by decide) lk0 hX.1.2.2.1.2.2.1 (fun q9 => ?_)
      refine k_astore_n (lv' := [(3, .ref q9), (0, .ref b), (1, .int p0), (2, .ref (b + 126))]) C dL_waitOf_12 rfl (by decide) rfl ?_
      refine k_iconst (v := 1) C dL_waitOf_13 (by decide) ?_
      exact k_mret C hr hlk (Nat.le_of_ble_eq_true rfl) (Nat.le_of_ble_eq_true rfl) dL_waitOf_14 (fun H hP => ⟨ov, h, hP⟩)
  refine k_and (fun h => ?_)
  refine k_i2l C dL_waitOf_7 ?_
  refine k_topl (fun x2 ex2 => ?_)
  replace h := h x2 ex2
  refine l_put C hA hE.1 dL_waitOf_8 ?_
  refine k_goto (tgt := 15) C dL_waitOf_9 (by decide) ?_
  refine k_iconst (v := 0) C dL_waitOf_15 (by decide) ?_
  exact k_mret C hr hlk (Nat.le_of_ble_eq_true rfl) (Nat.le_of_ble_eq_true rfl) dL_waitOf_16 (fun H hP => ⟨x2, h, hP⟩)
noncomputable def wp_L_undo (cur : Nat) (sav : Nat → Nat) (cnt : Int32) (ST : Nat → TT) (now : Int32) (rnd : Int64) (jm : Int32) (rp : Int32) (sc : Int32) (dc : Int32) (cn : Int32) (sUp : Nat → Int32) (sLen : Nat → Int32) (sWrk : Nat → Int32) (sReg : Nat → Int32) (sFst : Nat → Int32) (sLst : Nat → Int32) (dPol : Nat → Int32) (dPtr : Nat → Int32) (dCnt : Nat → Int32) (dIdl : Nat → Nat → Int32) (dKnw : Nat → Nat → Int32) (jCnt : Int32) (jFin : Int32) (jBeg : Int32) (jWs : Int32) (jMis : Int32) (jSrv : Nat → Int32) (jLft : Nat → Int32) (jSub : Nat → Int32) (jWai : Nat → Int32) (jNxt : Nat → Int32) (cnd : Nat → Int32) (ov : Int64) (k : Int32 → Nat → (Nat → Nat) → Int32 → (Nat → TT) → Int32 → Int64 → Int32 → Int32 → Int32 → Int32 → Int32 → (Nat → Int32) → (Nat → Int32) → (Nat → Int32) → (Nat → Int32) → (Nat → Int32) → (Nat → Int32) → (Nat → Int32) → (Nat → Int32) → (Nat → Int32) → (Nat → Nat → Int32) → (Nat → Nat → Int32) → Int32 → Int32 → Int32 → Int32 → Int32 → (Nat → Int32) → (Nat → Int32) → (Nat → Int32) → (Nat → Int32) → (Nat → Int32) → (Nat → Int32) → Int64 → Prop) : Prop := wp_X4_undo cur sav cnt (fun r1 cur_2 sav_3 cnt_4 => ∀ ST_5 : Nat → TT, ST_5 = (va_up ST cur (now, rnd, jm, rp, sc, dc, cn, sUp, sLen, sWrk, sReg, sFst, sLst, dPol, dPtr, dCnt, dIdl, dKnw, jCnt, jFin, jBeg, jWs, jMis, jSrv, jLft, jSub, jWai, jNxt, cnd)) → (∀ now_6 : Int32, now_6 = (ST_5 cur_2).1 → (∀ rnd_7 : Int64, rnd_7 = (ST_5 cur_2).2.1 → (∀ jm_8 : Int32, jm_8 = (ST_5 cur_2).2.2.1 → (∀ rp_9 : Int32, rp_9 = (ST_5 cur_2).2.2.2.1 → (∀ sc_10 : Int32, sc_10 = (ST_5 cur_2).2.2.2.2.1 → (∀ dc_11 : Int32, dc_11 = (ST_5 cur_2).2.2.2.2.2.1 → (∀ cn_12 : Int32, cn_12 = (ST_5 cur_2).2.2.2.2.2.2.1 → (∀ sUp_13 : Nat → Int32, sUp_13 = (ST_5 cur_2).2.2.2.2.2.2.2.1 → (∀ sLen_14 : Nat → Int32, sLen_14 = (ST_5 cur_2).2.2.2.2.2.2.2.2.1 → (∀ sWrk_15 : Nat → Int32, sWrk_15 = (ST_5 cur_2).2.2.2.2.2.2.2.2.2.1 → (∀ sReg_16 : Nat → Int32, sReg_16 = (ST_5 cur_2).2.2.2.2.2.2.2.2.2.2.1 → (∀ sFst_17 : Nat → Int32, sFst_17 = (ST_5 cur_2).2.2.2.2.2.2.2.2.2.2.2.1 → (∀ sLst_18 : Nat → Int32, sLst_18 = (ST_5 cur_2).2.2.2.2.2.2.2.2.2.2.2.2.1 → (∀ dPol_19 : Nat → Int32, dPol_19 = (ST_5 cur_2).2.2.2.2.2.2.2.2.2.2.2.2.2.1 → (∀ dPtr_20 : Nat → Int32, dPtr_20 = (ST_5 cur_2).2.2.2.2.2.2.2.2.2.2.2.2.2.2.1 → (∀ dCnt_21 : Nat → Int32, dCnt_21 = (ST_5 cur_2).2.2.2.2.2.2.2.2.2.2.2.2.2.2.2.1 → (∀ dIdl_22 : Nat → Nat → Int32, dIdl_22 = (ST_5 cur_2).2.2.2.2.2.2.2.2.2.2.2.2.2.2.2.2.1 → (∀ dKnw_23 : Nat → Nat → Int32, dKnw_23 = (ST_5 cur_2).2.2.2.2.2.2.2.2.2.2.2.2.2.2.2.2.2.1 → (∀ jCnt_24 : Int32, jCnt_24 = (ST_5 cur_2).2.2.2.2.2.2.2.2.2.2.2.2.2.2.2.2.2.2.1 → (∀ jFin_25 : Int32, jFin_25 = (ST_5 cur_2).2.2.2.2.2.2.2.2.2.2.2.2.2.2.2.2.2.2.2.1 → (∀ jBeg_26 : Int32, jBeg_26 = (ST_5 cur_2).2.2.2.2.2.2.2.2.2.2.2.2.2.2.2.2.2.2.2.2.1 → (∀ jWs_27 : Int32, jWs_27 = (ST_5 cur_2).2.2.2.2.2.2.2.2.2.2.2.2.2.2.2.2.2.2.2.2.2.1 → (∀ jMis_28 : Int32, jMis_28 = (ST_5 cur_2).2.2.2.2.2.2.2.2.2.2.2.2.2.2.2.2.2.2.2.2.2.2.1 → (∀ jSrv_29 : Nat → Int32, jSrv_29 = (ST_5 cur_2).2.2.2.2.2.2.2.2.2.2.2.2.2.2.2.2.2.2.2.2.2.2.2.1 → (∀ jLft_30 : Nat → Int32, jLft_30 = (ST_5 cur_2).2.2.2.2.2.2.2.2.2.2.2.2.2.2.2.2.2.2.2.2.2.2.2.2.1 → (∀ jSub_31 : Nat → Int32, jSub_31 = (ST_5 cur_2).2.2.2.2.2.2.2.2.2.2.2.2.2.2.2.2.2.2.2.2.2.2.2.2.2.1 → (∀ jWai_32 : Nat → Int32, jWai_32 = (ST_5 cur_2).2.2.2.2.2.2.2.2.2.2.2.2.2.2.2.2.2.2.2.2.2.2.2.2.2.2.1 → (∀ jNxt_33 : Nat → Int32, jNxt_33 = (ST_5 cur_2).2.2.2.2.2.2.2.2.2.2.2.2.2.2.2.2.2.2.2.2.2.2.2.2.2.2.2.1 → (∀ cnd_34 : Nat → Int32, cnd_34 = (ST_5 cur_2).2.2.2.2.2.2.2.2.2.2.2.2.2.2.2.2.2.2.2.2.2.2.2.2.2.2.2.2 → (∀ x35 : Int64, x35 = r1.toInt64 → (k 0 cur_2 sav_3 cnt_4 ST_5 now_6 rnd_7 jm_8 rp_9 sc_10 dc_11 cn_12 sUp_13 sLen_14 sWrk_15 sReg_16 sFst_17 sLst_18 dPol_19 dPtr_20 dCnt_21 dIdl_22 dKnw_23 jCnt_24 jFin_25 jBeg_26 jWs_27 jMis_28 jSrv_29 jLft_30 jSub_31 jWai_32 jNxt_33 cnd_34 x35)))))))))))))))))))))))))))))))) (fun X9 => (X9 = "java/lang/IllegalStateException" ∧ (k 1 cur sav cnt ST now rnd jm rp sc dc cn sUp sLen sWrk sReg sFst sLst dPol dPtr dCnt dIdl dKnw jCnt jFin jBeg jWs jMis jSrv jLft jSub jWai jNxt cnd ov)))
set_option maxRecDepth 100000 in
set_option maxHeartbeats 4000000 in
theorem c_L_undo (l : Launch) (hlt : l.stackTraces = false) {E : EV} {b : Nat} {A : Nat → Prop} (hA : ∀ q, b ≤ q → A q) (cur : Nat) (sav : Nat → Nat) (cnt : Int32) (ST : Nat → TT) (now : Int32) (rnd : Int64) (jm : Int32) (rp : Int32) (sc : Int32) (dc : Int32) (cn : Int32) (sUp : Nat → Int32) (sLen : Nat → Int32) (sWrk : Nat → Int32) (sReg : Nat → Int32) (sFst : Nat → Int32) (sLst : Nat → Int32) (dPol : Nat → Int32) (dPtr : Nat → Int32) (dCnt : Nat → Int32) (dIdl : Nat → Nat → Int32) (dKnw : Nat → Nat → Int32) (jCnt : Int32) (jFin : Int32) (jBeg : Int32) (jWs : Int32) (jMis : Int32) (jSrv : Nat → Int32) (jLft : Nat → Int32) (jSub : Nat → Int32) (jWai : Nat → Int32) (jNxt : Nat → Int32) (cnd : Nat → Int32) (nw : Nat → Int32) (hi : Nat → Int32) (sv : Int32) (th : Int32) (cd : Nat → Int32) (ha : Int64) (ov : Int64) (hcur : cur < 4)   (k : Int32 → Nat → (Nat → Nat) → Int32 → (Nat → TT) → Int32 → Int64 → Int32 → Int32 → Int32 → Int32 → Int32 → (Nat → Int32) → (Nat → Int32) → (Nat → Int32) → (Nat → Int32) → (Nat → Int32) → (Nat → Int32) → (Nat → Int32) → (Nat → Int32) → (Nat → Int32) → (Nat → Nat → Int32) → (Nat → Nat → Int32) → Int32 → Int32 → Int32 → Int32 → Int32 → (Nat → Int32) → (Nat → Int32) → (Nat → Int32) → (Nat → Int32) → (Nat → Int32) → (Nat → Int32) → Int64 → Prop) (h : wp_L_undo cur sav cnt ST now rnd jm rp sc dc cn sUp sLen sWrk sReg sFst sLst dPol dPtr dCnt dIdl dKnw jCnt jFin jBeg jWs jMis jSrv jLft jSub jWai jNxt cnd ov  k) : Met l yL_undo wsL_undo { frames := 7, cells := 1, slots := 6, locals := 111 } (va_Pc [.ref b, .ref (b + 126)] (fun U => XF (LX E b nw hi sv th cd ha ov) cur sav cnt ST now rnd jm rp sc dc cn sUp sLen sWrk sReg sFst sLst dPol dPtr dCnt dIdl dKnw jCnt jFin jBeg jWs jMis jSrv jLft jSub jWai jNxt cnd U.heap ∧ XL E A U)) (kQi (fun r H => ∃ cur9 : Nat, ∃ sav9 : Nat → Nat, ∃ cnt9 : Int32, ∃ ST9 : Nat → TT, ∃ now9 : Int32, ∃ rnd9 : Int64, ∃ jm9 : Int32, ∃ rp9 : Int32, ∃ sc9 : Int32, ∃ dc9 : Int32, ∃ cn9 : Int32, ∃ sUp9 : Nat → Int32, ∃ sLen9 : Nat → Int32, ∃ sWrk9 : Nat → Int32, ∃ sReg9 : Nat → Int32, ∃ sFst9 : Nat → Int32, ∃ sLst9 : Nat → Int32, ∃ dPol9 : Nat → Int32, ∃ dPtr9 : Nat → Int32, ∃ dCnt9 : Nat → Int32, ∃ dIdl9 : Nat → Nat → Int32, ∃ dKnw9 : Nat → Nat → Int32, ∃ jCnt9 : Int32, ∃ jFin9 : Int32, ∃ jBeg9 : Int32, ∃ jWs9 : Int32, ∃ jMis9 : Int32, ∃ jSrv9 : Nat → Int32, ∃ jLft9 : Nat → Int32, ∃ jSub9 : Nat → Int32, ∃ jWai9 : Nat → Int32, ∃ jNxt9 : Nat → Int32, ∃ cnd9 : Nat → Int32, ∃ ov9 : Int64, k r cur9 sav9 cnt9 ST9 now9 rnd9 jm9 rp9 sc9 dc9 cn9 sUp9 sLen9 sWrk9 sReg9 sFst9 sLst9 dPol9 dPtr9 dCnt9 dIdl9 dKnw9 jCnt9 jFin9 jBeg9 jWs9 jMis9 jSrv9 jLft9 jSub9 jWai9 jNxt9 cnd9 ov9 ∧ XF (LX E b nw hi sv th cd ha ov9) cur9 sav9 cnt9 ST9 now9 rnd9 jm9 rp9 sc9 dc9 cn9 sUp9 sLen9 sWrk9 sReg9 sFst9 sLst9 dPol9 dPtr9 dCnt9 dIdl9 dKnw9 jCnt9 jFin9 jBeg9 jWs9 jMis9 jSrv9 jLft9 jSub9 jWai9 jNxt9 cnd9 H) A) 1 6 A := by
  refine kl_body (cc := cL_undo) (own := RL) (maxL := 3) (ret := (some .int)) (hh := [(0, 8, 11, 13)]) (lv0 := [(0, .ref b), (1, .ref (b + 126))]) (by decide) rfl rfl (Nat.le_of_ble_eq_true rfl) rfl (fun p e s m below meth c C hr hlk htab hP hX => ?_)
  have hE := hX.1.1
  have lk0 := C.2.2.2.2 (.classLink RL 13 "java/lang/IllegalStateException") (by decide +kernel)
  refine k_aload_n C dL_undo_0 1 rfl ?_
  refine k_iconst (v := 0) C dL_undo_1 (by decide) ?_
  refine k_aload_n C dL_undo_2 0 rfl ?_
  refine k_pre (P2 := LX E b nw hi sv th cd ha ov cur sav cnt (va_up ST cur (now, rnd, jm, rp, sc, dc, cn, sUp, sLen, sWrk, sReg, sFst, sLst, dPol, dPtr, dCnt, dIdl, dKnw, jCnt, jFin, jBeg, jWs, jMis, jSrv, jLft, jSub, jWai, jNxt, cnd))) xf_to ?_
  refine kl_callVi (st := [.int 0, .ref (b + 126)]) C hX (c_X4_undo l hlt (focL_x E b) (fun q hq => hA q hq.1) cur sav cnt (va_up ST cur (now, rnd, jm, rp, sc, dc, cn, sUp, sLen, sWrk, sReg, sFst, sLst, dPol, dPtr, dCnt, dIdl, dKnw, jCnt, jFin, jBeg, jWs, jMis, jSrv, jLft, jSub, jWai, jNxt, cnd))  _ _ h) (cwV 0 C.2.2.2.2 gL_undo_X4_undo rfl rfl rfl (by decide +kernel) ⟨Nat.le_of_ble_eq_true rfl, Nat.le_of_ble_eq_true rfl⟩) (fun H hP => va_recv hE.1 (k_one hP.1.1) rfl (q0 := 0) rfl) rfl rfl (Nat.le_of_ble_eq_true rfl) dL_undo_3 ⟨Nat.le_of_ble_eq_true rfl, Nat.le_of_ble_eq_true rfl⟩ (fun X9 => kxj_and (fun hx => ?_)) (fun r1 => ?_)
  · rcases hx with ⟨rfl, h⟩
    · refine kj_catch C [] ⟨0, 8, 11, 13⟩ [] htab (fun z hz => nomatch hz) (by decide) (by decide) lk0 hX.1.2.2.1.1 (fun q9 => ?_)
      refine k_pre (P2 := XF (LX E b nw hi sv th cd ha ov) cur sav cnt ST now rnd jm rp sc dc cn sUp sLen sWrk sReg sFst sLst dPol dPtr dCnt dIdl dKnw jCnt jFin jBeg jWs jMis jSrv jLft jSub jWai jNxt cnd) (fun H hP => hP) ?_
      refine k_astore_n (lv' := [(2, .ref q9), (0, .ref b), (1, .ref (b + 126))]) C dL_undo_11 rfl (by decide) rfl ?_
      refine k_iconst (v := 1) C dL_undo_12 (by decide) ?_
      exact k_mret C hr hlk (Nat.le_of_ble_eq_true rfl) (Nat.le_of_ble_eq_true rfl) dL_undo_13 (fun H hP => ⟨cur, sav, cnt, ST, now, rnd, jm, rp, sc, dc, cn, sUp, sLen, sWrk, sReg, sFst, sLst, dPol, dPtr, dCnt, dIdl, dKnw, jCnt, jFin, jBeg, jWs, jMis, jSrv, jLft, jSub, jWai, jNxt, cnd, ov, h, hP⟩)
  refine k_ex (fun cur_2 => k_ex (fun sav_3 => k_ex (fun cnt_4 => k_and (fun h => ?_))))
  obtain ⟨ST_5, eST_5⟩ : ∃ z : Nat → TT, z = (va_up ST cur (now, rnd, jm, rp, sc, dc, cn, sUp, sLen, sWrk, sReg, sFst, sLst, dPol, dPtr, dCnt, dIdl, dKnw, jCnt, jFin, jBeg, jWs, jMis, jSrv, jLft, jSub, jWai, jNxt, cnd)) := ⟨_, rfl⟩
  replace h := h ST_5 eST_5
  obtain ⟨now_6, enow_6⟩ : ∃ z : Int32, z = (ST_5 cur_2).1 := ⟨_, rfl⟩
  replace h := h now_6 enow_6
  obtain ⟨rnd_7, ernd_7⟩ : ∃ z : Int64, z = (ST_5 cur_2).2.1 := ⟨_, rfl⟩
  replace h := h rnd_7 ernd_7
  obtain ⟨jm_8, ejm_8⟩ : ∃ z : Int32, z = (ST_5 cur_2).2.2.1 := ⟨_, rfl⟩
  replace h := h jm_8 ejm_8
  obtain ⟨rp_9, erp_9⟩ : ∃ z : Int32, z = (ST_5 cur_2).2.2.2.1 := ⟨_, rfl⟩
  replace h := h rp_9 erp_9
  obtain ⟨sc_10, esc_10⟩ : ∃ z : Int32, z = (ST_5 cur_2).2.2.2.2.1 := ⟨_, rfl⟩
  replace h := h sc_10 esc_10
  obtain ⟨dc_11, edc_11⟩ : ∃ z : Int32, z = (ST_5 cur_2).2.2.2.2.2.1 := ⟨_, rfl⟩
  replace h := h dc_11 edc_11
  obtain ⟨cn_12, ecn_12⟩ : ∃ z : Int32, z = (ST_5 cur_2).2.2.2.2.2.2.1 := ⟨_, rfl⟩
  replace h := h cn_12 ecn_12
  obtain ⟨sUp_13, esUp_13⟩ : ∃ z : Nat → Int32, z = (ST_5 cur_2).2.2.2.2.2.2.2.1 := ⟨_, rfl⟩
  replace h := h sUp_13 esUp_13
  obtain ⟨sLen_14, esLen_14⟩ : ∃ z : Nat → Int32, z = (ST_5 cur_2).2.2.2.2.2.2.2.2.1 := ⟨_, rfl⟩
  replace h := h sLen_14 esLen_14
  obtain ⟨sWrk_15, esWrk_15⟩ : ∃ z : Nat → Int32, z = (ST_5 cur_2).2.2.2.2.2.2.2.2.2.1 := ⟨_, rfl⟩
  replace h := h sWrk_15 esWrk_15
  obtain ⟨sReg_16, esReg_16⟩ : ∃ z : Nat → Int32, z = (ST_5 cur_2).2.2.2.2.2.2.2.2.2.2.1 := ⟨_, rfl⟩
  replace h := h sReg_16 esReg_16
  obtain ⟨sFst_17, esFst_17⟩ : ∃ z : Nat → Int32, z = (ST_5 cur_2).2.2.2.2.2.2.2.2.2.2.2.1 := ⟨_, rfl⟩
  replace h := h sFst_17 esFst_17
  obtain ⟨sLst_18, esLst_18⟩ : ∃ z : Nat → Int32, z = (ST_5 cur_2).2.2.2.2.2.2.2.2.2.2.2.2.1 := ⟨_, rfl⟩
  replace h := h sLst_18 esLst_18
  obtain ⟨dPol_19, edPol_19⟩ : ∃ z : Nat → Int32, z = (ST_5 cur_2).2.2.2.2.2.2.2.2.2.2.2.2.2.1 := ⟨_, rfl⟩
  replace h := h dPol_19 edPol_19
  obtain ⟨dPtr_20, edPtr_20⟩ : ∃ z : Nat → Int32, z = (ST_5 cur_2).2.2.2.2.2.2.2.2.2.2.2.2.2.2.1 := ⟨_, rfl⟩
  replace h := h dPtr_20 edPtr_20
  obtain ⟨dCnt_21, edCnt_21⟩ : ∃ z : Nat → Int32, z = (ST_5 cur_2).2.2.2.2.2.2.2.2.2.2.2.2.2.2.2.1 := ⟨_, rfl⟩
  replace h := h dCnt_21 edCnt_21
  obtain ⟨dIdl_22, edIdl_22⟩ : ∃ z : Nat → Nat → Int32, z = (ST_5 cur_2).2.2.2.2.2.2.2.2.2.2.2.2.2.2.2.2.1 := ⟨_, rfl⟩
  replace h := h dIdl_22 edIdl_22
  obtain ⟨dKnw_23, edKnw_23⟩ : ∃ z : Nat → Nat → Int32, z = (ST_5 cur_2).2.2.2.2.2.2.2.2.2.2.2.2.2.2.2.2.2.1 := ⟨_, rfl⟩
  replace h := h dKnw_23 edKnw_23
  obtain ⟨jCnt_24, ejCnt_24⟩ : ∃ z : Int32, z = (ST_5 cur_2).2.2.2.2.2.2.2.2.2.2.2.2.2.2.2.2.2.2.1 := ⟨_, rfl⟩
  replace h := h jCnt_24 ejCnt_24
  obtain ⟨jFin_25, ejFin_25⟩ : ∃ z : Int32, z = (ST_5 cur_2).2.2.2.2.2.2.2.2.2.2.2.2.2.2.2.2.2.2.2.1 := ⟨_, rfl⟩
  replace h := h jFin_25 ejFin_25
  obtain ⟨jBeg_26, ejBeg_26⟩ : ∃ z : Int32, z = (ST_5 cur_2).2.2.2.2.2.2.2.2.2.2.2.2.2.2.2.2.2.2.2.2.1 := ⟨_, rfl⟩
  replace h := h jBeg_26 ejBeg_26
  obtain ⟨jWs_27, ejWs_27⟩ : ∃ z : Int32, z = (ST_5 cur_2).2.2.2.2.2.2.2.2.2.2.2.2.2.2.2.2.2.2.2.2.2.1 := ⟨_, rfl⟩
  replace h := h jWs_27 ejWs_27
  obtain ⟨jMis_28, ejMis_28⟩ : ∃ z : Int32, z = (ST_5 cur_2).2.2.2.2.2.2.2.2.2.2.2.2.2.2.2.2.2.2.2.2.2.2.1 := ⟨_, rfl⟩
  replace h := h jMis_28 ejMis_28
  obtain ⟨jSrv_29, ejSrv_29⟩ : ∃ z : Nat → Int32, z = (ST_5 cur_2).2.2.2.2.2.2.2.2.2.2.2.2.2.2.2.2.2.2.2.2.2.2.2.1 := ⟨_, rfl⟩
  replace h := h jSrv_29 ejSrv_29
  obtain ⟨jLft_30, ejLft_30⟩ : ∃ z : Nat → Int32, z = (ST_5 cur_2).2.2.2.2.2.2.2.2.2.2.2.2.2.2.2.2.2.2.2.2.2.2.2.2.1 := ⟨_, rfl⟩
  replace h := h jLft_30 ejLft_30
  obtain ⟨jSub_31, ejSub_31⟩ : ∃ z : Nat → Int32, z = (ST_5 cur_2).2.2.2.2.2.2.2.2.2.2.2.2.2.2.2.2.2.2.2.2.2.2.2.2.2.1 := ⟨_, rfl⟩
  replace h := h jSub_31 ejSub_31
  obtain ⟨jWai_32, ejWai_32⟩ : ∃ z : Nat → Int32, z = (ST_5 cur_2).2.2.2.2.2.2.2.2.2.2.2.2.2.2.2.2.2.2.2.2.2.2.2.2.2.2.1 := ⟨_, rfl⟩
  replace h := h jWai_32 ejWai_32
  obtain ⟨jNxt_33, ejNxt_33⟩ : ∃ z : Nat → Int32, z = (ST_5 cur_2).2.2.2.2.2.2.2.2.2.2.2.2.2.2.2.2.2.2.2.2.2.2.2.2.2.2.2.1 := ⟨_, rfl⟩
  replace h := h jNxt_33 ejNxt_33
  obtain ⟨cnd_34, ecnd_34⟩ : ∃ z : Nat → Int32, z = (ST_5 cur_2).2.2.2.2.2.2.2.2.2.2.2.2.2.2.2.2.2.2.2.2.2.2.2.2.2.2.2.2 := ⟨_, rfl⟩
  replace h := h cnd_34 ecnd_34
  refine k_pre (P2 := XF (LX E b nw hi sv th cd ha ov) cur_2 sav_3 cnt_4 ST_5 now_6 rnd_7 jm_8 rp_9 sc_10 dc_11 cn_12 sUp_13 sLen_14 sWrk_15 sReg_16 sFst_17 sLst_18 dPol_19 dPtr_20 dCnt_21 dIdl_22 dKnw_23 jCnt_24 jFin_25 jBeg_26 jWs_27 jMis_28 jSrv_29 jLft_30 jSub_31 jWai_32 jNxt_33 cnd_34) (fun H hP => xf_of (by rw [enow_6, ernd_7, ejm_8, erp_9, esc_10, edc_11, ecn_12, esUp_13, esLen_14, esWrk_15, esReg_16, esFst_17, esLst_18, edPol_19, edPtr_20, edCnt_21, edIdl_22, edKnw_23, ejCnt_24, ejFin_25, ejBeg_26, ejWs_27, ejMis_28, ejSrv_29, ejLft_30, ejSub_31, ejWai_32, ejNxt_33, ecnd_34]) H (by rw [eST_5]; exact hP)) ?_
  refine k_i2l C dL_undo_6 ?_
  refine k_topl (fun x35 ex35 => ?_)
  replace h := h x35 ex35
  refine l_put C hA hE.1 dL_undo_7 ?_
  refine k_goto (tgt := 14) C dL_undo_8 (by decide) ?_
  refine k_iconst (v := 0) C dL_undo_14 (by decide) ?_
  exact k_mret C hr hlk (Nat.le_of_ble_eq_true rfl) (Nat.le_of_ble_eq_true rfl) dL_undo_15 (fun H hP => ⟨cur_2, sav_3, cnt_4, ST_5, now_6, rnd_7, jm_8, rp_9, sc_10, dc_11, cn_12, sUp_13, sLen_14, sWrk_15, sReg_16, sFst_17, sLst_18, dPol_19, dPtr_20, dCnt_21, dIdl_22, dKnw_23, jCnt_24, jFin_25, jBeg_26, jWs_27, jMis_28, jSrv_29, jLft_30, jSub_31, jWai_32, jNxt_33, cnd_34, x35, h, hP⟩)
