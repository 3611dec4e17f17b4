noncomputable def wp_L_c0 (cur : Nat) (i : Int32) (sav : Nat → Nat) (cnt : Int32) (ST : Nat → TT) (now : Int32) (rnd : Int64) (jm : Int32) (rp : Int32) (sc : Int32) (dc : Int32) (cn : Int32) (sUp : Nat → Int32) (sLen : Nat → Int32) (sWrk : Nat → Int32) (sReg : Nat → Int32) (sFst : Nat → Int32) (sLst : Nat → Int32) (dPol : Nat → Int32) (dPtr : Nat → Int32) (dCnt : Nat → Int32) (dIdl : Nat → Nat → Int32) (dKnw : Nat → Nat → Int32) (jCnt : Int32) (jFin : Int32) (jBeg : Int32) (jWs : Int32) (jMis : Int32) (jSrv : Nat → Int32) (jLft : Nat → Int32) (jSub : Nat → Int32) (jWai : Nat → Int32) (jNxt : Nat → Int32) (cnd : Nat → Int32) (nw : Nat → Int32) (hi : Nat → Int32) (sv : Int32) (cd : Nat → Int32) (ha : Int64) (ov : Int64) (rec23 : Int32 → Nat → (Nat → Nat) → Int32 → (Nat → TT) → Int32 → Int64 → Int32 → Int32 → Int32 → Int32 → Int32 → (Nat → Int32) → (Nat → Int32) → (Nat → Int32) → (Nat → Int32) → (Nat → Int32) → (Nat → Int32) → (Nat → Int32) → (Nat → Int32) → (Nat → Int32) → (Nat → Nat → Int32) → (Nat → Nat → Int32) → Int32 → Int32 → Int32 → Int32 → Int32 → (Nat → Int32) → (Nat → Int32) → (Nat → Int32) → (Nat → Int32) → (Nat → Int32) → (Nat → Int32) → (Nat → Int32) → (Nat → Int32) → Int32 → Int32 → (Nat → Int32) → Int64 → Int64 → Prop) : Prop := cur < 4 ∧ (wp_L_addServer cur sav cnt ST now rnd jm rp sc dc cn sUp sLen sWrk sReg sFst sLst dPol dPtr dCnt dIdl dKnw jCnt jFin jBeg jWs jMis jSrv jLft jSub jWai jNxt cnd ov (fun r1 sav_2 cnt_3 ST_4 rnd_5 sc_6 cn_7 sReg_8 dCnt_9 dIdl_10 cnd_11 ov_12 => wp_X5_addServer nw hi sv (fun r13 nw_14 hi_15 sv_16 th_17 => wp_X5_thrown th_17 (fun r18 => (r18 = r1 → ((r1 = 0 → (((lg_cmp ov_12 (r13.toInt64)) = 0 → (∀ x23 : Int32, x23 = i + 3 → (rec23 x23 cur sav_2 cnt_3 ST_4 now rnd_5 jm rp sc_6 dc cn_7 sUp sLen sWrk sReg_8 sFst sLst dPol dPtr dCnt_9 dIdl_10 dKnw jCnt jFin jBeg jWs jMis jSrv jLft jSub jWai jNxt cnd_11 nw_14 hi_15 sv_16 th_17 cd ha ov_12))) ∧ (¬ ((lg_cmp ov_12 (r13.toInt64)) = 0) → (False)))) ∧ (¬ r1 = 0 → (∀ x21 : Int32, x21 = i + 3 → (rec23 x21 cur sav_2 cnt_3 ST_4 now rnd_5 jm rp sc_6 dc cn_7 sUp sLen sWrk sReg_8 sFst sLst dPol dPtr dCnt_9 dIdl_10 dKnw jCnt jFin jBeg jWs jMis jSrv jLft jSub jWai jNxt cnd_11 nw_14 hi_15 sv_16 th_17 cd ha ov_12))))) ∧ (¬ (r18 = r1) → (False))))))
set_option maxRecDepth 100000 in
set_option maxHeartbeats 4000000 in
theorem kc_0 {p : Program} {l : Launch} {e : Env} {s : State} {m : MethodId} {args : Array Value} {below : List Frame} {meth : Method} {c : Code} {Q : State → Prop} {A : Nat → Prop} {E : EV} {b bs L : Nat} {xs : Nat → Int32} {cells slots : Nat} (C : CallFix p m c cL_law 9 s args wsL_law RL) (hlt : l.stackTraces = false) (hA : ∀ q, b ≤ q → A q) (hX : XL E A s) (hScr : va_X bs L xs s s.heap) (hbl : bs < s.heap.size) (hbA : ¬ A bs) (hcl : cells + 4 ≤ room_1.cells) (hsl : slots + 24 ≤ room_1.slots) (rec23 : Int32 → Nat → (Nat → Nat) → Int32 → (Nat → TT) → Int32 → Int64 → Int32 → Int32 → Int32 → Int32 → Int32 → (Nat → Int32) → (Nat → Int32) → (Nat → Int32) → (Nat → Int32) → (Nat → Int32) → (Nat → Int32) → (Nat → Int32) → (Nat → Int32) → (Nat → Int32) → (Nat → Nat → Int32) → (Nat → Nat → Int32) → Int32 → Int32 → Int32 → Int32 → Int32 → (Nat → Int32) → (Nat → Int32) → (Nat → Int32) → (Nat → Int32) → (Nat → Int32) → (Nat → Int32) → (Nat → Int32) → (Nat → Int32) → Int32 → Int32 → (Nat → Int32) → Int64 → Int64 → Prop) (ih23 : ∀ (i : Int32) (cur : Nat) (sav : Nat → Nat) (cnt : Int32) (ST : Nat → TT) (now : Int32) (rnd : Int64) (jm : Int32) (rp : Int32) (sc : Int32) (dc : Int32) (cn : Int32) (sUp : Nat → Int32) (sLen : Nat → Int32) (sWrk : Nat → Int32) (sReg : Nat → Int32) (sFst : Nat → Int32) (sLst : Nat → Int32) (dPol : Nat → Int32) (dPtr : Nat → Int32) (dCnt : Nat → Int32) (dIdl : Nat → Nat → Int32) (dKnw : Nat → Nat → Int32) (jCnt : Int32) (jFin : Int32) (jBeg : Int32) (jWs : Int32) (jMis : Int32) (jSrv : Nat → Int32) (jLft : Nat → Int32) (jSub : Nat → Int32) (jWai : Nat → Int32) (jNxt : Nat → Int32) (cnd : Nat → Int32) (nw : Nat → Int32) (hi : Nat → Int32) (sv : Int32) (th : Int32) (cd : Nat → Int32) (ha : Int64) (ov : Int64), rec23 i cur sav cnt ST now rnd jm rp sc dc cn sUp sLen sWrk sReg sFst sLst dPol dPtr dCnt dIdl dKnw jCnt jFin jBeg jWs jMis jSrv jLft jSub jWai jNxt cnd nw hi sv th cd ha ov → KJ p l e room_1 s m args below meth c 9 A (cells + 4) (slots + 24) Q (XF (LX E b nw hi sv th cd ha ov) cur sav cnt ST now rnd jm rp sc dc cn sUp sLen sWrk sReg sFst sLst dPol dPtr dCnt dIdl dKnw jCnt jFin jBeg jWs jMis jSrv jLft jSub jWai jNxt cnd) 23 [(4, .int i), (3, .ref (b + 126)), (2, .ref (b + 122)), (1, .ref b), (0, .ref bs)] []) (i : Int32) (cur : Nat) (sav : Nat → Nat) (cnt : Int32) (ST : Nat → TT) (now : Int32) (rnd : Int64) (jm : Int32) (rp : Int32) (sc : Int32) (dc : Int32) (cn : Int32) (sUp : Nat → Int32) (sLen : Nat → Int32) (sWrk : Nat → Int32) (sReg : Nat → Int32) (sFst : Nat → Int32) (sLst : Nat → Int32) (dPol : Nat → Int32) (dPtr : Nat → Int32) (dCnt : Nat → Int32) (dIdl : Nat → Nat → Int32) (dKnw : Nat → Nat → Int32) (jCnt : Int32) (jFin : Int32) (jBeg : Int32) (jWs : Int32) (jMis : Int32) (jSrv : Nat → Int32) (jLft : Nat → Int32) (jSub : Nat → Int32) (jWai : Nat → Int32) (jNxt : Nat → Int32) (cnd : Nat → Int32) (nw : Nat → Int32) (hi : Nat → Int32) (sv : Int32) (th : Int32) (cd : Nat → Int32) (ha : Int64) (ov : Int64) (h : wp_L_c0 cur i sav cnt ST now rnd jm rp sc dc cn sUp sLen sWrk sReg sFst sLst dPol dPtr dCnt dIdl dKnw jCnt jFin jBeg jWs jMis jSrv jLft jSub jWai jNxt cnd nw hi sv cd ha ov rec23) : KJ p l e room_1 s m args below meth c 9 A cells slots Q (XF (LX E b nw hi sv th cd ha ov) cur sav cnt ST now rnd jm rp sc dc cn sUp sLen sWrk sReg sFst sLst dPol dPtr dCnt dIdl dKnw jCnt jFin jBeg jWs jMis jSrv jLft jSub jWai jNxt cnd) 152 [(4, .int i), (3, .ref (b + 126)), (2, .ref (b + 122)), (1, .ref b), (0, .ref bs)] [] := by
  have hE := hX.1.1
  obtain ⟨hcur, h⟩ := h
  refine k_aload_n C dL_law_152 3 rfl ?_
  refine k_aload_n C dL_law_153 1 rfl ?_
  refine k_callWi (st := []) C hX (c_L_addServer l hlt hA cur sav cnt ST now rnd jm rp sc dc cn sUp sLen sWrk sReg sFst sLst dPol dPtr dCnt dIdl dKnw jCnt jFin jBeg jWs jMis jSrv jLft jSub jWai jNxt cnd nw hi sv th cd ha ov hcur  _ h) (vx_cwSW (hh := [(0, 8, 11, 13)]) 2 C.2.2.2.2 gL_law_L_addServer rfl rfl rfl (by decide +kernel) ⟨Nat.le_of_ble_eq_true rfl, Nat.le_of_ble_eq_true rfl⟩) rfl rfl (Nat.le_of_ble_eq_true rfl) dL_law_154 ⟨by omega, by omega⟩ (fun r1 => ?_)
  refine k_ex (fun sav_2 => k_ex (fun cnt_3 => k_ex (fun ST_4 => k_ex (fun rnd_5 => k_ex (fun sc_6 => k_ex (fun cn_7 => k_ex (fun sReg_8 => k_ex (fun dCnt_9 => k_ex (fun dIdl_10 => k_ex (fun cnd_11 => k_ex (fun ov_12 => k_and (fun h => ?_))))))))))))
  refine k_istore (lv' := [(5, .int r1), (4, .int i), (3, .ref (b + 126)), (2, .ref (b + 122)), (1, .ref b), (0, .ref bs)]) C dL_law_157 (by decide) rfl ?_
  refine k_aload_n C dL_law_159 3 rfl ?_
  refine k_callVi (st := []) C hE (c_X5_addServer l (P := (fun nw hi sv th cd ha => XF (LX E b nw hi sv th cd ha ov_12) cur sav_2 cnt_3 ST_4 now rnd_5 jm rp sc_6 dc cn_7 sUp sLen sWrk sReg_8 sFst sLst dPol dPtr dCnt_9 dIdl_10 dKnw jCnt jFin jBeg jWs jMis jSrv jLft jSub jWai jNxt cnd_11)) (focL_m E b) (fun q hq => hA q (Nat.le_trans (Nat.le_add_right _ _) hq.1)) nw hi sv th cd ha  _ h) (cwV 0 C.2.2.2.2 gL_law_X5_addServer rfl rfl rfl (by decide +kernel) ⟨Nat.le_of_ble_eq_true rfl, Nat.le_of_ble_eq_true rfl⟩) (fun H hP => va_recv hE.1 (k_one (mst_Mo hP.2.1)) rfl (q0 := 0) rfl) rfl rfl (Nat.le_of_ble_eq_true rfl) dL_law_160 ⟨by omega, by omega⟩ (fun r13 => ?_)
  refine k_ex (fun nw_14 => k_ex (fun hi_15 => k_ex (fun sv_16 => k_ex (fun th_17 => k_and (fun h => ?_)))))
  refine k_pre (P2 := XF (LX E b nw_14 hi_15 sv_16 th_17 cd ha ov_12) cur sav_2 cnt_3 ST_4 now rnd_5 jm rp sc_6 dc cn_7 sUp sLen sWrk sReg_8 sFst sLst dPol dPtr dCnt_9 dIdl_10 dKnw jCnt jFin jBeg jWs jMis jSrv jLft jSub jWai jNxt cnd_11) (fun H hP => hP) ?_
  refine k_istore (lv' := [(6, .int r13), (5, .int r1), (4, .int i), (3, .ref (b + 126)), (2, .ref (b + 122)), (1, .ref b), (0, .ref bs)]) C dL_law_163 (by decide) rfl ?_
  refine k_aload_n C dL_law_165 4 rfl ?_
  refine k_callVi (st := []) C hE (c_X5_thrown l (P := (fun nw hi sv th cd ha => XF (LX E b nw hi sv th cd ha ov_12) cur sav_2 cnt_3 ST_4 now rnd_5 jm rp sc_6 dc cn_7 sUp sLen sWrk sReg_8 sFst sLst dPol dPtr dCnt_9 dIdl_10 dKnw jCnt jFin jBeg jWs jMis jSrv jLft jSub jWai jNxt cnd_11)) (focL_m E b) (fun q hq => hA q (Nat.le_trans (Nat.le_add_right _ _) hq.1)) nw_14 hi_15 sv_16 th_17 cd ha  _ h) (cwV 0 C.2.2.2.2 gL_law_X5_thrown rfl rfl rfl (by decide +kernel) ⟨Nat.le_of_ble_eq_true rfl, Nat.le_of_ble_eq_true rfl⟩) (fun H hP => va_recv hE.1 (k_one (mst_Mo hP.2.1)) rfl (q0 := 0) rfl) rfl rfl (Nat.le_of_ble_eq_true rfl) dL_law_166 ⟨by omega, by omega⟩ (fun r18 => ?_)
  refine k_and (fun h => ?_)
  refine k_pre (P2 := XF (LX E b nw_14 hi_15 sv_16 th_17 cd ha ov_12) cur sav_2 cnt_3 ST_4 now rnd_5 jm rp sc_6 dc cn_7 sUp sLen sWrk sReg_8 sFst sLst dPol dPtr dCnt_9 dIdl_10 dKnw jCnt jFin jBeg jWs jMis jSrv jLft jSub jWai jNxt cnd_11) (fun H hP => hP) ?_
  refine k_iload C dL_law_169 1 rfl ?_
  refine k_icmp_eq (tgt := 176) C dL_law_171 (by decide) (fun c19 => ?_) (fun c19 => ?_)
  · replace h := h.1 c19
    refine k_iload C dL_law_176 1 rfl ?_
    refine k_if_ne (tgt := 193) C dL_law_178 (by decide) (fun c20 => ?_) (fun c20 => ?_)
    · replace h := h.2 c20
      refine k_goto (tgt := 1394) C dL_law_193 (by decide) ?_
      obtain ⟨x21, ex21⟩ : ∃ z : Int32, z = i + 3 := ⟨_, rfl⟩
      replace h := h x21 ex21
      refine k_iinc (v := x21) (lv' := [(4, .int x21), (6, .int r13), (5, .int r1), (3, .ref (b + 126)), (2, .ref (b + 122)), (1, .ref b), (0, .ref bs)]) (j := 2) C dL_law_1394 rfl (by rw [ex21]; rfl) (by decide) rfl ?_
      refine k_goto (tgt := 23) C dL_law_1397 (by decide) ?_
      refine k_wide (k2 := cells + 4) (n2 := slots + 24) (by omega) (by omega) ?_
      refine k_pc (pc2 := 23) rfl ?_
      refine k_sub [0, 3, 4, 5, 6] rfl ?_
      exact ih23 _ _ _ _ _ _ _ _ _ _ _ _ _ _ _ _ _ _ _ _ _ _ _ _ _ _ _ _ _ _ _ _ _ _ _ _ _ _ _ _ _ h
    · replace h := h.1 c20
      refine k_aload_n C dL_law_181 3 rfl ?_
      refine k_iconst (v := 0) C dL_law_182 (by decide) ?_
      refine l_get C hE.1 dL_law_183 ?_
      refine k_iload C dL_law_184 0 rfl ?_
      refine k_i2l C dL_law_186 ?_
      refine k_lcmp C dL_law_187 ?_
      refine k_if_eq (tgt := 193) C dL_law_188 (by decide) (fun c22 => ?_) (fun c22 => ?_)
      · replace h := h.1 c22
        refine k_goto (tgt := 1394) C dL_law_193 (by decide) ?_
        obtain ⟨x23, ex23⟩ : ∃ z : Int32, z = i + 3 := ⟨_, rfl⟩
        replace h := h x23 ex23
        refine k_iinc (v := x23) (lv' := [(4, .int x23), (6, .int r13), (5, .int r1), (3, .ref (b + 126)), (2, .ref (b + 122)), (1, .ref b), (0, .ref bs)]) (j := 2) C dL_law_1394 rfl (by rw [ex23]; rfl) (by decide) rfl ?_
        refine k_goto (tgt := 23) C dL_law_1397 (by decide) ?_
        refine k_wide (k2 := cells + 4) (n2 := slots + 24) (by omega) (by omega) ?_
        refine k_pc (pc2 := 23) rfl ?_
        refine k_sub [0, 3, 4, 5, 6] rfl ?_
        exact ih23 _ _ _ _ _ _ _ _ _ _ _ _ _ _ _ _ _ _ _ _ _ _ _ _ _ _ _ _ _ _ _ _ _ _ _ _ _ _ _ _ _ h
      · replace h := h.2 c22
        refine k_iconst (v := 0) C dL_law_191 (by decide) ?_
        exact h.elim
  · replace h := h.2 c19
    refine k_iconst (v := 0) C dL_law_174 (by decide) ?_
    exact h.elim
noncomputable def wp_L_c1 (cur : Nat) (L : Nat) (xs : Nat → Int32) (i : Int32) (sav : Nat → Nat) (cnt : Int32) (ST : Nat → TT) (now : Int32) (rnd : Int64) (jm : Int32) (rp : Int32) (sc : Int32) (dc : Int32) (cn : Int32) (sUp : Nat → Int32) (sLen : Nat → Int32) (sWrk : Nat → Int32) (sReg : Nat → Int32) (sFst : Nat → Int32) (sLst : Nat → Int32) (dPol : Nat → Int32) (dPtr : Nat → Int32) (dCnt : Nat → Int32) (dIdl : Nat → Nat → Int32) (dKnw : Nat → Nat → Int32) (jCnt : Int32) (jFin : Int32) (jBeg : Int32) (jWs : Int32) (jMis : Int32) (jSrv : Nat → Int32) (jLft : Nat → Int32) (jSub : Nat → Int32) (jWai : Nat → Int32) (jNxt : Nat → Int32) (cnd : Nat → Int32) (nw : Nat → Int32) (hi : Nat → Int32) (sv : Int32) (cd : Nat → Int32) (ha : Int64) (ov : Int64) (rec23 : Int32 → Nat → (Nat → Nat) → Int32 → (Nat → TT) → Int32 → Int64 → Int32 → Int32 → Int32 → Int32 → Int32 → (Nat → Int32) → (Nat → Int32) → (Nat → Int32) → (Nat → Int32) → (Nat → Int32) → (Nat → Int32) → (Nat → Int32) → (Nat → Int32) → (Nat → Int32) → (Nat → Nat → Int32) → (Nat → Nat → Int32) → Int32 → Int32 → Int32 → Int32 → Int32 → (Nat → Int32) → (Nat → Int32) → (Nat → Int32) → (Nat → Int32) → (Nat → Int32) → (Nat → Int32) → (Nat → Int32) → (Nat → Int32) → Int32 → Int32 → (Nat → Int32) → Int64 → Int64 → Prop) : Prop := cur < 4 ∧ ((vp_in (i + 1) L) ∧ (wp_L_addDispatcher cur sav cnt ST now rnd jm rp sc dc cn sUp sLen sWrk sReg sFst sLst dPol dPtr dCnt dIdl dKnw jCnt jFin jBeg jWs jMis jSrv jLft jSub jWai jNxt cnd ov (xs (i + 1).toNatClampNeg) (fun r2 sav_3 cnt_4 ST_5 dc_6 dPol_7 ov_8 => wp_X5_addDispatcher nw hi sv (xs (i + 1).toNatClampNeg) (fun r9 nw_10 hi_11 sv_12 th_13 => wp_X5_thrown th_13 (fun r14 => (r14 = r2 → ((r2 = 0 → (((lg_cmp ov_8 (r9.toInt64)) = 0 → (∀ x19 : Int32, x19 = i + 3 → (rec23 x19 cur sav_3 cnt_4 ST_5 now rnd jm rp sc dc_6 cn sUp sLen sWrk sReg sFst sLst dPol_7 dPtr dCnt dIdl dKnw jCnt jFin jBeg jWs jMis jSrv jLft jSub jWai jNxt cnd nw_10 hi_11 sv_12 th_13 cd ha ov_8))) ∧ (¬ ((lg_cmp ov_8 (r9.toInt64)) = 0) → (False)))) ∧ (¬ r2 = 0 → (∀ x17 : Int32, x17 = i + 3 → (rec23 x17 cur sav_3 cnt_4 ST_5 now rnd jm rp sc dc_6 cn sUp sLen sWrk sReg sFst sLst dPol_7 dPtr dCnt dIdl dKnw jCnt jFin jBeg jWs jMis jSrv jLft jSub jWai jNxt cnd nw_10 hi_11 sv_12 th_13 cd ha ov_8))))) ∧ (¬ (r14 = r2) → (False)))))))
set_option maxRecDepth 100000 in
set_option maxHeartbeats 4000000 in
theorem kc_1 {p : Program} {l : Launch} {e : Env} {s : State} {m : MethodId} {args : Array Value} {below : List Frame} {meth : Method} {c : Code} {Q : State → Prop} {A : Nat → Prop} {E : EV} {b bs L : Nat} {xs : Nat → Int32} {cells slots : Nat} (C : CallFix p m c cL_law 9 s args wsL_law RL) (hlt : l.stackTraces = false) (hA : ∀ q, b ≤ q → A q) (hX : XL E A s) (hScr : va_X bs L xs s s.heap) (hbl : bs < s.heap.size) (hbA : ¬ A bs) (hcl : cells + 4 ≤ room_1.cells) (hsl : slots + 24 ≤ room_1.slots) (rec23 : Int32 → Nat → (Nat → Nat) → Int32 → (Nat → TT) → Int32 → Int64 → Int32 → Int32 → Int32 → Int32 → Int32 → (Nat → Int32) → (Nat → Int32) → (Nat → Int32) → (Nat → Int32) → (Nat → Int32) → (Nat → Int32) → (Nat → Int32) → (Nat → Int32) → (Nat → Int32) → (Nat → Nat → Int32) → (Nat → Nat → Int32) → Int32 → Int32 → Int32 → Int32 → Int32 → (Nat → Int32) → (Nat → Int32) → (Nat → Int32) → (Nat → Int32) → (Nat → Int32) → (Nat → Int32) → (Nat → Int32) → (Nat → Int32) → Int32 → Int32 → (Nat → Int32) → Int64 → Int64 → Prop) (ih23 : ∀ (i : Int32) (cur : Nat) (sav : Nat → Nat) (cnt : Int32) (ST : Nat → TT) (now : Int32) (rnd : Int64) (jm : Int32) (rp : Int32) (sc : Int32) (dc : Int32) (cn : Int32) (sUp : Nat → Int32) (sLen : Nat → Int32) (sWrk : Nat → Int32) (sReg : Nat → Int32) (sFst : Nat → Int32) (sLst : Nat → Int32) (dPol : Nat → Int32) (dPtr : Nat → Int32) (dCnt : Nat → Int32) (dIdl : Nat → Nat → Int32) (dKnw : Nat → Nat → Int32) (jCnt : Int32) (jFin : Int32) (jBeg : Int32) (jWs : Int32) (jMis : Int32) (jSrv : Nat → Int32) (jLft : Nat → Int32) (jSub : Nat → Int32) (jWai : Nat → Int32) (jNxt : Nat → Int32) (cnd : Nat → Int32) (nw : Nat → Int32) (hi : Nat → Int32) (sv : Int32) (th : Int32) (cd : Nat → Int32) (ha : Int64) (ov : Int64), rec23 i cur sav cnt ST now rnd jm rp sc dc cn sUp sLen sWrk sReg sFst sLst dPol dPtr dCnt dIdl dKnw jCnt jFin jBeg jWs jMis jSrv jLft jSub jWai jNxt cnd nw hi sv th cd ha ov → KJ p l e room_1 s m args below meth c 9 A (cells + 4) (slots + 24) Q (XF (LX E b nw hi sv th cd ha ov) cur sav cnt ST now rnd jm rp sc dc cn sUp sLen sWrk sReg sFst sLst dPol dPtr dCnt dIdl dKnw jCnt jFin jBeg jWs jMis jSrv jLft jSub jWai jNxt cnd) 23 [(4, .int i), (3, .ref (b + 126)), (2, .ref (b + 122)), (1, .ref b), (0, .ref bs)] []) (i : Int32) (cur : Nat) (sav : Nat → Nat) (cnt : Int32) (ST : Nat → TT) (now : Int32) (rnd : Int64) (jm : Int32) (rp : Int32) (sc : Int32) (dc : Int32) (cn : Int32) (sUp : Nat → Int32) (sLen : Nat → Int32) (sWrk : Nat → Int32) (sReg : Nat → Int32) (sFst : Nat → Int32) (sLst : Nat → Int32) (dPol : Nat → Int32) (dPtr : Nat → Int32) (dCnt : Nat → Int32) (dIdl : Nat → Nat → Int32) (dKnw : Nat → Nat → Int32) (jCnt : Int32) (jFin : Int32) (jBeg : Int32) (jWs : Int32) (jMis : Int32) (jSrv : Nat → Int32) (jLft : Nat → Int32) (jSub : Nat → Int32) (jWai : Nat → Int32) (jNxt : Nat → Int32) (cnd : Nat → Int32) (nw : Nat → Int32) (hi : Nat → Int32) (sv : Int32) (th : Int32) (cd : Nat → Int32) (ha : Int64) (ov : Int64) (h : wp_L_c1 cur L xs i sav cnt ST now rnd jm rp sc dc cn sUp sLen sWrk sReg sFst sLst dPol dPtr dCnt dIdl dKnw jCnt jFin jBeg jWs jMis jSrv jLft jSub jWai jNxt cnd nw hi sv cd ha ov rec23) : KJ p l e room_1 s m args below meth c 9 A cells slots Q (XF (LX E b nw hi sv th cd ha ov) cur sav cnt ST now rnd jm rp sc dc cn sUp sLen sWrk sReg sFst sLst dPol dPtr dCnt dIdl dKnw jCnt jFin jBeg jWs jMis jSrv jLft jSub jWai jNxt cnd) 196 [(4, .int i), (3, .ref (b + 126)), (2, .ref (b + 122)), (1, .ref b), (0, .ref bs)] [] := by
  have hE := hX.1.1
  obtain ⟨hcur, h⟩ := h
  refine k_aload_n C dL_law_196 3 rfl ?_
  refine k_aload_n C dL_law_197 4 rfl ?_
  refine k_iload C dL_law_198 0 rfl ?_
  refine k_iconst (v := 1) C dL_law_200 (by decide) ?_
  refine k_iadd C dL_law_201 ?_
  obtain ⟨q1, h⟩ := h
  refine l_sld C hScr hbl hbA q1 dL_law_202 ?_
  refine k_aload_n C dL_law_203 1 rfl ?_
  refine k_callWi (st := []) C hX (c_L_addDispatcher l hlt hA cur sav cnt ST now rnd jm rp sc dc cn sUp sLen sWrk sReg sFst sLst dPol dPtr dCnt dIdl dKnw jCnt jFin jBeg jWs jMis jSrv jLft jSub jWai jNxt cnd nw hi sv th cd ha ov hcur (xs (i + 1).toNatClampNeg) _ h) (vx_cwSW (hh := [(0, 9, 12, 19), (0, 9, 15, 13)]) 3 C.2.2.2.2 gL_law_L_addDispatcher rfl rfl rfl (by decide +kernel) ⟨Nat.le_of_ble_eq_true rfl, Nat.le_of_ble_eq_true rfl⟩) rfl rfl (Nat.le_of_ble_eq_true rfl) dL_law_204 ⟨by omega, by omega⟩ (fun r2 => ?_)
  refine k_ex (fun sav_3 => k_ex (fun cnt_4 => k_ex (fun ST_5 => k_ex (fun dc_6 => k_ex (fun dPol_7 => k_ex (fun ov_8 => k_and (fun h => ?_)))))))
  refine k_istore (lv' := [(5, .int r2), (4, .int i), (3, .ref (b + 126)), (2, .ref (b + 122)), (1, .ref b), (0, .ref bs)]) C dL_law_207 (by decide) rfl ?_
  refine k_aload_n C dL_law_209 3 rfl ?_
  refine k_aload_n C dL_law_210 5 rfl ?_
  refine k_iload C dL_law_211 1 rfl ?_
  refine k_iconst (v := 1) C dL_law_213 (by decide) ?_
  refine k_iadd C dL_law_214 ?_
  refine l_sld C hScr hbl hbA q1 dL_law_215 ?_
  refine k_callVi (st := []) C hE (c_X5_addDispatcher l (P := (fun nw hi sv th cd ha => XF (LX E b nw hi sv th cd ha ov_8) cur sav_3 cnt_4 ST_5 now rnd jm rp sc dc_6 cn sUp sLen sWrk sReg sFst sLst dPol_7 dPtr dCnt dIdl dKnw jCnt jFin jBeg jWs jMis jSrv jLft jSub jWai jNxt cnd)) (focL_m E b) (fun q hq => hA q (Nat.le_trans (Nat.le_add_right _ _) hq.1)) nw hi sv th cd ha (xs (i + 1).toNatClampNeg) _ h) (cwV 1 C.2.2.2.2 gL_law_X5_addDispatcher rfl rfl rfl (by decide +kernel) ⟨Nat.le_of_ble_eq_true rfl, Nat.le_of_ble_eq_true rfl⟩) (fun H hP => va_recv hE.1 (k_one (mst_Mo hP.2.1)) rfl (q0 := 0) rfl) rfl rfl (Nat.le_of_ble_eq_true rfl) dL_law_216 ⟨by omega, by omega⟩ (fun r9 => ?_)
  refine k_ex (fun nw_10 => k_ex (fun hi_11 => k_ex (fun sv_12 => k_ex (fun th_13 => k_and (fun h => ?_)))))
  refine k_pre (P2 := XF (LX E b nw_10 hi_11 sv_12 th_13 cd ha ov_8) cur sav_3 cnt_4 ST_5 now rnd jm rp sc dc_6 cn sUp sLen sWrk sReg sFst sLst dPol_7 dPtr dCnt dIdl dKnw jCnt jFin jBeg jWs jMis jSrv jLft jSub jWai jNxt cnd) (fun H hP => hP) ?_
  refine k_istore (lv' := [(6, .int r9), (5, .int r2), (4, .int i), (3, .ref (b + 126)), (2, .ref (b + 122)), (1, .ref b), (0, .ref bs)]) C dL_law_219 (by decide) rfl ?_
  refine k_aload_n C dL_law_221 4 rfl ?_
  refine k_callVi (st := []) C hE (c_X5_thrown l (P := (fun nw hi sv th cd ha => XF (LX E b nw hi sv th cd ha ov_8) cur sav_3 cnt_4 ST_5 now rnd jm rp sc dc_6 cn sUp sLen sWrk sReg sFst sLst dPol_7 dPtr dCnt dIdl dKnw jCnt jFin jBeg jWs jMis jSrv jLft jSub jWai jNxt cnd)) (focL_m E b) (fun q hq => hA q (Nat.le_trans (Nat.le_add_right _ _) hq.1)) nw_10 hi_11 sv_12 th_13 cd ha  _ h) (cwV 0 C.2.2.2.2 gL_law_X5_thrown rfl rfl rfl (by decide +kernel) ⟨Nat.le_of_ble_eq_true rfl, Nat.le_of_ble_eq_true rfl⟩) (fun H hP => va_recv hE.1 (k_one (mst_Mo hP.2.1)) rfl (q0 := 0) rfl) rfl rfl (Nat.le_of_ble_eq_true rfl) dL_law_222 ⟨by omega, by omega⟩ (fun r14 => ?_)
  refine k_and (fun h => ?_)
  refine k_pre (P2 := XF (LX E b nw_10 hi_11 sv_12 th_13 cd ha ov_8) cur sav_3 cnt_4 ST_5 now rnd jm rp sc dc_6 cn sUp sLen sWrk sReg sFst sLst dPol_7 dPtr dCnt dIdl dKnw jCnt jFin jBeg jWs jMis jSrv jLft jSub jWai jNxt cnd) (fun H hP => hP) ?_
  refine k_iload C dL_law_225 1 rfl ?_
  refine k_icmp_eq (tgt := 232) C dL_law_227 (by decide) (fun c15 => ?_) (fun c15 => ?_)
  · replace h := h.1 c15
    refine k_iload C dL_law_232 1 rfl ?_
    refine k_if_ne (tgt := 249) C dL_law_234 (by decide) (fun c16 => ?_) (fun c16 => ?_)
    · replace h := h.2 c16
      refine k_goto (tgt := 1394) C dL_law_249 (by decide) ?_
      obtain ⟨x17, ex17⟩ : ∃ z : Int32, z = i + 3 := ⟨_, rfl⟩
      replace h := h x17 ex17
      refine k_iinc (v := x17) (lv' := [(4, .int x17), (6, .int r9), (5, .int r2), (3, .ref (b + 126)), (2, .ref (b + 122)), (1, .ref b), (0, .ref bs)]) (j := 2) C dL_law_1394 rfl (by rw [ex17]; rfl) (by decide) rfl ?_
      refine k_goto (tgt := 23) C dL_law_1397 (by decide) ?_
      refine k_wide (k2 := cells + 4) (n2 := slots + 24) (by omega) (by omega) ?_
      refine k_pc (pc2 := 23) rfl ?_
      refine k_sub [0, 3, 4, 5, 6] rfl ?_
      exact ih23 _ _ _ _ _ _ _ _ _ _ _ _ _ _ _ _ _ _ _ _ _ _ _ _ _ _ _ _ _ _ _ _ _ _ _ _ _ _ _ _ _ h
    · replace h := h.1 c16
      refine k_aload_n C dL_law_237 3 rfl ?_
      refine k_iconst (v := 0) C dL_law_238 (by decide) ?_
      refine l_get C hE.1 dL_law_239 ?_
      refine k_iload C dL_law_240 0 rfl ?_
      refine k_i2l C dL_law_242 ?_
      refine k_lcmp C dL_law_243 ?_
      refine k_if_eq (tgt := 249) C dL_law_244 (by decide) (fun c18 => ?_) (fun c18 => ?_)
      · replace h := h.1 c18
        refine k_goto (tgt := 1394) C dL_law_249 (by decide) ?_
        obtain ⟨x19, ex19⟩ : ∃ z : Int32, z = i + 3 := ⟨_, rfl⟩
        replace h := h x19 ex19
        refine k_iinc (v := x19) (lv' := [(4, .int x19), (6, .int r9), (5, .int r2), (3, .ref (b + 126)), (2, .ref (b + 122)), (1, .ref b), (0, .ref bs)]) (j := 2) C dL_law_1394 rfl (by rw [ex19]; rfl) (by decide) rfl ?_
        refine k_goto (tgt := 23) C dL_law_1397 (by decide) ?_
        refine k_wide (k2 := cells + 4) (n2 := slots + 24) (by omega) (by omega) ?_
        refine k_pc (pc2 := 23) rfl ?_
        refine k_sub [0, 3, 4, 5, 6] rfl ?_
        exact ih23 _ _ _ _ _ _ _ _ _ _ _ _ _ _ _ _ _ _ _ _ _ _ _ _ _ _ _ _ _ _ _ _ _ _ _ _ _ _ _ _ _ h
      · replace h := h.2 c18
        refine k_iconst (v := 0) C dL_law_247 (by decide) ?_
        exact h.elim
  · replace h := h.2 c15
    refine k_iconst (v := 0) C dL_law_230 (by decide) ?_
    exact h.elim
noncomputable def wp_L_c2 (cur : Nat) (L : Nat) (xs : Nat → Int32) (i : Int32) (sav : Nat → Nat) (cnt : Int32) (ST : Nat → TT) (now : Int32) (rnd : Int64) (jm : Int32) (rp : Int32) (sc : Int32) (dc : Int32) (cn : Int32) (sUp : Nat → Int32) (sLen : Nat → Int32) (sWrk : Nat → Int32) (sReg : Nat → Int32) (sFst : Nat → Int32) (sLst : Nat → Int32) (dPol : Nat → Int32) (dPtr : Nat → Int32) (dCnt : Nat → Int32) (dIdl : Nat → Nat → Int32) (dKnw : Nat → Nat → Int32) (jCnt : Int32) (jFin : Int32) (jBeg : Int32) (jWs : Int32) (jMis : Int32) (jSrv : Nat → Int32) (jLft : Nat → Int32) (jSub : Nat → Int32) (jWai : Nat → Int32) (jNxt : Nat → Int32) (cnd : Nat → Int32) (nw : Nat → Int32) (hi : Nat → Int32) (sv : Int32) (cd : Nat → Int32) (ha : Int64) (ov : Int64) (rec23 : Int32 → Nat → (Nat → Nat) → Int32 → (Nat → TT) → Int32 → Int64 → Int32 → Int32 → Int32 → Int32 → Int32 → (Nat → Int32) → (Nat → Int32) → (Nat → Int32) → (Nat → Int32) → (Nat → Int32) → (Nat → Int32) → (Nat → Int32) → (Nat → Int32) → (Nat → Int32) → (Nat → Nat → Int32) → (Nat → Nat → Int32) → Int32 → Int32 → Int32 → Int32 → Int32 → (Nat → Int32) → (Nat → Int32) → (Nat → Int32) → (Nat → Int32) → (Nat → Int32) → (Nat → Int32) → (Nat → Int32) → (Nat → Int32) → Int32 → Int32 → (Nat → Int32) → Int64 → Int64 → Prop) : Prop := cur < 4 ∧ ((vp_in (i + 1) L) ∧ ((vp_in (i + 2) L) ∧ (wp_L_setPolicy cur sav cnt ST now rnd jm rp sc dc cn sUp sLen sWrk sReg sFst sLst dPol dPtr dCnt dIdl dKnw jCnt jFin jBeg jWs jMis jSrv jLft jSub jWai jNxt cnd ov (xs (i + 1).toNatClampNeg) (xs (i + 2).toNatClampNeg) (fun r3 sav_4 cnt_5 ST_6 dPol_7 ov_8 => wp_X5_setPolicy nw hi sv (xs (i + 1).toNatClampNeg) (xs (i + 2).toNatClampNeg) (fun r9 nw_10 hi_11 sv_12 th_13 => wp_X5_thrown th_13 (fun r14 => (r14 = r3 → ((r3 = 0 → (((lg_cmp ov_8 (r9.toInt64)) = 0 → (∀ x19 : Int32, x19 = i + 3 → (rec23 x19 cur sav_4 cnt_5 ST_6 now rnd jm rp sc dc cn sUp sLen sWrk sReg sFst sLst dPol_7 dPtr dCnt dIdl dKnw jCnt jFin jBeg jWs jMis jSrv jLft jSub jWai jNxt cnd nw_10 hi_11 sv_12 th_13 cd ha ov_8))) ∧ (¬ ((lg_cmp ov_8 (r9.toInt64)) = 0) → (False)))) ∧ (¬ r3 = 0 → (∀ x17 : Int32, x17 = i + 3 → (rec23 x17 cur sav_4 cnt_5 ST_6 now rnd jm rp sc dc cn sUp sLen sWrk sReg sFst sLst dPol_7 dPtr dCnt dIdl dKnw jCnt jFin jBeg jWs jMis jSrv jLft jSub jWai jNxt cnd nw_10 hi_11 sv_12 th_13 cd ha ov_8))))) ∧ (¬ (r14 = r3) → (False))))))))
set_option maxRecDepth 100000 in
set_option maxHeartbeats 4000000 in
theorem kc_2 {p : Program} {l : Launch} {e : Env} {s : State} {m : MethodId} {args : Array Value} {below : List Frame} {meth : Method} {c : Code} {Q : State → Prop} {A : Nat → Prop} {E : EV} {b bs L : Nat} {xs : Nat → Int32} {cells slots : Nat} (C : CallFix p m c cL_law 9 s args wsL_law RL) (hlt : l.stackTraces = false) (hA : ∀ q, b ≤ q → A q) (hX : XL E A s) (hScr : va_X bs L xs s s.heap) (hbl : bs < s.heap.size) (hbA : ¬ A bs) (hcl : cells + 4 ≤ room_1.cells) (hsl : slots + 24 ≤ room_1.slots) (rec23 : Int32 → Nat → (Nat → Nat) → Int32 → (Nat → TT) → Int32 → Int64 → Int32 → Int32 → Int32 → Int32 → Int32 → (Nat → Int32) → (Nat → Int32) → (Nat → Int32) → (Nat → Int32) → (Nat → Int32) → (Nat → Int32) → (Nat → Int32) → (Nat → Int32) → (Nat → Int32) → (Nat → Nat → Int32) → (Nat → Nat → Int32) → Int32 → Int32 → Int32 → Int32 → Int32 → (Nat → Int32) → (Nat → Int32) → (Nat → Int32) → (Nat → Int32) → (Nat → Int32) → (Nat → Int32) → (Nat → Int32) → (Nat → Int32) → Int32 → Int32 → (Nat → Int32) → Int64 → Int64 → Prop) (ih23 : ∀ (i : Int32) (cur : Nat) (sav : Nat → Nat) (cnt : Int32) (ST : Nat → TT) (now : Int32) (rnd : Int64) (jm : Int32) (rp : Int32) (sc : Int32) (dc : Int32) (cn : Int32) (sUp : Nat → Int32) (sLen : Nat → Int32) (sWrk : Nat → Int32) (sReg : Nat → Int32) (sFst : Nat → Int32) (sLst : Nat → Int32) (dPol : Nat → Int32) (dPtr : Nat → Int32) (dCnt : Nat → Int32) (dIdl : Nat → Nat → Int32) (dKnw : Nat → Nat → Int32) (jCnt : Int32) (jFin : Int32) (jBeg : Int32) (jWs : Int32) (jMis : Int32) (jSrv : Nat → Int32) (jLft : Nat → Int32) (jSub : Nat → Int32) (jWai : Nat → Int32) (jNxt : Nat → Int32) (cnd : Nat → Int32) (nw : Nat → Int32) (hi : Nat → Int32) (sv : Int32) (th : Int32) (cd : Nat → Int32) (ha : Int64) (ov : Int64), rec23 i cur sav cnt ST now rnd jm rp sc dc cn sUp sLen sWrk sReg sFst sLst dPol dPtr dCnt dIdl dKnw jCnt jFin jBeg jWs jMis jSrv jLft jSub jWai jNxt cnd nw hi sv th cd ha ov → KJ p l e room_1 s m args below meth c 9 A (cells + 4) (slots + 24) Q (XF (LX E b nw hi sv th cd ha ov) cur sav cnt ST now rnd jm rp sc dc cn sUp sLen sWrk sReg sFst sLst dPol dPtr dCnt dIdl dKnw jCnt jFin jBeg jWs jMis jSrv jLft jSub jWai jNxt cnd) 23 [(4, .int i), (3, .ref (b + 126)), (2, .ref (b + 122)), (1, .ref b), (0, .ref bs)] []) (i : Int32) (cur : Nat) (sav : Nat → Nat) (cnt : Int32) (ST : Nat → TT) (now : Int32) (rnd : Int64) (jm : Int32) (rp : Int32) (sc : Int32) (dc : Int32) (cn : Int32) (sUp : Nat → Int32) (sLen : Nat → Int32) (sWrk : Nat → Int32) (sReg : Nat → Int32) (sFst : Nat → Int32) (sLst : Nat → Int32) (dPol : Nat → Int32) (dPtr : Nat → Int32) (dCnt : Nat → Int32) (dIdl : Nat → Nat → Int32) (dKnw : Nat → Nat → Int32) (jCnt : Int32) (jFin : Int32) (jBeg : Int32) (jWs : Int32) (jMis : Int32) (jSrv : Nat → Int32) (jLft : Nat → Int32) (jSub : Nat → Int32) (jWai : Nat → Int32) (jNxt : Nat → Int32) (cnd : Nat → Int32) (nw : Nat → Int32) (hi : Nat → Int32) (sv : Int32) (th : Int32) (cd : Nat → Int32) (ha : Int64) (ov : Int64) (h : wp_L_c2 cur L xs i sav cnt ST now rnd jm rp sc dc cn sUp sLen sWrk sReg sFst sLst dPol dPtr dCnt dIdl dKnw jCnt jFin jBeg jWs jMis jSrv jLft jSub jWai jNxt cnd nw hi sv cd ha ov rec23) : KJ p l e room_1 s m args below meth c 9 A cells slots Q (XF (LX E b nw hi sv th cd ha ov) cur sav cnt ST now rnd jm rp sc dc cn sUp sLen sWrk sReg sFst sLst dPol dPtr dCnt dIdl dKnw jCnt jFin jBeg jWs jMis jSrv jLft jSub jWai jNxt cnd) 252 [(4, .int i), (3, .ref (b + 126)), (2, .ref (b + 122)), (1, .ref b), (0, .ref bs)] [] := by
  have hE := hX.1.1
  obtain ⟨hcur, h⟩ := h
  refine k_aload_n C dL_law_252 3 rfl ?_
  refine k_aload_n C dL_law_253 4 rfl ?_
  refine k_iload C dL_law_254 0 rfl ?_
  refine k_iconst (v := 1) C dL_law_256 (by decide) ?_
  refine k_iadd C dL_law_257 ?_
  obtain ⟨q1, h⟩ := h
  refine l_sld C hScr hbl hbA q1 dL_law_258 ?_
  refine k_aload_n C dL_law_259 4 rfl ?_
  refine k_iload C dL_law_260 0 rfl ?_
  refine k_iconst (v := 2) C dL_law_262 (by decide) ?_
  refine k_iadd C dL_law_263 ?_
  obtain ⟨q2, h⟩ := h
  refine l_sld C hScr hbl hbA q2 dL_law_264 ?_
  refine k_aload_n C dL_law_265 1 rfl ?_
  refine k_callWi (st := []) C hX (c_L_setPolicy l hlt hA cur sav cnt ST now rnd jm rp sc dc cn sUp sLen sWrk sReg sFst sLst dPol dPtr dCnt dIdl dKnw jCnt jFin jBeg jWs jMis jSrv jLft jSub jWai jNxt cnd nw hi sv th cd ha ov hcur (xs (i + 1).toNatClampNeg) (xs (i + 2).toNatClampNeg) _ h) (vx_cwSW (hh := [(0, 10, 13, 19)]) 4 C.2.2.2.2 gL_law_L_setPolicy rfl rfl rfl (by decide +kernel) ⟨Nat.le_of_ble_eq_true rfl, Nat.le_of_ble_eq_true rfl⟩) rfl rfl (Nat.le_of_ble_eq_true rfl) dL_law_266 ⟨by omega, by omega⟩ (fun r3 => ?_)
  refine k_ex (fun sav_4 => k_ex (fun cnt_5 => k_ex (fun ST_6 => k_ex (fun dPol_7 => k_ex (fun ov_8 => k_and (fun h => ?_))))))
  refine k_istore (lv' := [(5, .int r3), (4, .int i), (3, .ref (b + 126)), (2, .ref (b + 122)), (1, .ref b), (0, .ref bs)]) C dL_law_269 (by decide) rfl ?_
  refine k_aload_n C dL_law_271 3 rfl ?_
  refine k_aload_n C dL_law_272 5 rfl ?_
  refine k_iload C dL_law_273 1 rfl ?_
  refine k_iconst (v := 1) C dL_law_275 (by decide) ?_
  refine k_iadd C dL_law_276 ?_
  refine l_sld C hScr hbl hbA q1 dL_law_277 ?_
  refine k_aload_n C dL_law_278 5 rfl ?_
  refine k_iload C dL_law_279 1 rfl ?_
  refine k_iconst (v := 2) C dL_law_281 (by decide) ?_
  refine k_iadd C dL_law_282 ?_
  refine l_sld C hScr hbl hbA q2 dL_law_283 ?_
  refine k_callVi (st := []) C hE (c_X5_setPolicy l (P := (fun nw hi sv th cd ha => XF (LX E b nw hi sv th cd ha ov_8) cur sav_4 cnt_5 ST_6 now rnd jm rp sc dc cn sUp sLen sWrk sReg sFst sLst dPol_7 dPtr dCnt dIdl dKnw jCnt jFin jBeg jWs jMis jSrv jLft jSub jWai jNxt cnd)) (focL_m E b) (fun q hq => hA q (Nat.le_trans (Nat.le_add_right _ _) hq.1)) nw hi sv th cd ha (xs (i + 1).toNatClampNeg) (xs (i + 2).toNatClampNeg) _ h) (cwV 2 C.2.2.2.2 gL_law_X5_setPolicy rfl rfl rfl (by decide +kernel) ⟨Nat.le_of_ble_eq_true rfl, Nat.le_of_ble_eq_true rfl⟩) (fun H hP => va_recv hE.1 (k_one (mst_Mo hP.2.1)) rfl (q0 := 0) rfl) rfl rfl (Nat.le_of_ble_eq_true rfl) dL_law_284 ⟨by omega, by omega⟩ (fun r9 => ?_)
  refine k_ex (fun nw_10 => k_ex (fun hi_11 => k_ex (fun sv_12 => k_ex (fun th_13 => k_and (fun h => ?_)))))
  refine k_pre (P2 := XF (LX E b nw_10 hi_11 sv_12 th_13 cd ha ov_8) cur sav_4 cnt_5 ST_6 now rnd jm rp sc dc cn sUp sLen sWrk sReg sFst sLst dPol_7 dPtr dCnt dIdl dKnw jCnt jFin jBeg jWs jMis jSrv jLft jSub jWai jNxt cnd) (fun H hP => hP) ?_
  refine k_istore (lv' := [(6, .int r9), (5, .int r3), (4, .int i), (3, .ref (b + 126)), (2, .ref (b + 122)), (1, .ref b), (0, .ref bs)]) C dL_law_287 (by decide) rfl ?_
  refine k_aload_n C dL_law_289 4 rfl ?_
  refine k_callVi (st := []) C hE (c_X5_thrown l (P := (fun nw hi sv th cd ha => XF (LX E b nw hi sv th cd ha ov_8) cur sav_4 cnt_5 ST_6 now rnd jm rp sc dc cn sUp sLen sWrk sReg sFst sLst dPol_7 dPtr dCnt dIdl dKnw jCnt jFin jBeg jWs jMis jSrv jLft jSub jWai jNxt cnd)) (focL_m E b) (fun q hq => hA q (Nat.le_trans (Nat.le_add_right _ _) hq.1)) nw_10 hi_11 sv_12 th_13 cd ha  _ h) (cwV 0 C.2.2.2.2 gL_law_X5_thrown rfl rfl rfl (by decide +kernel) ⟨Nat.le_of_ble_eq_true rfl, Nat.le_of_ble_eq_true rfl⟩) (fun H hP => va_recv hE.1 (k_one (mst_Mo hP.2.1)) rfl (q0 := 0) rfl) rfl rfl (Nat.le_of_ble_eq_true rfl) dL_law_290 ⟨by omega, by omega⟩ (fun r14 => ?_)
  refine k_and (fun h => ?_)
  refine k_pre (P2 := XF (LX E b nw_10 hi_11 sv_12 th_13 cd ha ov_8) cur sav_4 cnt_5 ST_6 now rnd jm rp sc dc cn sUp sLen sWrk sReg sFst sLst dPol_7 dPtr dCnt dIdl dKnw jCnt jFin jBeg jWs jMis jSrv jLft jSub jWai jNxt cnd) (fun H hP => hP) ?_
  refine k_iload C dL_law_293 1 rfl ?_
  refine k_icmp_eq (tgt := 300) C dL_law_295 (by decide) (fun c15 => ?_) (fun c15 => ?_)
  · replace h := h.1 c15
    refine k_iload C dL_law_300 1 rfl ?_
    refine k_if_ne (tgt := 317) C dL_law_302 (by decide) (fun c16 => ?_) (fun c16 => ?_)
    · replace h := h.2 c16
      refine k_goto (tgt := 1394) C dL_law_317 (by decide) ?_
      obtain ⟨x17, ex17⟩ : ∃ z : Int32, z = i + 3 := ⟨_, rfl⟩
      replace h := h x17 ex17
      refine k_iinc (v := x17) (lv' := [(4, .int x17), (6, .int r9), (5, .int r3), (3, .ref (b + 126)), (2, .ref (b + 122)), (1, .ref b), (0, .ref bs)]) (j := 2) C dL_law_1394 rfl (by rw [ex17]; rfl) (by decide) rfl ?_
      refine k_goto (tgt := 23) C dL_law_1397 (by decide) ?_
      refine k_wide (k2 := cells + 4) (n2 := slots + 24) (by omega) (by omega) ?_
      refine k_pc (pc2 := 23) rfl ?_
      refine k_sub [0, 3, 4, 5, 6] rfl ?_
      exact ih23 _ _ _ _ _ _ _ _ _ _ _ _ _ _ _ _ _ _ _ _ _ _ _ _ _ _ _ _ _ _ _ _ _ _ _ _ _ _ _ _ _ h
    · replace h := h.1 c16
      refine k_aload_n C dL_law_305 3 rfl ?_
      refine k_iconst (v := 0) C dL_law_306 (by decide) ?_
      refine l_get C hE.1 dL_law_307 ?_
      refine k_iload C dL_law_308 0 rfl ?_
      refine k_i2l C dL_law_310 ?_
      refine k_lcmp C dL_law_311 ?_
      refine k_if_eq (tgt := 317) C dL_law_312 (by decide) (fun c18 => ?_) (fun c18 => ?_)
      · replace h := h.1 c18
        refine k_goto (tgt := 1394) C dL_law_317 (by decide) ?_
        obtain ⟨x19, ex19⟩ : ∃ z : Int32, z = i + 3 := ⟨_, rfl⟩
        replace h := h x19 ex19
        refine k_iinc (v := x19) (lv' := [(4, .int x19), (6, .int r9), (5, .int r3), (3, .ref (b + 126)), (2, .ref (b + 122)), (1, .ref b), (0, .ref bs)]) (j := 2) C dL_law_1394 rfl (by rw [ex19]; rfl) (by decide) rfl ?_
        refine k_goto (tgt := 23) C dL_law_1397 (by decide) ?_
        refine k_wide (k2 := cells + 4) (n2 := slots + 24) (by omega) (by omega) ?_
        refine k_pc (pc2 := 23) rfl ?_
        refine k_sub [0, 3, 4, 5, 6] rfl ?_
        exact ih23 _ _ _ _ _ _ _ _ _ _ _ _ _ _ _ _ _ _ _ _ _ _ _ _ _ _ _ _ _ _ _ _ _ _ _ _ _ _ _ _ _ h
      · replace h := h.2 c18
        refine k_iconst (v := 0) C dL_law_315 (by decide) ?_
        exact h.elim
  · replace h := h.2 c15
    refine k_iconst (v := 0) C dL_law_298 (by decide) ?_
    exact h.elim
noncomputable def wp_L_c3 (cur : Nat) (L : Nat) (xs : Nat → Int32) (i : Int32) (sav : Nat → Nat) (cnt : Int32) (ST : Nat → TT) (now : Int32) (rnd : Int64) (jm : Int32) (rp : Int32) (sc : Int32) (dc : Int32) (cn : Int32) (sUp : Nat → Int32) (sLen : Nat → Int32) (sWrk : Nat → Int32) (sReg : Nat → Int32) (sFst : Nat → Int32) (sLst : Nat → Int32) (dPol : Nat → Int32) (dPtr : Nat → Int32) (dCnt : Nat → Int32) (dIdl : Nat → Nat → Int32) (dKnw : Nat → Nat → Int32) (jCnt : Int32) (jFin : Int32) (jBeg : Int32) (jWs : Int32) (jMis : Int32) (jSrv : Nat → Int32) (jLft : Nat → Int32) (jSub : Nat → Int32) (jWai : Nat → Int32) (jNxt : Nat → Int32) (cnd : Nat → Int32) (nw : Nat → Int32) (hi : Nat → Int32) (sv : Int32) (cd : Nat → Int32) (ha : Int64) (ov : Int64) (rec23 : Int32 → Nat → (Nat → Nat) → Int32 → (Nat → TT) → Int32 → Int64 → Int32 → Int32 → Int32 → Int32 → Int32 → (Nat → Int32) → (Nat → Int32) → (Nat → Int32) → (Nat → Int32) → (Nat → Int32) → (Nat → Int32) → (Nat → Int32) → (Nat → Int32) → (Nat → Int32) → (Nat → Nat → Int32) → (Nat → Nat → Int32) → Int32 → Int32 → Int32 → Int32 → Int32 → (Nat → Int32) → (Nat → Int32) → (Nat → Int32) → (Nat → Int32) → (Nat → Int32) → (Nat → Int32) → (Nat → Int32) → (Nat → Int32) → Int32 → Int32 → (Nat → Int32) → Int64 → Int64 → Prop) : Prop := cur < 4 ∧ ((vp_in (i + 1) L) ∧ (wp_L_setJoinMode cur sav cnt ST now rnd jm rp sc dc cn sUp sLen sWrk sReg sFst sLst dPol dPtr dCnt dIdl dKnw jCnt jFin jBeg jWs jMis jSrv jLft jSub jWai jNxt cnd ov (xs (i + 1).toNatClampNeg) (fun r2 sav_3 cnt_4 ST_5 jm_6 ov_7 => wp_X5_setJoinMode nw hi sv (xs (i + 1).toNatClampNeg) (fun r8 nw_9 hi_10 sv_11 th_12 => wp_X5_thrown th_12 (fun r13 => (r13 = r2 → ((r2 = 0 → (((lg_cmp ov_7 (r8.toInt64)) = 0 → (∀ x18 : Int32, x18 = i + 3 → (rec23 x18 cur sav_3 cnt_4 ST_5 now rnd jm_6 rp sc dc cn sUp sLen sWrk sReg sFst sLst dPol dPtr dCnt dIdl dKnw jCnt jFin jBeg jWs jMis jSrv jLft jSub jWai jNxt cnd nw_9 hi_10 sv_11 th_12 cd ha ov_7))) ∧ (¬ ((lg_cmp ov_7 (r8.toInt64)) = 0) → (False)))) ∧ (¬ r2 = 0 → (∀ x16 : Int32, x16 = i + 3 → (rec23 x16 cur sav_3 cnt_4 ST_5 now rnd jm_6 rp sc dc cn sUp sLen sWrk sReg sFst sLst dPol dPtr dCnt dIdl dKnw jCnt jFin jBeg jWs jMis jSrv jLft jSub jWai jNxt cnd nw_9 hi_10 sv_11 th_12 cd ha ov_7))))) ∧ (¬ (r13 = r2) → (False)))))))
set_option maxRecDepth 100000 in
set_option maxHeartbeats 4000000 in
theorem kc_3 {p : Program} {l : Launch} {e : Env} {s : State} {m : MethodId} {args : Array Value} {below : List Frame} {meth : Method} {c : Code} {Q : State → Prop} {A : Nat → Prop} {E : EV} {b bs L : Nat} {xs : Nat → Int32} {cells slots : Nat} (C : CallFix p m c cL_law 9 s args wsL_law RL) (hlt : l.stackTraces = false) (hA : ∀ q, b ≤ q → A q) (hX : XL E A s) (hScr : va_X bs L xs s s.heap) (hbl : bs < s.heap.size) (hbA : ¬ A bs) (hcl : cells + 4 ≤ room_1.cells) (hsl : slots + 24 ≤ room_1.slots) (rec23 : Int32 → Nat → (Nat → Nat) → Int32 → (Nat → TT) → Int32 → Int64 → Int32 → Int32 → Int32 → Int32 → Int32 → (Nat → Int32) → (Nat → Int32) → (Nat → Int32) → (Nat → Int32) → (Nat → Int32) → (Nat → Int32) → (Nat → Int32) → (Nat → Int32) → (Nat → Int32) → (Nat → Nat → Int32) → (Nat → Nat → Int32) → Int32 → Int32 → Int32 → Int32 → Int32 → (Nat → Int32) → (Nat → Int32) → (Nat → Int32) → (Nat → Int32) → (Nat → Int32) → (Nat → Int32) → (Nat → Int32) → (Nat → Int32) → Int32 → Int32 → (Nat → Int32) → Int64 → Int64 → Prop) (ih23 : ∀ (i : Int32) (cur : Nat) (sav : Nat → Nat) (cnt : Int32) (ST : Nat → TT) (now : Int32) (rnd : Int64) (jm : Int32) (rp : Int32) (sc : Int32) (dc : Int32) (cn : Int32) (sUp : Nat → Int32) (sLen : Nat → Int32) (sWrk : Nat → Int32) (sReg : Nat → Int32) (sFst : Nat → Int32) (sLst : Nat → Int32) (dPol : Nat → Int32) (dPtr : Nat → Int32) (dCnt : Nat → Int32) (dIdl : Nat → Nat → Int32) (dKnw : Nat → Nat → Int32) (jCnt : Int32) (jFin : Int32) (jBeg : Int32) (jWs : Int32) (jMis : Int32) (jSrv : Nat → Int32) (jLft : Nat → Int32) (jSub : Nat → Int32) (jWai : Nat → Int32) (jNxt : Nat → Int32) (cnd : Nat → Int32) (nw : Nat → Int32) (hi : Nat → Int32) (sv : Int32) (th : Int32) (cd : Nat → Int32) (ha : Int64) (ov : Int64), rec23 i cur sav cnt ST now rnd jm rp sc dc cn sUp sLen sWrk sReg sFst sLst dPol dPtr dCnt dIdl dKnw jCnt jFin jBeg jWs jMis jSrv jLft jSub jWai jNxt cnd nw hi sv th cd ha ov → KJ p l e room_1 s m args below meth c 9 A (cells + 4) (slots + 24) Q (XF (LX E b nw hi sv th cd ha ov) cur sav cnt ST now rnd jm rp sc dc cn sUp sLen sWrk sReg sFst sLst dPol dPtr dCnt dIdl dKnw jCnt jFin jBeg jWs jMis jSrv jLft jSub jWai jNxt cnd) 23 [(4, .int i), (3, .ref (b + 126)), (2, .ref (b + 122)), (1, .ref b), (0, .ref bs)] []) (i : Int32) (cur : Nat) (sav : Nat → Nat) (cnt : Int32) (ST : Nat → TT) (now : Int32) (rnd : Int64) (jm : Int32) (rp : Int32) (sc : Int32) (dc : Int32) (cn : Int32) (sUp : Nat → Int32) (sLen : Nat → Int32) (sWrk : Nat → Int32) (sReg : Nat → Int32) (sFst : Nat → Int32) (sLst : Nat → Int32) (dPol : Nat → Int32) (dPtr : Nat → Int32) (dCnt : Nat → Int32) (dIdl : Nat → Nat → Int32) (dKnw : Nat → Nat → Int32) (jCnt : Int32) (jFin : Int32) (jBeg : Int32) (jWs : Int32) (jMis : Int32) (jSrv : Nat → Int32) (jLft : Nat → Int32) (jSub : Nat → Int32) (jWai : Nat → Int32) (jNxt : Nat → Int32) (cnd : Nat → Int32) (nw : Nat → Int32) (hi : Nat → Int32) (sv : Int32) (th : Int32) (cd : Nat → Int32) (ha : Int64) (ov : Int64) (h : wp_L_c3 cur L xs i sav cnt ST now rnd jm rp sc dc cn sUp sLen sWrk sReg sFst sLst dPol dPtr dCnt dIdl dKnw jCnt jFin jBeg jWs jMis jSrv jLft jSub jWai jNxt cnd nw hi sv cd ha ov rec23) : KJ p l e room_1 s m args below meth c 9 A cells slots Q (XF (LX E b nw hi sv th cd ha ov) cur sav cnt ST now rnd jm rp sc dc cn sUp sLen sWrk sReg sFst sLst dPol dPtr dCnt dIdl dKnw jCnt jFin jBeg jWs jMis jSrv jLft jSub jWai jNxt cnd) 320 [(4, .int i), (3, .ref (b + 126)), (2, .ref (b + 122)), (1, .ref b), (0, .ref bs)] [] := by
  have hE := hX.1.1
  obtain ⟨hcur, h⟩ := h
  refine k_aload_n C dL_law_320 3 rfl ?_
  refine k_aload_n C dL_law_321 4 rfl ?_
  refine k_iload C dL_law_322 0 rfl ?_
  refine k_iconst (v := 1) C dL_law_324 (by decide) ?_
  refine k_iadd C dL_law_325 ?_
  obtain ⟨q1, h⟩ := h
  refine l_sld C hScr hbl hbA q1 dL_law_326 ?_
  refine k_aload_n C dL_law_327 1 rfl ?_
  refine k_callWi (st := []) C hX (c_L_setJoinMode l hlt hA cur sav cnt ST now rnd jm rp sc dc cn sUp sLen sWrk sReg sFst sLst dPol dPtr dCnt dIdl dKnw jCnt jFin jBeg jWs jMis jSrv jLft jSub jWai jNxt cnd nw hi sv th cd ha ov hcur (xs (i + 1).toNatClampNeg) _ h) (vx_cwSW (hh := [(0, 9, 12, 19)]) 3 C.2.2.2.2 gL_law_L_setJoinMode rfl rfl rfl (by decide +kernel) ⟨Nat.le_of_ble_eq_true rfl, Nat.le_of_ble_eq_true rfl⟩) rfl rfl (Nat.le_of_ble_eq_true rfl) dL_law_328 ⟨by omega, by omega⟩ (fun r2 => ?_)
  refine k_ex (fun sav_3 => k_ex (fun cnt_4 => k_ex (fun ST_5 => k_ex (fun jm_6 => k_ex (fun ov_7 => k_and (fun h => ?_))))))
  refine k_istore (lv' := [(5, .int r2), (4, .int i), (3, .ref (b + 126)), (2, .ref (b + 122)), (1, .ref b), (0, .ref bs)]) C dL_law_331 (by decide) rfl ?_
  refine k_aload_n C dL_law_333 3 rfl ?_
  refine k_aload_n C dL_law_334 5 rfl ?_
  refine k_iload C dL_law_335 1 rfl ?_
  refine k_iconst (v := 1) C dL_law_337 (by decide) ?_
  refine k_iadd C dL_law_338 ?_
  refine l_sld C hScr hbl hbA q1 dL_law_339 ?_
  refine k_callVi (st := []) C hE (c_X5_setJoinMode l (P := (fun nw hi sv th cd ha => XF (LX E b nw hi sv th cd ha ov_7) cur sav_3 cnt_4 ST_5 now rnd jm_6 rp sc dc cn sUp sLen sWrk sReg sFst sLst dPol dPtr dCnt dIdl dKnw jCnt jFin jBeg jWs jMis jSrv jLft jSub jWai jNxt cnd)) (focL_m E b) (fun q hq => hA q (Nat.le_trans (Nat.le_add_right _ _) hq.1)) nw hi sv th cd ha (xs (i + 1).toNatClampNeg) _ h) (cwV 1 C.2.2.2.2 gL_law_X5_setJoinMode rfl rfl rfl (by decide +kernel) ⟨Nat.le_of_ble_eq_true rfl, Nat.le_of_ble_eq_true rfl⟩) (fun H hP => va_recv hE.1 (k_one (mst_Mo hP.2.1)) rfl (q0 := 0) rfl) rfl rfl (Nat.le_of_ble_eq_true rfl) dL_law_340 ⟨by omega, by omega⟩ (fun r8 => ?_)
  refine k_ex (fun nw_9 => k_ex (fun hi_10 => k_ex (fun sv_11 => k_ex (fun th_12 => k_and (fun h => ?_)))))
  refine k_pre (P2 := XF (LX E b nw_9 hi_10 sv_11 th_12 cd ha ov_7) cur sav_3 cnt_4 ST_5 now rnd jm_6 rp sc dc cn sUp sLen sWrk sReg sFst sLst dPol dPtr dCnt dIdl dKnw jCnt jFin jBeg jWs jMis jSrv jLft jSub jWai jNxt cnd) (fun H hP => hP) ?_
  refine k_istore (lv' := [(6, .int r8), (5, .int r2), (4, .int i), (3, .ref (b + 126)), (2, .ref (b + 122)), (1, .ref b), (0, .ref bs)]) C dL_law_343 (by decide) rfl ?_
  refine k_aload_n C dL_law_345 4 rfl ?_
  refine k_callVi (st := []) C hE (c_X5_thrown l (P := (fun nw hi sv th cd ha => XF (LX E b nw hi sv th cd ha ov_7) cur sav_3 cnt_4 ST_5 now rnd jm_6 rp sc dc cn sUp sLen sWrk sReg sFst sLst dPol dPtr dCnt dIdl dKnw jCnt jFin jBeg jWs jMis jSrv jLft jSub jWai jNxt cnd)) (focL_m E b) (fun q hq => hA q (Nat.le_trans (Nat.le_add_right _ _) hq.1)) nw_9 hi_10 sv_11 th_12 cd ha  _ h) (cwV 0 C.2.2.2.2 gL_law_X5_thrown rfl rfl rfl (by decide +kernel) ⟨Nat.le_of_ble_eq_true rfl, Nat.le_of_ble_eq_true rfl⟩) (fun H hP => va_recv hE.1 (k_one (mst_Mo hP.2.1)) rfl (q0 := 0) rfl) rfl rfl (Nat.le_of_ble_eq_true rfl) dL_law_346 ⟨by omega, by omega⟩ (fun r13 => ?_)
  refine k_and (fun h => ?_)
  refine k_pre (P2 := XF (LX E b nw_9 hi_10 sv_11 th_12 cd ha ov_7) cur sav_3 cnt_4 ST_5 now rnd jm_6 rp sc dc cn sUp sLen sWrk sReg sFst sLst dPol dPtr dCnt dIdl dKnw jCnt jFin jBeg jWs jMis jSrv jLft jSub jWai jNxt cnd) (fun H hP => hP) ?_
  refine k_iload C dL_law_349 1 rfl ?_
  refine k_icmp_eq (tgt := 356) C dL_law_351 (by decide) (fun c14 => ?_) (fun c14 => ?_)
  · replace h := h.1 c14
    refine k_iload C dL_law_356 1 rfl ?_
    refine k_if_ne (tgt := 373) C dL_law_358 (by decide) (fun c15 => ?_) (fun c15 => ?_)
    · replace h := h.2 c15
      refine k_goto (tgt := 1394) C dL_law_373 (by decide) ?_
      obtain ⟨x16, ex16⟩ : ∃ z : Int32, z = i + 3 := ⟨_, rfl⟩
      replace h := h x16 ex16
      refine k_iinc (v := x16) (lv' := [(4, .int x16), (6, .int r8), (5, .int r2), (3, .ref (b + 126)), (2, .ref (b + 122)), (1, .ref b), (0, .ref bs)]) (j := 2) C dL_law_1394 rfl (by rw [ex16]; rfl) (by decide) rfl ?_
      refine k_goto (tgt := 23) C dL_law_1397 (by decide) ?_
      refine k_wide (k2 := cells + 4) (n2 := slots + 24) (by omega) (by omega) ?_
      refine k_pc (pc2 := 23) rfl ?_
      refine k_sub [0, 3, 4, 5, 6] rfl ?_
      exact ih23 _ _ _ _ _ _ _ _ _ _ _ _ _ _ _ _ _ _ _ _ _ _ _ _ _ _ _ _ _ _ _ _ _ _ _ _ _ _ _ _ _ h
    · replace h := h.1 c15
      refine k_aload_n C dL_law_361 3 rfl ?_
      refine k_iconst (v := 0) C dL_law_362 (by decide) ?_
      refine l_get C hE.1 dL_law_363 ?_
      refine k_iload C dL_law_364 0 rfl ?_
      refine k_i2l C dL_law_366 ?_
      refine k_lcmp C dL_law_367 ?_
      refine k_if_eq (tgt := 373) C dL_law_368 (by decide) (fun c17 => ?_) (fun c17 => ?_)
      · replace h := h.1 c17
        refine k_goto (tgt := 1394) C dL_law_373 (by decide) ?_
        obtain ⟨x18, ex18⟩ : ∃ z : Int32, z = i + 3 := ⟨_, rfl⟩
        replace h := h x18 ex18
        refine k_iinc (v := x18) (lv' := [(4, .int x18), (6, .int r8), (5, .int r2), (3, .ref (b + 126)), (2, .ref (b + 122)), (1, .ref b), (0, .ref bs)]) (j := 2) C dL_law_1394 rfl (by rw [ex18]; rfl) (by decide) rfl ?_
        refine k_goto (tgt := 23) C dL_law_1397 (by decide) ?_
        refine k_wide (k2 := cells + 4) (n2 := slots + 24) (by omega) (by omega) ?_
        refine k_pc (pc2 := 23) rfl ?_
        refine k_sub [0, 3, 4, 5, 6] rfl ?_
        exact ih23 _ _ _ _ _ _ _ _ _ _ _ _ _ _ _ _ _ _ _ _ _ _ _ _ _ _ _ _ _ _ _ _ _ _ _ _ _ _ _ _ _ h
      · replace h := h.2 c17
        refine k_iconst (v := 0) C dL_law_371 (by decide) ?_
        exact h.elim
  · replace h := h.2 c14
    refine k_iconst (v := 0) C dL_law_354 (by decide) ?_
    exact h.elim
noncomputable def wp_L_c4 (cur : Nat) (L : Nat) (xs : Nat → Int32) (i : Int32) (sav : Nat → Nat) (cnt : Int32) (ST : Nat → TT) (now : Int32) (rnd : Int64) (jm : Int32) (rp : Int32) (sc : Int32) (dc : Int32) (cn : Int32) (sUp : Nat → Int32) (sLen : Nat → Int32) (sWrk : Nat → Int32) (sReg : Nat → Int32) (sFst : Nat → Int32) (sLst : Nat → Int32) (dPol : Nat → Int32) (dPtr : Nat → Int32) (dCnt : Nat → Int32) (dIdl : Nat → Nat → Int32) (dKnw : Nat → Nat → Int32) (jCnt : Int32) (jFin : Int32) (jBeg : Int32) (jWs : Int32) (jMis : Int32) (jSrv : Nat → Int32) (jLft : Nat → Int32) (jSub : Nat → Int32) (jWai : Nat → Int32) (jNxt : Nat → Int32) (cnd : Nat → Int32) (nw : Nat → Int32) (hi : Nat → Int32) (sv : Int32) (cd : Nat → Int32) (ha : Int64) (ov : Int64) (rec23 : Int32 → Nat → (Nat → Nat) → Int32 → (Nat → TT) → Int32 → Int64 → Int32 → Int32 → Int32 → Int32 → Int32 → (Nat → Int32) → (Nat → Int32) → (Nat → Int32) → (Nat → Int32) → (Nat → Int32) → (Nat → Int32) → (Nat → Int32) → (Nat → Int32) → (Nat → Int32) → (Nat → Nat → Int32) → (Nat → Nat → Int32) → Int32 → Int32 → Int32 → Int32 → Int32 → (Nat → Int32) → (Nat → Int32) → (Nat → Int32) → (Nat → Int32) → (Nat → Int32) → (Nat → Int32) → (Nat → Int32) → (Nat → Int32) → Int32 → Int32 → (Nat → Int32) → Int64 → Int64 → Prop) : Prop := cur < 4 ∧ ((vp_in (i + 1) L) ∧ (wp_L_setReportPeriod cur sav cnt ST now rnd jm rp sc dc cn sUp sLen sWrk sReg sFst sLst dPol dPtr dCnt dIdl dKnw jCnt jFin jBeg jWs jMis jSrv jLft jSub jWai jNxt cnd ov (xs (i + 1).toNatClampNeg) (fun r2 sav_3 cnt_4 ST_5 rp_6 ov_7 => wp_X5_setReportPeriod nw hi sv (xs (i + 1).toNatClampNeg) (fun r8 nw_9 hi_10 sv_11 th_12 => wp_X5_thrown th_12 (fun r13 => (r13 = r2 → ((r2 = 0 → (((lg_cmp ov_7 (r8.toInt64)) = 0 → (∀ x18 : Int32, x18 = i + 3 → (rec23 x18 cur sav_3 cnt_4 ST_5 now rnd jm rp_6 sc dc cn sUp sLen sWrk sReg sFst sLst dPol dPtr dCnt dIdl dKnw jCnt jFin jBeg jWs jMis jSrv jLft jSub jWai jNxt cnd nw_9 hi_10 sv_11 th_12 cd ha ov_7))) ∧ (¬ ((lg_cmp ov_7 (r8.toInt64)) = 0) → (False)))) ∧ (¬ r2 = 0 → (∀ x16 : Int32, x16 = i + 3 → (rec23 x16 cur sav_3 cnt_4 ST_5 now rnd jm rp_6 sc dc cn sUp sLen sWrk sReg sFst sLst dPol dPtr dCnt dIdl dKnw jCnt jFin jBeg jWs jMis jSrv jLft jSub jWai jNxt cnd nw_9 hi_10 sv_11 th_12 cd ha ov_7))))) ∧ (¬ (r13 = r2) → (False)))))))
set_option maxRecDepth 100000 in
set_option maxHeartbeats 4000000 in
theorem kc_4 {p : Program} {l : Launch} {e : Env} {s : State} {m : MethodId} {args : Array Value} {below : List Frame} {meth : Method} {c : Code} {Q : State → Prop} {A : Nat → Prop} {E : EV} {b bs L : Nat} {xs : Nat → Int32} {cells slots : Nat} (C : CallFix p m c cL_law 9 s args wsL_law RL) (hlt : l.stackTraces = false) (hA : ∀ q, b ≤ q → A q) (hX : XL E A s) (hScr : va_X bs L xs s s.heap) (hbl : bs < s.heap.size) (hbA : ¬ A bs) (hcl : cells + 4 ≤ room_1.cells) (hsl : slots + 24 ≤ room_1.slots) (rec23 : Int32 → Nat → (Nat → Nat) → Int32 → (Nat → TT) → Int32 → Int64 → Int32 → Int32 → Int32 → Int32 → Int32 → (Nat → Int32) → (Nat → Int32) → (Nat → Int32) → (Nat → Int32) → (Nat → Int32) → (Nat → Int32) → (Nat → Int32) → (Nat → Int32) → (Nat → Int32) → (Nat → Nat → Int32) → (Nat → Nat → Int32) → Int32 → Int32 → Int32 → Int32 → Int32 → (Nat → Int32) → (Nat → Int32) → (Nat → Int32) → (Nat → Int32) → (Nat → Int32) → (Nat → Int32) → (Nat → Int32) → (Nat → Int32) → Int32 → Int32 → (Nat → Int32) → Int64 → Int64 → Prop) (ih23 : ∀ (i : Int32) (cur : Nat) (sav : Nat → Nat) (cnt : Int32) (ST : Nat → TT) (now : Int32) (rnd : Int64) (jm : Int32) (rp : Int32) (sc : Int32) (dc : Int32) (cn : Int32) (sUp : Nat → Int32) (sLen : Nat → Int32) (sWrk : Nat → Int32) (sReg : Nat → Int32) (sFst : Nat → Int32) (sLst : Nat → Int32) (dPol : Nat → Int32) (dPtr : Nat → Int32) (dCnt : Nat → Int32) (dIdl : Nat → Nat → Int32) (dKnw : Nat → Nat → Int32) (jCnt : Int32) (jFin : Int32) (jBeg : Int32) (jWs : Int32) (jMis : Int32) (jSrv : Nat → Int32) (jLft : Nat → Int32) (jSub : Nat → Int32) (jWai : Nat → Int32) (jNxt : Nat → Int32) (cnd : Nat → Int32) (nw : Nat → Int32) (hi : Nat → Int32) (sv : Int32) (th : Int32) (cd : Nat → Int32) (ha : Int64) (ov : Int64), rec23 i cur sav cnt ST now rnd jm rp sc dc cn sUp sLen sWrk sReg sFst sLst dPol dPtr dCnt dIdl dKnw jCnt jFin jBeg jWs jMis jSrv jLft jSub jWai jNxt cnd nw hi sv th cd ha ov → KJ p l e room_1 s m args below meth c 9 A (cells + 4) (slots + 24) Q (XF (LX E b nw hi sv th cd ha ov) cur sav cnt ST now rnd jm rp sc dc cn sUp sLen sWrk sReg sFst sLst dPol dPtr dCnt dIdl dKnw jCnt jFin jBeg jWs jMis jSrv jLft jSub jWai jNxt cnd) 23 [(4, .int i), (3, .ref (b + 126)), (2, .ref (b + 122)), (1, .ref b), (0, .ref bs)] []) (i : Int32) (cur : Nat) (sav : Nat → Nat) (cnt : Int32) (ST : Nat → TT) (now : Int32) (rnd : Int64) (jm : Int32) (rp : Int32) (sc : Int32) (dc : Int32) (cn : Int32) (sUp : Nat → Int32) (sLen : Nat → Int32) (sWrk : Nat → Int32) (sReg : Nat → Int32) (sFst : Nat → Int32) (sLst : Nat → Int32) (dPol : Nat → Int32) (dPtr : Nat → Int32) (dCnt : Nat → Int32) (dIdl : Nat → Nat → Int32) (dKnw : Nat → Nat → Int32) (jCnt : Int32) (jFin : Int32) (jBeg : Int32) (jWs : Int32) (jMis : Int32) (jSrv : Nat → Int32) (jLft : Nat → Int32) (jSub : Nat → Int32) (jWai : Nat → Int32) (jNxt : Nat → Int32) (cnd : Nat → Int32) (nw : Nat → Int32) (hi : Nat → Int32) (sv : Int32) (th : Int32) (cd : Nat → Int32) (ha : Int64) (ov : Int64) (h : wp_L_c4 cur L xs i sav cnt ST now rnd jm rp sc dc cn sUp sLen sWrk sReg sFst sLst dPol dPtr dCnt dIdl dKnw jCnt jFin jBeg jWs jMis jSrv jLft jSub jWai jNxt cnd nw hi sv cd ha ov rec23) : KJ p l e room_1 s m args below meth c 9 A cells slots Q (XF (LX E b nw hi sv th cd ha ov) cur sav cnt ST now rnd jm rp sc dc cn sUp sLen sWrk sReg sFst sLst dPol dPtr dCnt dIdl dKnw jCnt jFin jBeg jWs jMis jSrv jLft jSub jWai jNxt cnd) 376 [(4, .int i), (3, .ref (b + 126)), (2, .ref (b + 122)), (1, .ref b), (0, .ref bs)] [] := by
  have hE := hX.1.1
  obtain ⟨hcur, h⟩ := h
  refine k_aload_n C dL_law_376 3 rfl ?_
  refine k_aload_n C dL_law_377 4 rfl ?_
  refine k_iload C dL_law_378 0 rfl ?_
  refine k_iconst (v := 1) C dL_law_380 (by decide) ?_
  refine k_iadd C dL_law_381 ?_
  obtain ⟨q1, h⟩ := h
  refine l_sld C hScr hbl hbA q1 dL_law_382 ?_
  refine k_aload_n C dL_law_383 1 rfl ?_
  refine k_callWi (st := []) C hX (c_L_setReportPeriod l hlt hA cur sav cnt ST now rnd jm rp sc dc cn sUp sLen sWrk sReg sFst sLst dPol dPtr dCnt dIdl dKnw jCnt jFin jBeg jWs jMis jSrv jLft jSub jWai jNxt cnd nw hi sv th cd ha ov hcur (xs (i + 1).toNatClampNeg) _ h) (vx_cwSW (hh := [(0, 9, 12, 19)]) 3 C.2.2.2.2 gL_law_L_setReportPeriod rfl rfl rfl (by decide +kernel) ⟨Nat.le_of_ble_eq_true rfl, Nat.le_of_ble_eq_true rfl⟩) rfl rfl (Nat.le_of_ble_eq_true rfl) dL_law_384 ⟨by omega, by omega⟩ (fun r2 => ?_)
  refine k_ex (fun sav_3 => k_ex (fun cnt_4 => k_ex (fun ST_5 => k_ex (fun rp_6 => k_ex (fun ov_7 => k_and (fun h => ?_))))))
  refine k_istore (lv' := [(5, .int r2), (4, .int i), (3, .ref (b + 126)), (2, .ref (b + 122)), (1, .ref b), (0, .ref bs)]) C dL_law_387 (by decide) rfl ?_
  refine k_aload_n C dL_law_389 3 rfl ?_
  refine k_aload_n C dL_law_390 5 rfl ?_
  refine k_iload C dL_law_391 1 rfl ?_
  refine k_iconst (v := 1) C dL_law_393 (by decide) ?_
  refine k_iadd C dL_law_394 ?_
  refine l_sld C hScr hbl hbA q1 dL_law_395 ?_
  refine k_callVi (st := []) C hE (c_X5_setReportPeriod l (P := (fun nw hi sv th cd ha => XF (LX E b nw hi sv th cd ha ov_7) cur sav_3 cnt_4 ST_5 now rnd jm rp_6 sc dc cn sUp sLen sWrk sReg sFst sLst dPol dPtr dCnt dIdl dKnw jCnt jFin jBeg jWs jMis jSrv jLft jSub jWai jNxt cnd)) (focL_m E b) (fun q hq => hA q (Nat.le_trans (Nat.le_add_right _ _) hq.1)) nw hi sv th cd ha (xs (i + 1).toNatClampNeg) _ h) (cwV 1 C.2.2.2.2 gL_law_X5_setReportPeriod rfl rfl rfl (by decide +kernel) ⟨Nat.le_of_ble_eq_true rfl, Nat.le_of_ble_eq_true rfl⟩) (fun H hP => va_recv hE.1 (k_one (mst_Mo hP.2.1)) rfl (q0 := 0) rfl) rfl rfl (Nat.le_of_ble_eq_true rfl) dL_law_396 ⟨by omega, by omega⟩ (fun r8 => ?_)
  refine k_ex (fun nw_9 => k_ex (fun hi_10 => k_ex (fun sv_11 => k_ex (fun th_12 => k_and (fun h => ?_)))))
  refine k_pre (P2 := XF (LX E b nw_9 hi_10 sv_11 th_12 cd ha ov_7) cur sav_3 cnt_4 ST_5 now rnd jm rp_6 sc dc cn sUp sLen sWrk sReg sFst sLst dPol dPtr dCnt dIdl dKnw jCnt jFin jBeg jWs jMis jSrv jLft jSub jWai jNxt cnd) (fun H hP => hP) ?_
  refine k_istore (lv' := [(6, .int r8), (5, .int r2), (4, .int i), (3, .ref (b + 126)), (2, .ref (b + 122)), (1, .ref b), (0, .ref bs)]) C dL_law_399 (by decide) rfl ?_
  refine k_aload_n C dL_law_401 4 rfl ?_
  refine k_callVi (st := []) C hE (c_X5_thrown l (P := (fun nw hi sv th cd ha => XF (LX E b nw hi sv th cd ha ov_7) cur sav_3 cnt_4 ST_5 now rnd jm rp_6 sc dc cn sUp sLen sWrk sReg sFst sLst dPol dPtr dCnt dIdl dKnw jCnt jFin jBeg jWs jMis jSrv jLft jSub jWai jNxt cnd)) (focL_m E b) (fun q hq => hA q (Nat.le_trans (Nat.le_add_right _ _) hq.1)) nw_9 hi_10 sv_11 th_12 cd ha  _ h) (cwV 0 C.2.2.2.2 gL_law_X5_thrown rfl rfl rfl (by decide +kernel) ⟨Nat.le_of_ble_eq_true rfl, Nat.le_of_ble_eq_true rfl⟩) (fun H hP => va_recv hE.1 (k_one (mst_Mo hP.2.1)) rfl (q0 := 0) rfl) rfl rfl (Nat.le_of_ble_eq_true rfl) dL_law_402 ⟨by omega, by omega⟩ (fun r13 => ?_)
  refine k_and (fun h => ?_)
  refine k_pre (P2 := XF (LX E b nw_9 hi_10 sv_11 th_12 cd ha ov_7) cur sav_3 cnt_4 ST_5 now rnd jm rp_6 sc dc cn sUp sLen sWrk sReg sFst sLst dPol dPtr dCnt dIdl dKnw jCnt jFin jBeg jWs jMis jSrv jLft jSub jWai jNxt cnd) (fun H hP => hP) ?_
  refine k_iload C dL_law_405 1 rfl ?_
  refine k_icmp_eq (tgt := 412) C dL_law_407 (by decide) (fun c14 => ?_) (fun c14 => ?_)
  · replace h := h.1 c14
    refine k_iload C dL_law_412 1 rfl ?_
    refine k_if_ne (tgt := 429) C dL_law_414 (by decide) (fun c15 => ?_) (fun c15 => ?_)
    · replace h := h.2 c15
      refine k_goto (tgt := 1394) C dL_law_429 (by decide) ?_
      obtain ⟨x16, ex16⟩ : ∃ z : Int32, z = i + 3 := ⟨_, rfl⟩
      replace h := h x16 ex16
      refine k_iinc (v := x16) (lv' := [(4, .int x16), (6, .int r8), (5, .int r2), (3, .ref (b + 126)), (2, .ref (b + 122)), (1, .ref b), (0, .ref bs)]) (j := 2) C dL_law_1394 rfl (by rw [ex16]; rfl) (by decide) rfl ?_
      refine k_goto (tgt := 23) C dL_law_1397 (by decide) ?_
      refine k_wide (k2 := cells + 4) (n2 := slots + 24) (by omega) (by omega) ?_
      refine k_pc (pc2 := 23) rfl ?_
      refine k_sub [0, 3, 4, 5, 6] rfl ?_
      exact ih23 _ _ _ _ _ _ _ _ _ _ _ _ _ _ _ _ _ _ _ _ _ _ _ _ _ _ _ _ _ _ _ _ _ _ _ _ _ _ _ _ _ h
    · replace h := h.1 c15
      refine k_aload_n C dL_law_417 3 rfl ?_
      refine k_iconst (v := 0) C dL_law_418 (by decide) ?_
      refine l_get C hE.1 dL_law_419 ?_
      refine k_iload C dL_law_420 0 rfl ?_
      refine k_i2l C dL_law_422 ?_
      refine k_lcmp C dL_law_423 ?_
      refine k_if_eq (tgt := 429) C dL_law_424 (by decide) (fun c17 => ?_) (fun c17 => ?_)
      · replace h := h.1 c17
        refine k_goto (tgt := 1394) C dL_law_429 (by decide) ?_
        obtain ⟨x18, ex18⟩ : ∃ z : Int32, z = i + 3 := ⟨_, rfl⟩
        replace h := h x18 ex18
        refine k_iinc (v := x18) (lv' := [(4, .int x18), (6, .int r8), (5, .int r2), (3, .ref (b + 126)), (2, .ref (b + 122)), (1, .ref b), (0, .ref bs)]) (j := 2) C dL_law_1394 rfl (by rw [ex18]; rfl) (by decide) rfl ?_
        refine k_goto (tgt := 23) C dL_law_1397 (by decide) ?_
        refine k_wide (k2 := cells + 4) (n2 := slots + 24) (by omega) (by omega) ?_
        refine k_pc (pc2 := 23) rfl ?_
        refine k_sub [0, 3, 4, 5, 6] rfl ?_
        exact ih23 _ _ _ _ _ _ _ _ _ _ _ _ _ _ _ _ _ _ _ _ _ _ _ _ _ _ _ _ _ _ _ _ _ _ _ _ _ _ _ _ _ h
      · replace h := h.2 c17
        refine k_iconst (v := 0) C dL_law_427 (by decide) ?_
        exact h.elim
  · replace h := h.2 c14
    refine k_iconst (v := 0) C dL_law_410 (by decide) ?_
    exact h.elim
noncomputable def wp_L_c5 (cur : Nat) (L : Nat) (xs : Nat → Int32) (i : Int32) (sav : Nat → Nat) (cnt : Int32) (ST : Nat → TT) (now : Int32) (rnd : Int64) (jm : Int32) (rp : Int32) (sc : Int32) (dc : Int32) (cn : Int32) (sUp : Nat → Int32) (sLen : Nat → Int32) (sWrk : Nat → Int32) (sReg : Nat → Int32) (sFst : Nat → Int32) (sLst : Nat → Int32) (dPol : Nat → Int32) (dPtr : Nat → Int32) (dCnt : Nat → Int32) (dIdl : Nat → Nat → Int32) (dKnw : Nat → Nat → Int32) (jCnt : Int32) (jFin : Int32) (jBeg : Int32) (jWs : Int32) (jMis : Int32) (jSrv : Nat → Int32) (jLft : Nat → Int32) (jSub : Nat → Int32) (jWai : Nat → Int32) (jNxt : Nat → Int32) (cnd : Nat → Int32) (nw : Nat → Int32) (hi : Nat → Int32) (sv : Int32) (cd : Nat → Int32) (ha : Int64) (ov : Int64) (rec23 : Int32 → Nat → (Nat → Nat) → Int32 → (Nat → TT) → Int32 → Int64 → Int32 → Int32 → Int32 → Int32 → Int32 → (Nat → Int32) → (Nat → Int32) → (Nat → Int32) → (Nat → Int32) → (Nat → Int32) → (Nat → Int32) → (Nat → Int32) → (Nat → Int32) → (Nat → Int32) → (Nat → Nat → Int32) → (Nat → Nat → Int32) → Int32 → Int32 → Int32 → Int32 → Int32 → (Nat → Int32) → (Nat → Int32) → (Nat → Int32) → (Nat → Int32) → (Nat → Int32) → (Nat → Int32) → (Nat → Int32) → (Nat → Int32) → Int32 → Int32 → (Nat → Int32) → Int64 → Int64 → Prop) : Prop := cur < 4 ∧ ((vp_in (i + 1) L) ∧ (wp_L_setRandom cur sav cnt ST now rnd jm rp sc dc cn sUp sLen sWrk sReg sFst sLst dPol dPtr dCnt dIdl dKnw jCnt jFin jBeg jWs jMis jSrv jLft jSub jWai jNxt cnd ov (xs (i + 1).toNatClampNeg) (fun r2 sav_3 cnt_4 ST_5 rnd_6 ov_7 => wp_X5_setRandom nw hi sv (xs (i + 1).toNatClampNeg) (fun r8 nw_9 hi_10 sv_11 th_12 => wp_X5_thrown th_12 (fun r13 => (r13 = r2 → ((r2 = 0 → (((lg_cmp ov_7 (r8.toInt64)) = 0 → (∀ x18 : Int32, x18 = i + 3 → (rec23 x18 cur sav_3 cnt_4 ST_5 now rnd_6 jm rp sc dc cn sUp sLen sWrk sReg sFst sLst dPol dPtr dCnt dIdl dKnw jCnt jFin jBeg jWs jMis jSrv jLft jSub jWai jNxt cnd nw_9 hi_10 sv_11 th_12 cd ha ov_7))) ∧ (¬ ((lg_cmp ov_7 (r8.toInt64)) = 0) → (False)))) ∧ (¬ r2 = 0 → (∀ x16 : Int32, x16 = i + 3 → (rec23 x16 cur sav_3 cnt_4 ST_5 now rnd_6 jm rp sc dc cn sUp sLen sWrk sReg sFst sLst dPol dPtr dCnt dIdl dKnw jCnt jFin jBeg jWs jMis jSrv jLft jSub jWai jNxt cnd nw_9 hi_10 sv_11 th_12 cd ha ov_7))))) ∧ (¬ (r13 = r2) → (False)))))))
set_option maxRecDepth 100000 in
set_option maxHeartbeats 4000000 in
theorem kc_5 {p : Program} {l : Launch} {e : Env} {s : State} {m : MethodId} {args : Array Value} {below : List Frame} {meth : Method} {c : Code} {Q : State → Prop} {A : Nat → Prop} {E : EV} {b bs L : Nat} {xs : Nat → Int32} {cells slots : Nat} (C : CallFix p m c cL_law 9 s args wsL_law RL) (hlt : l.stackTraces = false) (hA : ∀ q, b ≤ q → A q) (hX : XL E A s) (hScr : va_X bs L xs s s.heap) (hbl : bs < s.heap.size) (hbA : ¬ A bs) (hcl : cells + 4 ≤ room_1.cells) (hsl : slots + 24 ≤ room_1.slots) (rec23 : Int32 → Nat → (Nat → Nat) → Int32 → (Nat → TT) → Int32 → Int64 → Int32 → Int32 → Int32 → Int32 → Int32 → (Nat → Int32) → (Nat → Int32) → (Nat → Int32) → (Nat → Int32) → (Nat → Int32) → (Nat → Int32) → (Nat → Int32) → (Nat → Int32) → (Nat → Int32) → (Nat → Nat → Int32) → (Nat → Nat → Int32) → Int32 → Int32 → Int32 → Int32 → Int32 → (Nat → Int32) → (Nat → Int32) → (Nat → Int32) → (Nat → Int32) → (Nat → Int32) → (Nat → Int32) → (Nat → Int32) → (Nat → Int32) → Int32 → Int32 → (Nat → Int32) → Int64 → Int64 → Prop) (ih23 : ∀ (i : Int32) (cur : Nat) (sav : Nat → Nat) (cnt : Int32) (ST : Nat → TT) (now : Int32) (rnd : Int64) (jm : Int32) (rp : Int32) (sc : Int32) (dc : Int32) (cn : Int32) (sUp : Nat → Int32) (sLen : Nat → Int32) (sWrk : Nat → Int32) (sReg : Nat → Int32) (sFst : Nat → Int32) (sLst : Nat → Int32) (dPol : Nat → Int32) (dPtr : Nat → Int32) (dCnt : Nat → Int32) (dIdl : Nat → Nat → Int32) (dKnw : Nat → Nat → Int32) (jCnt : Int32) (jFin : Int32) (jBeg : Int32) (jWs : Int32) (jMis : Int32) (jSrv : Nat → Int32) (jLft : Nat → Int32) (jSub : Nat → Int32) (jWai : Nat → Int32) (jNxt : Nat → Int32) (cnd : Nat → Int32) (nw : Nat → Int32) (hi : Nat → Int32) (sv : Int32) (th : Int32) (cd : Nat → Int32) (ha : Int64) (ov : Int64), rec23 i cur sav cnt ST now rnd jm rp sc dc cn sUp sLen sWrk sReg sFst sLst dPol dPtr dCnt dIdl dKnw jCnt jFin jBeg jWs jMis jSrv jLft jSub jWai jNxt cnd nw hi sv th cd ha ov → KJ p l e room_1 s m args below meth c 9 A (cells + 4) (slots + 24) Q (XF (LX E b nw hi sv th cd ha ov) cur sav cnt ST now rnd jm rp sc dc cn sUp sLen sWrk sReg sFst sLst dPol dPtr dCnt dIdl dKnw jCnt jFin jBeg jWs jMis jSrv jLft jSub jWai jNxt cnd) 23 [(4, .int i), (3, .ref (b + 126)), (2, .ref (b + 122)), (1, .ref b), (0, .ref bs)] []) (i : Int32) (cur : Nat) (sav : Nat → Nat) (cnt : Int32) (ST : Nat → TT) (now : Int32) (rnd : Int64) (jm : Int32) (rp : Int32) (sc : Int32) (dc : Int32) (cn : Int32) (sUp : Nat → Int32) (sLen : Nat → Int32) (sWrk : Nat → Int32) (sReg : Nat → Int32) (sFst : Nat → Int32) (sLst : Nat → Int32) (dPol : Nat → Int32) (dPtr : Nat → Int32) (dCnt : Nat → Int32) (dIdl : Nat → Nat → Int32) (dKnw : Nat → Nat → Int32) (jCnt : Int32) (jFin : Int32) (jBeg : Int32) (jWs : Int32) (jMis : Int32) (jSrv : Nat → Int32) (jLft : Nat → Int32) (jSub : Nat → Int32) (jWai : Nat → Int32) (jNxt : Nat → Int32) (cnd : Nat → Int32) (nw : Nat → Int32) (hi : Nat → Int32) (sv : Int32) (th : Int32) (cd : Nat → Int32) (ha : Int64) (ov : Int64) (h : wp_L_c5 cur L xs i sav cnt ST now rnd jm rp sc dc cn sUp sLen sWrk sReg sFst sLst dPol dPtr dCnt dIdl dKnw jCnt jFin jBeg jWs jMis jSrv jLft jSub jWai jNxt cnd nw hi sv cd ha ov rec23) : KJ p l e room_1 s m args below meth c 9 A cells slots Q (XF (LX E b nw hi sv th cd ha ov) cur sav cnt ST now rnd jm rp sc dc cn sUp sLen sWrk sReg sFst sLst dPol dPtr dCnt dIdl dKnw jCnt jFin jBeg jWs jMis jSrv jLft jSub jWai jNxt cnd) 432 [(4, .int i), (3, .ref (b + 126)), (2, .ref (b + 122)), (1, .ref b), (0, .ref bs)] [] := by
  have hE := hX.1.1
  obtain ⟨hcur, h⟩ := h
  refine k_aload_n C dL_law_432 3 rfl ?_
  refine k_aload_n C dL_law_433 4 rfl ?_
  refine k_iload C dL_law_434 0 rfl ?_
  refine k_iconst (v := 1) C dL_law_436 (by decide) ?_
  refine k_iadd C dL_law_437 ?_
  obtain ⟨q1, h⟩ := h
  refine l_sld C hScr hbl hbA q1 dL_law_438 ?_
  refine k_aload_n C dL_law_439 1 rfl ?_
  refine k_callWi (st := []) C hX (c_L_setRandom l hlt hA cur sav cnt ST now rnd jm rp sc dc cn sUp sLen sWrk sReg sFst sLst dPol dPtr dCnt dIdl dKnw jCnt jFin jBeg jWs jMis jSrv jLft jSub jWai jNxt cnd nw hi sv th cd ha ov hcur (xs (i + 1).toNatClampNeg) _ h) (vx_cwSW (hh := [(0, 9, 12, 19)]) 3 C.2.2.2.2 gL_law_L_setRandom rfl rfl rfl (by decide +kernel) ⟨Nat.le_of_ble_eq_true rfl, Nat.le_of_ble_eq_true rfl⟩) rfl rfl (Nat.le_of_ble_eq_true rfl) dL_law_440 ⟨by omega, by omega⟩ (fun r2 => ?_)
  refine k_ex (fun sav_3 => k_ex (fun cnt_4 => k_ex (fun ST_5 => k_ex (fun rnd_6 => k_ex (fun ov_7 => k_and (fun h => ?_))))))
  refine k_istore (lv' := [(5, .int r2), (4, .int i), (3, .ref (b + 126)), (2, .ref (b + 122)), (1, .ref b), (0, .ref bs)]) C dL_law_443 (by decide) rfl ?_
  refine k_aload_n C dL_law_445 3 rfl ?_
  refine k_aload_n C dL_law_446 5 rfl ?_
  refine k_iload C dL_law_447 1 rfl ?_
  refine k_iconst (v := 1) C dL_law_449 (by decide) ?_
  refine k_iadd C dL_law_450 ?_
  refine l_sld C hScr hbl hbA q1 dL_law_451 ?_
  refine k_callVi (st := []) C hE (c_X5_setRandom l (P := (fun nw hi sv th cd ha => XF (LX E b nw hi sv th cd ha ov_7) cur sav_3 cnt_4 ST_5 now rnd_6 jm rp sc dc cn sUp sLen sWrk sReg sFst sLst dPol dPtr dCnt dIdl dKnw jCnt jFin jBeg jWs jMis jSrv jLft jSub jWai jNxt cnd)) (focL_m E b) (fun q hq => hA q (Nat.le_trans (Nat.le_add_right _ _) hq.1)) nw hi sv th cd ha (xs (i + 1).toNatClampNeg) _ h) (cwV 1 C.2.2.2.2 gL_law_X5_setRandom rfl rfl rfl (by decide +kernel) ⟨Nat.le_of_ble_eq_true rfl, Nat.le_of_ble_eq_true rfl⟩) (fun H hP => va_recv hE.1 (k_one (mst_Mo hP.2.1)) rfl (q0 := 0) rfl) rfl rfl (Nat.le_of_ble_eq_true rfl) dL_law_452 ⟨by omega, by omega⟩ (fun r8 => ?_)
  refine k_ex (fun nw_9 => k_ex (fun hi_10 => k_ex (fun sv_11 => k_ex (fun th_12 => k_and (fun h => ?_)))))
  refine k_pre (P2 := XF (LX E b nw_9 hi_10 sv_11 th_12 cd ha ov_7) cur sav_3 cnt_4 ST_5 now rnd_6 jm rp sc dc cn sUp sLen sWrk sReg sFst sLst dPol dPtr dCnt dIdl dKnw jCnt jFin jBeg jWs jMis jSrv jLft jSub jWai jNxt cnd) (fun H hP => hP) ?_
  refine k_istore (lv' := [(6, .int r8), (5, .int r2), (4, .int i), (3, .ref (b + 126)), (2, .ref (b + 122)), (1, .ref b), (0, .ref bs)]) C dL_law_455 (by decide) rfl ?_
  refine k_aload_n C dL_law_457 4 rfl ?_
  refine k_callVi (st := []) C hE (c_X5_thrown l (P := (fun nw hi sv th cd ha => XF (LX E b nw hi sv th cd ha ov_7) cur sav_3 cnt_4 ST_5 now rnd_6 jm rp sc dc cn sUp sLen sWrk sReg sFst sLst dPol dPtr dCnt dIdl dKnw jCnt jFin jBeg jWs jMis jSrv jLft jSub jWai jNxt cnd)) (focL_m E b) (fun q hq => hA q (Nat.le_trans (Nat.le_add_right _ _) hq.1)) nw_9 hi_10 sv_11 th_12 cd ha  _ h) (cwV 0 C.2.2.2.2 gL_law_X5_thrown rfl rfl rfl (by decide +kernel) ⟨Nat.le_of_ble_eq_true rfl, Nat.le_of_ble_eq_true rfl⟩) (fun H hP => va_recv hE.1 (k_one (mst_Mo hP.2.1)) rfl (q0 := 0) rfl) rfl rfl (Nat.le_of_ble_eq_true rfl) dL_law_458 ⟨by omega, by omega⟩ (fun r13 => ?_)
  refine k_and (fun h => ?_)
  refine k_pre (P2 := XF (LX E b nw_9 hi_10 sv_11 th_12 cd ha ov_7) cur sav_3 cnt_4 ST_5 now rnd_6 jm rp sc dc cn sUp sLen sWrk sReg sFst sLst dPol dPtr dCnt dIdl dKnw jCnt jFin jBeg jWs jMis jSrv jLft jSub jWai jNxt cnd) (fun H hP => hP) ?_
  refine k_iload C dL_law_461 1 rfl ?_
  refine k_icmp_eq (tgt := 468) C dL_law_463 (by decide) (fun c14 => ?_) (fun c14 => ?_)
  · replace h := h.1 c14
    refine k_iload C dL_law_468 1 rfl ?_
    refine k_if_ne (tgt := 485) C dL_law_470 (by decide) (fun c15 => ?_) (fun c15 => ?_)
    · replace h := h.2 c15
      refine k_goto (tgt := 1394) C dL_law_485 (by decide) ?_
      obtain ⟨x16, ex16⟩ : ∃ z : Int32, z = i + 3 := ⟨_, rfl⟩
      replace h := h x16 ex16
      refine k_iinc (v := x16) (lv' := [(4, .int x16), (6, .int r8), (5, .int r2), (3, .ref (b + 126)), (2, .ref (b + 122)), (1, .ref b), (0, .ref bs)]) (j := 2) C dL_law_1394 rfl (by rw [ex16]; rfl) (by decide) rfl ?_
      refine k_goto (tgt := 23) C dL_law_1397 (by decide) ?_
      refine k_wide (k2 := cells + 4) (n2 := slots + 24) (by omega) (by omega) ?_
      refine k_pc (pc2 := 23) rfl ?_
      refine k_sub [0, 3, 4, 5, 6] rfl ?_
      exact ih23 _ _ _ _ _ _ _ _ _ _ _ _ _ _ _ _ _ _ _ _ _ _ _ _ _ _ _ _ _ _ _ _ _ _ _ _ _ _ _ _ _ h
    · replace h := h.1 c15
      refine k_aload_n C dL_law_473 3 rfl ?_
      refine k_iconst (v := 0) C dL_law_474 (by decide) ?_
      refine l_get C hE.1 dL_law_475 ?_
      refine k_iload C dL_law_476 0 rfl ?_
      refine k_i2l C dL_law_478 ?_
      refine k_lcmp C dL_law_479 ?_
      refine k_if_eq (tgt := 485) C dL_law_480 (by decide) (fun c17 => ?_) (fun c17 => ?_)
      · replace h := h.1 c17
        refine k_goto (tgt := 1394) C dL_law_485 (by decide) ?_
        obtain ⟨x18, ex18⟩ : ∃ z : Int32, z = i + 3 := ⟨_, rfl⟩
        replace h := h x18 ex18
        refine k_iinc (v := x18) (lv' := [(4, .int x18), (6, .int r8), (5, .int r2), (3, .ref (b + 126)), (2, .ref (b + 122)), (1, .ref b), (0, .ref bs)]) (j := 2) C dL_law_1394 rfl (by rw [ex18]; rfl) (by decide) rfl ?_
        refine k_goto (tgt := 23) C dL_law_1397 (by decide) ?_
        refine k_wide (k2 := cells + 4) (n2 := slots + 24) (by omega) (by omega) ?_
        refine k_pc (pc2 := 23) rfl ?_
        refine k_sub [0, 3, 4, 5, 6] rfl ?_
        exact ih23 _ _ _ _ _ _ _ _ _ _ _ _ _ _ _ _ _ _ _ _ _ _ _ _ _ _ _ _ _ _ _ _ _ _ _ _ _ _ _ _ _ h
      · replace h := h.2 c17
        refine k_iconst (v := 0) C dL_law_483 (by decide) ?_
        exact h.elim
  · replace h := h.2 c14
    refine k_iconst (v := 0) C dL_law_466 (by decide) ?_
    exact h.elim
noncomputable def wp_L_c6 (cur : Nat) (L : Nat) (xs : Nat → Int32) (i : Int32) (sav : Nat → Nat) (cnt : Int32) (ST : Nat → TT) (now : Int32) (rnd : Int64) (jm : Int32) (rp : Int32) (sc : Int32) (dc : Int32) (cn : Int32) (sUp : Nat → Int32) (sLen : Nat → Int32) (sWrk : Nat → Int32) (sReg : Nat → Int32) (sFst : Nat → Int32) (sLst : Nat → Int32) (dPol : Nat → Int32) (dPtr : Nat → Int32) (dCnt : Nat → Int32) (dIdl : Nat → Nat → Int32) (dKnw : Nat → Nat → Int32) (jCnt : Int32) (jFin : Int32) (jBeg : Int32) (jWs : Int32) (jMis : Int32) (jSrv : Nat → Int32) (jLft : Nat → Int32) (jSub : Nat → Int32) (jWai : Nat → Int32) (jNxt : Nat → Int32) (cnd : Nat → Int32) (nw : Nat → Int32) (hi : Nat → Int32) (sv : Int32) (cd : Nat → Int32) (ha : Int64) (ov : Int64) (rec23 : Int32 → Nat → (Nat → Nat) → Int32 → (Nat → TT) → Int32 → Int64 → Int32 → Int32 → Int32 → Int32 → Int32 → (Nat → Int32) → (Nat → Int32) → (Nat → Int32) → (Nat → Int32) → (Nat → Int32) → (Nat → Int32) → (Nat → Int32) → (Nat → Int32) → (Nat → Int32) → (Nat → Nat → Int32) → (Nat → Nat → Int32) → Int32 → Int32 → Int32 → Int32 → Int32 → (Nat → Int32) → (Nat → Int32) → (Nat → Int32) → (Nat → Int32) → (Nat → Int32) → (Nat → Int32) → (Nat → Int32) → (Nat → Int32) → Int32 → Int32 → (Nat → Int32) → Int64 → Int64 → Prop) : Prop := cur < 4 ∧ ((vp_in (i + 1) L) ∧ ((vp_in (i + 2) L) ∧ (((xs (i + 2).toNatClampNeg) = 0 → (wp_L_setUp cur sav cnt ST now rnd jm rp sc dc cn sUp sLen sWrk sReg sFst sLst dPol dPtr dCnt dIdl dKnw jCnt jFin jBeg jWs jMis jSrv jLft jSub jWai jNxt cnd ov (xs (i + 1).toNatClampNeg) 0 (fun r4 sav_5 cnt_6 ST_7 rnd_8 cn_9 sUp_10 sReg_11 dCnt_12 dIdl_13 cnd_14 ov_15 => ((xs (i + 2).toNatClampNeg) = 0 → (wp_X5_setUp nw hi sv (xs (i + 1).toNatClampNeg) 0 (fun r17 nw_18 hi_19 sv_20 th_21 => wp_X5_thrown th_21 (fun r22 => (r22 = r4 → ((r4 = 0 → ((r17 = 0 → (((lg_cmp ov_15 (0 : Int64)) = 0 → (∀ x28 : Int32, x28 = i + 3 → (rec23 x28 cur sav_5 cnt_6 ST_7 now rnd_8 jm rp sc dc cn_9 sUp_10 sLen sWrk sReg_11 sFst sLst dPol dPtr dCnt_12 dIdl_13 dKnw jCnt jFin jBeg jWs jMis jSrv jLft jSub jWai jNxt cnd_14 nw_18 hi_19 sv_20 th_21 cd ha ov_15))) ∧ (¬ ((lg_cmp ov_15 (0 : Int64)) = 0) → (False)))) ∧ (¬ (r17 = 0) → (((lg_cmp ov_15 (1 : Int64)) = 0 → (∀ x30 : Int32, x30 = i + 3 → (rec23 x30 cur sav_5 cnt_6 ST_7 now rnd_8 jm rp sc dc cn_9 sUp_10 sLen sWrk sReg_11 sFst sLst dPol dPtr dCnt_12 dIdl_13 dKnw jCnt jFin jBeg jWs jMis jSrv jLft jSub jWai jNxt cnd_14 nw_18 hi_19 sv_20 th_21 cd ha ov_15))) ∧ (¬ ((lg_cmp ov_15 (1 : Int64)) = 0) → (False)))))) ∧ (¬ r4 = 0 → (∀ x25 : Int32, x25 = i + 3 → (rec23 x25 cur sav_5 cnt_6 ST_7 now rnd_8 jm rp sc dc cn_9 sUp_10 sLen sWrk sReg_11 sFst sLst dPol dPtr dCnt_12 dIdl_13 dKnw jCnt jFin jBeg jWs jMis jSrv jLft jSub jWai jNxt cnd_14 nw_18 hi_19 sv_20 th_21 cd ha ov_15))))) ∧ (¬ (r22 = r4) → (False)))))) ∧ (¬ ((xs (i + 2).toNatClampNeg) = 0) → (wp_X5_setUp nw hi sv (xs (i + 1).toNatClampNeg) 1 (fun r31 nw_32 hi_33 sv_34 th_35 => wp_X5_thrown th_35 (fun r36 => (r36 = r4 → ((r4 = 0 → ((r31 = 0 → (((lg_cmp ov_15 (0 : Int64)) = 0 → (∀ x42 : Int32, x42 = i + 3 → (rec23 x42 cur sav_5 cnt_6 ST_7 now rnd_8 jm rp sc dc cn_9 sUp_10 sLen sWrk sReg_11 sFst sLst dPol dPtr dCnt_12 dIdl_13 dKnw jCnt jFin jBeg jWs jMis jSrv jLft jSub jWai jNxt cnd_14 nw_32 hi_33 sv_34 th_35 cd ha ov_15))) ∧ (¬ ((lg_cmp ov_15 (0 : Int64)) = 0) → (False)))) ∧ (¬ (r31 = 0) → (((lg_cmp ov_15 (1 : Int64)) = 0 → (∀ x44 : Int32, x44 = i + 3 → (rec23 x44 cur sav_5 cnt_6 ST_7 now rnd_8 jm rp sc dc cn_9 sUp_10 sLen sWrk sReg_11 sFst sLst dPol dPtr dCnt_12 dIdl_13 dKnw jCnt jFin jBeg jWs jMis jSrv jLft jSub jWai jNxt cnd_14 nw_32 hi_33 sv_34 th_35 cd ha ov_15))) ∧ (¬ ((lg_cmp ov_15 (1 : Int64)) = 0) → (False)))))) ∧ (¬ r4 = 0 → (∀ x39 : Int32, x39 = i + 3 → (rec23 x39 cur sav_5 cnt_6 ST_7 now rnd_8 jm rp sc dc cn_9 sUp_10 sLen sWrk sReg_11 sFst sLst dPol dPtr dCnt_12 dIdl_13 dKnw jCnt jFin jBeg jWs jMis jSrv jLft jSub jWai jNxt cnd_14 nw_32 hi_33 sv_34 th_35 cd ha ov_15))))) ∧ (¬ (r36 = r4) → (False))))))))) ∧ (¬ ((xs (i + 2).toNatClampNeg) = 0) → (wp_L_setUp cur sav cnt ST now rnd jm rp sc dc cn sUp sLen sWrk sReg sFst sLst dPol dPtr dCnt dIdl dKnw jCnt jFin jBeg jWs jMis jSrv jLft jSub jWai jNxt cnd ov (xs (i + 1).toNatClampNeg) 1 (fun r45 sav_46 cnt_47 ST_48 rnd_49 cn_50 sUp_51 sReg_52 dCnt_53 dIdl_54 cnd_55 ov_56 => ((xs (i + 2).toNatClampNeg) = 0 → (wp_X5_setUp nw hi sv (xs (i + 1).toNatClampNeg) 0 (fun r58 nw_59 hi_60 sv_61 th_62 => wp_X5_thrown th_62 (fun r63 => (r63 = r45 → ((r45 = 0 → ((r58 = 0 → (((lg_cmp ov_56 (0 : Int64)) = 0 → (∀ x69 : Int32, x69 = i + 3 → (rec23 x69 cur sav_46 cnt_47 ST_48 now rnd_49 jm rp sc dc cn_50 sUp_51 sLen sWrk sReg_52 sFst sLst dPol dPtr dCnt_53 dIdl_54 dKnw jCnt jFin jBeg jWs jMis jSrv jLft jSub jWai jNxt cnd_55 nw_59 hi_60 sv_61 th_62 cd ha ov_56))) ∧ (¬ ((lg_cmp ov_56 (0 : Int64)) = 0) → (False)))) ∧ (¬ (r58 = 0) → (((lg_cmp ov_56 (1 : Int64)) = 0 → (∀ x71 : Int32, x71 = i + 3 → (rec23 x71 cur sav_46 cnt_47 ST_48 now rnd_49 jm rp sc dc cn_50 sUp_51 sLen sWrk sReg_52 sFst sLst dPol dPtr dCnt_53 dIdl_54 dKnw jCnt jFin jBeg jWs jMis jSrv jLft jSub jWai jNxt cnd_55 nw_59 hi_60 sv_61 th_62 cd ha ov_56))) ∧ (¬ ((lg_cmp ov_56 (1 : Int64)) = 0) → (False)))))) ∧ (¬ r45 = 0 → (∀ x66 : Int32, x66 = i + 3 → (rec23 x66 cur sav_46 cnt_47 ST_48 now rnd_49 jm rp sc dc cn_50 sUp_51 sLen sWrk sReg_52 sFst sLst dPol dPtr dCnt_53 dIdl_54 dKnw jCnt jFin jBeg jWs jMis jSrv jLft jSub jWai jNxt cnd_55 nw_59 hi_60 sv_61 th_62 cd ha ov_56))))) ∧ (¬ (r63 = r45) → (False)))))) ∧ (¬ ((xs (i + 2).toNatClampNeg) = 0) → (wp_X5_setUp nw hi sv (xs (i + 1).toNatClampNeg) 1 (fun r72 nw_73 hi_74 sv_75 th_76 => wp_X5_thrown th_76 (fun r77 => (r77 = r45 → ((r45 = 0 → ((r72 = 0 → (((lg_cmp ov_56 (0 : Int64)) = 0 → (∀ x83 : Int32, x83 = i + 3 → (rec23 x83 cur sav_46 cnt_47 ST_48 now rnd_49 jm rp sc dc cn_50 sUp_51 sLen sWrk sReg_52 sFst sLst dPol dPtr dCnt_53 dIdl_54 dKnw jCnt jFin jBeg jWs jMis jSrv jLft jSub jWai jNxt cnd_55 nw_73 hi_74 sv_75 th_76 cd ha ov_56))) ∧ (¬ ((lg_cmp ov_56 (0 : Int64)) = 0) → (False)))) ∧ (¬ (r72 = 0) → (((lg_cmp ov_56 (1 : Int64)) = 0 → (∀ x85 : Int32, x85 = i + 3 → (rec23 x85 cur sav_46 cnt_47 ST_48 now rnd_49 jm rp sc dc cn_50 sUp_51 sLen sWrk sReg_52 sFst sLst dPol dPtr dCnt_53 dIdl_54 dKnw jCnt jFin jBeg jWs jMis jSrv jLft jSub jWai jNxt cnd_55 nw_73 hi_74 sv_75 th_76 cd ha ov_56))) ∧ (¬ ((lg_cmp ov_56 (1 : Int64)) = 0) → (False)))))) ∧ (¬ r45 = 0 → (∀ x80 : Int32, x80 = i + 3 → (rec23 x80 cur sav_46 cnt_47 ST_48 now rnd_49 jm rp sc dc cn_50 sUp_51 sLen sWrk sReg_52 sFst sLst dPol dPtr dCnt_53 dIdl_54 dKnw jCnt jFin jBeg jWs jMis jSrv jLft jSub jWai jNxt cnd_55 nw_73 hi_74 sv_75 th_76 cd ha ov_56))))) ∧ (¬ (r77 = r45) → (False))))))))))))
set_option maxRecDepth 100000 in
set_option maxHeartbeats 4000000 in
theorem kc_6 {p : Program} {l : Launch} {e : Env} {s : State} {m : MethodId} {args : Array Value} {below : List Frame} {meth : Method} {c : Code} {Q : State → Prop} {A : Nat → Prop} {E : EV} {b bs L : Nat} {xs : Nat → Int32} {cells slots : Nat} (C : CallFix p m c cL_law 9 s args wsL_law RL) (hlt : l.stackTraces = false) (hA : ∀ q, b ≤ q → A q) (hX : XL E A s) (hScr : va_X bs L xs s s.heap) (hbl : bs < s.heap.size) (hbA : ¬ A bs) (hcl : cells + 4 ≤ room_1.cells) (hsl : slots + 24 ≤ room_1.slots) (rec23 : Int32 → Nat → (Nat → Nat) → Int32 → (Nat → TT) → Int32 → Int64 → Int32 → Int32 → Int32 → Int32 → Int32 → (Nat → Int32) → (Nat → Int32) → (Nat → Int32) → (Nat → Int32) → (Nat → Int32) → (Nat → Int32) → (Nat → Int32) → (Nat → Int32) → (Nat → Int32) → (Nat → Nat → Int32) → (Nat → Nat → Int32) → Int32 → Int32 → Int32 → Int32 → Int32 → (Nat → Int32) → (Nat → Int32) → (Nat → Int32) → (Nat → Int32) → (Nat → Int32) → (Nat → Int32) → (Nat → Int32) → (Nat → Int32) → Int32 → Int32 → (Nat → Int32) → Int64 → Int64 → Prop) (ih23 : ∀ (i : Int32) (cur : Nat) (sav : Nat → Nat) (cnt : Int32) (ST : Nat → TT) (now : Int32) (rnd : Int64) (jm : Int32) (rp : Int32) (sc : Int32) (dc : Int32) (cn : Int32) (sUp : Nat → Int32) (sLen : Nat → Int32) (sWrk : Nat → Int32) (sReg : Nat → Int32) (sFst : Nat → Int32) (sLst : Nat → Int32) (dPol : Nat → Int32) (dPtr : Nat → Int32) (dCnt : Nat → Int32) (dIdl : Nat → Nat → Int32) (dKnw : Nat → Nat → Int32) (jCnt : Int32) (jFin : Int32) (jBeg : Int32) (jWs : Int32) (jMis : Int32) (jSrv : Nat → Int32) (jLft : Nat → Int32) (jSub : Nat → Int32) (jWai : Nat → Int32) (jNxt : Nat → Int32) (cnd : Nat → Int32) (nw : Nat → Int32) (hi : Nat → Int32) (sv : Int32) (th : Int32) (cd : Nat → Int32) (ha : Int64) (ov : Int64), rec23 i cur sav cnt ST now rnd jm rp sc dc cn sUp sLen sWrk sReg sFst sLst dPol dPtr dCnt dIdl dKnw jCnt jFin jBeg jWs jMis jSrv jLft jSub jWai jNxt cnd nw hi sv th cd ha ov → KJ p l e room_1 s m args below meth c 9 A (cells + 4) (slots + 24) Q (XF (LX E b nw hi sv th cd ha ov) cur sav cnt ST now rnd jm rp sc dc cn sUp sLen sWrk sReg sFst sLst dPol dPtr dCnt dIdl dKnw jCnt jFin jBeg jWs jMis jSrv jLft jSub jWai jNxt cnd) 23 [(4, .int i), (3, .ref (b + 126)), (2, .ref (b + 122)), (1, .ref b), (0, .ref bs)] []) (i : Int32) (cur : Nat) (sav : Nat → Nat) (cnt : Int32) (ST : Nat → TT) (now : Int32) (rnd : Int64) (jm : Int32) (rp : Int32) (sc : Int32) (dc : Int32) (cn : Int32) (sUp : Nat → Int32) (sLen : Nat → Int32) (sWrk : Nat → Int32) (sReg : Nat → Int32) (sFst : Nat → Int32) (sLst : Nat → Int32) (dPol : Nat → Int32) (dPtr : Nat → Int32) (dCnt : Nat → Int32) (dIdl : Nat → Nat → Int32) (dKnw : Nat → Nat → Int32) (jCnt : Int32) (jFin : Int32) (jBeg : Int32) (jWs : Int32) (jMis : Int32) (jSrv : Nat → Int32) (jLft : Nat → Int32) (jSub : Nat → Int32) (jWai : Nat → Int32) (jNxt : Nat → Int32) (cnd : Nat → Int32) (nw : Nat → Int32) (hi : Nat → Int32) (sv : Int32) (th : Int32) (cd : Nat → Int32) (ha : Int64) (ov : Int64) (h : wp_L_c6 cur L xs i sav cnt ST now rnd jm rp sc dc cn sUp sLen sWrk sReg sFst sLst dPol dPtr dCnt dIdl dKnw jCnt jFin jBeg jWs jMis jSrv jLft jSub jWai jNxt cnd nw hi sv cd ha ov rec23) : KJ p l e room_1 s m args below meth c 9 A cells slots Q (XF (LX E b nw hi sv th cd ha ov) cur sav cnt ST now rnd jm rp sc dc cn sUp sLen sWrk sReg sFst sLst dPol dPtr dCnt dIdl dKnw jCnt jFin jBeg jWs jMis jSrv jLft jSub jWai jNxt cnd) 488 [(4, .int i), (3, .ref (b + 126)), (2, .ref (b + 122)), (1, .ref b), (0, .ref bs)] [] := by
  have hE := hX.1.1
  obtain ⟨hcur, h⟩ := h
  refine k_aload_n C dL_law_488 3 rfl ?_
  refine k_aload_n C dL_law_489 4 rfl ?_
  refine k_iload C dL_law_490 0 rfl ?_
  refine k_iconst (v := 1) C dL_law_492 (by decide) ?_
  refine k_iadd C dL_law_493 ?_
  obtain ⟨q1, h⟩ := h
  refine l_sld C hScr hbl hbA q1 dL_law_494 ?_
  refine k_aload_n C dL_law_495 4 rfl ?_
  refine k_iload C dL_law_496 0 rfl ?_
  refine k_iconst (v := 2) C dL_law_498 (by decide) ?_
  refine k_iadd C dL_law_499 ?_
  obtain ⟨q2, h⟩ := h
  refine l_sld C hScr hbl hbA q2 dL_law_500 ?_
  refine k_if_eq (tgt := 508) C dL_law_501 (by decide) (fun c3 => ?_) (fun c3 => ?_)
  · replace h := h.1 c3
    refine k_iconst (v := 0) C dL_law_508 (by decide) ?_
    refine k_aload_n C dL_law_509 1 rfl ?_
    refine k_callWi (st := []) C hX (c_L_setUp l hlt hA cur sav cnt ST now rnd jm rp sc dc cn sUp sLen sWrk sReg sFst sLst dPol dPtr dCnt dIdl dKnw jCnt jFin jBeg jWs jMis jSrv jLft jSub jWai jNxt cnd nw hi sv th cd ha ov hcur (xs (i + 1).toNatClampNeg) 0 _ h) (vx_cwSW (hh := [(0, 17, 20, 19)]) 4 C.2.2.2.2 gL_law_L_setUp rfl rfl rfl (by decide +kernel) ⟨Nat.le_of_ble_eq_true rfl, Nat.le_of_ble_eq_true rfl⟩) rfl rfl (Nat.le_of_ble_eq_true rfl) dL_law_510 ⟨by omega, by omega⟩ (fun r4 => ?_)
    refine k_ex (fun sav_5 => k_ex (fun cnt_6 => k_ex (fun ST_7 => k_ex (fun rnd_8 => k_ex (fun cn_9 => k_ex (fun sUp_10 => k_ex (fun sReg_11 => k_ex (fun dCnt_12 => k_ex (fun dIdl_13 => k_ex (fun cnd_14 => k_ex (fun ov_15 => k_and (fun h => ?_))))))))))))
    refine k_istore (lv' := [(5, .int r4), (4, .int i), (3, .ref (b + 126)), (2, .ref (b + 122)), (1, .ref b), (0, .ref bs)]) C dL_law_513 (by decide) rfl ?_
    refine k_aload_n C dL_law_515 3 rfl ?_
    refine k_aload_n C dL_law_516 5 rfl ?_
    refine k_iload C dL_law_517 1 rfl ?_
    refine k_iconst (v := 1) C dL_law_519 (by decide) ?_
    refine k_iadd C dL_law_520 ?_
    refine l_sld C hScr hbl hbA q1 dL_law_521 ?_
    refine k_aload_n C dL_law_522 5 rfl ?_
    refine k_iload C dL_law_523 1 rfl ?_
    refine k_iconst (v := 2) C dL_law_525 (by decide) ?_
    refine k_iadd C dL_law_526 ?_
    refine l_sld C hScr hbl hbA q2 dL_law_527 ?_
    refine k_if_eq (tgt := 535) C dL_law_528 (by decide) (fun c16 => ?_) (fun c16 => ?_)
    · replace h := h.1 c16
      refine k_iconst (v := 0) C dL_law_535 (by decide) ?_
      refine k_callVi (st := []) C hE (c_X5_setUp l (P := (fun nw hi sv th cd ha => XF (LX E b nw hi sv th cd ha ov_15) cur sav_5 cnt_6 ST_7 now rnd_8 jm rp sc dc cn_9 sUp_10 sLen sWrk sReg_11 sFst sLst dPol dPtr dCnt_12 dIdl_13 dKnw jCnt jFin jBeg jWs jMis jSrv jLft jSub jWai jNxt cnd_14)) (focL_m E b) (fun q hq => hA q (Nat.le_trans (Nat.le_add_right _ _) hq.1)) nw hi sv th cd ha (xs (i + 1).toNatClampNeg) 0 _ h) (cwV 2 C.2.2.2.2 gL_law_X5_setUp rfl rfl rfl (by decide +kernel) ⟨Nat.le_of_ble_eq_true rfl, Nat.le_of_ble_eq_true rfl⟩) (fun H hP => va_recv hE.1 (k_one (mst_Mo hP.2.1)) rfl (q0 := 0) rfl) rfl rfl (Nat.le_of_ble_eq_true rfl) dL_law_536 ⟨by omega, by omega⟩ (fun r17 => ?_)
      refine k_ex (fun nw_18 => k_ex (fun hi_19 => k_ex (fun sv_20 => k_ex (fun th_21 => k_and (fun h => ?_)))))
      refine k_pre (P2 := XF (LX E b nw_18 hi_19 sv_20 th_21 cd ha ov_15) cur sav_5 cnt_6 ST_7 now rnd_8 jm rp sc dc cn_9 sUp_10 sLen sWrk sReg_11 sFst sLst dPol dPtr dCnt_12 dIdl_13 dKnw jCnt jFin jBeg jWs jMis jSrv jLft jSub jWai jNxt cnd_14) (fun H hP => hP) ?_
      refine k_istore (lv' := [(6, .int r17), (5, .int r4), (4, .int i), (3, .ref (b + 126)), (2, .ref (b + 122)), (1, .ref b), (0, .ref bs)]) C dL_law_539 (by decide) rfl ?_
      refine k_aload_n C dL_law_541 4 rfl ?_
      refine k_callVi (st := []) C hE (c_X5_thrown l (P := (fun nw hi sv th cd ha => XF (LX E b nw hi sv th cd ha ov_15) cur sav_5 cnt_6 ST_7 now rnd_8 jm rp sc dc cn_9 sUp_10 sLen sWrk sReg_11 sFst sLst dPol dPtr dCnt_12 dIdl_13 dKnw jCnt jFin jBeg jWs jMis jSrv jLft jSub jWai jNxt cnd_14)) (focL_m E b) (fun q hq => hA q (Nat.le_trans (Nat.le_add_right _ _) hq.1)) nw_18 hi_19 sv_20 th_21 cd ha  _ h) (cwV 0 C.2.2.2.2 gL_law_X5_thrown rfl rfl rfl (by decide +kernel) ⟨Nat.le_of_ble_eq_true rfl, Nat.le_of_ble_eq_true rfl⟩) (fun H hP => va_recv hE.1 (k_one (mst_Mo hP.2.1)) rfl (q0 := 0) rfl) rfl rfl (Nat.le_of_ble_eq_true rfl) dL_law_542 ⟨by omega, by omega⟩ (fun r22 => ?_)
      refine k_and (fun h => ?_)
      refine k_pre (P2 := XF (LX E b nw_18 hi_19 sv_20 th_21 cd ha ov_15) cur sav_5 cnt_6 ST_7 now rnd_8 jm rp sc dc cn_9 sUp_10 sLen sWrk sReg_11 sFst sLst dPol dPtr dCnt_12 dIdl_13 dKnw jCnt jFin jBeg jWs jMis jSrv jLft jSub jWai jNxt cnd_14) (fun H hP => hP) ?_
      refine k_iload C dL_law_545 1 rfl ?_
      refine k_icmp_eq (tgt := 552) C dL_law_547 (by decide) (fun c23 => ?_) (fun c23 => ?_)
      · replace h := h.1 c23
        refine k_iload C dL_law_552 1 rfl ?_
        refine k_if_ne (tgt := 576) C dL_law_554 (by decide) (fun c24 => ?_) (fun c24 => ?_)
        · replace h := h.2 c24
          refine k_goto (tgt := 1394) C dL_law_576 (by decide) ?_
          obtain ⟨x25, ex25⟩ : ∃ z : Int32, z = i + 3 := ⟨_, rfl⟩
          replace h := h x25 ex25
          refine k_iinc (v := x25) (lv' := [(4, .int x25), (6, .int r17), (5, .int r4), (3, .ref (b + 126)), (2, .ref (b + 122)), (1, .ref b), (0, .ref bs)]) (j := 2) C dL_law_1394 rfl (by rw [ex25]; rfl) (by decide) rfl ?_
          refine k_goto (tgt := 23) C dL_law_1397 (by decide) ?_
          refine k_wide (k2 := cells + 4) (n2 := slots + 24) (by omega) (by omega) ?_
          refine k_pc (pc2 := 23) rfl ?_
          refine k_sub [0, 3, 4, 5, 6] rfl ?_
          exact ih23 _ _ _ _ _ _ _ _ _ _ _ _ _ _ _ _ _ _ _ _ _ _ _ _ _ _ _ _ _ _ _ _ _ _ _ _ _ _ _ _ _ h
        · replace h := h.1 c24
          refine k_aload_n C dL_law_557 3 rfl ?_
          refine k_iconst (v := 0) C dL_law_558 (by decide) ?_
          refine l_get C hE.1 dL_law_559 ?_
          refine k_iload C dL_law_560 0 rfl ?_
          refine k_if_eq (tgt := 569) C dL_law_562 (by decide) (fun c26 => ?_) (fun c26 => ?_)
          · replace h := h.1 c26
            refine k_lconst (v := 0) C dL_law_569 (by decide) ?_
            refine k_lcmp C dL_law_570 ?_
            refine k_if_eq (tgt := 576) C dL_law_571 (by decide) (fun c27 => ?_) (fun c27 => ?_)
            · replace h := h.1 c27
              refine k_goto (tgt := 1394) C dL_law_576 (by decide) ?_
              obtain ⟨x28, ex28⟩ : ∃ z : Int32, z = i + 3 := ⟨_, rfl⟩
              replace h := h x28 ex28
              refine k_iinc (v := x28) (lv' := [(4, .int x28), (6, .int r17), (5, .int r4), (3, .ref (b + 126)), (2, .ref (b + 122)), (1, .ref b), (0, .ref bs)]) (j := 2) C dL_law_1394 rfl (by rw [ex28]; rfl) (by decide) rfl ?_
              refine k_goto (tgt := 23) C dL_law_1397 (by decide) ?_
              refine k_wide (k2 := cells + 4) (n2 := slots + 24) (by omega) (by omega) ?_
              refine k_pc (pc2 := 23) rfl ?_
              refine k_sub [0, 3, 4, 5, 6] rfl ?_
              exact ih23 _ _ _ _ _ _ _ _ _ _ _ _ _ _ _ _ _ _ _ _ _ _ _ _ _ _ _ _ _ _ _ _ _ _ _ _ _ _ _ _ _ h
            · replace h := h.2 c27
              refine k_iconst (v := 0) C dL_law_574 (by decide) ?_
              exact h.elim
          · replace h := h.2 c26
            refine k_lconst (v := 1) C dL_law_565 (by decide) ?_
            refine k_goto (tgt := 570) C dL_law_566 (by decide) ?_
            refine k_lcmp C dL_law_570 ?_
            refine k_if_eq (tgt := 576) C dL_law_571 (by decide) (fun c29 => ?_) (fun c29 => ?_)
            · replace h := h.1 c29
              refine k_goto (tgt := 1394) C dL_law_576 (by decide) ?_
              obtain ⟨x30, ex30⟩ : ∃ z : Int32, z = i + 3 := ⟨_, rfl⟩
              replace h := h x30 ex30
              refine k_iinc (v := x30) (lv' := [(4, .int x30), (6, .int r17), (5, .int r4), (3, .ref (b + 126)), (2, .ref (b + 122)), (1, .ref b), (0, .ref bs)]) (j := 2) C dL_law_1394 rfl (by rw [ex30]; rfl) (by decide) rfl ?_
              refine k_goto (tgt := 23) C dL_law_1397 (by decide) ?_
              refine k_wide (k2 := cells + 4) (n2 := slots + 24) (by omega) (by omega) ?_
              refine k_pc (pc2 := 23) rfl ?_
              refine k_sub [0, 3, 4, 5, 6] rfl ?_
              exact ih23 _ _ _ _ _ _ _ _ _ _ _ _ _ _ _ _ _ _ _ _ _ _ _ _ _ _ _ _ _ _ _ _ _ _ _ _ _ _ _ _ _ h
            · replace h := h.2 c29
              refine k_iconst (v := 0) C dL_law_574 (by decide) ?_
              exact h.elim
      · replace h := h.2 c23
        refine k_iconst (v := 0) C dL_law_550 (by decide) ?_
        exact h.elim
    · replace h := h.2 c16
      refine k_iconst (v := 1) C dL_law_531 (by decide) ?_
      refine k_goto (tgt := 536) C dL_law_532 (by decide) ?_
      refine k_callVi (st := []) C hE (c_X5_setUp l (P := (fun nw hi sv th cd ha => XF (LX E b nw hi sv th cd ha ov_15) cur sav_5 cnt_6 ST_7 now rnd_8 jm rp sc dc cn_9 sUp_10 sLen sWrk sReg_11 sFst sLst dPol dPtr dCnt_12 dIdl_13 dKnw jCnt jFin jBeg jWs jMis jSrv jLft jSub jWai jNxt cnd_14)) (focL_m E b) (fun q hq => hA q (Nat.le_trans (Nat.le_add_right _ _) hq.1)) nw hi sv th cd ha (xs (i + 1).toNatClampNeg) 1 _ h) (cwV 2 C.2.2.2.2 gL_law_X5_setUp rfl rfl rfl (by decide +kernel) ⟨Nat.le_of_ble_eq_true rfl, Nat.le_of_ble_eq_true rfl⟩) (fun H hP => va_recv hE.1 (k_one (mst_Mo hP.2.1)) rfl (q0 := 0) rfl) rfl rfl (Nat.le_of_ble_eq_true rfl) dL_law_536 ⟨by omega, by omega⟩ (fun r31 => ?_)
      refine k_ex (fun nw_32 => k_ex (fun hi_33 => k_ex (fun sv_34 => k_ex (fun th_35 => k_and (fun h => ?_)))))
      refine k_pre (P2 := XF (LX E b nw_32 hi_33 sv_34 th_35 cd ha ov_15) cur sav_5 cnt_6 ST_7 now rnd_8 jm rp sc dc cn_9 sUp_10 sLen sWrk sReg_11 sFst sLst dPol dPtr dCnt_12 dIdl_13 dKnw jCnt jFin jBeg jWs jMis jSrv jLft jSub jWai jNxt cnd_14) (fun H hP => hP) ?_
      refine k_istore (lv' := [(6, .int r31), (5, .int r4), (4, .int i), (3, .ref (b + 126)), (2, .ref (b + 122)), (1, .ref b), (0, .ref bs)]) C dL_law_539 (by decide) rfl ?_
      refine k_aload_n C dL_law_541 4 rfl ?_
      refine k_callVi (st := []) C hE (c_X5_thrown l (P := (fun nw hi sv th cd ha => XF (LX E b nw hi sv th cd ha ov_15) cur sav_5 cnt_6 ST_7 now rnd_8 jm rp sc dc cn_9 sUp_10 sLen sWrk sReg_11 sFst sLst dPol dPtr dCnt_12 dIdl_13 dKnw jCnt jFin jBeg jWs jMis jSrv jLft jSub jWai jNxt cnd_14)) (focL_m E b) (fun q hq => hA q (Nat.le_trans (Nat.le_add_right _ _) hq.1)) nw_32 hi_33 sv_34 th_35 cd ha  _ h) (cwV 0 C.2.2.2.2 gL_law_X5_thrown rfl rfl rfl (by decide +kernel) ⟨Nat.le_of_ble_eq_true rfl, Nat.le_of_ble_eq_true rfl⟩) (fun H hP => va_recv hE.1 (k_one (mst_Mo hP.2.1)) rfl (q0 := 0) rfl) rfl rfl (Nat.le_of_ble_eq_true rfl) dL_law_542 ⟨by omega, by omega⟩ (fun r36 => ?_)
      refine k_and (fun h => ?_)
      refine k_pre (P2 := XF (LX E b nw_32 hi_33 sv_34 th_35 cd ha ov_15) cur sav_5 cnt_6 ST_7 now rnd_8 jm rp sc dc cn_9 sUp_10 sLen sWrk sReg_11 sFst sLst dPol dPtr dCnt_12 dIdl_13 dKnw jCnt jFin jBeg jWs jMis jSrv jLft jSub jWai jNxt cnd_14) (fun H hP => hP) ?_
      refine k_iload C dL_law_545 1 rfl ?_
      refine k_icmp_eq (tgt := 552) C dL_law_547 (by decide) (fun c37 => ?_) (fun c37 => ?_)
      · replace h := h.1 c37
        refine k_iload C dL_law_552 1 rfl ?_
        refine k_if_ne (tgt := 576) C dL_law_554 (by decide) (fun c38 => ?_) (fun c38 => ?_)
        · replace h := h.2 c38
          refine k_goto (tgt := 1394) C dL_law_576 (by decide) ?_
          obtain ⟨x39, ex39⟩ : ∃ z : Int32, z = i + 3 := ⟨_, rfl⟩
          replace h := h x39 ex39
          refine k_iinc (v := x39) (lv' := [(4, .int x39), (6, .int r31), (5, .int r4), (3, .ref (b + 126)), (2, .ref (b + 122)), (1, .ref b), (0, .ref bs)]) (j := 2) C dL_law_1394 rfl (by rw [ex39]; rfl) (by decide) rfl ?_
          refine k_goto (tgt := 23) C dL_law_1397 (by decide) ?_
          refine k_wide (k2 := cells + 4) (n2 := slots + 24) (by omega) (by omega) ?_
          refine k_pc (pc2 := 23) rfl ?_
          refine k_sub [0, 3, 4, 5, 6] rfl ?_
          exact ih23 _ _ _ _ _ _ _ _ _ _ _ _ _ _ _ _ _ _ _ _ _ _ _ _ _ _ _ _ _ _ _ _ _ _ _ _ _ _ _ _ _ h
        · replace h := h.1 c38
          refine k_aload_n C dL_law_557 3 rfl ?_
          refine k_iconst (v := 0) C dL_law_558 (by decide) ?_
          refine l_get C hE.1 dL_law_559 ?_
          refine k_iload C dL_law_560 0 rfl ?_
          refine k_if_eq (tgt := 569) C dL_law_562 (by decide) (fun c40 => ?_) (fun c40 => ?_)
          · replace h := h.1 c40
            refine k_lconst (v := 0) C dL_law_569 (by decide) ?_
            refine k_lcmp C dL_law_570 ?_
            refine k_if_eq (tgt := 576) C dL_law_571 (by decide) (fun c41 => ?_) (fun c41 => ?_)
            · replace h := h.1 c41
              refine k_goto (tgt := 1394) C dL_law_576 (by decide) ?_
              obtain ⟨x42, ex42⟩ : ∃ z : Int32, z = i + 3 := ⟨_, rfl⟩
              replace h := h x42 ex42
              refine k_iinc (v := x42) (lv' := [(4, .int x42), (6, .int r31), (5, .int r4), (3, .ref (b + 126)), (2, .ref (b + 122)), (1, .ref b), (0, .ref bs)]) (j := 2) C dL_law_1394 rfl (by rw [ex42]; rfl) (by decide) rfl ?_
              refine k_goto (tgt := 23) C dL_law_1397 (by decide) ?_
              refine k_wide (k2 := cells + 4) (n2 := slots + 24) (by omega) (by omega) ?_
              refine k_pc (pc2 := 23) rfl ?_
              refine k_sub [0, 3, 4, 5, 6] rfl ?_
              exact ih23 _ _ _ _ _ _ _ _ _ _ _ _ _ _ _ _ _ _ _ _ _ _ _ _ _ _ _ _ _ _ _ _ _ _ _ _ _ _ _ _ _ h
            · replace h := h.2 c41
              refine k_iconst (v := 0) C dL_law_574 (by decide) ?_
              exact h.elim
          · replace h := h.2 c40
            refine k_lconst (v := 1) C dL_law_565 (by decide) ?_
            refine k_goto (tgt := 570) C dL_law_566 (by decide) ?_
            refine k_lcmp C dL_law_570 ?_
            refine k_if_eq (tgt := 576) C dL_law_571 (by decide) (fun c43 => ?_) (fun c43 => ?_)
            · replace h := h.1 c43
              refine k_goto (tgt := 1394) C dL_law_576 (by decide) ?_
              obtain ⟨x44, ex44⟩ : ∃ z : Int32, z = i + 3 := ⟨_, rfl⟩
              replace h := h x44 ex44
              refine k_iinc (v := x44) (lv' := [(4, .int x44), (6, .int r31), (5, .int r4), (3, .ref (b + 126)), (2, .ref (b + 122)), (1, .ref b), (0, .ref bs)]) (j := 2) C dL_law_1394 rfl (by rw [ex44]; rfl) (by decide) rfl ?_
              refine k_goto (tgt := 23) C dL_law_1397 (by decide) ?_
              refine k_wide (k2 := cells + 4) (n2 := slots + 24) (by omega) (by omega) ?_
              refine k_pc (pc2 := 23) rfl ?_
              refine k_sub [0, 3, 4, 5, 6] rfl ?_
              exact ih23 _ _ _ _ _ _ _ _ _ _ _ _ _ _ _ _ _ _ _ _ _ _ _ _ _ _ _ _ _ _ _ _ _ _ _ _ _ _ _ _ _ h
            · replace h := h.2 c43
              refine k_iconst (v := 0) C dL_law_574 (by decide) ?_
              exact h.elim
      · replace h := h.2 c37
        refine k_iconst (v := 0) C dL_law_550 (by decide) ?_
        exact h.elim
  · replace h := h.2 c3
    refine k_iconst (v := 1) C dL_law_504 (by decide) ?_
    refine k_goto (tgt := 509) C dL_law_505 (by decide) ?_
    refine k_aload_n C dL_law_509 1 rfl ?_
    refine k_callWi (st := []) C hX (c_L_setUp l hlt hA cur sav cnt ST now rnd jm rp sc dc cn sUp sLen sWrk sReg sFst sLst dPol dPtr dCnt dIdl dKnw jCnt jFin jBeg jWs jMis jSrv jLft jSub jWai jNxt cnd nw hi sv th cd ha ov hcur (xs (i + 1).toNatClampNeg) 1 _ h) (vx_cwSW (hh := [(0, 17, 20, 19)]) 4 C.2.2.2.2 gL_law_L_setUp rfl rfl rfl (by decide +kernel) ⟨Nat.le_of_ble_eq_true rfl, Nat.le_of_ble_eq_true rfl⟩) rfl rfl (Nat.le_of_ble_eq_true rfl) dL_law_510 ⟨by omega, by omega⟩ (fun r45 => ?_)
    refine k_ex (fun sav_46 => k_ex (fun cnt_47 => k_ex (fun ST_48 => k_ex (fun rnd_49 => k_ex (fun cn_50 => k_ex (fun sUp_51 => k_ex (fun sReg_52 => k_ex (fun dCnt_53 => k_ex (fun dIdl_54 => k_ex (fun cnd_55 => k_ex (fun ov_56 => k_and (fun h => ?_))))))))))))
    refine k_istore (lv' := [(5, .int r45), (4, .int i), (3, .ref (b + 126)), (2, .ref (b + 122)), (1, .ref b), (0, .ref bs)]) C dL_law_513 (by decide) rfl ?_
    refine k_aload_n C dL_law_515 3 rfl ?_
    refine k_aload_n C dL_law_516 5 rfl ?_
    refine k_iload C dL_law_517 1 rfl ?_
    refine k_iconst (v := 1) C dL_law_519 (by decide) ?_
    refine k_iadd C dL_law_520 ?_
    refine l_sld C hScr hbl hbA q1 dL_law_521 ?_
    refine k_aload_n C dL_law_522 5 rfl ?_
    refine k_iload C dL_law_523 1 rfl ?_
    refine k_iconst (v := 2) C dL_law_525 (by decide) ?_
    refine k_iadd C dL_law_526 ?_
    refine l_sld C hScr hbl hbA q2 dL_law_527 ?_
    refine k_if_eq (tgt := 535) C dL_law_528 (by decide) (fun c57 => ?_) (fun c57 => ?_)
    · replace h := h.1 c57
      refine k_iconst (v := 0) C dL_law_535 (by decide) ?_
      refine k_callVi (st := []) C hE (c_X5_setUp l (P := (fun nw hi sv th cd ha => XF (LX E b nw hi sv th cd ha ov_56) cur sav_46 cnt_47 ST_48 now rnd_49 jm rp sc dc cn_50 sUp_51 sLen sWrk sReg_52 sFst sLst dPol dPtr dCnt_53 dIdl_54 dKnw jCnt jFin jBeg jWs jMis jSrv jLft jSub jWai jNxt cnd_55)) (focL_m E b) (fun q hq => hA q (Nat.le_trans (Nat.le_add_right _ _) hq.1)) nw hi sv th cd ha (xs (i + 1).toNatClampNeg) 0 _ h) (cwV 2 C.2.2.2.2 gL_law_X5_setUp rfl rfl rfl (by decide +kernel) ⟨Nat.le_of_ble_eq_true rfl, Nat.le_of_ble_eq_true rfl⟩) (fun H hP => va_recv hE.1 (k_one (mst_Mo hP.2.1)) rfl (q0 := 0) rfl) rfl rfl (Nat.le_of_ble_eq_true rfl) dL_law_536 ⟨by omega, by omega⟩ (fun r58 => ?_)
      refine k_ex (fun nw_59 => k_ex (fun hi_60 => k_ex (fun sv_61 => k_ex (fun th_62 => k_and (fun h => ?_)))))
      refine k_pre (P2 := XF (LX E b nw_59 hi_60 sv_61 th_62 cd ha ov_56) cur sav_46 cnt_47 ST_48 now rnd_49 jm rp sc dc cn_50 sUp_51 sLen sWrk sReg_52 sFst sLst dPol dPtr dCnt_53 dIdl_54 dKnw jCnt jFin jBeg jWs jMis jSrv jLft jSub jWai jNxt cnd_55) (fun H hP => hP) ?_
      refine k_istore (lv' := [(6, .int r58), (5, .int r45), (4, .int i), (3, .ref (b + 126)), (2, .ref (b + 122)), (1, .ref b), (0, .ref bs)]) C dL_law_539 (by decide) rfl ?_
      refine k_aload_n C dL_law_541 4 rfl ?_
      refine k_callVi (st := []) C hE (c_X5_thrown l (P := (fun nw hi sv th cd ha => XF (LX E b nw hi sv th cd ha ov_56) cur sav_46 cnt_47 ST_48 now rnd_49 jm rp sc dc cn_50 sUp_51 sLen sWrk sReg_52 sFst sLst dPol dPtr dCnt_53 dIdl_54 dKnw jCnt jFin jBeg jWs jMis jSrv jLft jSub jWai jNxt cnd_55)) (focL_m E b) (fun q hq => hA q (Nat.le_trans (Nat.le_add_right _ _) hq.1)) nw_59 hi_60 sv_61 th_62 cd ha  _ h) (cwV 0 C.2.2.2.2 gL_law_X5_thrown rfl rfl rfl (by decide +kernel) ⟨Nat.le_of_ble_eq_true rfl, Nat.le_of_ble_eq_true rfl⟩) (fun H hP => va_recv hE.1 (k_one (mst_Mo hP.2.1)) rfl (q0 := 0) rfl) rfl rfl (Nat.le_of_ble_eq_true rfl) dL_law_542 ⟨by omega, by omega⟩ (fun r63 => ?_)
      refine k_and (fun h => ?_)
      refine k_pre (P2 := XF (LX E b nw_59 hi_60 sv_61 th_62 cd ha ov_56) cur sav_46 cnt_47 ST_48 now rnd_49 jm rp sc dc cn_50 sUp_51 sLen sWrk sReg_52 sFst sLst dPol dPtr dCnt_53 dIdl_54 dKnw jCnt jFin jBeg jWs jMis jSrv jLft jSub jWai jNxt cnd_55) (fun H hP => hP) ?_
      refine k_iload C dL_law_545 1 rfl ?_
      refine k_icmp_eq (tgt := 552) C dL_law_547 (by decide) (fun c64 => ?_) (fun c64 => ?_)
      · replace h := h.1 c64
        refine k_iload C dL_law_552 1 rfl ?_
        refine k_if_ne (tgt := 576) C dL_law_554 (by decide) (fun c65 => ?_) (fun c65 => ?_)
        · replace h := h.2 c65
          refine k_goto (tgt := 1394) C dL_law_576 (by decide) ?_
          obtain ⟨x66, ex66⟩ : ∃ z : Int32, z = i + 3 := ⟨_, rfl⟩
          replace h := h x66 ex66
          refine k_iinc (v := x66) (lv' := [(4, .int x66), (6, .int r58), (5, .int r45), (3, .ref (b + 126)), (2, .ref (b + 122)), (1, .ref b), (0, .ref bs)]) (j := 2) C dL_law_1394 rfl (by rw [ex66]; rfl) (by decide) rfl ?_
          refine k_goto (tgt := 23) C dL_law_1397 (by decide) ?_
          refine k_wide (k2 := cells + 4) (n2 := slots + 24) (by omega) (by omega) ?_
          refine k_pc (pc2 := 23) rfl ?_
          refine k_sub [0, 3, 4, 5, 6] rfl ?_
          exact ih23 _ _ _ _ _ _ _ _ _ _ _ _ _ _ _ _ _ _ _ _ _ _ _ _ _ _ _ _ _ _ _ _ _ _ _ _ _ _ _ _ _ h
        · replace h := h.1 c65
          refine k_aload_n C dL_law_557 3 rfl ?_
          refine k_iconst (v := 0) C dL_law_558 (by decide) ?_
          refine l_get C hE.1 dL_law_559 ?_
          refine k_iload C dL_law_560 0 rfl ?_
          refine k_if_eq (tgt := 569) C dL_law_562 (by decide) (fun c67 => ?_) (fun c67 => ?_)
          · replace h := h.1 c67
            refine k_lconst (v := 0) C dL_law_569 (by decide) ?_
            refine k_lcmp C dL_law_570 ?_
            refine k_if_eq (tgt := 576) C dL_law_571 (by decide) (fun c68 => ?_) (fun c68 => ?_)
            · replace h := h.1 c68
              refine k_goto (tgt := 1394) C dL_law_576 (by decide) ?_
              obtain ⟨x69, ex69⟩ : ∃ z : Int32, z = i + 3 := ⟨_, rfl⟩
              replace h := h x69 ex69
              refine k_iinc (v := x69) (lv' := [(4, .int x69), (6, .int r58), (5, .int r45), (3, .ref (b + 126)), (2, .ref (b + 122)), (1, .ref b), (0, .ref bs)]) (j := 2) C dL_law_1394 rfl (by rw [ex69]; rfl) (by decide) rfl ?_
              refine k_goto (tgt := 23) C dL_law_1397 (by decide) ?_
              refine k_wide (k2 := cells + 4) (n2 := slots + 24) (by omega) (by omega) ?_
              refine k_pc (pc2 := 23) rfl ?_
              refine k_sub [0, 3, 4, 5, 6] rfl ?_
              exact ih23 _ _ _ _ _ _ _ _ _ _ _ _ _ _ _ _ _ _ _ _ _ _ _ _ _ _ _ _ _ _ _ _ _ _ _ _ _ _ _ _ _ h
            · replace h := h.2 c68
              refine k_iconst (v := 0) C dL_law_574 (by decide) ?_
              exact h.elim
          · replace h := h.2 c67
            refine k_lconst (v := 1) C dL_law_565 (by decide) ?_
            refine k_goto (tgt := 570) C dL_law_566 (by decide) ?_
            refine k_lcmp C dL_law_570 ?_
            refine k_if_eq (tgt := 576) C dL_law_571 (by decide) (fun c70 => ?_) (fun c70 => ?_)
            · replace h := h.1 c70
              refine k_goto (tgt := 1394) C dL_law_576 (by decide) ?_
              obtain ⟨x71, ex71⟩ : ∃ z : Int32, z = i + 3 := ⟨_, rfl⟩
              replace h := h x71 ex71
              refine k_iinc (v := x71) (lv' := [(4, .int x71), (6, .int r58), (5, .int r45), (3, .ref (b + 126)), (2, .ref (b + 122)), (1, .ref b), (0, .ref bs)]) (j := 2) C dL_law_1394 rfl (by rw [ex71]; rfl) (by decide) rfl ?_
              refine k_goto (tgt := 23) C dL_law_1397 (by decide) ?_
              refine k_wide (k2 := cells + 4) (n2 := slots + 24) (by omega) (by omega) ?_
              refine k_pc (pc2 := 23) rfl ?_
              refine k_sub [0, 3, 4, 5, 6] rfl ?_
              exact ih23 _ _ _ _ _ _ _ _ _ _ _ _ _ _ _ _ _ _ _ _ _ _ _ _ _ _ _ _ _ _ _ _ _ _ _ _ _ _ _ _ _ h
            · replace h := h.2 c70
              refine k_iconst (v := 0) C dL_law_574 (by decide) ?_
              exact h.elim
      · replace h := h.2 c64
        refine k_iconst (v := 0) C dL_law_550 (by decide) ?_
        exact h.elim
    · replace h := h.2 c57
      refine k_iconst (v := 1) C dL_law_531 (by decide) ?_
      refine k_goto (tgt := 536) C dL_law_532 (by decide) ?_
      refine k_callVi (st := []) C hE (c_X5_setUp l (P := (fun nw hi sv th cd ha => XF (LX E b nw hi sv th cd ha ov_56) cur sav_46 cnt_47 ST_48 now rnd_49 jm rp sc dc cn_50 sUp_51 sLen sWrk sReg_52 sFst sLst dPol dPtr dCnt_53 dIdl_54 dKnw jCnt jFin jBeg jWs jMis jSrv jLft jSub jWai jNxt cnd_55)) (focL_m E b) (fun q hq => hA q (Nat.le_trans (Nat.le_add_right _ _) hq.1)) nw hi sv th cd ha (xs (i + 1).toNatClampNeg) 1 _ h) (cwV 2 C.2.2.2.2 gL_law_X5_setUp rfl rfl rfl (by decide +kernel) ⟨Nat.le_of_ble_eq_true rfl, Nat.le_of_ble_eq_true rfl⟩) (fun H hP => va_recv hE.1 (k_one (mst_Mo hP.2.1)) rfl (q0 := 0) rfl) rfl rfl (Nat.le_of_ble_eq_true rfl) dL_law_536 ⟨by omega, by omega⟩ (fun r72 => ?_)
      refine k_ex (fun nw_73 => k_ex (fun hi_74 => k_ex (fun sv_75 => k_ex (fun th_76 => k_and (fun h => ?_)))))
      refine k_pre (P2 := XF (LX E b nw_73 hi_74 sv_75 th_76 cd ha ov_56) cur sav_46 cnt_47 ST_48 now rnd_49 jm rp sc dc cn_50 sUp_51 sLen sWrk sReg_52 sFst sLst dPol dPtr dCnt_53 dIdl_54 dKnw jCnt jFin jBeg jWs jMis jSrv jLft jSub jWai jNxt cnd_55) (fun H hP => hP) ?_
      refine k_istore (lv' := [(6, .int r72), (5, .int r45), (4, .int i), (3, .ref (b + 126)), (2, .ref (b + 122)), (1, .ref b), (0, .ref bs)]) C dL_law_539 (by decide) rfl ?_
      refine k_aload_n C dL_law_541 4 rfl ?_
      refine k_callVi (st := []) C hE (c_X5_thrown l (P := (fun nw hi sv th cd ha => XF (LX E b nw hi sv th cd ha ov_56) cur sav_46 cnt_47 ST_48 now rnd_49 jm rp sc dc cn_50 sUp_51 sLen sWrk sReg_52 sFst sLst dPol dPtr dCnt_53 dIdl_54 dKnw jCnt jFin jBeg jWs jMis jSrv jLft jSub jWai jNxt cnd_55)) (focL_m E b) (fun q hq => hA q (Nat.le_trans (Nat.le_add_right _ _) hq.1)) nw_73 hi_74 sv_75 th_76 cd ha  _ h) (cwV 0 C.2.2.2.2 gL_law_X5_thrown rfl rfl rfl (by decide +kernel) ⟨Nat.le_of_ble_eq_true rfl, Nat.le_of_ble_eq_true rfl⟩) (fun H hP => va_recv hE.1 (k_one (mst_Mo hP.2.1)) rfl (q0 := 0) rfl) rfl rfl (Nat.le_of_ble_eq_true rfl) dL_law_542 ⟨by omega, by omega⟩ (fun r77 => ?_)
      refine k_and (fun h => ?_)
      refine k_pre (P2 := XF (LX E b nw_73 hi_74 sv_75 th_76 cd ha ov_56) cur sav_46 cnt_47 ST_48 now rnd_49 jm rp sc dc cn_50 sUp_51 sLen sWrk sReg_52 sFst sLst dPol dPtr dCnt_53 dIdl_54 dKnw jCnt jFin jBeg jWs jMis jSrv jLft jSub jWai jNxt cnd_55) (fun H hP => hP) ?_
      refine k_iload C dL_law_545 1 rfl ?_
      refine k_icmp_eq (tgt := 552) C dL_law_547 (by decide) (fun c78 => ?_) (fun c78 => ?_)
      · replace h := h.1 c78
        refine k_iload C dL_law_552 1 rfl ?_
        refine k_if_ne (tgt := 576) C dL_law_554 (by decide) (fun c79 => ?_) (fun c79 => ?_)
        · replace h := h.2 c79
          refine k_goto (tgt := 1394) C dL_law_576 (by decide) ?_
          obtain ⟨x80, ex80⟩ : ∃ z : Int32, z = i + 3 := ⟨_, rfl⟩
          replace h := h x80 ex80
          refine k_iinc (v := x80) (lv' := [(4, .int x80), (6, .int r72), (5, .int r45), (3, .ref (b + 126)), (2, .ref (b + 122)), (1, .ref b), (0, .ref bs)]) (j := 2) C dL_law_1394 rfl (by rw [ex80]; rfl) (by decide) rfl ?_
          refine k_goto (tgt := 23) C dL_law_1397 (by decide) ?_
          refine k_wide (k2 := cells + 4) (n2 := slots + 24) (by omega) (by omega) ?_
          refine k_pc (pc2 := 23) rfl ?_
          refine k_sub [0, 3, 4, 5, 6] rfl ?_
          exact ih23 _ _ _ _ _ _ _ _ _ _ _ _ _ _ _ _ _ _ _ _ _ _ _ _ _ _ _ _ _ _ _ _ _ _ _ _ _ _ _ _ _ h
        · replace h := h.1 c79
          refine k_aload_n C dL_law_557 3 rfl ?_
          refine k_iconst (v := 0) C dL_law_558 (by decide) ?_
          refine l_get C hE.1 dL_law_559 ?_
          refine k_iload C dL_law_560 0 rfl ?_
          refine k_if_eq (tgt := 569) C dL_law_562 (by decide) (fun c81 => ?_) (fun c81 => ?_)
          · replace h := h.1 c81
            refine k_lconst (v := 0) C dL_law_569 (by decide) ?_
            refine k_lcmp C dL_law_570 ?_
            refine k_if_eq (tgt := 576) C dL_law_571 (by decide) (fun c82 => ?_) (fun c82 => ?_)
            · replace h := h.1 c82
              refine k_goto (tgt := 1394) C dL_law_576 (by decide) ?_
              obtain ⟨x83, ex83⟩ : ∃ z : Int32, z = i + 3 := ⟨_, rfl⟩
              replace h := h x83 ex83
              refine k_iinc (v := x83) (lv' := [(4, .int x83), (6, .int r72), (5, .int r45), (3, .ref (b + 126)), (2, .ref (b + 122)), (1, .ref b), (0, .ref bs)]) (j := 2) C dL_law_1394 rfl (by rw [ex83]; rfl) (by decide) rfl ?_
              refine k_goto (tgt := 23) C dL_law_1397 (by decide) ?_
              refine k_wide (k2 := cells + 4) (n2 := slots + 24) (by omega) (by omega) ?_
              refine k_pc (pc2 := 23) rfl ?_
              refine k_sub [0, 3, 4, 5, 6] rfl ?_
              exact ih23 _ _ _ _ _ _ _ _ _ _ _ _ _ _ _ _ _ _ _ _ _ _ _ _ _ _ _ _ _ _ _ _ _ _ _ _ _ _ _ _ _ h
            · replace h := h.2 c82
              refine k_iconst (v := 0) C dL_law_574 (by decide) ?_
              exact h.elim
          · replace h := h.2 c81
            refine k_lconst (v := 1) C dL_law_565 (by decide) ?_
            refine k_goto (tgt := 570) C dL_law_566 (by decide) ?_
            refine k_lcmp C dL_law_570 ?_
            refine k_if_eq (tgt := 576) C dL_law_571 (by decide) (fun c84 => ?_) (fun c84 => ?_)
            · replace h := h.1 c84
              refine k_goto (tgt := 1394) C dL_law_576 (by decide) ?_
              obtain ⟨x85, ex85⟩ : ∃ z : Int32, z = i + 3 := ⟨_, rfl⟩
              replace h := h x85 ex85
              refine k_iinc (v := x85) (lv' := [(4, .int x85), (6, .int r72), (5, .int r45), (3, .ref (b + 126)), (2, .ref (b + 122)), (1, .ref b), (0, .ref bs)]) (j := 2) C dL_law_1394 rfl (by rw [ex85]; rfl) (by decide) rfl ?_
              refine k_goto (tgt := 23) C dL_law_1397 (by decide) ?_
              refine k_wide (k2 := cells + 4) (n2 := slots + 24) (by omega) (by omega) ?_
              refine k_pc (pc2 := 23) rfl ?_
              refine k_sub [0, 3, 4, 5, 6] rfl ?_
              exact ih23 _ _ _ _ _ _ _ _ _ _ _ _ _ _ _ _ _ _ _ _ _ _ _ _ _ _ _ _ _ _ _ _ _ _ _ _ _ _ _ _ _ h
            · replace h := h.2 c84
              refine k_iconst (v := 0) C dL_law_574 (by decide) ?_
              exact h.elim
      · replace h := h.2 c78
        refine k_iconst (v := 0) C dL_law_550 (by decide) ?_
        exact h.elim
noncomputable def wp_L_c7 (cur : Nat) (L : Nat) (xs : Nat → Int32) (i : Int32) (sav : Nat → Nat) (cnt : Int32) (ST : Nat → TT) (now : Int32) (rnd : Int64) (jm : Int32) (rp : Int32) (sc : Int32) (dc : Int32) (cn : Int32) (sUp : Nat → Int32) (sLen : Nat → Int32) (sWrk : Nat → Int32) (sReg : Nat → Int32) (sFst : Nat → Int32) (sLst : Nat → Int32) (dPol : Nat → Int32) (dPtr : Nat → Int32) (dCnt : Nat → Int32) (dIdl : Nat → Nat → Int32) (dKnw : Nat → Nat → Int32) (jCnt : Int32) (jFin : Int32) (jBeg : Int32) (jWs : Int32) (jMis : Int32) (jSrv : Nat → Int32) (jLft : Nat → Int32) (jSub : Nat → Int32) (jWai : Nat → Int32) (jNxt : Nat → Int32) (cnd : Nat → Int32) (nw : Nat → Int32) (hi : Nat → Int32) (sv : Int32) (cd : Nat → Int32) (ha : Int64) (ov : Int64) (rec23 : Int32 → Nat → (Nat → Nat) → Int32 → (Nat → TT) → Int32 → Int64 → Int32 → Int32 → Int32 → Int32 → Int32 → (Nat → Int32) → (Nat → Int32) → (Nat → Int32) → (Nat → Int32) → (Nat → Int32) → (Nat → Int32) → (Nat → Int32) → (Nat → Int32) → (Nat → Int32) → (Nat → Nat → Int32) → (Nat → Nat → Int32) → Int32 → Int32 → Int32 → Int32 → Int32 → (Nat → Int32) → (Nat → Int32) → (Nat → Int32) → (Nat → Int32) → (Nat → Int32) → (Nat → Int32) → (Nat → Int32) → (Nat → Int32) → Int32 → Int32 → (Nat → Int32) → Int64 → Int64 → Prop) : Prop := cur < 4 ∧ ((vp_in (i + 1) L) ∧ ((vp_in (i + 2) L) ∧ (wp_L_submit cur sav cnt ST now rnd jm rp sc dc cn sUp sLen sWrk sReg sFst sLst dPol dPtr dCnt dIdl dKnw jCnt jFin jBeg jWs jMis jSrv jLft jSub jWai jNxt cnd ov (xs (i + 1).toNatClampNeg) (xs (i + 2).toNatClampNeg) (fun r3 sav_4 cnt_5 ST_6 rnd_7 sLen_8 sWrk_9 sReg_10 sFst_11 sLst_12 dPtr_13 dCnt_14 dIdl_15 dKnw_16 jCnt_17 jBeg_18 jWs_19 jMis_20 jSrv_21 jLft_22 jSub_23 jWai_24 jNxt_25 ov_26 => wp_X5_submit nw hi sv cd (xs (i + 1).toNatClampNeg) (xs (i + 2).toNatClampNeg) (fun r27 nw_28 hi_29 sv_30 th_31 cd_32 => wp_X5_thrown th_31 (fun r33 => (r33 = r3 → ((r3 = 0 → (((lg_cmp ov_26 (r27.toInt64)) = 0 → (∀ x38 : Int32, x38 = i + 3 → (rec23 x38 cur sav_4 cnt_5 ST_6 now rnd_7 jm rp sc dc cn sUp sLen_8 sWrk_9 sReg_10 sFst_11 sLst_12 dPol dPtr_13 dCnt_14 dIdl_15 dKnw_16 jCnt_17 jFin jBeg_18 jWs_19 jMis_20 jSrv_21 jLft_22 jSub_23 jWai_24 jNxt_25 cnd nw_28 hi_29 sv_30 th_31 cd_32 ha ov_26))) ∧ (¬ ((lg_cmp ov_26 (r27.toInt64)) = 0) → (False)))) ∧ (¬ r3 = 0 → (∀ x36 : Int32, x36 = i + 3 → (rec23 x36 cur sav_4 cnt_5 ST_6 now rnd_7 jm rp sc dc cn sUp sLen_8 sWrk_9 sReg_10 sFst_11 sLst_12 dPol dPtr_13 dCnt_14 dIdl_15 dKnw_16 jCnt_17 jFin jBeg_18 jWs_19 jMis_20 jSrv_21 jLft_22 jSub_23 jWai_24 jNxt_25 cnd nw_28 hi_29 sv_30 th_31 cd_32 ha ov_26))))) ∧ (¬ (r33 = r3) → (False))))))))
set_option maxRecDepth 100000 in
set_option maxHeartbeats 4000000 in
theorem kc_7 {p : Program} {l : Launch} {e : Env} {s : State} {m : MethodId} {args : Array Value} {below : List Frame} {meth : Method} {c : Code} {Q : State → Prop} {A : Nat → Prop} {E : EV} {b bs L : Nat} {xs : Nat → Int32} {cells slots : Nat} (C : CallFix p m c cL_law 9 s args wsL_law RL) (hlt : l.stackTraces = false) (hA : ∀ q, b ≤ q → A q) (hX : XL E A s) (hScr : va_X bs L xs s s.heap) (hbl : bs < s.heap.size) (hbA : ¬ A bs) (hcl : cells + 4 ≤ room_1.cells) (hsl : slots + 24 ≤ room_1.slots) (rec23 : Int32 → Nat → (Nat → Nat) → Int32 → (Nat → TT) → Int32 → Int64 → Int32 → Int32 → Int32 → Int32 → Int32 → (Nat → Int32) → (Nat → Int32) → (Nat → Int32) → (Nat → Int32) → (Nat → Int32) → (Nat → Int32) → (Nat → Int32) → (Nat → Int32) → (Nat → Int32) → (Nat → Nat → Int32) → (Nat → Nat → Int32) → Int32 → Int32 → Int32 → Int32 → Int32 → (Nat → Int32) → (Nat → Int32) → (Nat → Int32) → (Nat → Int32) → (Nat → Int32) → (Nat → Int32) → (Nat → Int32) → (Nat → Int32) → Int32 → Int32 → (Nat → Int32) → Int64 → Int64 → Prop) (ih23 : ∀ (i : Int32) (cur : Nat) (sav : Nat → Nat) (cnt : Int32) (ST : Nat → TT) (now : Int32) (rnd : Int64) (jm : Int32) (rp : Int32) (sc : Int32) (dc : Int32) (cn : Int32) (sUp : Nat → Int32) (sLen : Nat → Int32) (sWrk : Nat → Int32) (sReg : Nat → Int32) (sFst : Nat → Int32) (sLst : Nat → Int32) (dPol : Nat → Int32) (dPtr : Nat → Int32) (dCnt : Nat → Int32) (dIdl : Nat → Nat → Int32) (dKnw : Nat → Nat → Int32) (jCnt : Int32) (jFin : Int32) (jBeg : Int32) (jWs : Int32) (jMis : Int32) (jSrv : Nat → Int32) (jLft : Nat → Int32) (jSub : Nat → Int32) (jWai : Nat → Int32) (jNxt : Nat → Int32) (cnd : Nat → Int32) (nw : Nat → Int32) (hi : Nat → Int32) (sv : Int32) (th : Int32) (cd : Nat → Int32) (ha : Int64) (ov : Int64), rec23 i cur sav cnt ST now rnd jm rp sc dc cn sUp sLen sWrk sReg sFst sLst dPol dPtr dCnt dIdl dKnw jCnt jFin jBeg jWs jMis jSrv jLft jSub jWai jNxt cnd nw hi sv th cd ha ov → KJ p l e room_1 s m args below meth c 9 A (cells + 4) (slots + 24) Q (XF (LX E b nw hi sv th cd ha ov) cur sav cnt ST now rnd jm rp sc dc cn sUp sLen sWrk sReg sFst sLst dPol dPtr dCnt dIdl dKnw jCnt jFin jBeg jWs jMis jSrv jLft jSub jWai jNxt cnd) 23 [(4, .int i), (3, .ref (b + 126)), (2, .ref (b + 122)), (1, .ref b), (0, .ref bs)] []) (i : Int32) (cur : Nat) (sav : Nat → Nat) (cnt : Int32) (ST : Nat → TT) (now : Int32) (rnd : Int64) (jm : Int32) (rp : Int32) (sc : Int32) (dc : Int32) (cn : Int32) (sUp : Nat → Int32) (sLen : Nat → Int32) (sWrk : Nat → Int32) (sReg : Nat → Int32) (sFst : Nat → Int32) (sLst : Nat → Int32) (dPol : Nat → Int32) (dPtr : Nat → Int32) (dCnt : Nat → Int32) (dIdl : Nat → Nat → Int32) (dKnw : Nat → Nat → Int32) (jCnt : Int32) (jFin : Int32) (jBeg : Int32) (jWs : Int32) (jMis : Int32) (jSrv : Nat → Int32) (jLft : Nat → Int32) (jSub : Nat → Int32) (jWai : Nat → Int32) (jNxt : Nat → Int32) (cnd : Nat → Int32) (nw : Nat → Int32) (hi : Nat → Int32) (sv : Int32) (th : Int32) (cd : Nat → Int32) (ha : Int64) (ov : Int64) (h : wp_L_c7 cur L xs i sav cnt ST now rnd jm rp sc dc cn sUp sLen sWrk sReg sFst sLst dPol dPtr dCnt dIdl dKnw jCnt jFin jBeg jWs jMis jSrv jLft jSub jWai jNxt cnd nw hi sv cd ha ov rec23) : KJ p l e room_1 s m args below meth c 9 A cells slots Q (XF (LX E b nw hi sv th cd ha ov) cur sav cnt ST now rnd jm rp sc dc cn sUp sLen sWrk sReg sFst sLst dPol dPtr dCnt dIdl dKnw jCnt jFin jBeg jWs jMis jSrv jLft jSub jWai jNxt cnd) 579 [(4, .int i), (3, .ref (b + 126)), (2, .ref (b + 122)), (1, .ref b), (0, .ref bs)] [] := by
  have hE := hX.1.1
  obtain ⟨hcur, h⟩ := h
  refine k_aload_n C dL_law_579 3 rfl ?_
  refine k_aload_n C dL_law_580 4 rfl ?_
  refine k_iload C dL_law_581 0 rfl ?_
  refine k_iconst (v := 1) C dL_law_583 (by decide) ?_
  refine k_iadd C dL_law_584 ?_
  obtain ⟨q1, h⟩ := h
  refine l_sld C hScr hbl hbA q1 dL_law_585 ?_
  refine k_aload_n C dL_law_586 4 rfl ?_
  refine k_iload C dL_law_587 0 rfl ?_
  refine k_iconst (v := 2) C dL_law_589 (by decide) ?_
  refine k_iadd C dL_law_590 ?_
  obtain ⟨q2, h⟩ := h
  refine l_sld C hScr hbl hbA q2 dL_law_591 ?_
  refine k_aload_n C dL_law_592 1 rfl ?_
  refine k_callWi (st := []) C hX (c_L_submit l hlt hA cur sav cnt ST now rnd jm rp sc dc cn sUp sLen sWrk sReg sFst sLst dPol dPtr dCnt dIdl dKnw jCnt jFin jBeg jWs jMis jSrv jLft jSub jWai jNxt cnd nw hi sv th cd ha ov hcur (xs (i + 1).toNatClampNeg) (xs (i + 2).toNatClampNeg) _ h) (vx_cwSW (hh := [(0, 10, 13, 19), (0, 10, 17, 13)]) 4 C.2.2.2.2 gL_law_L_submit rfl rfl rfl (by decide +kernel) ⟨Nat.le_of_ble_eq_true rfl, Nat.le_of_ble_eq_true rfl⟩) rfl rfl (Nat.le_of_ble_eq_true rfl) dL_law_593 ⟨by omega, by omega⟩ (fun r3 => ?_)
  refine k_ex (fun sav_4 => k_ex (fun cnt_5 => k_ex (fun ST_6 => k_ex (fun rnd_7 => k_ex (fun sLen_8 => k_ex (fun sWrk_9 => k_ex (fun sReg_10 => k_ex (fun sFst_11 => k_ex (fun sLst_12 => k_ex (fun dPtr_13 => k_ex (fun dCnt_14 => k_ex (fun dIdl_15 => k_ex (fun dKnw_16 => k_ex (fun jCnt_17 => k_ex (fun jBeg_18 => k_ex (fun jWs_19 => k_ex (fun jMis_20 => k_ex (fun jSrv_21 => k_ex (fun jLft_22 => k_ex (fun jSub_23 => k_ex (fun jWai_24 => k_ex (fun jNxt_25 => k_ex (fun ov_26 => k_and (fun h => ?_))))))))))))))))))))))))
  refine k_istore (lv' := [(5, .int r3), (4, .int i), (3, .ref (b + 126)), (2, .ref (b + 122)), (1, .ref b), (0, .ref bs)]) C dL_law_596 (by decide) rfl ?_
  refine k_aload_n C dL_law_598 3 rfl ?_
  refine k_aload_n C dL_law_599 5 rfl ?_
  refine k_iload C dL_law_600 1 rfl ?_
  refine k_iconst (v := 1) C dL_law_602 (by decide) ?_
  refine k_iadd C dL_law_603 ?_
  refine l_sld C hScr hbl hbA q1 dL_law_604 ?_
  refine k_aload_n C dL_law_605 5 rfl ?_
  refine k_iload C dL_law_606 1 rfl ?_
  refine k_iconst (v := 2) C dL_law_608 (by decide) ?_
  refine k_iadd C dL_law_609 ?_
  refine l_sld C hScr hbl hbA q2 dL_law_610 ?_
  refine k_callVi (st := []) C hE (c_X5_submit l (P := (fun nw hi sv th cd ha => XF (LX E b nw hi sv th cd ha ov_26) cur sav_4 cnt_5 ST_6 now rnd_7 jm rp sc dc cn sUp sLen_8 sWrk_9 sReg_10 sFst_11 sLst_12 dPol dPtr_13 dCnt_14 dIdl_15 dKnw_16 jCnt_17 jFin jBeg_18 jWs_19 jMis_20 jSrv_21 jLft_22 jSub_23 jWai_24 jNxt_25 cnd)) (focL_m E b) (fun q hq => hA q (Nat.le_trans (Nat.le_add_right _ _) hq.1)) nw hi sv th cd ha (xs (i + 1).toNatClampNeg) (xs (i + 2).toNatClampNeg) _ h) (cwV 2 C.2.2.2.2 gL_law_X5_submit rfl rfl rfl (by decide +kernel) ⟨Nat.le_of_ble_eq_true rfl, Nat.le_of_ble_eq_true rfl⟩) (fun H hP => va_recv hE.1 (k_one (mst_Mo hP.2.1)) rfl (q0 := 0) rfl) rfl rfl (Nat.le_of_ble_eq_true rfl) dL_law_611 ⟨by omega, by omega⟩ (fun r27 => ?_)
  refine k_ex (fun nw_28 => k_ex (fun hi_29 => k_ex (fun sv_30 => k_ex (fun th_31 => k_ex (fun cd_32 => k_and (fun h => ?_))))))
  refine k_pre (P2 := XF (LX E b nw_28 hi_29 sv_30 th_31 cd_32 ha ov_26) cur sav_4 cnt_5 ST_6 now rnd_7 jm rp sc dc cn sUp sLen_8 sWrk_9 sReg_10 sFst_11 sLst_12 dPol dPtr_13 dCnt_14 dIdl_15 dKnw_16 jCnt_17 jFin jBeg_18 jWs_19 jMis_20 jSrv_21 jLft_22 jSub_23 jWai_24 jNxt_25 cnd) (fun H hP => hP) ?_
  refine k_istore (lv' := [(6, .int r27), (5, .int r3), (4, .int i), (3, .ref (b + 126)), (2, .ref (b + 122)), (1, .ref b), (0, .ref bs)]) C dL_law_614 (by decide) rfl ?_
  refine k_aload_n C dL_law_616 4 rfl ?_
  refine k_callVi (st := []) C hE (c_X5_thrown l (P := (fun nw hi sv th cd ha => XF (LX E b nw hi sv th cd ha ov_26) cur sav_4 cnt_5 ST_6 now rnd_7 jm rp sc dc cn sUp sLen_8 sWrk_9 sReg_10 sFst_11 sLst_12 dPol dPtr_13 dCnt_14 dIdl_15 dKnw_16 jCnt_17 jFin jBeg_18 jWs_19 jMis_20 jSrv_21 jLft_22 jSub_23 jWai_24 jNxt_25 cnd)) (focL_m E b) (fun q hq => hA q (Nat.le_trans (Nat.le_add_right _ _) hq.1)) nw_28 hi_29 sv_30 th_31 cd_32 ha  _ h) (cwV 0 C.2.2.2.2 gL_law_X5_thrown rfl rfl rfl (by decide +kernel) ⟨Nat.le_of_ble_eq_true rfl, Nat.le_of_ble_eq_true rfl⟩) (fun H hP => va_recv hE.1 (k_one (mst_Mo hP.2.1)) rfl (q0 := 0) rfl) rfl rfl (Nat.le_of_ble_eq_true rfl) dL_law_617 ⟨by omega, by omega⟩ (fun r33 => ?_)
  refine k_and (fun h => ?_)
  refine k_pre (P2 := XF (LX E b nw_28 hi_29 sv_30 th_31 cd_32 ha ov_26) cur sav_4 cnt_5 ST_6 now rnd_7 jm rp sc dc cn sUp sLen_8 sWrk_9 sReg_10 sFst_11 sLst_12 dPol dPtr_13 dCnt_14 dIdl_15 dKnw_16 jCnt_17 jFin jBeg_18 jWs_19 jMis_20 jSrv_21 jLft_22 jSub_23 jWai_24 jNxt_25 cnd) (fun H hP => hP) ?_
  refine k_iload C dL_law_620 1 rfl ?_
  refine k_icmp_eq (tgt := 627) C dL_law_622 (by decide) (fun c34 => ?_) (fun c34 => ?_)
  · replace h := h.1 c34
    refine k_iload C dL_law_627 1 rfl ?_
    refine k_if_ne (tgt := 644) C dL_law_629 (by decide) (fun c35 => ?_) (fun c35 => ?_)
    · replace h := h.2 c35
      refine k_goto (tgt := 1394) C dL_law_644 (by decide) ?_
      obtain ⟨x36, ex36⟩ : ∃ z : Int32, z = i + 3 := ⟨_, rfl⟩
      replace h := h x36 ex36
      refine k_iinc (v := x36) (lv' := [(4, .int x36), (6, .int r27), (5, .int r3), (3, .ref (b + 126)), (2, .ref (b + 122)), (1, .ref b), (0, .ref bs)]) (j := 2) C dL_law_1394 rfl (by rw [ex36]; rfl) (by decide) rfl ?_
      refine k_goto (tgt := 23) C dL_law_1397 (by decide) ?_
      refine k_wide (k2 := cells + 4) (n2 := slots + 24) (by omega) (by omega) ?_
      refine k_pc (pc2 := 23) rfl ?_
      refine k_sub [0, 3, 4, 5, 6] rfl ?_
      exact ih23 _ _ _ _ _ _ _ _ _ _ _ _ _ _ _ _ _ _ _ _ _ _ _ _ _ _ _ _ _ _ _ _ _ _ _ _ _ _ _ _ _ h
    · replace h := h.1 c35
      refine k_aload_n C dL_law_632 3 rfl ?_
      refine k_iconst (v := 0) C dL_law_633 (by decide) ?_
      refine l_get C hE.1 dL_law_634 ?_
      refine k_iload C dL_law_635 0 rfl ?_
      refine k_i2l C dL_law_637 ?_
      refine k_lcmp C dL_law_638 ?_
      refine k_if_eq (tgt := 644) C dL_law_639 (by decide) (fun c37 => ?_) (fun c37 => ?_)
      · replace h := h.1 c37
        refine k_goto (tgt := 1394) C dL_law_644 (by decide) ?_
        obtain ⟨x38, ex38⟩ : ∃ z : Int32, z = i + 3 := ⟨_, rfl⟩
        replace h := h x38 ex38
        refine k_iinc (v := x38) (lv' := [(4, .int x38), (6, .int r27), (5, .int r3), (3, .ref (b + 126)), (2, .ref (b + 122)), (1, .ref b), (0, .ref bs)]) (j := 2) C dL_law_1394 rfl (by rw [ex38]; rfl) (by decide) rfl ?_
        refine k_goto (tgt := 23) C dL_law_1397 (by decide) ?_
        refine k_wide (k2 := cells + 4) (n2 := slots + 24) (by omega) (by omega) ?_
        refine k_pc (pc2 := 23) rfl ?_
        refine k_sub [0, 3, 4, 5, 6] rfl ?_
        exact ih23 _ _ _ _ _ _ _ _ _ _ _ _ _ _ _ _ _ _ _ _ _ _ _ _ _ _ _ _ _ _ _ _ _ _ _ _ _ _ _ _ _ h
      · replace h := h.2 c37
        refine k_iconst (v := 0) C dL_law_642 (by decide) ?_
        exact h.elim
  · replace h := h.2 c34
    refine k_iconst (v := 0) C dL_law_625 (by decide) ?_
    exact h.elim
noncomputable def wp_L_c8 (cur : Nat) (L : Nat) (xs : Nat → Int32) (i : Int32) (sav : Nat → Nat) (cnt : Int32) (ST : Nat → TT) (now : Int32) (rnd : Int64) (jm : Int32) (rp : Int32) (sc : Int32) (dc : Int32) (cn : Int32) (sUp : Nat → Int32) (sLen : Nat → Int32) (sWrk : Nat → Int32) (sReg : Nat → Int32) (sFst : Nat → Int32) (sLst : Nat → Int32) (dPol : Nat → Int32) (dPtr : Nat → Int32) (dCnt : Nat → Int32) (dIdl : Nat → Nat → Int32) (dKnw : Nat → Nat → Int32) (jCnt : Int32) (jFin : Int32) (jBeg : Int32) (jWs : Int32) (jMis : Int32) (jSrv : Nat → Int32) (jLft : Nat → Int32) (jSub : Nat → Int32) (jWai : Nat → Int32) (jNxt : Nat → Int32) (cnd : Nat → Int32) (nw : Nat → Int32) (hi : Nat → Int32) (sv : Int32) (cd : Nat → Int32) (ha : Int64) (ov : Int64) (rec23 : Int32 → Nat → (Nat → Nat) → Int32 → (Nat → TT) → Int32 → Int64 → Int32 → Int32 → Int32 → Int32 → Int32 → (Nat → Int32) → (Nat → Int32) → (Nat → Int32) → (Nat → Int32) → (Nat → Int32) → (Nat → Int32) → (Nat → Int32) → (Nat → Int32) → (Nat → Int32) → (Nat → Nat → Int32) → (Nat → Nat → Int32) → Int32 → Int32 → Int32 → Int32 → Int32 → (Nat → Int32) → (Nat → Int32) → (Nat → Int32) → (Nat → Int32) → (Nat → Int32) → (Nat → Int32) → (Nat → Int32) → (Nat → Int32) → Int32 → Int32 → (Nat → Int32) → Int64 → Int64 → Prop) : Prop := cur < 4 ∧ ((vp_in (i + 1) L) ∧ (wp_L_tick cur sav cnt ST now rnd jm rp sc dc cn sUp sLen sWrk sReg sFst sLst dPol dPtr dCnt dIdl dKnw jCnt jFin jBeg jWs jMis jSrv jLft jSub jWai jNxt cnd ov (xs (i + 1).toNatClampNeg) (fun r2 sav_3 cnt_4 ST_5 now_6 rnd_7 sLen_8 sWrk_9 sReg_10 sFst_11 sLst_12 dCnt_13 dIdl_14 dKnw_15 jFin_16 jBeg_17 jWs_18 jLft_19 jWai_20 ov_21 => wp_X5_tick nw hi sv (xs (i + 1).toNatClampNeg) (fun r22 nw_23 hi_24 sv_25 th_26 => wp_X5_thrown th_26 (fun r27 => (r27 = r2 → ((r2 = 0 → (((lg_cmp ov_21 (r22.toInt64)) = 0 → (∀ x32 : Int32, x32 = i + 3 → (rec23 x32 cur sav_3 cnt_4 ST_5 now_6 rnd_7 jm rp sc dc cn sUp sLen_8 sWrk_9 sReg_10 sFst_11 sLst_12 dPol dPtr dCnt_13 dIdl_14 dKnw_15 jCnt jFin_16 jBeg_17 jWs_18 jMis jSrv jLft_19 jSub jWai_20 jNxt cnd nw_23 hi_24 sv_25 th_26 cd ha ov_21))) ∧ (¬ ((lg_cmp ov_21 (r22.toInt64)) = 0) → (False)))) ∧ (¬ r2 = 0 → (∀ x30 : Int32, x30 = i + 3 → (rec23 x30 cur sav_3 cnt_4 ST_5 now_6 rnd_7 jm rp sc dc cn sUp sLen_8 sWrk_9 sReg_10 sFst_11 sLst_12 dPol dPtr dCnt_13 dIdl_14 dKnw_15 jCnt jFin_16 jBeg_17 jWs_18 jMis jSrv jLft_19 jSub jWai_20 jNxt cnd nw_23 hi_24 sv_25 th_26 cd ha ov_21))))) ∧ (¬ (r27 = r2) → (False)))))))
set_option maxRecDepth 100000 in
set_option maxHeartbeats 4000000 in
theorem kc_8 {p : Program} {l : Launch} {e : Env} {s : State} {m : MethodId} {args : Array Value} {below : List Frame} {meth : Method} {c : Code} {Q : State → Prop} {A : Nat → Prop} {E : EV} {b bs L : Nat} {xs : Nat → Int32} {cells slots : Nat} (C : CallFix p m c cL_law 9 s args wsL_law RL) (hlt : l.stackTraces = false) (hA : ∀ q, b ≤ q → A q) (hX : XL E A s) (hScr : va_X bs L xs s s.heap) (hbl : bs < s.heap.size) (hbA : ¬ A bs) (hcl : cells + 4 ≤ room_1.cells) (hsl : slots + 24 ≤ room_1.slots) (rec23 : Int32 → Nat → (Nat → Nat) → Int32 → (Nat → TT) → Int32 → Int64 → Int32 → Int32 → Int32 → Int32 → Int32 → (Nat → Int32) → (Nat → Int32) → (Nat → Int32) → (Nat → Int32) → (Nat → Int32) → (Nat → Int32) → (Nat → Int32) → (Nat → Int32) → (Nat → Int32) → (Nat → Nat → Int32) → (Nat → Nat → Int32) → Int32 → Int32 → Int32 → Int32 → Int32 → (Nat → Int32) → (Nat → Int32) → (Nat → Int32) → (Nat → Int32) → (Nat → Int32) → (Nat → Int32) → (Nat → Int32) → (Nat → Int32) → Int32 → Int32 → (Nat → Int32) → Int64 → Int64 → Prop) (ih23 : ∀ (i : Int32) (cur : Nat) (sav : Nat → Nat) (cnt : Int32) (ST : Nat → TT) (now : Int32) (rnd : Int64) (jm : Int32) (rp : Int32) (sc : Int32) (dc : Int32) (cn : Int32) (sUp : Nat → Int32) (sLen : Nat → Int32) (sWrk : Nat → Int32) (sReg : Nat → Int32) (sFst : Nat → Int32) (sLst : Nat → Int32) (dPol : Nat → Int32) (dPtr : Nat → Int32) (dCnt : Nat → Int32) (dIdl : Nat → Nat → Int32) (dKnw : Nat → Nat → Int32) (jCnt : Int32) (jFin : Int32) (jBeg : Int32) (jWs : Int32) (jMis : Int32) (jSrv : Nat → Int32) (jLft : Nat → Int32) (jSub : Nat → Int32) (jWai : Nat → Int32) (jNxt : Nat → Int32) (cnd : Nat → Int32) (nw : Nat → Int32) (hi : Nat → Int32) (sv : Int32) (th : Int32) (cd : Nat → Int32) (ha : Int64) (ov : Int64), rec23 i cur sav cnt ST now rnd jm rp sc dc cn sUp sLen sWrk sReg sFst sLst dPol dPtr dCnt dIdl dKnw jCnt jFin jBeg jWs jMis jSrv jLft jSub jWai jNxt cnd nw hi sv th cd ha ov → KJ p l e room_1 s m args below meth c 9 A (cells + 4) (slots + 24) Q (XF (LX E b nw hi sv th cd ha ov) cur sav cnt ST now rnd jm rp sc dc cn sUp sLen sWrk sReg sFst sLst dPol dPtr dCnt dIdl dKnw jCnt jFin jBeg jWs jMis jSrv jLft jSub jWai jNxt cnd) 23 [(4, .int i), (3, .ref (b + 126)), (2, .ref (b + 122)), (1, .ref b), (0, .ref bs)] []) (i : Int32) (cur : Nat) (sav : Nat → Nat) (cnt : Int32) (ST : Nat → TT) (now : Int32) (rnd : Int64) (jm : Int32) (rp : Int32) (sc : Int32) (dc : Int32) (cn : Int32) (sUp : Nat → Int32) (sLen : Nat → Int32) (sWrk : Nat → Int32) (sReg : Nat → Int32) (sFst : Nat → Int32) (sLst : Nat → Int32) (dPol : Nat → Int32) (dPtr : Nat → Int32) (dCnt : Nat → Int32) (dIdl : Nat → Nat → Int32) (dKnw : Nat → Nat → Int32) (jCnt : Int32) (jFin : Int32) (jBeg : Int32) (jWs : Int32) (jMis : Int32) (jSrv : Nat → Int32) (jLft : Nat → Int32) (jSub : Nat → Int32) (jWai : Nat → Int32) (jNxt : Nat → Int32) (cnd : Nat → Int32) (nw : Nat → Int32) (hi : Nat → Int32) (sv : Int32) (th : Int32) (cd : Nat → Int32) (ha : Int64) (ov : Int64) (h : wp_L_c8 cur L xs i sav cnt ST now rnd jm rp sc dc cn sUp sLen sWrk sReg sFst sLst dPol dPtr dCnt dIdl dKnw jCnt jFin jBeg jWs jMis jSrv jLft jSub jWai jNxt cnd nw hi sv cd ha ov rec23) : KJ p l e room_1 s m args below meth c 9 A cells slots Q (XF (LX E b nw hi sv th cd ha ov) cur sav cnt ST now rnd jm rp sc dc cn sUp sLen sWrk sReg sFst sLst dPol dPtr dCnt dIdl dKnw jCnt jFin jBeg jWs jMis jSrv jLft jSub jWai jNxt cnd) 647 [(4, .int i), (3, .ref (b + 126)), (2, .ref (b + 122)), (1, .ref b), (0, .ref bs)] [] := by
  have hE := hX.1.1
  obtain ⟨hcur, h⟩ := h
  refine k_aload_n C dL_law_647 3 rfl ?_
  refine k_aload_n C dL_law_648 4 rfl ?_
  refine k_iload C dL_law_649 0 rfl ?_
  refine k_iconst (v := 1) C dL_law_651 (by decide) ?_
  refine k_iadd C dL_law_652 ?_
  obtain ⟨q1, h⟩ := h
  refine l_sld C hScr hbl hbA q1 dL_law_653 ?_
  refine k_aload_n C dL_law_654 1 rfl ?_
  refine k_callWi (st := []) C hX (c_L_tick l hlt hA cur sav cnt ST now rnd jm rp sc dc cn sUp sLen sWrk sReg sFst sLst dPol dPtr dCnt dIdl dKnw jCnt jFin jBeg jWs jMis jSrv jLft jSub jWai jNxt cnd nw hi sv th cd ha ov hcur (xs (i + 1).toNatClampNeg) _ h) (vx_cwSW (hh := [(0, 9, 12, 19)]) 3 C.2.2.2.2 gL_law_L_tick rfl rfl rfl (by decide +kernel) ⟨Nat.le_of_ble_eq_true rfl, Nat.le_of_ble_eq_true rfl⟩) rfl rfl (Nat.le_of_ble_eq_true rfl) dL_law_655 ⟨by omega, by omega⟩ (fun r2 => ?_)
  refine k_ex (fun sav_3 => k_ex (fun cnt_4 => k_ex (fun ST_5 => k_ex (fun now_6 => k_ex (fun rnd_7 => k_ex (fun sLen_8 => k_ex (fun sWrk_9 => k_ex (fun sReg_10 => k_ex (fun sFst_11 => k_ex (fun sLst_12 => k_ex (fun dCnt_13 => k_ex (fun dIdl_14 => k_ex (fun dKnw_15 => k_ex (fun jFin_16 => k_ex (fun jBeg_17 => k_ex (fun jWs_18 => k_ex (fun jLft_19 => k_ex (fun jWai_20 => k_ex (fun ov_21 => k_and (fun h => ?_))))))))))))))))))))
  refine k_istore (lv' := [(5, .int r2), (4, .int i), (3, .ref (b + 126)), (2, .ref (b + 122)), (1, .ref b), (0, .ref bs)]) C dL_law_658 (by decide) rfl ?_
  refine k_aload_n C dL_law_660 3 rfl ?_
  refine k_aload_n C dL_law_661 5 rfl ?_
  refine k_iload C dL_law_662 1 rfl ?_
  refine k_iconst (v := 1) C dL_law_664 (by decide) ?_
  refine k_iadd C dL_law_665 ?_
  refine l_sld C hScr hbl hbA q1 dL_law_666 ?_
  refine k_callVi (st := []) C hE (c_X5_tick l (P := (fun nw hi sv th cd ha => XF (LX E b nw hi sv th cd ha ov_21) cur sav_3 cnt_4 ST_5 now_6 rnd_7 jm rp sc dc cn sUp sLen_8 sWrk_9 sReg_10 sFst_11 sLst_12 dPol dPtr dCnt_13 dIdl_14 dKnw_15 jCnt jFin_16 jBeg_17 jWs_18 jMis jSrv jLft_19 jSub jWai_20 jNxt cnd)) (focL_m E b) (fun q hq => hA q (Nat.le_trans (Nat.le_add_right _ _) hq.1)) nw hi sv th cd ha (xs (i + 1).toNatClampNeg) _ h) (cwV 1 C.2.2.2.2 gL_law_X5_tick rfl rfl rfl (by decide +kernel) ⟨Nat.le_of_ble_eq_true rfl, Nat.le_of_ble_eq_true rfl⟩) (fun H hP => va_recv hE.1 (k_one (mst_Mo hP.2.1)) rfl (q0 := 0) rfl) rfl rfl (Nat.le_of_ble_eq_true rfl) dL_law_667 ⟨by omega, by omega⟩ (fun r22 => ?_)
  refine k_ex (fun nw_23 => k_ex (fun hi_24 => k_ex (fun sv_25 => k_ex (fun th_26 => k_and (fun h => ?_)))))
  refine k_pre (P2 := XF (LX E b nw_23 hi_24 sv_25 th_26 cd ha ov_21) cur sav_3 cnt_4 ST_5 now_6 rnd_7 jm rp sc dc cn sUp sLen_8 sWrk_9 sReg_10 sFst_11 sLst_12 dPol dPtr dCnt_13 dIdl_14 dKnw_15 jCnt jFin_16 jBeg_17 jWs_18 jMis jSrv jLft_19 jSub jWai_20 jNxt cnd) (fun H hP => hP) ?_
  refine k_istore (lv' := [(6, .int r22), (5, .int r2), (4, .int i), (3, .ref (b + 126)), (2, .ref (b + 122)), (1, .ref b), (0, .ref bs)]) C dL_law_670 (by decide) rfl ?_
  refine k_aload_n C dL_law_672 4 rfl ?_
  refine k_callVi (st := []) C hE (c_X5_thrown l (P := (fun nw hi sv th cd ha => XF (LX E b nw hi sv th cd ha ov_21) cur sav_3 cnt_4 ST_5 now_6 rnd_7 jm rp sc dc cn sUp sLen_8 sWrk_9 sReg_10 sFst_11 sLst_12 dPol dPtr dCnt_13 dIdl_14 dKnw_15 jCnt jFin_16 jBeg_17 jWs_18 jMis jSrv jLft_19 jSub jWai_20 jNxt cnd)) (focL_m E b) (fun q hq => hA q (Nat.le_trans (Nat.le_add_right _ _) hq.1)) nw_23 hi_24 sv_25 th_26 cd ha  _ h) (cwV 0 C.2.2.2.2 gL_law_X5_thrown rfl rfl rfl (by decide +kernel) ⟨Nat.le_of_ble_eq_true rfl, Nat.le_of_ble_eq_true rfl⟩) (fun H hP => va_recv hE.1 (k_one (mst_Mo hP.2.1)) rfl (q0 := 0) rfl) rfl rfl (Nat.le_of_ble_eq_true rfl) dL_law_673 ⟨by omega, by omega⟩ (fun r27 => ?_)
  refine k_and (fun h => ?_)
  refine k_pre (P2 := XF (LX E b nw_23 hi_24 sv_25 th_26 cd ha ov_21) cur sav_3 cnt_4 ST_5 now_6 rnd_7 jm rp sc dc cn sUp sLen_8 sWrk_9 sReg_10 sFst_11 sLst_12 dPol dPtr dCnt_13 dIdl_14 dKnw_15 jCnt jFin_16 jBeg_17 jWs_18 jMis jSrv jLft_19 jSub jWai_20 jNxt cnd) (fun H hP => hP) ?_
  refine k_iload C dL_law_676 1 rfl ?_
  refine k_icmp_eq (tgt := 683) C dL_law_678 (by decide) (fun c28 => ?_) (fun c28 => ?_)
  · replace h := h.1 c28
    refine k_iload C dL_law_683 1 rfl ?_
    refine k_if_ne (tgt := 700) C dL_law_685 (by decide) (fun c29 => ?_) (fun c29 => ?_)
    · replace h := h.2 c29
      refine k_goto (tgt := 1394) C dL_law_700 (by decide) ?_
      obtain ⟨x30, ex30⟩ : ∃ z : Int32, z = i + 3 := ⟨_, rfl⟩
      replace h := h x30 ex30
      refine k_iinc (v := x30) (lv' := [(4, .int x30), (6, .int r22), (5, .int r2), (3, .ref (b + 126)), (2, .ref (b + 122)), (1, .ref b), (0, .ref bs)]) (j := 2) C dL_law_1394 rfl (by rw [ex30]; rfl) (by decide) rfl ?_
      refine k_goto (tgt := 23) C dL_law_1397 (by decide) ?_
      refine k_wide (k2 := cells + 4) (n2 := slots + 24) (by omega) (by omega) ?_
      refine k_pc (pc2 := 23) rfl ?_
      refine k_sub [0, 3, 4, 5, 6] rfl ?_
      exact ih23 _ _ _ _ _ _ _ _ _ _ _ _ _ _ _ _ _ _ _ _ _ _ _ _ _ _ _ _ _ _ _ _ _ _ _ _ _ _ _ _ _ h
    · replace h := h.1 c29
      refine k_aload_n C dL_law_688 3 rfl ?_
      refine k_iconst (v := 0) C dL_law_689 (by decide) ?_
      refine l_get C hE.1 dL_law_690 ?_
      refine k_iload C dL_law_691 0 rfl ?_
      refine k_i2l C dL_law_693 ?_
      refine k_lcmp C dL_law_694 ?_
      refine k_if_eq (tgt := 700) C dL_law_695 (by decide) (fun c31 => ?_) (fun c31 => ?_)
      · replace h := h.1 c31
        refine k_goto (tgt := 1394) C dL_law_700 (by decide) ?_
        obtain ⟨x32, ex32⟩ : ∃ z : Int32, z = i + 3 := ⟨_, rfl⟩
        replace h := h x32 ex32
        refine k_iinc (v := x32) (lv' := [(4, .int x32), (6, .int r22), (5, .int r2), (3, .ref (b + 126)), (2, .ref (b + 122)), (1, .ref b), (0, .ref bs)]) (j := 2) C dL_law_1394 rfl (by rw [ex32]; rfl) (by decide) rfl ?_
        refine k_goto (tgt := 23) C dL_law_1397 (by decide) ?_
        refine k_wide (k2 := cells + 4) (n2 := slots + 24) (by omega) (by omega) ?_
        refine k_pc (pc2 := 23) rfl ?_
        refine k_sub [0, 3, 4, 5, 6] rfl ?_
        exact ih23 _ _ _ _ _ _ _ _ _ _ _ _ _ _ _ _ _ _ _ _ _ _ _ _ _ _ _ _ _ _ _ _ _ _ _ _ _ _ _ _ _ h
      · replace h := h.2 c31
        refine k_iconst (v := 0) C dL_law_698 (by decide) ?_
        exact h.elim
  · replace h := h.2 c28
    refine k_iconst (v := 0) C dL_law_681 (by decide) ?_
    exact h.elim
