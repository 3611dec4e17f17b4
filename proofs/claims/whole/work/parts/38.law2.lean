noncomputable def wp_L_c9 (cur : Nat) (L : Nat) (xs : Nat → Int32) (i : Int32) (sav : Nat → Nat) (cnt : Int32) (ST : Nat → TT) (now : Int32) (rnd : Int64) (jm : Int32) (rp : Int32) (sc : Int32) (dc : Int32) (cn : Int32) (sUp : Nat → Int32) (sLen : Nat → Int32) (sWrk : Nat → Int32) (sReg : Nat → Int32) (sFst : Nat → Int32) (sLst : Nat → Int32) (dPol : Nat → Int32) (dPtr : Nat → Int32) (dCnt : Nat → Int32) (dIdl : Nat → Nat → Int32) (dKnw : Nat → Nat → Int32) (jCnt : Int32) (jFin : Int32) (jBeg : Int32) (jWs : Int32) (jMis : Int32) (jSrv : Nat → Int32) (jLft : Nat → Int32) (jSub : Nat → Int32) (jWai : Nat → Int32) (jNxt : Nat → Int32) (cnd : Nat → Int32) (nw : Nat → Int32) (hi : Nat → Int32) (sv : Int32) (cd : Nat → Int32) (ha : Int64) (ov : Int64) (rec23 : Int32 → Nat → (Nat → Nat) → Int32 → (Nat → TT) → Int32 → Int64 → Int32 → Int32 → Int32 → Int32 → Int32 → (Nat → Int32) → (Nat → Int32) → (Nat → Int32) → (Nat → Int32) → (Nat → Int32) → (Nat → Int32) → (Nat → Int32) → (Nat → Int32) → (Nat → Int32) → (Nat → Nat → Int32) → (Nat → Nat → Int32) → Int32 → Int32 → Int32 → Int32 → Int32 → (Nat → Int32) → (Nat → Int32) → (Nat → Int32) → (Nat → Int32) → (Nat → Int32) → (Nat → Int32) → (Nat → Int32) → (Nat → Int32) → Int32 → Int32 → (Nat → Int32) → Int64 → Int64 → Prop) : Prop := cur < 4 ∧ ((vp_in (i + 1) L) ∧ (wp_L_length sc sLen ov (xs (i + 1).toNatClampNeg) (fun r2 ov_3 => wp_X5_length nw (xs (i + 1).toNatClampNeg) (fun r4 th_5 => wp_X5_thrown th_5 (fun r6 => (r6 = r2 → ((r2 = 0 → (((lg_cmp ov_3 (r4.toInt64)) = 0 → (∀ x11 : Int32, x11 = i + 3 → (rec23 x11 cur sav cnt ST now rnd jm rp sc dc cn sUp sLen sWrk sReg sFst sLst dPol dPtr dCnt dIdl dKnw jCnt jFin jBeg jWs jMis jSrv jLft jSub jWai jNxt cnd nw hi sv th_5 cd ha ov_3))) ∧ (¬ ((lg_cmp ov_3 (r4.toInt64)) = 0) → (False)))) ∧ (¬ r2 = 0 → (∀ x9 : Int32, x9 = i + 3 → (rec23 x9 cur sav cnt ST now rnd jm rp sc dc cn sUp sLen sWrk sReg sFst sLst dPol dPtr dCnt dIdl dKnw jCnt jFin jBeg jWs jMis jSrv jLft jSub jWai jNxt cnd nw hi sv th_5 cd ha ov_3))))) ∧ (¬ (r6 = r2) → (False)))))))
set_option maxRecDepth 100000 in
set_option maxHeartbeats 4000000 in
theorem kc_9 {p : Program} {l : Launch} {e : Env} {s : State} {m : MethodId} {args : Array Value} {below : List Frame} {meth : Method} {c : Code} {Q : State → Prop} {A : Nat → Prop} {E : EV} {b bs L : Nat} {xs : Nat → Int32} {cells slots : Nat} (C : CallFix p m c cL_law 9 s args wsL_law RL) (hlt : l.stackTraces = false) (hA : ∀ q, b ≤ q → A q) (hX : XL E A s) (hScr : va_X bs L xs s s.heap) (hbl : bs < s.heap.size) (hbA : ¬ A bs) (hcl : cells + 4 ≤ room_1.cells) (hsl : slots + 24 ≤ room_1.slots) (rec23 : Int32 → Nat → (Nat → Nat) → Int32 → (Nat → TT) → Int32 → Int64 → Int32 → Int32 → Int32 → Int32 → Int32 → (Nat → Int32) → (Nat → Int32) → (Nat → Int32) → (Nat → Int32) → (Nat → Int32) → (Nat → Int32) → (Nat → Int32) → (Nat → Int32) → (Nat → Int32) → (Nat → Nat → Int32) → (Nat → Nat → Int32) → Int32 → Int32 → Int32 → Int32 → Int32 → (Nat → Int32) → (Nat → Int32) → (Nat → Int32) → (Nat → Int32) → (Nat → Int32) → (Nat → Int32) → (Nat → Int32) → (Nat → Int32) → Int32 → Int32 → (Nat → Int32) → Int64 → Int64 → Prop) (ih23 : ∀ (i : Int32) (cur : Nat) (sav : Nat → Nat) (cnt : Int32) (ST : Nat → TT) (now : Int32) (rnd : Int64) (jm : Int32) (rp : Int32) (sc : Int32) (dc : Int32) (cn : Int32) (sUp : Nat → Int32) (sLen : Nat → Int32) (sWrk : Nat → Int32) (sReg : Nat → Int32) (sFst : Nat → Int32) (sLst : Nat → Int32) (dPol : Nat → Int32) (dPtr : Nat → Int32) (dCnt : Nat → Int32) (dIdl : Nat → Nat → Int32) (dKnw : Nat → Nat → Int32) (jCnt : Int32) (jFin : Int32) (jBeg : Int32) (jWs : Int32) (jMis : Int32) (jSrv : Nat → Int32) (jLft : Nat → Int32) (jSub : Nat → Int32) (jWai : Nat → Int32) (jNxt : Nat → Int32) (cnd : Nat → Int32) (nw : Nat → Int32) (hi : Nat → Int32) (sv : Int32) (th : Int32) (cd : Nat → Int32) (ha : Int64) (ov : Int64), rec23 i cur sav cnt ST now rnd jm rp sc dc cn sUp sLen sWrk sReg sFst sLst dPol dPtr dCnt dIdl dKnw jCnt jFin jBeg jWs jMis jSrv jLft jSub jWai jNxt cnd nw hi sv th cd ha ov → KJ p l e room_1 s m args below meth c 9 A (cells + 4) (slots + 24) Q (XF (LX E b nw hi sv th cd ha ov) cur sav cnt ST now rnd jm rp sc dc cn sUp sLen sWrk sReg sFst sLst dPol dPtr dCnt dIdl dKnw jCnt jFin jBeg jWs jMis jSrv jLft jSub jWai jNxt cnd) 23 [(4, .int i), (3, .ref (b + 126)), (2, .ref (b + 122)), (1, .ref b), (0, .ref bs)] []) (i : Int32) (cur : Nat) (sav : Nat → Nat) (cnt : Int32) (ST : Nat → TT) (now : Int32) (rnd : Int64) (jm : Int32) (rp : Int32) (sc : Int32) (dc : Int32) (cn : Int32) (sUp : Nat → Int32) (sLen : Nat → Int32) (sWrk : Nat → Int32) (sReg : Nat → Int32) (sFst : Nat → Int32) (sLst : Nat → Int32) (dPol : Nat → Int32) (dPtr : Nat → Int32) (dCnt : Nat → Int32) (dIdl : Nat → Nat → Int32) (dKnw : Nat → Nat → Int32) (jCnt : Int32) (jFin : Int32) (jBeg : Int32) (jWs : Int32) (jMis : Int32) (jSrv : Nat → Int32) (jLft : Nat → Int32) (jSub : Nat → Int32) (jWai : Nat → Int32) (jNxt : Nat → Int32) (cnd : Nat → Int32) (nw : Nat → Int32) (hi : Nat → Int32) (sv : Int32) (th : Int32) (cd : Nat → Int32) (ha : Int64) (ov : Int64) (h : wp_L_c9 cur L xs i sav cnt ST now rnd jm rp sc dc cn sUp sLen sWrk sReg sFst sLst dPol dPtr dCnt dIdl dKnw jCnt jFin jBeg jWs jMis jSrv jLft jSub jWai jNxt cnd nw hi sv cd ha ov rec23) : KJ p l e room_1 s m args below meth c 9 A cells slots Q (XF (LX E b nw hi sv th cd ha ov) cur sav cnt ST now rnd jm rp sc dc cn sUp sLen sWrk sReg sFst sLst dPol dPtr dCnt dIdl dKnw jCnt jFin jBeg jWs jMis jSrv jLft jSub jWai jNxt cnd) 703 [(4, .int i), (3, .ref (b + 126)), (2, .ref (b + 122)), (1, .ref b), (0, .ref bs)] [] := by
  have hE := hX.1.1
  obtain ⟨hcur, h⟩ := h
  refine k_aload_n C dL_law_703 3 rfl ?_
  refine k_aload_n C dL_law_704 4 rfl ?_
  refine k_iload C dL_law_705 0 rfl ?_
  refine k_iconst (v := 1) C dL_law_707 (by decide) ?_
  refine k_iadd C dL_law_708 ?_
  obtain ⟨q1, h⟩ := h
  refine l_sld C hScr hbl hbA q1 dL_law_709 ?_
  refine k_aload_n C dL_law_710 1 rfl ?_
  refine k_callWi (st := []) C hX (c_L_length l hlt hA cur sav cnt ST now rnd jm rp sc dc cn sUp sLen sWrk sReg sFst sLst dPol dPtr dCnt dIdl dKnw jCnt jFin jBeg jWs jMis jSrv jLft jSub jWai jNxt cnd nw hi sv th cd ha ov hcur (xs (i + 1).toNatClampNeg) _ h) (vx_cwSW (hh := [(0, 9, 12, 19)]) 3 C.2.2.2.2 gL_law_L_length rfl rfl rfl (by decide +kernel) ⟨Nat.le_of_ble_eq_true rfl, Nat.le_of_ble_eq_true rfl⟩) rfl rfl (Nat.le_of_ble_eq_true rfl) dL_law_711 ⟨by omega, by omega⟩ (fun r2 => ?_)
  refine k_ex (fun ov_3 => k_and (fun h => ?_))
  refine k_istore (lv' := [(5, .int r2), (4, .int i), (3, .ref (b + 126)), (2, .ref (b + 122)), (1, .ref b), (0, .ref bs)]) C dL_law_714 (by decide) rfl ?_
  refine k_aload_n C dL_law_716 3 rfl ?_
  refine k_aload_n C dL_law_717 5 rfl ?_
  refine k_iload C dL_law_718 1 rfl ?_
  refine k_iconst (v := 1) C dL_law_720 (by decide) ?_
  refine k_iadd C dL_law_721 ?_
  refine l_sld C hScr hbl hbA q1 dL_law_722 ?_
  refine k_callVi (st := []) C hE (c_X5_length l (P := (fun nw hi sv th cd ha => XF (LX E b nw hi sv th cd ha ov_3) cur sav cnt ST now rnd jm rp sc dc cn sUp sLen sWrk sReg sFst sLst dPol dPtr dCnt dIdl dKnw jCnt jFin jBeg jWs jMis jSrv jLft jSub jWai jNxt cnd)) (focL_m E b) (fun q hq => hA q (Nat.le_trans (Nat.le_add_right _ _) hq.1)) nw hi sv th cd ha (xs (i + 1).toNatClampNeg) _ h) (cwV 1 C.2.2.2.2 gL_law_X5_length rfl rfl rfl (by decide +kernel) ⟨Nat.le_of_ble_eq_true rfl, Nat.le_of_ble_eq_true rfl⟩) (fun H hP => va_recv hE.1 (k_one (mst_Mo hP.2.1)) rfl (q0 := 0) rfl) rfl rfl (Nat.le_of_ble_eq_true rfl) dL_law_723 ⟨by omega, by omega⟩ (fun r4 => ?_)
  refine k_ex (fun th_5 => k_and (fun h => ?_))
  refine k_pre (P2 := XF (LX E b nw hi sv th_5 cd ha ov_3) cur sav cnt ST now rnd jm rp sc dc cn sUp sLen sWrk sReg sFst sLst dPol dPtr dCnt dIdl dKnw jCnt jFin jBeg jWs jMis jSrv jLft jSub jWai jNxt cnd) (fun H hP => hP) ?_
  refine k_istore (lv' := [(6, .int r4), (5, .int r2), (4, .int i), (3, .ref (b + 126)), (2, .ref (b + 122)), (1, .ref b), (0, .ref bs)]) C dL_law_726 (by decide) rfl ?_
  refine k_aload_n C dL_law_728 4 rfl ?_
  refine k_callVi (st := []) C hE (c_X5_thrown l (P := (fun nw hi sv th cd ha => XF (LX E b nw hi sv th cd ha ov_3) cur sav cnt ST now rnd jm rp sc dc cn sUp sLen sWrk sReg sFst sLst dPol dPtr dCnt dIdl dKnw jCnt jFin jBeg jWs jMis jSrv jLft jSub jWai jNxt cnd)) (focL_m E b) (fun q hq => hA q (Nat.le_trans (Nat.le_add_right _ _) hq.1)) nw hi sv th_5 cd ha  _ h) (cwV 0 C.2.2.2.2 gL_law_X5_thrown rfl rfl rfl (by decide +kernel) ⟨Nat.le_of_ble_eq_true rfl, Nat.le_of_ble_eq_true rfl⟩) (fun H hP => va_recv hE.1 (k_one (mst_Mo hP.2.1)) rfl (q0 := 0) rfl) rfl rfl (Nat.le_of_ble_eq_true rfl) dL_law_729 ⟨by omega, by omega⟩ (fun r6 => ?_)
  refine k_and (fun h => ?_)
  refine k_pre (P2 := XF (LX E b nw hi sv th_5 cd ha ov_3) cur sav cnt ST now rnd jm rp sc dc cn sUp sLen sWrk sReg sFst sLst dPol dPtr dCnt dIdl dKnw jCnt jFin jBeg jWs jMis jSrv jLft jSub jWai jNxt cnd) (fun H hP => hP) ?_
  refine k_iload C dL_law_732 1 rfl ?_
  refine k_icmp_eq (tgt := 739) C dL_law_734 (by decide) (fun c7 => ?_) (fun c7 => ?_)
  · replace h := h.1 c7
    refine k_iload C dL_law_739 1 rfl ?_
    refine k_if_ne (tgt := 756) C dL_law_741 (by decide) (fun c8 => ?_) (fun c8 => ?_)
    · replace h := h.2 c8
      refine k_goto (tgt := 1394) C dL_law_756 (by decide) ?_
      obtain ⟨x9, ex9⟩ : ∃ z : Int32, z = i + 3 := ⟨_, rfl⟩
      replace h := h x9 ex9
      refine k_iinc (v := x9) (lv' := [(4, .int x9), (6, .int r4), (5, .int r2), (3, .ref (b + 126)), (2, .ref (b + 122)), (1, .ref b), (0, .ref bs)]) (j := 2) C dL_law_1394 rfl (by rw [ex9]; rfl) (by decide) rfl ?_
      refine k_goto (tgt := 23) C dL_law_1397 (by decide) ?_
      refine k_wide (k2 := cells + 4) (n2 := slots + 24) (by omega) (by omega) ?_
      refine k_pc (pc2 := 23) rfl ?_
      refine k_sub [0, 3, 4, 5, 6] rfl ?_
      exact ih23 _ _ _ _ _ _ _ _ _ _ _ _ _ _ _ _ _ _ _ _ _ _ _ _ _ _ _ _ _ _ _ _ _ _ _ _ _ _ _ _ _ h
    · replace h := h.1 c8
      refine k_aload_n C dL_law_744 3 rfl ?_
      refine k_iconst (v := 0) C dL_law_745 (by decide) ?_
      refine l_get C hE.1 dL_law_746 ?_
      refine k_iload C dL_law_747 0 rfl ?_
      refine k_i2l C dL_law_749 ?_
      refine k_lcmp C dL_law_750 ?_
      refine k_if_eq (tgt := 756) C dL_law_751 (by decide) (fun c10 => ?_) (fun c10 => ?_)
      · replace h := h.1 c10
        refine k_goto (tgt := 1394) C dL_law_756 (by decide) ?_
        obtain ⟨x11, ex11⟩ : ∃ z : Int32, z = i + 3 := ⟨_, rfl⟩
        replace h := h x11 ex11
        refine k_iinc (v := x11) (lv' := [(4, .int x11), (6, .int r4), (5, .int r2), (3, .ref (b + 126)), (2, .ref (b + 122)), (1, .ref b), (0, .ref bs)]) (j := 2) C dL_law_1394 rfl (by rw [ex11]; rfl) (by decide) rfl ?_
        refine k_goto (tgt := 23) C dL_law_1397 (by decide) ?_
        refine k_wide (k2 := cells + 4) (n2 := slots + 24) (by omega) (by omega) ?_
        refine k_pc (pc2 := 23) rfl ?_
        refine k_sub [0, 3, 4, 5, 6] rfl ?_
        exact ih23 _ _ _ _ _ _ _ _ _ _ _ _ _ _ _ _ _ _ _ _ _ _ _ _ _ _ _ _ _ _ _ _ _ _ _ _ _ _ _ _ _ h
      · replace h := h.2 c10
        refine k_iconst (v := 0) C dL_law_754 (by decide) ?_
        exact h.elim
  · replace h := h.2 c7
    refine k_iconst (v := 0) C dL_law_737 (by decide) ?_
    exact h.elim
noncomputable def wp_L_c10 (cur : Nat) (L : Nat) (xs : Nat → Int32) (i : Int32) (sav : Nat → Nat) (cnt : Int32) (ST : Nat → TT) (now : Int32) (rnd : Int64) (jm : Int32) (rp : Int32) (sc : Int32) (dc : Int32) (cn : Int32) (sUp : Nat → Int32) (sLen : Nat → Int32) (sWrk : Nat → Int32) (sReg : Nat → Int32) (sFst : Nat → Int32) (sLst : Nat → Int32) (dPol : Nat → Int32) (dPtr : Nat → Int32) (dCnt : Nat → Int32) (dIdl : Nat → Nat → Int32) (dKnw : Nat → Nat → Int32) (jCnt : Int32) (jFin : Int32) (jBeg : Int32) (jWs : Int32) (jMis : Int32) (jSrv : Nat → Int32) (jLft : Nat → Int32) (jSub : Nat → Int32) (jWai : Nat → Int32) (jNxt : Nat → Int32) (cnd : Nat → Int32) (nw : Nat → Int32) (hi : Nat → Int32) (sv : Int32) (cd : Nat → Int32) (ha : Int64) (ov : Int64) (rec23 : Int32 → Nat → (Nat → Nat) → Int32 → (Nat → TT) → Int32 → Int64 → Int32 → Int32 → Int32 → Int32 → Int32 → (Nat → Int32) → (Nat → Int32) → (Nat → Int32) → (Nat → Int32) → (Nat → Int32) → (Nat → Int32) → (Nat → Int32) → (Nat → Int32) → (Nat → Int32) → (Nat → Nat → Int32) → (Nat → Nat → Int32) → Int32 → Int32 → Int32 → Int32 → Int32 → (Nat → Int32) → (Nat → Int32) → (Nat → Int32) → (Nat → Int32) → (Nat → Int32) → (Nat → Int32) → (Nat → Int32) → (Nat → Int32) → Int32 → Int32 → (Nat → Int32) → Int64 → Int64 → Prop) : Prop := cur < 4 ∧ ((vp_in (i + 1) L) ∧ (wp_L_work sc sWrk ov (xs (i + 1).toNatClampNeg) (fun r2 ov_3 => wp_X5_work nw (xs (i + 1).toNatClampNeg) (fun r4 th_5 => wp_X5_thrown th_5 (fun r6 => (r6 = r2 → ((r2 = 0 → (((lg_cmp ov_3 (r4.toInt64)) = 0 → (∀ x11 : Int32, x11 = i + 3 → (rec23 x11 cur sav cnt ST now rnd jm rp sc dc cn sUp sLen sWrk sReg sFst sLst dPol dPtr dCnt dIdl dKnw jCnt jFin jBeg jWs jMis jSrv jLft jSub jWai jNxt cnd nw hi sv th_5 cd ha ov_3))) ∧ (¬ ((lg_cmp ov_3 (r4.toInt64)) = 0) → (False)))) ∧ (¬ r2 = 0 → (∀ x9 : Int32, x9 = i + 3 → (rec23 x9 cur sav cnt ST now rnd jm rp sc dc cn sUp sLen sWrk sReg sFst sLst dPol dPtr dCnt dIdl dKnw jCnt jFin jBeg jWs jMis jSrv jLft jSub jWai jNxt cnd nw hi sv th_5 cd ha ov_3))))) ∧ (¬ (r6 = r2) → (False)))))))
set_option maxRecDepth 100000 in
set_option maxHeartbeats 4000000 in
theorem kc_10 {p : Program} {l : Launch} {e : Env} {s : State} {m : MethodId} {args : Array Value} {below : List Frame} {meth : Method} {c : Code} {Q : State → Prop} {A : Nat → Prop} {E : EV} {b bs L : Nat} {xs : Nat → Int32} {cells slots : Nat} (C : CallFix p m c cL_law 9 s args wsL_law RL) (hlt : l.stackTraces = false) (hA : ∀ q, b ≤ q → A q) (hX : XL E A s) (hScr : va_X bs L xs s s.heap) (hbl : bs < s.heap.size) (hbA : ¬ A bs) (hcl : cells + 4 ≤ room_1.cells) (hsl : slots + 24 ≤ room_1.slots) (rec23 : Int32 → Nat → (Nat → Nat) → Int32 → (Nat → TT) → Int32 → Int64 → Int32 → Int32 → Int32 → Int32 → Int32 → (Nat → Int32) → (Nat → Int32) → (Nat → Int32) → (Nat → Int32) → (Nat → Int32) → (Nat → Int32) → (Nat → Int32) → (Nat → Int32) → (Nat → Int32) → (Nat → Nat → Int32) → (Nat → Nat → Int32) → Int32 → Int32 → Int32 → Int32 → Int32 → (Nat → Int32) → (Nat → Int32) → (Nat → Int32) → (Nat → Int32) → (Nat → Int32) → (Nat → Int32) → (Nat → Int32) → (Nat → Int32) → Int32 → Int32 → (Nat → Int32) → Int64 → Int64 → Prop) (ih23 : ∀ (i : Int32) (cur : Nat) (sav : Nat → Nat) (cnt : Int32) (ST : Nat → TT) (now : Int32) (rnd : Int64) (jm : Int32) (rp : Int32) (sc : Int32) (dc : Int32) (cn : Int32) (sUp : Nat → Int32) (sLen : Nat → Int32) (sWrk : Nat → Int32) (sReg : Nat → Int32) (sFst : Nat → Int32) (sLst : Nat → Int32) (dPol : Nat → Int32) (dPtr : Nat → Int32) (dCnt : Nat → Int32) (dIdl : Nat → Nat → Int32) (dKnw : Nat → Nat → Int32) (jCnt : Int32) (jFin : Int32) (jBeg : Int32) (jWs : Int32) (jMis : Int32) (jSrv : Nat → Int32) (jLft : Nat → Int32) (jSub : Nat → Int32) (jWai : Nat → Int32) (jNxt : Nat → Int32) (cnd : Nat → Int32) (nw : Nat → Int32) (hi : Nat → Int32) (sv : Int32) (th : Int32) (cd : Nat → Int32) (ha : Int64) (ov : Int64), rec23 i cur sav cnt ST now rnd jm rp sc dc cn sUp sLen sWrk sReg sFst sLst dPol dPtr dCnt dIdl dKnw jCnt jFin jBeg jWs jMis jSrv jLft jSub jWai jNxt cnd nw hi sv th cd ha ov → KJ p l e room_1 s m args below meth c 9 A (cells + 4) (slots + 24) Q (XF (LX E b nw hi sv th cd ha ov) cur sav cnt ST now rnd jm rp sc dc cn sUp sLen sWrk sReg sFst sLst dPol dPtr dCnt dIdl dKnw jCnt jFin jBeg jWs jMis jSrv jLft jSub jWai jNxt cnd) 23 [(4, .int i), (3, .ref (b + 126)), (2, .ref (b + 122)), (1, .ref b), (0, .ref bs)] []) (i : Int32) (cur : Nat) (sav : Nat → Nat) (cnt : Int32) (ST : Nat → TT) (now : Int32) (rnd : Int64) (jm : Int32) (rp : Int32) (sc : Int32) (dc : Int32) (cn : Int32) (sUp : Nat → Int32) (sLen : Nat → Int32) (sWrk : Nat → Int32) (sReg : Nat → Int32) (sFst : Nat → Int32) (sLst : Nat → Int32) (dPol : Nat → Int32) (dPtr : Nat → Int32) (dCnt : Nat → Int32) (dIdl : Nat → Nat → Int32) (dKnw : Nat → Nat → Int32) (jCnt : Int32) (jFin : Int32) (jBeg : Int32) (jWs : Int32) (jMis : Int32) (jSrv : Nat → Int32) (jLft : Nat → Int32) (jSub : Nat → Int32) (jWai : Nat → Int32) (jNxt : Nat → Int32) (cnd : Nat → Int32) (nw : Nat → Int32) (hi : Nat → Int32) (sv : Int32) (th : Int32) (cd : Nat → Int32) (ha : Int64) (ov : Int64) (h : wp_L_c10 cur L xs i sav cnt ST now rnd jm rp sc dc cn sUp sLen sWrk sReg sFst sLst dPol dPtr dCnt dIdl dKnw jCnt jFin jBeg jWs jMis jSrv jLft jSub jWai jNxt cnd nw hi sv cd ha ov rec23) : KJ p l e room_1 s m args below meth c 9 A cells slots Q (XF (LX E b nw hi sv th cd ha ov) cur sav cnt ST now rnd jm rp sc dc cn sUp sLen sWrk sReg sFst sLst dPol dPtr dCnt dIdl dKnw jCnt jFin jBeg jWs jMis jSrv jLft jSub jWai jNxt cnd) 759 [(4, .int i), (3, .ref (b + 126)), (2, .ref (b + 122)), (1, .ref b), (0, .ref bs)] [] := by
  have hE := hX.1.1
  obtain ⟨hcur, h⟩ := h
  refine k_aload_n C dL_law_759 3 rfl ?_
  refine k_aload_n C dL_law_760 4 rfl ?_
  refine k_iload C dL_law_761 0 rfl ?_
  refine k_iconst (v := 1) C dL_law_763 (by decide) ?_
  refine k_iadd C dL_law_764 ?_
  obtain ⟨q1, h⟩ := h
  refine l_sld C hScr hbl hbA q1 dL_law_765 ?_
  refine k_aload_n C dL_law_766 1 rfl ?_
  refine k_callWi (st := []) C hX (c_L_work l hlt hA cur sav cnt ST now rnd jm rp sc dc cn sUp sLen sWrk sReg sFst sLst dPol dPtr dCnt dIdl dKnw jCnt jFin jBeg jWs jMis jSrv jLft jSub jWai jNxt cnd nw hi sv th cd ha ov hcur (xs (i + 1).toNatClampNeg) _ h) (vx_cwSW (hh := [(0, 9, 12, 19)]) 3 C.2.2.2.2 gL_law_L_work rfl rfl rfl (by decide +kernel) ⟨Nat.le_of_ble_eq_true rfl, Nat.le_of_ble_eq_true rfl⟩) rfl rfl (Nat.le_of_ble_eq_true rfl) dL_law_767 ⟨by omega, by omega⟩ (fun r2 => ?_)
  refine k_ex (fun ov_3 => k_and (fun h => ?_))
  refine k_istore (lv' := [(5, .int r2), (4, .int i), (3, .ref (b + 126)), (2, .ref (b + 122)), (1, .ref b), (0, .ref bs)]) C dL_law_770 (by decide) rfl ?_
  refine k_aload_n C dL_law_772 3 rfl ?_
  refine k_aload_n C dL_law_773 5 rfl ?_
  refine k_iload C dL_law_774 1 rfl ?_
  refine k_iconst (v := 1) C dL_law_776 (by decide) ?_
  refine k_iadd C dL_law_777 ?_
  refine l_sld C hScr hbl hbA q1 dL_law_778 ?_
  refine k_callVi (st := []) C hE (c_X5_work l (P := (fun nw hi sv th cd ha => XF (LX E b nw hi sv th cd ha ov_3) cur sav cnt ST now rnd jm rp sc dc cn sUp sLen sWrk sReg sFst sLst dPol dPtr dCnt dIdl dKnw jCnt jFin jBeg jWs jMis jSrv jLft jSub jWai jNxt cnd)) (focL_m E b) (fun q hq => hA q (Nat.le_trans (Nat.le_add_right _ _) hq.1)) nw hi sv th cd ha (xs (i + 1).toNatClampNeg) _ h) (cwV 1 C.2.2.2.2 gL_law_X5_work rfl rfl rfl (by decide +kernel) ⟨Nat.le_of_ble_eq_true rfl, Nat.le_of_ble_eq_true rfl⟩) (fun H hP => va_recv hE.1 (k_one (mst_Mo hP.2.1)) rfl (q0 := 0) rfl) rfl rfl (Nat.le_of_ble_eq_true rfl) dL_law_779 ⟨by omega, by omega⟩ (fun r4 => ?_)
  refine k_ex (fun th_5 => k_and (fun h => ?_))
  refine k_pre (P2 := XF (LX E b nw hi sv th_5 cd ha ov_3) cur sav cnt ST now rnd jm rp sc dc cn sUp sLen sWrk sReg sFst sLst dPol dPtr dCnt dIdl dKnw jCnt jFin jBeg jWs jMis jSrv jLft jSub jWai jNxt cnd) (fun H hP => hP) ?_
  refine k_istore (lv' := [(6, .int r4), (5, .int r2), (4, .int i), (3, .ref (b + 126)), (2, .ref (b + 122)), (1, .ref b), (0, .ref bs)]) C dL_law_782 (by decide) rfl ?_
  refine k_aload_n C dL_law_784 4 rfl ?_
  refine k_callVi (st := []) C hE (c_X5_thrown l (P := (fun nw hi sv th cd ha => XF (LX E b nw hi sv th cd ha ov_3) cur sav cnt ST now rnd jm rp sc dc cn sUp sLen sWrk sReg sFst sLst dPol dPtr dCnt dIdl dKnw jCnt jFin jBeg jWs jMis jSrv jLft jSub jWai jNxt cnd)) (focL_m E b) (fun q hq => hA q (Nat.le_trans (Nat.le_add_right _ _) hq.1)) nw hi sv th_5 cd ha  _ h) (cwV 0 C.2.2.2.2 gL_law_X5_thrown rfl rfl rfl (by decide +kernel) ⟨Nat.le_of_ble_eq_true rfl, Nat.le_of_ble_eq_true rfl⟩) (fun H hP => va_recv hE.1 (k_one (mst_Mo hP.2.1)) rfl (q0 := 0) rfl) rfl rfl (Nat.le_of_ble_eq_true rfl) dL_law_785 ⟨by omega, by omega⟩ (fun r6 => ?_)
  refine k_and (fun h => ?_)
  refine k_pre (P2 := XF (LX E b nw hi sv th_5 cd ha ov_3) cur sav cnt ST now rnd jm rp sc dc cn sUp sLen sWrk sReg sFst sLst dPol dPtr dCnt dIdl dKnw jCnt jFin jBeg jWs jMis jSrv jLft jSub jWai jNxt cnd) (fun H hP => hP) ?_
  refine k_iload C dL_law_788 1 rfl ?_
  refine k_icmp_eq (tgt := 795) C dL_law_790 (by decide) (fun c7 => ?_) (fun c7 => ?_)
  · replace h := h.1 c7
    refine k_iload C dL_law_795 1 rfl ?_
    refine k_if_ne (tgt := 812) C dL_law_797 (by decide) (fun c8 => ?_) (fun c8 => ?_)
    · replace h := h.2 c8
      refine k_goto (tgt := 1394) C dL_law_812 (by decide) ?_
      obtain ⟨x9, ex9⟩ : ∃ z : Int32, z = i + 3 := ⟨_, rfl⟩
      replace h := h x9 ex9
      refine k_iinc (v := x9) (lv' := [(4, .int x9), (6, .int r4), (5, .int r2), (3, .ref (b + 126)), (2, .ref (b + 122)), (1, .ref b), (0, .ref bs)]) (j := 2) C dL_law_1394 rfl (by rw [ex9]; rfl) (by decide) rfl ?_
      refine k_goto (tgt := 23) C dL_law_1397 (by decide) ?_
      refine k_wide (k2 := cells + 4) (n2 := slots + 24) (by omega) (by omega) ?_
      refine k_pc (pc2 := 23) rfl ?_
      refine k_sub [0, 3, 4, 5, 6] rfl ?_
      exact ih23 _ _ _ _ _ _ _ _ _ _ _ _ _ _ _ _ _ _ _ _ _ _ _ _ _ _ _ _ _ _ _ _ _ _ _ _ _ _ _ _ _ h
    · replace h := h.1 c8
      refine k_aload_n C dL_law_800 3 rfl ?_
      refine k_iconst (v := 0) C dL_law_801 (by decide) ?_
      refine l_get C hE.1 dL_law_802 ?_
      refine k_iload C dL_law_803 0 rfl ?_
      refine k_i2l C dL_law_805 ?_
      refine k_lcmp C dL_law_806 ?_
      refine k_if_eq (tgt := 812) C dL_law_807 (by decide) (fun c10 => ?_) (fun c10 => ?_)
      · replace h := h.1 c10
        refine k_goto (tgt := 1394) C dL_law_812 (by decide) ?_
        obtain ⟨x11, ex11⟩ : ∃ z : Int32, z = i + 3 := ⟨_, rfl⟩
        replace h := h x11 ex11
        refine k_iinc (v := x11) (lv' := [(4, .int x11), (6, .int r4), (5, .int r2), (3, .ref (b + 126)), (2, .ref (b + 122)), (1, .ref b), (0, .ref bs)]) (j := 2) C dL_law_1394 rfl (by rw [ex11]; rfl) (by decide) rfl ?_
        refine k_goto (tgt := 23) C dL_law_1397 (by decide) ?_
        refine k_wide (k2 := cells + 4) (n2 := slots + 24) (by omega) (by omega) ?_
        refine k_pc (pc2 := 23) rfl ?_
        refine k_sub [0, 3, 4, 5, 6] rfl ?_
        exact ih23 _ _ _ _ _ _ _ _ _ _ _ _ _ _ _ _ _ _ _ _ _ _ _ _ _ _ _ _ _ _ _ _ _ _ _ _ _ _ _ _ _ h
      · replace h := h.2 c10
        refine k_iconst (v := 0) C dL_law_810 (by decide) ?_
        exact h.elim
  · replace h := h.2 c7
    refine k_iconst (v := 0) C dL_law_793 (by decide) ?_
    exact h.elim
noncomputable def wp_L_c11 (cur : Nat) (L : Nat) (xs : Nat → Int32) (i : Int32) (sav : Nat → Nat) (cnt : Int32) (ST : Nat → TT) (now : Int32) (rnd : Int64) (jm : Int32) (rp : Int32) (sc : Int32) (dc : Int32) (cn : Int32) (sUp : Nat → Int32) (sLen : Nat → Int32) (sWrk : Nat → Int32) (sReg : Nat → Int32) (sFst : Nat → Int32) (sLst : Nat → Int32) (dPol : Nat → Int32) (dPtr : Nat → Int32) (dCnt : Nat → Int32) (dIdl : Nat → Nat → Int32) (dKnw : Nat → Nat → Int32) (jCnt : Int32) (jFin : Int32) (jBeg : Int32) (jWs : Int32) (jMis : Int32) (jSrv : Nat → Int32) (jLft : Nat → Int32) (jSub : Nat → Int32) (jWai : Nat → Int32) (jNxt : Nat → Int32) (cnd : Nat → Int32) (nw : Nat → Int32) (hi : Nat → Int32) (sv : Int32) (cd : Nat → Int32) (ha : Int64) (ov : Int64) (rec23 : Int32 → Nat → (Nat → Nat) → Int32 → (Nat → TT) → Int32 → Int64 → Int32 → Int32 → Int32 → Int32 → Int32 → (Nat → Int32) → (Nat → Int32) → (Nat → Int32) → (Nat → Int32) → (Nat → Int32) → (Nat → Int32) → (Nat → Int32) → (Nat → Int32) → (Nat → Int32) → (Nat → Nat → Int32) → (Nat → Nat → Int32) → Int32 → Int32 → Int32 → Int32 → Int32 → (Nat → Int32) → (Nat → Int32) → (Nat → Int32) → (Nat → Int32) → (Nat → Int32) → (Nat → Int32) → (Nat → Int32) → (Nat → Int32) → Int32 → Int32 → (Nat → Int32) → Int64 → Int64 → Prop) : Prop := cur < 4 ∧ ((vp_in (i + 1) L) ∧ (wp_L_registeredAt sc sReg ov (xs (i + 1).toNatClampNeg) (fun r2 ov_3 => wp_X5_registeredAt nw (xs (i + 1).toNatClampNeg) (fun r4 th_5 => wp_X5_thrown th_5 (fun r6 => (r6 = r2 → ((r2 = 0 → (((lg_cmp ov_3 (r4.toInt64)) = 0 → (∀ x11 : Int32, x11 = i + 3 → (rec23 x11 cur sav cnt ST now rnd jm rp sc dc cn sUp sLen sWrk sReg sFst sLst dPol dPtr dCnt dIdl dKnw jCnt jFin jBeg jWs jMis jSrv jLft jSub jWai jNxt cnd nw hi sv th_5 cd ha ov_3))) ∧ (¬ ((lg_cmp ov_3 (r4.toInt64)) = 0) → (False)))) ∧ (¬ r2 = 0 → (∀ x9 : Int32, x9 = i + 3 → (rec23 x9 cur sav cnt ST now rnd jm rp sc dc cn sUp sLen sWrk sReg sFst sLst dPol dPtr dCnt dIdl dKnw jCnt jFin jBeg jWs jMis jSrv jLft jSub jWai jNxt cnd nw hi sv th_5 cd ha ov_3))))) ∧ (¬ (r6 = r2) → (False)))))))
set_option maxRecDepth 100000 in
set_option maxHeartbeats 4000000 in
theorem kc_11 {p : Program} {l : Launch} {e : Env} {s : State} {m : MethodId} {args : Array Value} {below : List Frame} {meth : Method} {c : Code} {Q : State → Prop} {A : Nat → Prop} {E : EV} {b bs L : Nat} {xs : Nat → Int32} {cells slots : Nat} (C : CallFix p m c cL_law 9 s args wsL_law RL) (hlt : l.stackTraces = false) (hA : ∀ q, b ≤ q → A q) (hX : XL E A s) (hScr : va_X bs L xs s s.heap) (hbl : bs < s.heap.size) (hbA : ¬ A bs) (hcl : cells + 4 ≤ room_1.cells) (hsl : slots + 24 ≤ room_1.slots) (rec23 : Int32 → Nat → (Nat → Nat) → Int32 → (Nat → TT) → Int32 → Int64 → Int32 → Int32 → Int32 → Int32 → Int32 → (Nat → Int32) → (Nat → Int32) → (Nat → Int32) → (Nat → Int32) → (Nat → Int32) → (Nat → Int32) → (Nat → Int32) → (Nat → Int32) → (Nat → Int32) → (Nat → Nat → Int32) → (Nat → Nat → Int32) → Int32 → Int32 → Int32 → Int32 → Int32 → (Nat → Int32) → (Nat → Int32) → (Nat → Int32) → (Nat → Int32) → (Nat → Int32) → (Nat → Int32) → (Nat → Int32) → (Nat → Int32) → Int32 → Int32 → (Nat → Int32) → Int64 → Int64 → Prop) (ih23 : ∀ (i : Int32) (cur : Nat) (sav : Nat → Nat) (cnt : Int32) (ST : Nat → TT) (now : Int32) (rnd : Int64) (jm : Int32) (rp : Int32) (sc : Int32) (dc : Int32) (cn : Int32) (sUp : Nat → Int32) (sLen : Nat → Int32) (sWrk : Nat → Int32) (sReg : Nat → Int32) (sFst : Nat → Int32) (sLst : Nat → Int32) (dPol : Nat → Int32) (dPtr : Nat → Int32) (dCnt : Nat → Int32) (dIdl : Nat → Nat → Int32) (dKnw : Nat → Nat → Int32) (jCnt : Int32) (jFin : Int32) (jBeg : Int32) (jWs : Int32) (jMis : Int32) (jSrv : Nat → Int32) (jLft : Nat → Int32) (jSub : Nat → Int32) (jWai : Nat → Int32) (jNxt : Nat → Int32) (cnd : Nat → Int32) (nw : Nat → Int32) (hi : Nat → Int32) (sv : Int32) (th : Int32) (cd : Nat → Int32) (ha : Int64) (ov : Int64), rec23 i cur sav cnt ST now rnd jm rp sc dc cn sUp sLen sWrk sReg sFst sLst dPol dPtr dCnt dIdl dKnw jCnt jFin jBeg jWs jMis jSrv jLft jSub jWai jNxt cnd nw hi sv th cd ha ov → KJ p l e room_1 s m args below meth c 9 A (cells + 4) (slots + 24) Q (XF (LX E b nw hi sv th cd ha ov) cur sav cnt ST now rnd jm rp sc dc cn sUp sLen sWrk sReg sFst sLst dPol dPtr dCnt dIdl dKnw jCnt jFin jBeg jWs jMis jSrv jLft jSub jWai jNxt cnd) 23 [(4, .int i), (3, .ref (b + 126)), (2, .ref (b + 122)), (1, .ref b), (0, .ref bs)] []) (i : Int32) (cur : Nat) (sav : Nat → Nat) (cnt : Int32) (ST : Nat → TT) (now : Int32) (rnd : Int64) (jm : Int32) (rp : Int32) (sc : Int32) (dc : Int32) (cn : Int32) (sUp : Nat → Int32) (sLen : Nat → Int32) (sWrk : Nat → Int32) (sReg : Nat → Int32) (sFst : Nat → Int32) (sLst : Nat → Int32) (dPol : Nat → Int32) (dPtr : Nat → Int32) (dCnt : Nat → Int32) (dIdl : Nat → Nat → Int32) (dKnw : Nat → Nat → Int32) (jCnt : Int32) (jFin : Int32) (jBeg : Int32) (jWs : Int32) (jMis : Int32) (jSrv : Nat → Int32) (jLft : Nat → Int32) (jSub : Nat → Int32) (jWai : Nat → Int32) (jNxt : Nat → Int32) (cnd : Nat → Int32) (nw : Nat → Int32) (hi : Nat → Int32) (sv : Int32) (th : Int32) (cd : Nat → Int32) (ha : Int64) (ov : Int64) (h : wp_L_c11 cur L xs i sav cnt ST now rnd jm rp sc dc cn sUp sLen sWrk sReg sFst sLst dPol dPtr dCnt dIdl dKnw jCnt jFin jBeg jWs jMis jSrv jLft jSub jWai jNxt cnd nw hi sv cd ha ov rec23) : KJ p l e room_1 s m args below meth c 9 A cells slots Q (XF (LX E b nw hi sv th cd ha ov) cur sav cnt ST now rnd jm rp sc dc cn sUp sLen sWrk sReg sFst sLst dPol dPtr dCnt dIdl dKnw jCnt jFin jBeg jWs jMis jSrv jLft jSub jWai jNxt cnd) 815 [(4, .int i), (3, .ref (b + 126)), (2, .ref (b + 122)), (1, .ref b), (0, .ref bs)] [] := by
  have hE := hX.1.1
  obtain ⟨hcur, h⟩ := h
  refine k_aload_n C dL_law_815 3 rfl ?_
  refine k_aload_n C dL_law_816 4 rfl ?_
  refine k_iload C dL_law_817 0 rfl ?_
  refine k_iconst (v := 1) C dL_law_819 (by decide) ?_
  refine k_iadd C dL_law_820 ?_
  obtain ⟨q1, h⟩ := h
  refine l_sld C hScr hbl hbA q1 dL_law_821 ?_
  refine k_aload_n C dL_law_822 1 rfl ?_
  refine k_callWi (st := []) C hX (c_L_registeredAt l hlt hA cur sav cnt ST now rnd jm rp sc dc cn sUp sLen sWrk sReg sFst sLst dPol dPtr dCnt dIdl dKnw jCnt jFin jBeg jWs jMis jSrv jLft jSub jWai jNxt cnd nw hi sv th cd ha ov hcur (xs (i + 1).toNatClampNeg) _ h) (vx_cwSW (hh := [(0, 9, 12, 19)]) 3 C.2.2.2.2 gL_law_L_registeredAt rfl rfl rfl (by decide +kernel) ⟨Nat.le_of_ble_eq_true rfl, Nat.le_of_ble_eq_true rfl⟩) rfl rfl (Nat.le_of_ble_eq_true rfl) dL_law_823 ⟨by omega, by omega⟩ (fun r2 => ?_)
  refine k_ex (fun ov_3 => k_and (fun h => ?_))
  refine k_istore (lv' := [(5, .int r2), (4, .int i), (3, .ref (b + 126)), (2, .ref (b + 122)), (1, .ref b), (0, .ref bs)]) C dL_law_826 (by decide) rfl ?_
  refine k_aload_n C dL_law_828 3 rfl ?_
  refine k_aload_n C dL_law_829 5 rfl ?_
  refine k_iload C dL_law_830 1 rfl ?_
  refine k_iconst (v := 1) C dL_law_832 (by decide) ?_
  refine k_iadd C dL_law_833 ?_
  refine l_sld C hScr hbl hbA q1 dL_law_834 ?_
  refine k_callVi (st := []) C hE (c_X5_registeredAt l (P := (fun nw hi sv th cd ha => XF (LX E b nw hi sv th cd ha ov_3) cur sav cnt ST now rnd jm rp sc dc cn sUp sLen sWrk sReg sFst sLst dPol dPtr dCnt dIdl dKnw jCnt jFin jBeg jWs jMis jSrv jLft jSub jWai jNxt cnd)) (focL_m E b) (fun q hq => hA q (Nat.le_trans (Nat.le_add_right _ _) hq.1)) nw hi sv th cd ha (xs (i + 1).toNatClampNeg) _ h) (cwV 1 C.2.2.2.2 gL_law_X5_registeredAt rfl rfl rfl (by decide +kernel) ⟨Nat.le_of_ble_eq_true rfl, Nat.le_of_ble_eq_true rfl⟩) (fun H hP => va_recv hE.1 (k_one (mst_Mo hP.2.1)) rfl (q0 := 0) rfl) rfl rfl (Nat.le_of_ble_eq_true rfl) dL_law_835 ⟨by omega, by omega⟩ (fun r4 => ?_)
  refine k_ex (fun th_5 => k_and (fun h => ?_))
  refine k_pre (P2 := XF (LX E b nw hi sv th_5 cd ha ov_3) cur sav cnt ST now rnd jm rp sc dc cn sUp sLen sWrk sReg sFst sLst dPol dPtr dCnt dIdl dKnw jCnt jFin jBeg jWs jMis jSrv jLft jSub jWai jNxt cnd) (fun H hP => hP) ?_
  refine k_istore (lv' := [(6, .int r4), (5, .int r2), (4, .int i), (3, .ref (b + 126)), (2, .ref (b + 122)), (1, .ref b), (0, .ref bs)]) C dL_law_838 (by decide) rfl ?_
  refine k_aload_n C dL_law_840 4 rfl ?_
  refine k_callVi (st := []) C hE (c_X5_thrown l (P := (fun nw hi sv th cd ha => XF (LX E b nw hi sv th cd ha ov_3) cur sav cnt ST now rnd jm rp sc dc cn sUp sLen sWrk sReg sFst sLst dPol dPtr dCnt dIdl dKnw jCnt jFin jBeg jWs jMis jSrv jLft jSub jWai jNxt cnd)) (focL_m E b) (fun q hq => hA q (Nat.le_trans (Nat.le_add_right _ _) hq.1)) nw hi sv th_5 cd ha  _ h) (cwV 0 C.2.2.2.2 gL_law_X5_thrown rfl rfl rfl (by decide +kernel) ⟨Nat.le_of_ble_eq_true rfl, Nat.le_of_ble_eq_true rfl⟩) (fun H hP => va_recv hE.1 (k_one (mst_Mo hP.2.1)) rfl (q0 := 0) rfl) rfl rfl (Nat.le_of_ble_eq_true rfl) dL_law_841 ⟨by omega, by omega⟩ (fun r6 => ?_)
  refine k_and (fun h => ?_)
  refine k_pre (P2 := XF (LX E b nw hi sv th_5 cd ha ov_3) cur sav cnt ST now rnd jm rp sc dc cn sUp sLen sWrk sReg sFst sLst dPol dPtr dCnt dIdl dKnw jCnt jFin jBeg jWs jMis jSrv jLft jSub jWai jNxt cnd) (fun H hP => hP) ?_
  refine k_iload C dL_law_844 1 rfl ?_
  refine k_icmp_eq (tgt := 851) C dL_law_846 (by decide) (fun c7 => ?_) (fun c7 => ?_)
  · replace h := h.1 c7
    refine k_iload C dL_law_851 1 rfl ?_
    refine k_if_ne (tgt := 868) C dL_law_853 (by decide) (fun c8 => ?_) (fun c8 => ?_)
    · replace h := h.2 c8
      refine k_goto (tgt := 1394) C dL_law_868 (by decide) ?_
      obtain ⟨x9, ex9⟩ : ∃ z : Int32, z = i + 3 := ⟨_, rfl⟩
      replace h := h x9 ex9
      refine k_iinc (v := x9) (lv' := [(4, .int x9), (6, .int r4), (5, .int r2), (3, .ref (b + 126)), (2, .ref (b + 122)), (1, .ref b), (0, .ref bs)]) (j := 2) C dL_law_1394 rfl (by rw [ex9]; rfl) (by decide) rfl ?_
      refine k_goto (tgt := 23) C dL_law_1397 (by decide) ?_
      refine k_wide (k2 := cells + 4) (n2 := slots + 24) (by omega) (by omega) ?_
      refine k_pc (pc2 := 23) rfl ?_
      refine k_sub [0, 3, 4, 5, 6] rfl ?_
      exact ih23 _ _ _ _ _ _ _ _ _ _ _ _ _ _ _ _ _ _ _ _ _ _ _ _ _ _ _ _ _ _ _ _ _ _ _ _ _ _ _ _ _ h
    · replace h := h.1 c8
      refine k_aload_n C dL_law_856 3 rfl ?_
      refine k_iconst (v := 0) C dL_law_857 (by decide) ?_
      refine l_get C hE.1 dL_law_858 ?_
      refine k_iload C dL_law_859 0 rfl ?_
      refine k_i2l C dL_law_861 ?_
      refine k_lcmp C dL_law_862 ?_
      refine k_if_eq (tgt := 868) C dL_law_863 (by decide) (fun c10 => ?_) (fun c10 => ?_)
      · replace h := h.1 c10
        refine k_goto (tgt := 1394) C dL_law_868 (by decide) ?_
        obtain ⟨x11, ex11⟩ : ∃ z : Int32, z = i + 3 := ⟨_, rfl⟩
        replace h := h x11 ex11
        refine k_iinc (v := x11) (lv' := [(4, .int x11), (6, .int r4), (5, .int r2), (3, .ref (b + 126)), (2, .ref (b + 122)), (1, .ref b), (0, .ref bs)]) (j := 2) C dL_law_1394 rfl (by rw [ex11]; rfl) (by decide) rfl ?_
        refine k_goto (tgt := 23) C dL_law_1397 (by decide) ?_
        refine k_wide (k2 := cells + 4) (n2 := slots + 24) (by omega) (by omega) ?_
        refine k_pc (pc2 := 23) rfl ?_
        refine k_sub [0, 3, 4, 5, 6] rfl ?_
        exact ih23 _ _ _ _ _ _ _ _ _ _ _ _ _ _ _ _ _ _ _ _ _ _ _ _ _ _ _ _ _ _ _ _ _ _ _ _ _ _ _ _ _ h
      · replace h := h.2 c10
        refine k_iconst (v := 0) C dL_law_866 (by decide) ?_
        exact h.elim
  · replace h := h.2 c7
    refine k_iconst (v := 0) C dL_law_849 (by decide) ?_
    exact h.elim
noncomputable def wp_L_c12 (cur : Nat) (L : Nat) (xs : Nat → Int32) (i : Int32) (sav : Nat → Nat) (cnt : Int32) (ST : Nat → TT) (now : Int32) (rnd : Int64) (jm : Int32) (rp : Int32) (sc : Int32) (dc : Int32) (cn : Int32) (sUp : Nat → Int32) (sLen : Nat → Int32) (sWrk : Nat → Int32) (sReg : Nat → Int32) (sFst : Nat → Int32) (sLst : Nat → Int32) (dPol : Nat → Int32) (dPtr : Nat → Int32) (dCnt : Nat → Int32) (dIdl : Nat → Nat → Int32) (dKnw : Nat → Nat → Int32) (jCnt : Int32) (jFin : Int32) (jBeg : Int32) (jWs : Int32) (jMis : Int32) (jSrv : Nat → Int32) (jLft : Nat → Int32) (jSub : Nat → Int32) (jWai : Nat → Int32) (jNxt : Nat → Int32) (cnd : Nat → Int32) (nw : Nat → Int32) (hi : Nat → Int32) (sv : Int32) (cd : Nat → Int32) (ha : Int64) (ov : Int64) (rec23 : Int32 → Nat → (Nat → Nat) → Int32 → (Nat → TT) → Int32 → Int64 → Int32 → Int32 → Int32 → Int32 → Int32 → (Nat → Int32) → (Nat → Int32) → (Nat → Int32) → (Nat → Int32) → (Nat → Int32) → (Nat → Int32) → (Nat → Int32) → (Nat → Int32) → (Nat → Int32) → (Nat → Nat → Int32) → (Nat → Nat → Int32) → Int32 → Int32 → Int32 → Int32 → Int32 → (Nat → Int32) → (Nat → Int32) → (Nat → Int32) → (Nat → Int32) → (Nat → Int32) → (Nat → Int32) → (Nat → Int32) → (Nat → Int32) → Int32 → Int32 → (Nat → Int32) → Int64 → Int64 → Prop) : Prop := cur < 4 ∧ ((vp_in (i + 1) L) ∧ (wp_L_idleCount dc dCnt ov (xs (i + 1).toNatClampNeg) (fun r2 ov_3 => wp_X5_idleCount nw (xs (i + 1).toNatClampNeg) (fun r4 th_5 => wp_X5_thrown th_5 (fun r6 => (r6 = r2 → ((r2 = 0 → (((lg_cmp ov_3 (r4.toInt64)) = 0 → (∀ x11 : Int32, x11 = i + 3 → (rec23 x11 cur sav cnt ST now rnd jm rp sc dc cn sUp sLen sWrk sReg sFst sLst dPol dPtr dCnt dIdl dKnw jCnt jFin jBeg jWs jMis jSrv jLft jSub jWai jNxt cnd nw hi sv th_5 cd ha ov_3))) ∧ (¬ ((lg_cmp ov_3 (r4.toInt64)) = 0) → (False)))) ∧ (¬ r2 = 0 → (∀ x9 : Int32, x9 = i + 3 → (rec23 x9 cur sav cnt ST now rnd jm rp sc dc cn sUp sLen sWrk sReg sFst sLst dPol dPtr dCnt dIdl dKnw jCnt jFin jBeg jWs jMis jSrv jLft jSub jWai jNxt cnd nw hi sv th_5 cd ha ov_3))))) ∧ (¬ (r6 = r2) → (False)))))))
set_option maxRecDepth 100000 in
set_option maxHeartbeats 4000000 in
theorem kc_12 {p : Program} {l : Launch} {e : Env} {s : State} {m : MethodId} {args : Array Value} {below : List Frame} {meth : Method} {c : Code} {Q : State → Prop} {A : Nat → Prop} {E : EV} {b bs L : Nat} {xs : Nat → Int32} {cells slots : Nat} (C : CallFix p m c cL_law 9 s args wsL_law RL) (hlt : l.stackTraces = false) (hA : ∀ q, b ≤ q → A q) (hX : XL E A s) (hScr : va_X bs L xs s s.heap) (hbl : bs < s.heap.size) (hbA : ¬ A bs) (hcl : cells + 4 ≤ room_1.cells) (hsl : slots + 24 ≤ room_1.slots) (rec23 : Int32 → Nat → (Nat → Nat) → Int32 → (Nat → TT) → Int32 → Int64 → Int32 → Int32 → Int32 → Int32 → Int32 → (Nat → Int32) → (Nat → Int32) → (Nat → Int32) → (Nat → Int32) → (Nat → Int32) → (Nat → Int32) → (Nat → Int32) → (Nat → Int32) → (Nat → Int32) → (Nat → Nat → Int32) → (Nat → Nat → Int32) → Int32 → Int32 → Int32 → Int32 → Int32 → (Nat → Int32) → (Nat → Int32) → (Nat → Int32) → (Nat → Int32) → (Nat → Int32) → (Nat → Int32) → (Nat → Int32) → (Nat → Int32) → Int32 → Int32 → (Nat → Int32) → Int64 → Int64 → Prop) (ih23 : ∀ (i : Int32) (cur : Nat) (sav : Nat → Nat) (cnt : Int32) (ST : Nat → TT) (now : Int32) (rnd : Int64) (jm : Int32) (rp : Int32) (sc : Int32) (dc : Int32) (cn : Int32) (sUp : Nat → Int32) (sLen : Nat → Int32) (sWrk : Nat → Int32) (sReg : Nat → Int32) (sFst : Nat → Int32) (sLst : Nat → Int32) (dPol : Nat → Int32) (dPtr : Nat → Int32) (dCnt : Nat → Int32) (dIdl : Nat → Nat → Int32) (dKnw : Nat → Nat → Int32) (jCnt : Int32) (jFin : Int32) (jBeg : Int32) (jWs : Int32) (jMis : Int32) (jSrv : Nat → Int32) (jLft : Nat → Int32) (jSub : Nat → Int32) (jWai : Nat → Int32) (jNxt : Nat → Int32) (cnd : Nat → Int32) (nw : Nat → Int32) (hi : Nat → Int32) (sv : Int32) (th : Int32) (cd : Nat → Int32) (ha : Int64) (ov : Int64), rec23 i cur sav cnt ST now rnd jm rp sc dc cn sUp sLen sWrk sReg sFst sLst dPol dPtr dCnt dIdl dKnw jCnt jFin jBeg jWs jMis jSrv jLft jSub jWai jNxt cnd nw hi sv th cd ha ov → KJ p l e room_1 s m args below meth c 9 A (cells + 4) (slots + 24) Q (XF (LX E b nw hi sv th cd ha ov) cur sav cnt ST now rnd jm rp sc dc cn sUp sLen sWrk sReg sFst sLst dPol dPtr dCnt dIdl dKnw jCnt jFin jBeg jWs jMis jSrv jLft jSub jWai jNxt cnd) 23 [(4, .int i), (3, .ref (b + 126)), (2, .ref (b + 122)), (1, .ref b), (0, .ref bs)] []) (i : Int32) (cur : Nat) (sav : Nat → Nat) (cnt : Int32) (ST : Nat → TT) (now : Int32) (rnd : Int64) (jm : Int32) (rp : Int32) (sc : Int32) (dc : Int32) (cn : Int32) (sUp : Nat → Int32) (sLen : Nat → Int32) (sWrk : Nat → Int32) (sReg : Nat → Int32) (sFst : Nat → Int32) (sLst : Nat → Int32) (dPol : Nat → Int32) (dPtr : Nat → Int32) (dCnt : Nat → Int32) (dIdl : Nat → Nat → Int32) (dKnw : Nat → Nat → Int32) (jCnt : Int32) (jFin : Int32) (jBeg : Int32) (jWs : Int32) (jMis : Int32) (jSrv : Nat → Int32) (jLft : Nat → Int32) (jSub : Nat → Int32) (jWai : Nat → Int32) (jNxt : Nat → Int32) (cnd : Nat → Int32) (nw : Nat → Int32) (hi : Nat → Int32) (sv : Int32) (th : Int32) (cd : Nat → Int32) (ha : Int64) (ov : Int64) (h : wp_L_c12 cur L xs i sav cnt ST now rnd jm rp sc dc cn sUp sLen sWrk sReg sFst sLst dPol dPtr dCnt dIdl dKnw jCnt jFin jBeg jWs jMis jSrv jLft jSub jWai jNxt cnd nw hi sv cd ha ov rec23) : KJ p l e room_1 s m args below meth c 9 A cells slots Q (XF (LX E b nw hi sv th cd ha ov) cur sav cnt ST now rnd jm rp sc dc cn sUp sLen sWrk sReg sFst sLst dPol dPtr dCnt dIdl dKnw jCnt jFin jBeg jWs jMis jSrv jLft jSub jWai jNxt cnd) 871 [(4, .int i), (3, .ref (b + 126)), (2, .ref (b + 122)), (1, .ref b), (0, .ref bs)] [] := by
  have hE := hX.1.1
  obtain ⟨hcur, h⟩ := h
  refine k_aload_n C dL_law_871 3 rfl ?_
  refine k_aload_n C dL_law_872 4 rfl ?_
  refine k_iload C dL_law_873 0 rfl ?_
  refine k_iconst (v := 1) C dL_law_875 (by decide) ?_
  refine k_iadd C dL_law_876 ?_
  obtain ⟨q1, h⟩ := h
  refine l_sld C hScr hbl hbA q1 dL_law_877 ?_
  refine k_aload_n C dL_law_878 1 rfl ?_
  refine k_callWi (st := []) C hX (c_L_idleCount l hlt hA cur sav cnt ST now rnd jm rp sc dc cn sUp sLen sWrk sReg sFst sLst dPol dPtr dCnt dIdl dKnw jCnt jFin jBeg jWs jMis jSrv jLft jSub jWai jNxt cnd nw hi sv th cd ha ov hcur (xs (i + 1).toNatClampNeg) _ h) (vx_cwSW (hh := [(0, 9, 12, 19)]) 3 C.2.2.2.2 gL_law_L_idleCount rfl rfl rfl (by decide +kernel) ⟨Nat.le_of_ble_eq_true rfl, Nat.le_of_ble_eq_true rfl⟩) rfl rfl (Nat.le_of_ble_eq_true rfl) dL_law_879 ⟨by omega, by omega⟩ (fun r2 => ?_)
  refine k_ex (fun ov_3 => k_and (fun h => ?_))
  refine k_istore (lv' := [(5, .int r2), (4, .int i), (3, .ref (b + 126)), (2, .ref (b + 122)), (1, .ref b), (0, .ref bs)]) C dL_law_882 (by decide) rfl ?_
  refine k_aload_n C dL_law_884 3 rfl ?_
  refine k_aload_n C dL_law_885 5 rfl ?_
  refine k_iload C dL_law_886 1 rfl ?_
  refine k_iconst (v := 1) C dL_law_888 (by decide) ?_
  refine k_iadd C dL_law_889 ?_
  refine l_sld C hScr hbl hbA q1 dL_law_890 ?_
  refine k_callVi (st := []) C hE (c_X5_idleCount l (P := (fun nw hi sv th cd ha => XF (LX E b nw hi sv th cd ha ov_3) cur sav cnt ST now rnd jm rp sc dc cn sUp sLen sWrk sReg sFst sLst dPol dPtr dCnt dIdl dKnw jCnt jFin jBeg jWs jMis jSrv jLft jSub jWai jNxt cnd)) (focL_m E b) (fun q hq => hA q (Nat.le_trans (Nat.le_add_right _ _) hq.1)) nw hi sv th cd ha (xs (i + 1).toNatClampNeg) _ h) (cwV 1 C.2.2.2.2 gL_law_X5_idleCount rfl rfl rfl (by decide +kernel) ⟨Nat.le_of_ble_eq_true rfl, Nat.le_of_ble_eq_true rfl⟩) (fun H hP => va_recv hE.1 (k_one (mst_Mo hP.2.1)) rfl (q0 := 0) rfl) rfl rfl (Nat.le_of_ble_eq_true rfl) dL_law_891 ⟨by omega, by omega⟩ (fun r4 => ?_)
  refine k_ex (fun th_5 => k_and (fun h => ?_))
  refine k_pre (P2 := XF (LX E b nw hi sv th_5 cd ha ov_3) cur sav cnt ST now rnd jm rp sc dc cn sUp sLen sWrk sReg sFst sLst dPol dPtr dCnt dIdl dKnw jCnt jFin jBeg jWs jMis jSrv jLft jSub jWai jNxt cnd) (fun H hP => hP) ?_
  refine k_istore (lv' := [(6, .int r4), (5, .int r2), (4, .int i), (3, .ref (b + 126)), (2, .ref (b + 122)), (1, .ref b), (0, .ref bs)]) C dL_law_894 (by decide) rfl ?_
  refine k_aload_n C dL_law_896 4 rfl ?_
  refine k_callVi (st := []) C hE (c_X5_thrown l (P := (fun nw hi sv th cd ha => XF (LX E b nw hi sv th cd ha ov_3) cur sav cnt ST now rnd jm rp sc dc cn sUp sLen sWrk sReg sFst sLst dPol dPtr dCnt dIdl dKnw jCnt jFin jBeg jWs jMis jSrv jLft jSub jWai jNxt cnd)) (focL_m E b) (fun q hq => hA q (Nat.le_trans (Nat.le_add_right _ _) hq.1)) nw hi sv th_5 cd ha  _ h) (cwV 0 C.2.2.2.2 gL_law_X5_thrown rfl rfl rfl (by decide +kernel) ⟨Nat.le_of_ble_eq_true rfl, Nat.le_of_ble_eq_true rfl⟩) (fun H hP => va_recv hE.1 (k_one (mst_Mo hP.2.1)) rfl (q0 := 0) rfl) rfl rfl (Nat.le_of_ble_eq_true rfl) dL_law_897 ⟨by omega, by omega⟩ (fun r6 => ?_)
  refine k_and (fun h => ?_)
  refine k_pre (P2 := XF (LX E b nw hi sv th_5 cd ha ov_3) cur sav cnt ST now rnd jm rp sc dc cn sUp sLen sWrk sReg sFst sLst dPol dPtr dCnt dIdl dKnw jCnt jFin jBeg jWs jMis jSrv jLft jSub jWai jNxt cnd) (fun H hP => hP) ?_
  refine k_iload C dL_law_900 1 rfl ?_
  refine k_icmp_eq (tgt := 907) C dL_law_902 (by decide) (fun c7 => ?_) (fun c7 => ?_)
  · replace h := h.1 c7
    refine k_iload C dL_law_907 1 rfl ?_
    refine k_if_ne (tgt := 924) C dL_law_909 (by decide) (fun c8 => ?_) (fun c8 => ?_)
    · replace h := h.2 c8
      refine k_goto (tgt := 1394) C dL_law_924 (by decide) ?_
      obtain ⟨x9, ex9⟩ : ∃ z : Int32, z = i + 3 := ⟨_, rfl⟩
      replace h := h x9 ex9
      refine k_iinc (v := x9) (lv' := [(4, .int x9), (6, .int r4), (5, .int r2), (3, .ref (b + 126)), (2, .ref (b + 122)), (1, .ref b), (0, .ref bs)]) (j := 2) C dL_law_1394 rfl (by rw [ex9]; rfl) (by decide) rfl ?_
      refine k_goto (tgt := 23) C dL_law_1397 (by decide) ?_
      refine k_wide (k2 := cells + 4) (n2 := slots + 24) (by omega) (by omega) ?_
      refine k_pc (pc2 := 23) rfl ?_
      refine k_sub [0, 3, 4, 5, 6] rfl ?_
      exact ih23 _ _ _ _ _ _ _ _ _ _ _ _ _ _ _ _ _ _ _ _ _ _ _ _ _ _ _ _ _ _ _ _ _ _ _ _ _ _ _ _ _ h
    · replace h := h.1 c8
      refine k_aload_n C dL_law_912 3 rfl ?_
      refine k_iconst (v := 0) C dL_law_913 (by decide) ?_
      refine l_get C hE.1 dL_law_914 ?_
      refine k_iload C dL_law_915 0 rfl ?_
      refine k_i2l C dL_law_917 ?_
      refine k_lcmp C dL_law_918 ?_
      refine k_if_eq (tgt := 924) C dL_law_919 (by decide) (fun c10 => ?_) (fun c10 => ?_)
      · replace h := h.1 c10
        refine k_goto (tgt := 1394) C dL_law_924 (by decide) ?_
        obtain ⟨x11, ex11⟩ : ∃ z : Int32, z = i + 3 := ⟨_, rfl⟩
        replace h := h x11 ex11
        refine k_iinc (v := x11) (lv' := [(4, .int x11), (6, .int r4), (5, .int r2), (3, .ref (b + 126)), (2, .ref (b + 122)), (1, .ref b), (0, .ref bs)]) (j := 2) C dL_law_1394 rfl (by rw [ex11]; rfl) (by decide) rfl ?_
        refine k_goto (tgt := 23) C dL_law_1397 (by decide) ?_
        refine k_wide (k2 := cells + 4) (n2 := slots + 24) (by omega) (by omega) ?_
        refine k_pc (pc2 := 23) rfl ?_
        refine k_sub [0, 3, 4, 5, 6] rfl ?_
        exact ih23 _ _ _ _ _ _ _ _ _ _ _ _ _ _ _ _ _ _ _ _ _ _ _ _ _ _ _ _ _ _ _ _ _ _ _ _ _ _ _ _ _ h
      · replace h := h.2 c10
        refine k_iconst (v := 0) C dL_law_922 (by decide) ?_
        exact h.elim
  · replace h := h.2 c7
    refine k_iconst (v := 0) C dL_law_905 (by decide) ?_
    exact h.elim
noncomputable def wp_L_c13 (cur : Nat) (L : Nat) (xs : Nat → Int32) (i : Int32) (sav : Nat → Nat) (cnt : Int32) (ST : Nat → TT) (now : Int32) (rnd : Int64) (jm : Int32) (rp : Int32) (sc : Int32) (dc : Int32) (cn : Int32) (sUp : Nat → Int32) (sLen : Nat → Int32) (sWrk : Nat → Int32) (sReg : Nat → Int32) (sFst : Nat → Int32) (sLst : Nat → Int32) (dPol : Nat → Int32) (dPtr : Nat → Int32) (dCnt : Nat → Int32) (dIdl : Nat → Nat → Int32) (dKnw : Nat → Nat → Int32) (jCnt : Int32) (jFin : Int32) (jBeg : Int32) (jWs : Int32) (jMis : Int32) (jSrv : Nat → Int32) (jLft : Nat → Int32) (jSub : Nat → Int32) (jWai : Nat → Int32) (jNxt : Nat → Int32) (cnd : Nat → Int32) (nw : Nat → Int32) (hi : Nat → Int32) (sv : Int32) (cd : Nat → Int32) (ha : Int64) (ov : Int64) (rec23 : Int32 → Nat → (Nat → Nat) → Int32 → (Nat → TT) → Int32 → Int64 → Int32 → Int32 → Int32 → Int32 → Int32 → (Nat → Int32) → (Nat → Int32) → (Nat → Int32) → (Nat → Int32) → (Nat → Int32) → (Nat → Int32) → (Nat → Int32) → (Nat → Int32) → (Nat → Int32) → (Nat → Nat → Int32) → (Nat → Nat → Int32) → Int32 → Int32 → Int32 → Int32 → Int32 → (Nat → Int32) → (Nat → Int32) → (Nat → Int32) → (Nat → Int32) → (Nat → Int32) → (Nat → Int32) → (Nat → Int32) → (Nat → Int32) → Int32 → Int32 → (Nat → Int32) → Int64 → Int64 → Prop) : Prop := cur < 4 ∧ ((vp_in (i + 1) L) ∧ ((vp_in (i + 2) L) ∧ (wp_L_idleAt dc dCnt dIdl ov (xs (i + 1).toNatClampNeg) (xs (i + 2).toNatClampNeg) (fun r3 ov_4 => wp_X5_idleAt nw (xs (i + 1).toNatClampNeg) (xs (i + 2).toNatClampNeg) (fun r5 th_6 => wp_X5_thrown th_6 (fun r7 => (r7 = r3 → ((r3 = 0 → (((lg_cmp ov_4 (r5.toInt64)) = 0 → (∀ x12 : Int32, x12 = i + 3 → (rec23 x12 cur sav cnt ST now rnd jm rp sc dc cn sUp sLen sWrk sReg sFst sLst dPol dPtr dCnt dIdl dKnw jCnt jFin jBeg jWs jMis jSrv jLft jSub jWai jNxt cnd nw hi sv th_6 cd ha ov_4))) ∧ (¬ ((lg_cmp ov_4 (r5.toInt64)) = 0) → (False)))) ∧ (¬ r3 = 0 → (∀ x10 : Int32, x10 = i + 3 → (rec23 x10 cur sav cnt ST now rnd jm rp sc dc cn sUp sLen sWrk sReg sFst sLst dPol dPtr dCnt dIdl dKnw jCnt jFin jBeg jWs jMis jSrv jLft jSub jWai jNxt cnd nw hi sv th_6 cd ha ov_4))))) ∧ (¬ (r7 = r3) → (False))))))))
set_option maxRecDepth 100000 in
set_option maxHeartbeats 4000000 in
theorem kc_13 {p : Program} {l : Launch} {e : Env} {s : State} {m : MethodId} {args : Array Value} {below : List Frame} {meth : Method} {c : Code} {Q : State → Prop} {A : Nat → Prop} {E : EV} {b bs L : Nat} {xs : Nat → Int32} {cells slots : Nat} (C : CallFix p m c cL_law 9 s args wsL_law RL) (hlt : l.stackTraces = false) (hA : ∀ q, b ≤ q → A q) (hX : XL E A s) (hScr : va_X bs L xs s s.heap) (hbl : bs < s.heap.size) (hbA : ¬ A bs) (hcl : cells + 4 ≤ room_1.cells) (hsl : slots + 24 ≤ room_1.slots) (rec23 : Int32 → Nat → (Nat → Nat) → Int32 → (Nat → TT) → Int32 → Int64 → Int32 → Int32 → Int32 → Int32 → Int32 → (Nat → Int32) → (Nat → Int32) → (Nat → Int32) → (Nat → Int32) → (Nat → Int32) → (Nat → Int32) → (Nat → Int32) → (Nat → Int32) → (Nat → Int32) → (Nat → Nat → Int32) → (Nat → Nat → Int32) → Int32 → Int32 → Int32 → Int32 → Int32 → (Nat → Int32) → (Nat → Int32) → (Nat → Int32) → (Nat → Int32) → (Nat → Int32) → (Nat → Int32) → (Nat → Int32) → (Nat → Int32) → Int32 → Int32 → (Nat → Int32) → Int64 → Int64 → Prop) (ih23 : ∀ (i : Int32) (cur : Nat) (sav : Nat → Nat) (cnt : Int32) (ST : Nat → TT) (now : Int32) (rnd : Int64) (jm : Int32) (rp : Int32) (sc : Int32) (dc : Int32) (cn : Int32) (sUp : Nat → Int32) (sLen : Nat → Int32) (sWrk : Nat → Int32) (sReg : Nat → Int32) (sFst : Nat → Int32) (sLst : Nat → Int32) (dPol : Nat → Int32) (dPtr : Nat → Int32) (dCnt : Nat → Int32) (dIdl : Nat → Nat → Int32) (dKnw : Nat → Nat → Int32) (jCnt : Int32) (jFin : Int32) (jBeg : Int32) (jWs : Int32) (jMis : Int32) (jSrv : Nat → Int32) (jLft : Nat → Int32) (jSub : Nat → Int32) (jWai : Nat → Int32) (jNxt : Nat → Int32) (cnd : Nat → Int32) (nw : Nat → Int32) (hi : Nat → Int32) (sv : Int32) (th : Int32) (cd : Nat → Int32) (ha : Int64) (ov : Int64), rec23 i cur sav cnt ST now rnd jm rp sc dc cn sUp sLen sWrk sReg sFst sLst dPol dPtr dCnt dIdl dKnw jCnt jFin jBeg jWs jMis jSrv jLft jSub jWai jNxt cnd nw hi sv th cd ha ov → KJ p l e room_1 s m args below meth c 9 A (cells + 4) (slots + 24) Q (XF (LX E b nw hi sv th cd ha ov) cur sav cnt ST now rnd jm rp sc dc cn sUp sLen sWrk sReg sFst sLst dPol dPtr dCnt dIdl dKnw jCnt jFin jBeg jWs jMis jSrv jLft jSub jWai jNxt cnd) 23 [(4, .int i), (3, .ref (b + 126)), (2, .ref (b + 122)), (1, .ref b), (0, .ref bs)] []) (i : Int32) (cur : Nat) (sav : Nat → Nat) (cnt : Int32) (ST : Nat → TT) (now : Int32) (rnd : Int64) (jm : Int32) (rp : Int32) (sc : Int32) (dc : Int32) (cn : Int32) (sUp : Nat → Int32) (sLen : Nat → Int32) (sWrk : Nat → Int32) (sReg : Nat → Int32) (sFst : Nat → Int32) (sLst : Nat → Int32) (dPol : Nat → Int32) (dPtr : Nat → Int32) (dCnt : Nat → Int32) (dIdl : Nat → Nat → Int32) (dKnw : Nat → Nat → Int32) (jCnt : Int32) (jFin : Int32) (jBeg : Int32) (jWs : Int32) (jMis : Int32) (jSrv : Nat → Int32) (jLft : Nat → Int32) (jSub : Nat → Int32) (jWai : Nat → Int32) (jNxt : Nat → Int32) (cnd : Nat → Int32) (nw : Nat → Int32) (hi : Nat → Int32) (sv : Int32) (th : Int32) (cd : Nat → Int32) (ha : Int64) (ov : Int64) (h : wp_L_c13 cur L xs i sav cnt ST now rnd jm rp sc dc cn sUp sLen sWrk sReg sFst sLst dPol dPtr dCnt dIdl dKnw jCnt jFin jBeg jWs jMis jSrv jLft jSub jWai jNxt cnd nw hi sv cd ha ov rec23) : KJ p l e room_1 s m args below meth c 9 A cells slots Q (XF (LX E b nw hi sv th cd ha ov) cur sav cnt ST now rnd jm rp sc dc cn sUp sLen sWrk sReg sFst sLst dPol dPtr dCnt dIdl dKnw jCnt jFin jBeg jWs jMis jSrv jLft jSub jWai jNxt cnd) 927 [(4, .int i), (3, .ref (b + 126)), (2, .ref (b + 122)), (1, .ref b), (0, .ref bs)] [] := by
  have hE := hX.1.1
  obtain ⟨hcur, h⟩ := h
  refine k_aload_n C dL_law_927 3 rfl ?_
  refine k_aload_n C dL_law_928 4 rfl ?_
  refine k_iload C dL_law_929 0 rfl ?_
  refine k_iconst (v := 1) C dL_law_931 (by decide) ?_
  refine k_iadd C dL_law_932 ?_
  obtain ⟨q1, h⟩ := h
  refine l_sld C hScr hbl hbA q1 dL_law_933 ?_
  refine k_aload_n C dL_law_934 4 rfl ?_
  refine k_iload C dL_law_935 0 rfl ?_
  refine k_iconst (v := 2) C dL_law_937 (by decide) ?_
  refine k_iadd C dL_law_938 ?_
  obtain ⟨q2, h⟩ := h
  refine l_sld C hScr hbl hbA q2 dL_law_939 ?_
  refine k_aload_n C dL_law_940 1 rfl ?_
  refine k_callWi (st := []) C hX (c_L_idleAt l hlt hA cur sav cnt ST now rnd jm rp sc dc cn sUp sLen sWrk sReg sFst sLst dPol dPtr dCnt dIdl dKnw jCnt jFin jBeg jWs jMis jSrv jLft jSub jWai jNxt cnd nw hi sv th cd ha ov hcur (xs (i + 1).toNatClampNeg) (xs (i + 2).toNatClampNeg) _ h) (vx_cwSW (hh := [(0, 10, 13, 19), (0, 10, 17, 59)]) 4 C.2.2.2.2 gL_law_L_idleAt rfl rfl rfl (by decide +kernel) ⟨Nat.le_of_ble_eq_true rfl, Nat.le_of_ble_eq_true rfl⟩) rfl rfl (Nat.le_of_ble_eq_true rfl) dL_law_941 ⟨by omega, by omega⟩ (fun r3 => ?_)
  refine k_ex (fun ov_4 => k_and (fun h => ?_))
  refine k_istore (lv' := [(5, .int r3), (4, .int i), (3, .ref (b + 126)), (2, .ref (b + 122)), (1, .ref b), (0, .ref bs)]) C dL_law_944 (by decide) rfl ?_
  refine k_aload_n C dL_law_946 3 rfl ?_
  refine k_aload_n C dL_law_947 5 rfl ?_
  refine k_iload C dL_law_948 1 rfl ?_
  refine k_iconst (v := 1) C dL_law_950 (by decide) ?_
  refine k_iadd C dL_law_951 ?_
  refine l_sld C hScr hbl hbA q1 dL_law_952 ?_
  refine k_aload_n C dL_law_953 5 rfl ?_
  refine k_iload C dL_law_954 1 rfl ?_
  refine k_iconst (v := 2) C dL_law_956 (by decide) ?_
  refine k_iadd C dL_law_957 ?_
  refine l_sld C hScr hbl hbA q2 dL_law_958 ?_
  refine k_callVi (st := []) C hE (c_X5_idleAt l (P := (fun nw hi sv th cd ha => XF (LX E b nw hi sv th cd ha ov_4) cur sav cnt ST now rnd jm rp sc dc cn sUp sLen sWrk sReg sFst sLst dPol dPtr dCnt dIdl dKnw jCnt jFin jBeg jWs jMis jSrv jLft jSub jWai jNxt cnd)) (focL_m E b) (fun q hq => hA q (Nat.le_trans (Nat.le_add_right _ _) hq.1)) nw hi sv th cd ha (xs (i + 1).toNatClampNeg) (xs (i + 2).toNatClampNeg) _ h) (cwV 2 C.2.2.2.2 gL_law_X5_idleAt rfl rfl rfl (by decide +kernel) ⟨Nat.le_of_ble_eq_true rfl, Nat.le_of_ble_eq_true rfl⟩) (fun H hP => va_recv hE.1 (k_one (mst_Mo hP.2.1)) rfl (q0 := 0) rfl) rfl rfl (Nat.le_of_ble_eq_true rfl) dL_law_959 ⟨by omega, by omega⟩ (fun r5 => ?_)
  refine k_ex (fun th_6 => k_and (fun h => ?_))
  refine k_pre (P2 := XF (LX E b nw hi sv th_6 cd ha ov_4) cur sav cnt ST now rnd jm rp sc dc cn sUp sLen sWrk sReg sFst sLst dPol dPtr dCnt dIdl dKnw jCnt jFin jBeg jWs jMis jSrv jLft jSub jWai jNxt cnd) (fun H hP => hP) ?_
  refine k_istore (lv' := [(6, .int r5), (5, .int r3), (4, .int i), (3, .ref (b + 126)), (2, .ref (b + 122)), (1, .ref b), (0, .ref bs)]) C dL_law_962 (by decide) rfl ?_
  refine k_aload_n C dL_law_964 4 rfl ?_
  refine k_callVi (st := []) C hE (c_X5_thrown l (P := (fun nw hi sv th cd ha => XF (LX E b nw hi sv th cd ha ov_4) cur sav cnt ST now rnd jm rp sc dc cn sUp sLen sWrk sReg sFst sLst dPol dPtr dCnt dIdl dKnw jCnt jFin jBeg jWs jMis jSrv jLft jSub jWai jNxt cnd)) (focL_m E b) (fun q hq => hA q (Nat.le_trans (Nat.le_add_right _ _) hq.1)) nw hi sv th_6 cd ha  _ h) (cwV 0 C.2.2.2.2 gL_law_X5_thrown rfl rfl rfl (by decide +kernel) ⟨Nat.le_of_ble_eq_true rfl, Nat.le_of_ble_eq_true rfl⟩) (fun H hP => va_recv hE.1 (k_one (mst_Mo hP.2.1)) rfl (q0 := 0) rfl) rfl rfl (Nat.le_of_ble_eq_true rfl) dL_law_965 ⟨by omega, by omega⟩ (fun r7 => ?_)
  refine k_and (fun h => ?_)
  refine k_pre (P2 := XF (LX E b nw hi sv th_6 cd ha ov_4) cur sav cnt ST now rnd jm rp sc dc cn sUp sLen sWrk sReg sFst sLst dPol dPtr dCnt dIdl dKnw jCnt jFin jBeg jWs jMis jSrv jLft jSub jWai jNxt cnd) (fun H hP => hP) ?_
  refine k_iload C dL_law_968 1 rfl ?_
  refine k_icmp_eq (tgt := 975) C dL_law_970 (by decide) (fun c8 => ?_) (fun c8 => ?_)
  · replace h := h.1 c8
    refine k_iload C dL_law_975 1 rfl ?_
    refine k_if_ne (tgt := 992) C dL_law_977 (by decide) (fun c9 => ?_) (fun c9 => ?_)
    · replace h := h.2 c9
      refine k_goto (tgt := 1394) C dL_law_992 (by decide) ?_
      obtain ⟨x10, ex10⟩ : ∃ z : Int32, z = i + 3 := ⟨_, rfl⟩
      replace h := h x10 ex10
      refine k_iinc (v := x10) (lv' := [(4, .int x10), (6, .int r5), (5, .int r3), (3, .ref (b + 126)), (2, .ref (b + 122)), (1, .ref b), (0, .ref bs)]) (j := 2) C dL_law_1394 rfl (by rw [ex10]; rfl) (by decide) rfl ?_
      refine k_goto (tgt := 23) C dL_law_1397 (by decide) ?_
      refine k_wide (k2 := cells + 4) (n2 := slots + 24) (by omega) (by omega) ?_
      refine k_pc (pc2 := 23) rfl ?_
      refine k_sub [0, 3, 4, 5, 6] rfl ?_
      exact ih23 _ _ _ _ _ _ _ _ _ _ _ _ _ _ _ _ _ _ _ _ _ _ _ _ _ _ _ _ _ _ _ _ _ _ _ _ _ _ _ _ _ h
    · replace h := h.1 c9
      refine k_aload_n C dL_law_980 3 rfl ?_
      refine k_iconst (v := 0) C dL_law_981 (by decide) ?_
      refine l_get C hE.1 dL_law_982 ?_
      refine k_iload C dL_law_983 0 rfl ?_
      refine k_i2l C dL_law_985 ?_
      refine k_lcmp C dL_law_986 ?_
      refine k_if_eq (tgt := 992) C dL_law_987 (by decide) (fun c11 => ?_) (fun c11 => ?_)
      · replace h := h.1 c11
        refine k_goto (tgt := 1394) C dL_law_992 (by decide) ?_
        obtain ⟨x12, ex12⟩ : ∃ z : Int32, z = i + 3 := ⟨_, rfl⟩
        replace h := h x12 ex12
        refine k_iinc (v := x12) (lv' := [(4, .int x12), (6, .int r5), (5, .int r3), (3, .ref (b + 126)), (2, .ref (b + 122)), (1, .ref b), (0, .ref bs)]) (j := 2) C dL_law_1394 rfl (by rw [ex12]; rfl) (by decide) rfl ?_
        refine k_goto (tgt := 23) C dL_law_1397 (by decide) ?_
        refine k_wide (k2 := cells + 4) (n2 := slots + 24) (by omega) (by omega) ?_
        refine k_pc (pc2 := 23) rfl ?_
        refine k_sub [0, 3, 4, 5, 6] rfl ?_
        exact ih23 _ _ _ _ _ _ _ _ _ _ _ _ _ _ _ _ _ _ _ _ _ _ _ _ _ _ _ _ _ _ _ _ _ _ _ _ _ _ _ _ _ h
      · replace h := h.2 c11
        refine k_iconst (v := 0) C dL_law_990 (by decide) ?_
        exact h.elim
  · replace h := h.2 c8
    refine k_iconst (v := 0) C dL_law_973 (by decide) ?_
    exact h.elim
noncomputable def wp_L_c14 (cur : Nat) (L : Nat) (xs : Nat → Int32) (i : Int32) (sav : Nat → Nat) (cnt : Int32) (ST : Nat → TT) (now : Int32) (rnd : Int64) (jm : Int32) (rp : Int32) (sc : Int32) (dc : Int32) (cn : Int32) (sUp : Nat → Int32) (sLen : Nat → Int32) (sWrk : Nat → Int32) (sReg : Nat → Int32) (sFst : Nat → Int32) (sLst : Nat → Int32) (dPol : Nat → Int32) (dPtr : Nat → Int32) (dCnt : Nat → Int32) (dIdl : Nat → Nat → Int32) (dKnw : Nat → Nat → Int32) (jCnt : Int32) (jFin : Int32) (jBeg : Int32) (jWs : Int32) (jMis : Int32) (jSrv : Nat → Int32) (jLft : Nat → Int32) (jSub : Nat → Int32) (jWai : Nat → Int32) (jNxt : Nat → Int32) (cnd : Nat → Int32) (nw : Nat → Int32) (hi : Nat → Int32) (sv : Int32) (cd : Nat → Int32) (ha : Int64) (ov : Int64) (rec23 : Int32 → Nat → (Nat → Nat) → Int32 → (Nat → TT) → Int32 → Int64 → Int32 → Int32 → Int32 → Int32 → Int32 → (Nat → Int32) → (Nat → Int32) → (Nat → Int32) → (Nat → Int32) → (Nat → Int32) → (Nat → Int32) → (Nat → Int32) → (Nat → Int32) → (Nat → Int32) → (Nat → Nat → Int32) → (Nat → Nat → Int32) → Int32 → Int32 → Int32 → Int32 → Int32 → (Nat → Int32) → (Nat → Int32) → (Nat → Int32) → (Nat → Int32) → (Nat → Int32) → (Nat → Int32) → (Nat → Int32) → (Nat → Int32) → Int32 → Int32 → (Nat → Int32) → Int64 → Int64 → Prop) : Prop := cur < 4 ∧ ((vp_in (i + 1) L) ∧ ((vp_in (i + 2) L) ∧ (wp_L_knownLength sc dc dKnw ov (xs (i + 1).toNatClampNeg) (xs (i + 2).toNatClampNeg) (fun r3 ov_4 => wp_X5_knownLength nw (xs (i + 1).toNatClampNeg) (xs (i + 2).toNatClampNeg) (fun r5 th_6 => wp_X5_thrown th_6 (fun r7 => (r7 = r3 → ((r3 = 0 → (((lg_cmp ov_4 (r5.toInt64)) = 0 → (∀ x12 : Int32, x12 = i + 3 → (rec23 x12 cur sav cnt ST now rnd jm rp sc dc cn sUp sLen sWrk sReg sFst sLst dPol dPtr dCnt dIdl dKnw jCnt jFin jBeg jWs jMis jSrv jLft jSub jWai jNxt cnd nw hi sv th_6 cd ha ov_4))) ∧ (¬ ((lg_cmp ov_4 (r5.toInt64)) = 0) → (False)))) ∧ (¬ r3 = 0 → (∀ x10 : Int32, x10 = i + 3 → (rec23 x10 cur sav cnt ST now rnd jm rp sc dc cn sUp sLen sWrk sReg sFst sLst dPol dPtr dCnt dIdl dKnw jCnt jFin jBeg jWs jMis jSrv jLft jSub jWai jNxt cnd nw hi sv th_6 cd ha ov_4))))) ∧ (¬ (r7 = r3) → (False))))))))
set_option maxRecDepth 100000 in
set_option maxHeartbeats 4000000 in
theorem kc_14 {p : Program} {l : Launch} {e : Env} {s : State} {m : MethodId} {args : Array Value} {below : List Frame} {meth : Method} {c : Code} {Q : State → Prop} {A : Nat → Prop} {E : EV} {b bs L : Nat} {xs : Nat → Int32} {cells slots : Nat} (C : CallFix p m c cL_law 9 s args wsL_law RL) (hlt : l.stackTraces = false) (hA : ∀ q, b ≤ q → A q) (hX : XL E A s) (hScr : va_X bs L xs s s.heap) (hbl : bs < s.heap.size) (hbA : ¬ A bs) (hcl : cells + 4 ≤ room_1.cells) (hsl : slots + 24 ≤ room_1.slots) (rec23 : Int32 → Nat → (Nat → Nat) → Int32 → (Nat → TT) → Int32 → Int64 → Int32 → Int32 → Int32 → Int32 → Int32 → (Nat → Int32) → (Nat → Int32) → (Nat → Int32) → (Nat → Int32) → (Nat → Int32) → (Nat → Int32) → (Nat → Int32) → (Nat → Int32) → (Nat → Int32) → (Nat → Nat → Int32) → (Nat → Nat → Int32) → Int32 → Int32 → Int32 → Int32 → Int32 → (Nat → Int32) → (Nat → Int32) → (Nat → Int32) → (Nat → Int32) → (Nat → Int32) → (Nat → Int32) → (Nat → Int32) → (Nat → Int32) → Int32 → Int32 → (Nat → Int32) → Int64 → Int64 → Prop) (ih23 : ∀ (i : Int32) (cur : Nat) (sav : Nat → Nat) (cnt : Int32) (ST : Nat → TT) (now : Int32) (rnd : Int64) (jm : Int32) (rp : Int32) (sc : Int32) (dc : Int32) (cn : Int32) (sUp : Nat → Int32) (sLen : Nat → Int32) (sWrk : Nat → Int32) (sReg : Nat → Int32) (sFst : Nat → Int32) (sLst : Nat → Int32) (dPol : Nat → Int32) (dPtr : Nat → Int32) (dCnt : Nat → Int32) (dIdl : Nat → Nat → Int32) (dKnw : Nat → Nat → Int32) (jCnt : Int32) (jFin : Int32) (jBeg : Int32) (jWs : Int32) (jMis : Int32) (jSrv : Nat → Int32) (jLft : Nat → Int32) (jSub : Nat → Int32) (jWai : Nat → Int32) (jNxt : Nat → Int32) (cnd : Nat → Int32) (nw : Nat → Int32) (hi : Nat → Int32) (sv : Int32) (th : Int32) (cd : Nat → Int32) (ha : Int64) (ov : Int64), rec23 i cur sav cnt ST now rnd jm rp sc dc cn sUp sLen sWrk sReg sFst sLst dPol dPtr dCnt dIdl dKnw jCnt jFin jBeg jWs jMis jSrv jLft jSub jWai jNxt cnd nw hi sv th cd ha ov → KJ p l e room_1 s m args below meth c 9 A (cells + 4) (slots + 24) Q (XF (LX E b nw hi sv th cd ha ov) cur sav cnt ST now rnd jm rp sc dc cn sUp sLen sWrk sReg sFst sLst dPol dPtr dCnt dIdl dKnw jCnt jFin jBeg jWs jMis jSrv jLft jSub jWai jNxt cnd) 23 [(4, .int i), (3, .ref (b + 126)), (2, .ref (b + 122)), (1, .ref b), (0, .ref bs)] []) (i : Int32) (cur : Nat) (sav : Nat → Nat) (cnt : Int32) (ST : Nat → TT) (now : Int32) (rnd : Int64) (jm : Int32) (rp : Int32) (sc : Int32) (dc : Int32) (cn : Int32) (sUp : Nat → Int32) (sLen : Nat → Int32) (sWrk : Nat → Int32) (sReg : Nat → Int32) (sFst : Nat → Int32) (sLst : Nat → Int32) (dPol : Nat → Int32) (dPtr : Nat → Int32) (dCnt : Nat → Int32) (dIdl : Nat → Nat → Int32) (dKnw : Nat → Nat → Int32) (jCnt : Int32) (jFin : Int32) (jBeg : Int32) (jWs : Int32) (jMis : Int32) (jSrv : Nat → Int32) (jLft : Nat → Int32) (jSub : Nat → Int32) (jWai : Nat → Int32) (jNxt : Nat → Int32) (cnd : Nat → Int32) (nw : Nat → Int32) (hi : Nat → Int32) (sv : Int32) (th : Int32) (cd : Nat → Int32) (ha : Int64) (ov : Int64) (h : wp_L_c14 cur L xs i sav cnt ST now rnd jm rp sc dc cn sUp sLen sWrk sReg sFst sLst dPol dPtr dCnt dIdl dKnw jCnt jFin jBeg jWs jMis jSrv jLft jSub jWai jNxt cnd nw hi sv cd ha ov rec23) : KJ p l e room_1 s m args below meth c 9 A cells slots Q (XF (LX E b nw hi sv th cd ha ov) cur sav cnt ST now rnd jm rp sc dc cn sUp sLen sWrk sReg sFst sLst dPol dPtr dCnt dIdl dKnw jCnt jFin jBeg jWs jMis jSrv jLft jSub jWai jNxt cnd) 995 [(4, .int i), (3, .ref (b + 126)), (2, .ref (b + 122)), (1, .ref b), (0, .ref bs)] [] := by
  have hE := hX.1.1
  obtain ⟨hcur, h⟩ := h
  refine k_aload_n C dL_law_995 3 rfl ?_
  refine k_aload_n C dL_law_996 4 rfl ?_
  refine k_iload C dL_law_997 0 rfl ?_
  refine k_iconst (v := 1) C dL_law_999 (by decide) ?_
  refine k_iadd C dL_law_1000 ?_
  obtain ⟨q1, h⟩ := h
  refine l_sld C hScr hbl hbA q1 dL_law_1001 ?_
  refine k_aload_n C dL_law_1002 4 rfl ?_
  refine k_iload C dL_law_1003 0 rfl ?_
  refine k_iconst (v := 2) C dL_law_1005 (by decide) ?_
  refine k_iadd C dL_law_1006 ?_
  obtain ⟨q2, h⟩ := h
  refine l_sld C hScr hbl hbA q2 dL_law_1007 ?_
  refine k_aload_n C dL_law_1008 1 rfl ?_
  refine k_callWi (st := []) C hX (c_L_knownLength l hlt hA cur sav cnt ST now rnd jm rp sc dc cn sUp sLen sWrk sReg sFst sLst dPol dPtr dCnt dIdl dKnw jCnt jFin jBeg jWs jMis jSrv jLft jSub jWai jNxt cnd nw hi sv th cd ha ov hcur (xs (i + 1).toNatClampNeg) (xs (i + 2).toNatClampNeg) _ h) (vx_cwSW (hh := [(0, 10, 13, 19)]) 4 C.2.2.2.2 gL_law_L_knownLength rfl rfl rfl (by decide +kernel) ⟨Nat.le_of_ble_eq_true rfl, Nat.le_of_ble_eq_true rfl⟩) rfl rfl (Nat.le_of_ble_eq_true rfl) dL_law_1009 ⟨by omega, by omega⟩ (fun r3 => ?_)
  refine k_ex (fun ov_4 => k_and (fun h => ?_))
  refine k_istore (lv' := [(5, .int r3), (4, .int i), (3, .ref (b + 126)), (2, .ref (b + 122)), (1, .ref b), (0, .ref bs)]) C dL_law_1012 (by decide) rfl ?_
  refine k_aload_n C dL_law_1014 3 rfl ?_
  refine k_aload_n C dL_law_1015 5 rfl ?_
  refine k_iload C dL_law_1016 1 rfl ?_
  refine k_iconst (v := 1) C dL_law_1018 (by decide) ?_
  refine k_iadd C dL_law_1019 ?_
  refine l_sld C hScr hbl hbA q1 dL_law_1020 ?_
  refine k_aload_n C dL_law_1021 5 rfl ?_
  refine k_iload C dL_law_1022 1 rfl ?_
  refine k_iconst (v := 2) C dL_law_1024 (by decide) ?_
  refine k_iadd C dL_law_1025 ?_
  refine l_sld C hScr hbl hbA q2 dL_law_1026 ?_
  refine k_callVi (st := []) C hE (c_X5_knownLength l (P := (fun nw hi sv th cd ha => XF (LX E b nw hi sv th cd ha ov_4) cur sav cnt ST now rnd jm rp sc dc cn sUp sLen sWrk sReg sFst sLst dPol dPtr dCnt dIdl dKnw jCnt jFin jBeg jWs jMis jSrv jLft jSub jWai jNxt cnd)) (focL_m E b) (fun q hq => hA q (Nat.le_trans (Nat.le_add_right _ _) hq.1)) nw hi sv th cd ha (xs (i + 1).toNatClampNeg) (xs (i + 2).toNatClampNeg) _ h) (cwV 2 C.2.2.2.2 gL_law_X5_knownLength rfl rfl rfl (by decide +kernel) ⟨Nat.le_of_ble_eq_true rfl, Nat.le_of_ble_eq_true rfl⟩) (fun H hP => va_recv hE.1 (k_one (mst_Mo hP.2.1)) rfl (q0 := 0) rfl) rfl rfl (Nat.le_of_ble_eq_true rfl) dL_law_1027 ⟨by omega, by omega⟩ (fun r5 => ?_)
  refine k_ex (fun th_6 => k_and (fun h => ?_))
  refine k_pre (P2 := XF (LX E b nw hi sv th_6 cd ha ov_4) cur sav cnt ST now rnd jm rp sc dc cn sUp sLen sWrk sReg sFst sLst dPol dPtr dCnt dIdl dKnw jCnt jFin jBeg jWs jMis jSrv jLft jSub jWai jNxt cnd) (fun H hP => hP) ?_
  refine k_istore (lv' := [(6, .int r5), (5, .int r3), (4, .int i), (3, .ref (b + 126)), (2, .ref (b + 122)), (1, .ref b), (0, .ref bs)]) C dL_law_1030 (by decide) rfl ?_
  refine k_aload_n C dL_law_1032 4 rfl ?_
  refine k_callVi (st := []) C hE (c_X5_thrown l (P := (fun nw hi sv th cd ha => XF (LX E b nw hi sv th cd ha ov_4) cur sav cnt ST now rnd jm rp sc dc cn sUp sLen sWrk sReg sFst sLst dPol dPtr dCnt dIdl dKnw jCnt jFin jBeg jWs jMis jSrv jLft jSub jWai jNxt cnd)) (focL_m E b) (fun q hq => hA q (Nat.le_trans (Nat.le_add_right _ _) hq.1)) nw hi sv th_6 cd ha  _ h) (cwV 0 C.2.2.2.2 gL_law_X5_thrown rfl rfl rfl (by decide +kernel) ⟨Nat.le_of_ble_eq_true rfl, Nat.le_of_ble_eq_true rfl⟩) (fun H hP => va_recv hE.1 (k_one (mst_Mo hP.2.1)) rfl (q0 := 0) rfl) rfl rfl (Nat.le_of_ble_eq_true rfl) dL_law_1033 ⟨by omega, by omega⟩ (fun r7 => ?_)
  refine k_and (fun h => ?_)
  refine k_pre (P2 := XF (LX E b nw hi sv th_6 cd ha ov_4) cur sav cnt ST now rnd jm rp sc dc cn sUp sLen sWrk sReg sFst sLst dPol dPtr dCnt dIdl dKnw jCnt jFin jBeg jWs jMis jSrv jLft jSub jWai jNxt cnd) (fun H hP => hP) ?_
  refine k_iload C dL_law_1036 1 rfl ?_
  refine k_icmp_eq (tgt := 1043) C dL_law_1038 (by decide) (fun c8 => ?_) (fun c8 => ?_)
  · replace h := h.1 c8
    refine k_iload C dL_law_1043 1 rfl ?_
    refine k_if_ne (tgt := 1060) C dL_law_1045 (by decide) (fun c9 => ?_) (fun c9 => ?_)
    · replace h := h.2 c9
      refine k_goto (tgt := 1394) C dL_law_1060 (by decide) ?_
      obtain ⟨x10, ex10⟩ : ∃ z : Int32, z = i + 3 := ⟨_, rfl⟩
      replace h := h x10 ex10
      refine k_iinc (v := x10) (lv' := [(4, .int x10), (6, .int r5), (5, .int r3), (3, .ref (b + 126)), (2, .ref (b + 122)), (1, .ref b), (0, .ref bs)]) (j := 2) C dL_law_1394 rfl (by rw [ex10]; rfl) (by decide) rfl ?_
      refine k_goto (tgt := 23) C dL_law_1397 (by decide) ?_
      refine k_wide (k2 := cells + 4) (n2 := slots + 24) (by omega) (by omega) ?_
      refine k_pc (pc2 := 23) rfl ?_
      refine k_sub [0, 3, 4, 5, 6] rfl ?_
      exact ih23 _ _ _ _ _ _ _ _ _ _ _ _ _ _ _ _ _ _ _ _ _ _ _ _ _ _ _ _ _ _ _ _ _ _ _ _ _ _ _ _ _ h
    · replace h := h.1 c9
      refine k_aload_n C dL_law_1048 3 rfl ?_
      refine k_iconst (v := 0) C dL_law_1049 (by decide) ?_
      refine l_get C hE.1 dL_law_1050 ?_
      refine k_iload C dL_law_1051 0 rfl ?_
      refine k_i2l C dL_law_1053 ?_
      refine k_lcmp C dL_law_1054 ?_
      refine k_if_eq (tgt := 1060) C dL_law_1055 (by decide) (fun c11 => ?_) (fun c11 => ?_)
      · replace h := h.1 c11
        refine k_goto (tgt := 1394) C dL_law_1060 (by decide) ?_
        obtain ⟨x12, ex12⟩ : ∃ z : Int32, z = i + 3 := ⟨_, rfl⟩
        replace h := h x12 ex12
        refine k_iinc (v := x12) (lv' := [(4, .int x12), (6, .int r5), (5, .int r3), (3, .ref (b + 126)), (2, .ref (b + 122)), (1, .ref b), (0, .ref bs)]) (j := 2) C dL_law_1394 rfl (by rw [ex12]; rfl) (by decide) rfl ?_
        refine k_goto (tgt := 23) C dL_law_1397 (by decide) ?_
        refine k_wide (k2 := cells + 4) (n2 := slots + 24) (by omega) (by omega) ?_
        refine k_pc (pc2 := 23) rfl ?_
        refine k_sub [0, 3, 4, 5, 6] rfl ?_
        exact ih23 _ _ _ _ _ _ _ _ _ _ _ _ _ _ _ _ _ _ _ _ _ _ _ _ _ _ _ _ _ _ _ _ _ _ _ _ _ _ _ _ _ h
      · replace h := h.2 c11
        refine k_iconst (v := 0) C dL_law_1058 (by decide) ?_
        exact h.elim
  · replace h := h.2 c8
    refine k_iconst (v := 0) C dL_law_1041 (by decide) ?_
    exact h.elim
noncomputable def wp_L_c15 (cur : Nat) (L : Nat) (xs : Nat → Int32) (i : Int32) (sav : Nat → Nat) (cnt : Int32) (ST : Nat → TT) (now : Int32) (rnd : Int64) (jm : Int32) (rp : Int32) (sc : Int32) (dc : Int32) (cn : Int32) (sUp : Nat → Int32) (sLen : Nat → Int32) (sWrk : Nat → Int32) (sReg : Nat → Int32) (sFst : Nat → Int32) (sLst : Nat → Int32) (dPol : Nat → Int32) (dPtr : Nat → Int32) (dCnt : Nat → Int32) (dIdl : Nat → Nat → Int32) (dKnw : Nat → Nat → Int32) (jCnt : Int32) (jFin : Int32) (jBeg : Int32) (jWs : Int32) (jMis : Int32) (jSrv : Nat → Int32) (jLft : Nat → Int32) (jSub : Nat → Int32) (jWai : Nat → Int32) (jNxt : Nat → Int32) (cnd : Nat → Int32) (nw : Nat → Int32) (hi : Nat → Int32) (sv : Int32) (cd : Nat → Int32) (ha : Int64) (ov : Int64) (rec23 : Int32 → Nat → (Nat → Nat) → Int32 → (Nat → TT) → Int32 → Int64 → Int32 → Int32 → Int32 → Int32 → Int32 → (Nat → Int32) → (Nat → Int32) → (Nat → Int32) → (Nat → Int32) → (Nat → Int32) → (Nat → Int32) → (Nat → Int32) → (Nat → Int32) → (Nat → Int32) → (Nat → Nat → Int32) → (Nat → Nat → Int32) → Int32 → Int32 → Int32 → Int32 → Int32 → (Nat → Int32) → (Nat → Int32) → (Nat → Int32) → (Nat → Int32) → (Nat → Int32) → (Nat → Int32) → (Nat → Int32) → (Nat → Int32) → Int32 → Int32 → (Nat → Int32) → Int64 → Int64 → Prop) : Prop := cur < 4 ∧ ((vp_in (i + 1) L) ∧ ((vp_in (i + 2) L) ∧ (wp_L_expectedLength dc cn sLen dPol dPtr dCnt dIdl dKnw cnd ov (xs (i + 1).toNatClampNeg) (xs (i + 2).toNatClampNeg) (fun r3 ov_4 => wp_X5_expectedLength nw cd (xs (i + 1).toNatClampNeg) (xs (i + 2).toNatClampNeg) (fun r5 th_6 cd_7 => wp_X5_thrown th_6 (fun r8 => (r8 = r3 → ((r3 = 0 → (((lg_cmp ov_4 (r5.toInt64)) = 0 → (∀ x13 : Int32, x13 = i + 3 → (rec23 x13 cur sav cnt ST now rnd jm rp sc dc cn sUp sLen sWrk sReg sFst sLst dPol dPtr dCnt dIdl dKnw jCnt jFin jBeg jWs jMis jSrv jLft jSub jWai jNxt cnd nw hi sv th_6 cd_7 ha ov_4))) ∧ (¬ ((lg_cmp ov_4 (r5.toInt64)) = 0) → (False)))) ∧ (¬ r3 = 0 → (∀ x11 : Int32, x11 = i + 3 → (rec23 x11 cur sav cnt ST now rnd jm rp sc dc cn sUp sLen sWrk sReg sFst sLst dPol dPtr dCnt dIdl dKnw jCnt jFin jBeg jWs jMis jSrv jLft jSub jWai jNxt cnd nw hi sv th_6 cd_7 ha ov_4))))) ∧ (¬ (r8 = r3) → (False))))))))
set_option maxRecDepth 100000 in
set_option maxHeartbeats 4000000 in
theorem kc_15 {p : Program} {l : Launch} {e : Env} {s : State} {m : MethodId} {args : Array Value} {below : List Frame} {meth : Method} {c : Code} {Q : State → Prop} {A : Nat → Prop} {E : EV} {b bs L : Nat} {xs : Nat → Int32} {cells slots : Nat} (C : CallFix p m c cL_law 9 s args wsL_law RL) (hlt : l.stackTraces = false) (hA : ∀ q, b ≤ q → A q) (hX : XL E A s) (hScr : va_X bs L xs s s.heap) (hbl : bs < s.heap.size) (hbA : ¬ A bs) (hcl : cells + 4 ≤ room_1.cells) (hsl : slots + 24 ≤ room_1.slots) (rec23 : Int32 → Nat → (Nat → Nat) → Int32 → (Nat → TT) → Int32 → Int64 → Int32 → Int32 → Int32 → Int32 → Int32 → (Nat → Int32) → (Nat → Int32) → (Nat → Int32) → (Nat → Int32) → (Nat → Int32) → (Nat → Int32) → (Nat → Int32) → (Nat → Int32) → (Nat → Int32) → (Nat → Nat → Int32) → (Nat → Nat → Int32) → Int32 → Int32 → Int32 → Int32 → Int32 → (Nat → Int32) → (Nat → Int32) → (Nat → Int32) → (Nat → Int32) → (Nat → Int32) → (Nat → Int32) → (Nat → Int32) → (Nat → Int32) → Int32 → Int32 → (Nat → Int32) → Int64 → Int64 → Prop) (ih23 : ∀ (i : Int32) (cur : Nat) (sav : Nat → Nat) (cnt : Int32) (ST : Nat → TT) (now : Int32) (rnd : Int64) (jm : Int32) (rp : Int32) (sc : Int32) (dc : Int32) (cn : Int32) (sUp : Nat → Int32) (sLen : Nat → Int32) (sWrk : Nat → Int32) (sReg : Nat → Int32) (sFst : Nat → Int32) (sLst : Nat → Int32) (dPol : Nat → Int32) (dPtr : Nat → Int32) (dCnt : Nat → Int32) (dIdl : Nat → Nat → Int32) (dKnw : Nat → Nat → Int32) (jCnt : Int32) (jFin : Int32) (jBeg : Int32) (jWs : Int32) (jMis : Int32) (jSrv : Nat → Int32) (jLft : Nat → Int32) (jSub : Nat → Int32) (jWai : Nat → Int32) (jNxt : Nat → Int32) (cnd : Nat → Int32) (nw : Nat → Int32) (hi : Nat → Int32) (sv : Int32) (th : Int32) (cd : Nat → Int32) (ha : Int64) (ov : Int64), rec23 i cur sav cnt ST now rnd jm rp sc dc cn sUp sLen sWrk sReg sFst sLst dPol dPtr dCnt dIdl dKnw jCnt jFin jBeg jWs jMis jSrv jLft jSub jWai jNxt cnd nw hi sv th cd ha ov → KJ p l e room_1 s m args below meth c 9 A (cells + 4) (slots + 24) Q (XF (LX E b nw hi sv th cd ha ov) cur sav cnt ST now rnd jm rp sc dc cn sUp sLen sWrk sReg sFst sLst dPol dPtr dCnt dIdl dKnw jCnt jFin jBeg jWs jMis jSrv jLft jSub jWai jNxt cnd) 23 [(4, .int i), (3, .ref (b + 126)), (2, .ref (b + 122)), (1, .ref b), (0, .ref bs)] []) (i : Int32) (cur : Nat) (sav : Nat → Nat) (cnt : Int32) (ST : Nat → TT) (now : Int32) (rnd : Int64) (jm : Int32) (rp : Int32) (sc : Int32) (dc : Int32) (cn : Int32) (sUp : Nat → Int32) (sLen : Nat → Int32) (sWrk : Nat → Int32) (sReg : Nat → Int32) (sFst : Nat → Int32) (sLst : Nat → Int32) (dPol : Nat → Int32) (dPtr : Nat → Int32) (dCnt : Nat → Int32) (dIdl : Nat → Nat → Int32) (dKnw : Nat → Nat → Int32) (jCnt : Int32) (jFin : Int32) (jBeg : Int32) (jWs : Int32) (jMis : Int32) (jSrv : Nat → Int32) (jLft : Nat → Int32) (jSub : Nat → Int32) (jWai : Nat → Int32) (jNxt : Nat → Int32) (cnd : Nat → Int32) (nw : Nat → Int32) (hi : Nat → Int32) (sv : Int32) (th : Int32) (cd : Nat → Int32) (ha : Int64) (ov : Int64) (h : wp_L_c15 cur L xs i sav cnt ST now rnd jm rp sc dc cn sUp sLen sWrk sReg sFst sLst dPol dPtr dCnt dIdl dKnw jCnt jFin jBeg jWs jMis jSrv jLft jSub jWai jNxt cnd nw hi sv cd ha ov rec23) : KJ p l e room_1 s m args below meth c 9 A cells slots Q (XF (LX E b nw hi sv th cd ha ov) cur sav cnt ST now rnd jm rp sc dc cn sUp sLen sWrk sReg sFst sLst dPol dPtr dCnt dIdl dKnw jCnt jFin jBeg jWs jMis jSrv jLft jSub jWai jNxt cnd) 1063 [(4, .int i), (3, .ref (b + 126)), (2, .ref (b + 122)), (1, .ref b), (0, .ref bs)] [] := by
  have hE := hX.1.1
  obtain ⟨hcur, h⟩ := h
  refine k_aload_n C dL_law_1063 3 rfl ?_
  refine k_aload_n C dL_law_1064 4 rfl ?_
  refine k_iload C dL_law_1065 0 rfl ?_
  refine k_iconst (v := 1) C dL_law_1067 (by decide) ?_
  refine k_iadd C dL_law_1068 ?_
  obtain ⟨q1, h⟩ := h
  refine l_sld C hScr hbl hbA q1 dL_law_1069 ?_
  refine k_aload_n C dL_law_1070 4 rfl ?_
  refine k_iload C dL_law_1071 0 rfl ?_
  refine k_iconst (v := 2) C dL_law_1073 (by decide) ?_
  refine k_iadd C dL_law_1074 ?_
  obtain ⟨q2, h⟩ := h
  refine l_sld C hScr hbl hbA q2 dL_law_1075 ?_
  refine k_aload_n C dL_law_1076 1 rfl ?_
  refine k_callWi (st := []) C hX (c_L_expectedLength l hlt hA cur sav cnt ST now rnd jm rp sc dc cn sUp sLen sWrk sReg sFst sLst dPol dPtr dCnt dIdl dKnw jCnt jFin jBeg jWs jMis jSrv jLft jSub jWai jNxt cnd nw hi sv th cd ha ov hcur (xs (i + 1).toNatClampNeg) (xs (i + 2).toNatClampNeg) _ h) (vx_cwSW (hh := [(0, 10, 13, 19), (0, 10, 17, 13)]) 4 C.2.2.2.2 gL_law_L_expectedLength rfl rfl rfl (by decide +kernel) ⟨Nat.le_of_ble_eq_true rfl, Nat.le_of_ble_eq_true rfl⟩) rfl rfl (Nat.le_of_ble_eq_true rfl) dL_law_1077 ⟨by omega, by omega⟩ (fun r3 => ?_)
  refine k_ex (fun ov_4 => k_and (fun h => ?_))
  refine k_istore (lv' := [(5, .int r3), (4, .int i), (3, .ref (b + 126)), (2, .ref (b + 122)), (1, .ref b), (0, .ref bs)]) C dL_law_1080 (by decide) rfl ?_
  refine k_aload_n C dL_law_1082 3 rfl ?_
  refine k_aload_n C dL_law_1083 5 rfl ?_
  refine k_iload C dL_law_1084 1 rfl ?_
  refine k_iconst (v := 1) C dL_law_1086 (by decide) ?_
  refine k_iadd C dL_law_1087 ?_
  refine l_sld C hScr hbl hbA q1 dL_law_1088 ?_
  refine k_aload_n C dL_law_1089 5 rfl ?_
  refine k_iload C dL_law_1090 1 rfl ?_
  refine k_iconst (v := 2) C dL_law_1092 (by decide) ?_
  refine k_iadd C dL_law_1093 ?_
  refine l_sld C hScr hbl hbA q2 dL_law_1094 ?_
  refine k_callVi (st := []) C hE (c_X5_expectedLength l (P := (fun nw hi sv th cd ha => XF (LX E b nw hi sv th cd ha ov_4) cur sav cnt ST now rnd jm rp sc dc cn sUp sLen sWrk sReg sFst sLst dPol dPtr dCnt dIdl dKnw jCnt jFin jBeg jWs jMis jSrv jLft jSub jWai jNxt cnd)) (focL_m E b) (fun q hq => hA q (Nat.le_trans (Nat.le_add_right _ _) hq.1)) nw hi sv th cd ha (xs (i + 1).toNatClampNeg) (xs (i + 2).toNatClampNeg) _ h) (cwV 2 C.2.2.2.2 gL_law_X5_expectedLength rfl rfl rfl (by decide +kernel) ⟨Nat.le_of_ble_eq_true rfl, Nat.le_of_ble_eq_true rfl⟩) (fun H hP => va_recv hE.1 (k_one (mst_Mo hP.2.1)) rfl (q0 := 0) rfl) rfl rfl (Nat.le_of_ble_eq_true rfl) dL_law_1095 ⟨by omega, by omega⟩ (fun r5 => ?_)
  refine k_ex (fun th_6 => k_ex (fun cd_7 => k_and (fun h => ?_)))
  refine k_pre (P2 := XF (LX E b nw hi sv th_6 cd_7 ha ov_4) cur sav cnt ST now rnd jm rp sc dc cn sUp sLen sWrk sReg sFst sLst dPol dPtr dCnt dIdl dKnw jCnt jFin jBeg jWs jMis jSrv jLft jSub jWai jNxt cnd) (fun H hP => hP) ?_
  refine k_istore (lv' := [(6, .int r5), (5, .int r3), (4, .int i), (3, .ref (b + 126)), (2, .ref (b + 122)), (1, .ref b), (0, .ref bs)]) C dL_law_1098 (by decide) rfl ?_
  refine k_aload_n C dL_law_1100 4 rfl ?_
  refine k_callVi (st := []) C hE (c_X5_thrown l (P := (fun nw hi sv th cd ha => XF (LX E b nw hi sv th cd ha ov_4) cur sav cnt ST now rnd jm rp sc dc cn sUp sLen sWrk sReg sFst sLst dPol dPtr dCnt dIdl dKnw jCnt jFin jBeg jWs jMis jSrv jLft jSub jWai jNxt cnd)) (focL_m E b) (fun q hq => hA q (Nat.le_trans (Nat.le_add_right _ _) hq.1)) nw hi sv th_6 cd_7 ha  _ h) (cwV 0 C.2.2.2.2 gL_law_X5_thrown rfl rfl rfl (by decide +kernel) ⟨Nat.le_of_ble_eq_true rfl, Nat.le_of_ble_eq_true rfl⟩) (fun H hP => va_recv hE.1 (k_one (mst_Mo hP.2.1)) rfl (q0 := 0) rfl) rfl rfl (Nat.le_of_ble_eq_true rfl) dL_law_1101 ⟨by omega, by omega⟩ (fun r8 => ?_)
  refine k_and (fun h => ?_)
  refine k_pre (P2 := XF (LX E b nw hi sv th_6 cd_7 ha ov_4) cur sav cnt ST now rnd jm rp sc dc cn sUp sLen sWrk sReg sFst sLst dPol dPtr dCnt dIdl dKnw jCnt jFin jBeg jWs jMis jSrv jLft jSub jWai jNxt cnd) (fun H hP => hP) ?_
  refine k_iload C dL_law_1104 1 rfl ?_
  refine k_icmp_eq (tgt := 1111) C dL_law_1106 (by decide) (fun c9 => ?_) (fun c9 => ?_)
  · replace h := h.1 c9
    refine k_iload C dL_law_1111 1 rfl ?_
    refine k_if_ne (tgt := 1128) C dL_law_1113 (by decide) (fun c10 => ?_) (fun c10 => ?_)
    · replace h := h.2 c10
      refine k_goto (tgt := 1394) C dL_law_1128 (by decide) ?_
      obtain ⟨x11, ex11⟩ : ∃ z : Int32, z = i + 3 := ⟨_, rfl⟩
      replace h := h x11 ex11
      refine k_iinc (v := x11) (lv' := [(4, .int x11), (6, .int r5), (5, .int r3), (3, .ref (b + 126)), (2, .ref (b + 122)), (1, .ref b), (0, .ref bs)]) (j := 2) C dL_law_1394 rfl (by rw [ex11]; rfl) (by decide) rfl ?_
      refine k_goto (tgt := 23) C dL_law_1397 (by decide) ?_
      refine k_wide (k2 := cells + 4) (n2 := slots + 24) (by omega) (by omega) ?_
      refine k_pc (pc2 := 23) rfl ?_
      refine k_sub [0, 3, 4, 5, 6] rfl ?_
      exact ih23 _ _ _ _ _ _ _ _ _ _ _ _ _ _ _ _ _ _ _ _ _ _ _ _ _ _ _ _ _ _ _ _ _ _ _ _ _ _ _ _ _ h
    · replace h := h.1 c10
      refine k_aload_n C dL_law_1116 3 rfl ?_
      refine k_iconst (v := 0) C dL_law_1117 (by decide) ?_
      refine l_get C hE.1 dL_law_1118 ?_
      refine k_iload C dL_law_1119 0 rfl ?_
      refine k_i2l C dL_law_1121 ?_
      refine k_lcmp C dL_law_1122 ?_
      refine k_if_eq (tgt := 1128) C dL_law_1123 (by decide) (fun c12 => ?_) (fun c12 => ?_)
      · replace h := h.1 c12
        refine k_goto (tgt := 1394) C dL_law_1128 (by decide) ?_
        obtain ⟨x13, ex13⟩ : ∃ z : Int32, z = i + 3 := ⟨_, rfl⟩
        replace h := h x13 ex13
        refine k_iinc (v := x13) (lv' := [(4, .int x13), (6, .int r5), (5, .int r3), (3, .ref (b + 126)), (2, .ref (b + 122)), (1, .ref b), (0, .ref bs)]) (j := 2) C dL_law_1394 rfl (by rw [ex13]; rfl) (by decide) rfl ?_
        refine k_goto (tgt := 23) C dL_law_1397 (by decide) ?_
        refine k_wide (k2 := cells + 4) (n2 := slots + 24) (by omega) (by omega) ?_
        refine k_pc (pc2 := 23) rfl ?_
        refine k_sub [0, 3, 4, 5, 6] rfl ?_
        exact ih23 _ _ _ _ _ _ _ _ _ _ _ _ _ _ _ _ _ _ _ _ _ _ _ _ _ _ _ _ _ _ _ _ _ _ _ _ _ _ _ _ _ h
      · replace h := h.2 c12
        refine k_iconst (v := 0) C dL_law_1126 (by decide) ?_
        exact h.elim
  · replace h := h.2 c9
    refine k_iconst (v := 0) C dL_law_1109 (by decide) ?_
    exact h.elim
noncomputable def wp_L_c16 (cur : Nat) (i : Int32) (sav : Nat → Nat) (cnt : Int32) (ST : Nat → TT) (now : Int32) (rnd : Int64) (jm : Int32) (rp : Int32) (sc : Int32) (dc : Int32) (cn : Int32) (sUp : Nat → Int32) (sLen : Nat → Int32) (sWrk : Nat → Int32) (sReg : Nat → Int32) (sFst : Nat → Int32) (sLst : Nat → Int32) (dPol : Nat → Int32) (dPtr : Nat → Int32) (dCnt : Nat → Int32) (dIdl : Nat → Nat → Int32) (dKnw : Nat → Nat → Int32) (jCnt : Int32) (jFin : Int32) (jBeg : Int32) (jWs : Int32) (jMis : Int32) (jSrv : Nat → Int32) (jLft : Nat → Int32) (jSub : Nat → Int32) (jWai : Nat → Int32) (jNxt : Nat → Int32) (cnd : Nat → Int32) (nw : Nat → Int32) (hi : Nat → Int32) (sv : Int32) (cd : Nat → Int32) (ha : Int64) (ov : Int64) (rec23 : Int32 → Nat → (Nat → Nat) → Int32 → (Nat → TT) → Int32 → Int64 → Int32 → Int32 → Int32 → Int32 → Int32 → (Nat → Int32) → (Nat → Int32) → (Nat → Int32) → (Nat → Int32) → (Nat → Int32) → (Nat → Int32) → (Nat → Int32) → (Nat → Int32) → (Nat → Int32) → (Nat → Nat → Int32) → (Nat → Nat → Int32) → Int32 → Int32 → Int32 → Int32 → Int32 → (Nat → Int32) → (Nat → Int32) → (Nat → Int32) → (Nat → Int32) → (Nat → Int32) → (Nat → Int32) → (Nat → Int32) → (Nat → Int32) → Int32 → Int32 → (Nat → Int32) → Int64 → Int64 → Prop) : Prop := cur < 4 ∧ (wp_X4_submitted jCnt (fun r1 => wp_X5_submitted nw (fun r2 th_3 => (r1 = r2 → (∀ x5 : Int32, x5 = i + 3 → (rec23 x5 cur sav cnt ST now rnd jm rp sc dc cn sUp sLen sWrk sReg sFst sLst dPol dPtr dCnt dIdl dKnw jCnt jFin jBeg jWs jMis jSrv jLft jSub jWai jNxt cnd nw hi sv th_3 cd ha ov))) ∧ (¬ (r1 = r2) → (False)))))
set_option maxRecDepth 100000 in
set_option maxHeartbeats 4000000 in
theorem kc_16 {p : Program} {l : Launch} {e : Env} {s : State} {m : MethodId} {args : Array Value} {below : List Frame} {meth : Method} {c : Code} {Q : State → Prop} {A : Nat → Prop} {E : EV} {b bs L : Nat} {xs : Nat → Int32} {cells slots : Nat} (C : CallFix p m c cL_law 9 s args wsL_law RL) (hlt : l.stackTraces = false) (hA : ∀ q, b ≤ q → A q) (hX : XL E A s) (hScr : va_X bs L xs s s.heap) (hbl : bs < s.heap.size) (hbA : ¬ A bs) (hcl : cells + 4 ≤ room_1.cells) (hsl : slots + 24 ≤ room_1.slots) (rec23 : Int32 → Nat → (Nat → Nat) → Int32 → (Nat → TT) → Int32 → Int64 → Int32 → Int32 → Int32 → Int32 → Int32 → (Nat → Int32) → (Nat → Int32) → (Nat → Int32) → (Nat → Int32) → (Nat → Int32) → (Nat → Int32) → (Nat → Int32) → (Nat → Int32) → (Nat → Int32) → (Nat → Nat → Int32) → (Nat → Nat → Int32) → Int32 → Int32 → Int32 → Int32 → Int32 → (Nat → Int32) → (Nat → Int32) → (Nat → Int32) → (Nat → Int32) → (Nat → Int32) → (Nat → Int32) → (Nat → Int32) → (Nat → Int32) → Int32 → Int32 → (Nat → Int32) → Int64 → Int64 → Prop) (ih23 : ∀ (i : Int32) (cur : Nat) (sav : Nat → Nat) (cnt : Int32) (ST : Nat → TT) (now : Int32) (rnd : Int64) (jm : Int32) (rp : Int32) (sc : Int32) (dc : Int32) (cn : Int32) (sUp : Nat → Int32) (sLen : Nat → Int32) (sWrk : Nat → Int32) (sReg : Nat → Int32) (sFst : Nat → Int32) (sLst : Nat → Int32) (dPol : Nat → Int32) (dPtr : Nat → Int32) (dCnt : Nat → Int32) (dIdl : Nat → Nat → Int32) (dKnw : Nat → Nat → Int32) (jCnt : Int32) (jFin : Int32) (jBeg : Int32) (jWs : Int32) (jMis : Int32) (jSrv : Nat → Int32) (jLft : Nat → Int32) (jSub : Nat → Int32) (jWai : Nat → Int32) (jNxt : Nat → Int32) (cnd : Nat → Int32) (nw : Nat → Int32) (hi : Nat → Int32) (sv : Int32) (th : Int32) (cd : Nat → Int32) (ha : Int64) (ov : Int64), rec23 i cur sav cnt ST now rnd jm rp sc dc cn sUp sLen sWrk sReg sFst sLst dPol dPtr dCnt dIdl dKnw jCnt jFin jBeg jWs jMis jSrv jLft jSub jWai jNxt cnd nw hi sv th cd ha ov → KJ p l e room_1 s m args below meth c 9 A (cells + 4) (slots + 24) Q (XF (LX E b nw hi sv th cd ha ov) cur sav cnt ST now rnd jm rp sc dc cn sUp sLen sWrk sReg sFst sLst dPol dPtr dCnt dIdl dKnw jCnt jFin jBeg jWs jMis jSrv jLft jSub jWai jNxt cnd) 23 [(4, .int i), (3, .ref (b + 126)), (2, .ref (b + 122)), (1, .ref b), (0, .ref bs)] []) (i : Int32) (cur : Nat) (sav : Nat → Nat) (cnt : Int32) (ST : Nat → TT) (now : Int32) (rnd : Int64) (jm : Int32) (rp : Int32) (sc : Int32) (dc : Int32) (cn : Int32) (sUp : Nat → Int32) (sLen : Nat → Int32) (sWrk : Nat → Int32) (sReg : Nat → Int32) (sFst : Nat → Int32) (sLst : Nat → Int32) (dPol : Nat → Int32) (dPtr : Nat → Int32) (dCnt : Nat → Int32) (dIdl : Nat → Nat → Int32) (dKnw : Nat → Nat → Int32) (jCnt : Int32) (jFin : Int32) (jBeg : Int32) (jWs : Int32) (jMis : Int32) (jSrv : Nat → Int32) (jLft : Nat → Int32) (jSub : Nat → Int32) (jWai : Nat → Int32) (jNxt : Nat → Int32) (cnd : Nat → Int32) (nw : Nat → Int32) (hi : Nat → Int32) (sv : Int32) (th : Int32) (cd : Nat → Int32) (ha : Int64) (ov : Int64) (h : wp_L_c16 cur i sav cnt ST now rnd jm rp sc dc cn sUp sLen sWrk sReg sFst sLst dPol dPtr dCnt dIdl dKnw jCnt jFin jBeg jWs jMis jSrv jLft jSub jWai jNxt cnd nw hi sv cd ha ov rec23) : KJ p l e room_1 s m args below meth c 9 A cells slots Q (XF (LX E b nw hi sv th cd ha ov) cur sav cnt ST now rnd jm rp sc dc cn sUp sLen sWrk sReg sFst sLst dPol dPtr dCnt dIdl dKnw jCnt jFin jBeg jWs jMis jSrv jLft jSub jWai jNxt cnd) 1131 [(4, .int i), (3, .ref (b + 126)), (2, .ref (b + 122)), (1, .ref b), (0, .ref bs)] [] := by
  have hE := hX.1.1
  obtain ⟨hcur, h⟩ := h
  refine k_aload_n C dL_law_1131 3 rfl ?_
  refine k_callVi (st := []) C hE (c_X4_submitted l (focL_x E b) (fun q hq => hA q hq.1) cur sav cnt ST now rnd jm rp sc dc cn sUp sLen sWrk sReg sFst sLst dPol dPtr dCnt dIdl dKnw jCnt jFin jBeg jWs jMis jSrv jLft jSub jWai jNxt cnd hcur  _ h) (cwV 0 C.2.2.2.2 gL_law_X4_submitted rfl rfl rfl (by decide +kernel) ⟨Nat.le_of_ble_eq_true rfl, Nat.le_of_ble_eq_true rfl⟩) (fun H hP => va_recv hE.1 (k_one hP.1.1) rfl (q0 := 0) rfl) rfl rfl (Nat.le_of_ble_eq_true rfl) dL_law_1132 ⟨by omega, by omega⟩ (fun r1 => ?_)
  refine k_and (fun h => ?_)
  refine k_aload_n C dL_law_1135 2 rfl ?_
  refine k_callVi (st := [.int r1]) C hE (c_X5_submitted l (P := (fun nw hi sv th cd ha => XF (LX E b nw hi sv th cd ha ov) cur sav cnt ST now rnd jm rp sc dc cn sUp sLen sWrk sReg sFst sLst dPol dPtr dCnt dIdl dKnw jCnt jFin jBeg jWs jMis jSrv jLft jSub jWai jNxt cnd)) (focL_m E b) (fun q hq => hA q (Nat.le_trans (Nat.le_add_right _ _) hq.1)) nw hi sv th cd ha  _ h) (cwV 0 C.2.2.2.2 gL_law_X5_submitted rfl rfl rfl (by decide +kernel) ⟨Nat.le_of_ble_eq_true rfl, Nat.le_of_ble_eq_true rfl⟩) (fun H hP => va_recv hE.1 (k_one (mst_Mo hP.2.1)) rfl (q0 := 0) rfl) rfl rfl (Nat.le_of_ble_eq_true rfl) dL_law_1136 ⟨by omega, by omega⟩ (fun r2 => ?_)
  refine k_ex (fun th_3 => k_and (fun h => ?_))
  refine k_pre (P2 := XF (LX E b nw hi sv th_3 cd ha ov) cur sav cnt ST now rnd jm rp sc dc cn sUp sLen sWrk sReg sFst sLst dPol dPtr dCnt dIdl dKnw jCnt jFin jBeg jWs jMis jSrv jLft jSub jWai jNxt cnd) (fun H hP => hP) ?_
  refine k_icmp_eq (tgt := 1394) C dL_law_1139 (by decide) (fun c4 => ?_) (fun c4 => ?_)
  · replace h := h.1 c4
    obtain ⟨x5, ex5⟩ : ∃ z : Int32, z = i + 3 := ⟨_, rfl⟩
    replace h := h x5 ex5
    refine k_iinc (v := x5) (lv' := [(4, .int x5), (3, .ref (b + 126)), (2, .ref (b + 122)), (1, .ref b), (0, .ref bs)]) (j := 0) C dL_law_1394 rfl (by rw [ex5]; rfl) (by decide) rfl ?_
    refine k_goto (tgt := 23) C dL_law_1397 (by decide) ?_
    refine k_wide (k2 := cells + 4) (n2 := slots + 24) (by omega) (by omega) ?_
    refine k_pc (pc2 := 23) rfl ?_
    refine k_sub [0, 1, 2, 3, 4] rfl ?_
    exact ih23 _ _ _ _ _ _ _ _ _ _ _ _ _ _ _ _ _ _ _ _ _ _ _ _ _ _ _ _ _ _ _ _ _ _ _ _ _ _ _ _ _ h
  · replace h := h.2 c4
    refine k_iconst (v := 0) C dL_law_1142 (by decide) ?_
    exact h.elim
