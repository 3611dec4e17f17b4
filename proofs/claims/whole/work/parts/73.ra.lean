/-! The whole relation of one state of the component and one of the reference. -/
def RA (M : Nat) (nw : Nat → Int32) (now : Int32) (rnd : Int64) (jm : Int32) (rp : Int32) (sc : Int32) (dc : Int32) (cn : Int32) (sUp : Nat → Int32) (sLen : Nat → Int32) (sWrk : Nat → Int32) (sReg : Nat → Int32) (sFst : Nat → Int32) (sLst : Nat → Int32) (dPol : Nat → Int32) (dPtr : Nat → Int32) (dCnt : Nat → Int32) (dIdl : Nat → Nat → Int32) (dKnw : Nat → Nat → Int32) (jCnt : Int32) (jFin : Int32) (jBeg : Int32) (jWs : Int32) (jMis : Int32) (jSrv : Nat → Int32) (jLft : Nat → Int32) (jSub : Nat → Int32) (jWai : Nat → Int32) (jNxt : Nat → Int32) (cnd : Nat → Int32) : Prop :=
  ∃ (S D J T r md pd : Nat) (Ls : Nat → List Nat), T ≤ M ∧ RT nw sUp sLen sWrk sReg sFst sLst dCnt dIdl jFin jBeg jWs jSrv jLft jSub jWai jNxt S D J T r md Ls ∧ RK nw dPtr dKnw S ∧ (now = nI T ∧ rnd = lN r ∧ jm = nI md ∧ rp = nI pd ∧ sc = nI S ∧ dc = nI D ∧ jCnt = nI J ∧ cn = nI (ups sUp S).length ∧ ents cnd (ups sUp S)) ∧ (nw 3 = nI pd ∧ 1 ≤ pd ∧ pd ≤ 100) ∧ nw 8 = jMis ∧ (∀ d, d < 4 → ∃ p, p ≤ 4 ∧ dPol d = nI p ∧ nw (17 + d) = nI p) ∧ (∀ s, S ≤ s → s < 8 → sUp s = 1 ∧ sLen s = 0 ∧ sWrk s = 0 ∧ sReg s = -1 ∧ sFst s = -1 ∧ sLst s = -1) ∧ (∀ j, j < J → ∃ x, x < S ∧ jSrv j = nI x)
def RB (M : Nat) (t : TT) (nw : Nat → Int32) : Prop := RA M nw t.1 t.2.1 t.2.2.1 t.2.2.2.1 t.2.2.2.2.1 t.2.2.2.2.2.1 t.2.2.2.2.2.2.1 t.2.2.2.2.2.2.2.1 t.2.2.2.2.2.2.2.2.1 t.2.2.2.2.2.2.2.2.2.1 t.2.2.2.2.2.2.2.2.2.2.1 t.2.2.2.2.2.2.2.2.2.2.2.1 t.2.2.2.2.2.2.2.2.2.2.2.2.1 t.2.2.2.2.2.2.2.2.2.2.2.2.2.1 t.2.2.2.2.2.2.2.2.2.2.2.2.2.2.1 t.2.2.2.2.2.2.2.2.2.2.2.2.2.2.2.1 t.2.2.2.2.2.2.2.2.2.2.2.2.2.2.2.2.1 t.2.2.2.2.2.2.2.2.2.2.2.2.2.2.2.2.2.1 t.2.2.2.2.2.2.2.2.2.2.2.2.2.2.2.2.2.2.1 t.2.2.2.2.2.2.2.2.2.2.2.2.2.2.2.2.2.2.2.1 t.2.2.2.2.2.2.2.2.2.2.2.2.2.2.2.2.2.2.2.2.1 t.2.2.2.2.2.2.2.2.2.2.2.2.2.2.2.2.2.2.2.2.2.1 t.2.2.2.2.2.2.2.2.2.2.2.2.2.2.2.2.2.2.2.2.2.2.1 t.2.2.2.2.2.2.2.2.2.2.2.2.2.2.2.2.2.2.2.2.2.2.2.1 t.2.2.2.2.2.2.2.2.2.2.2.2.2.2.2.2.2.2.2.2.2.2.2.2.1 t.2.2.2.2.2.2.2.2.2.2.2.2.2.2.2.2.2.2.2.2.2.2.2.2.2.1 t.2.2.2.2.2.2.2.2.2.2.2.2.2.2.2.2.2.2.2.2.2.2.2.2.2.2.1 t.2.2.2.2.2.2.2.2.2.2.2.2.2.2.2.2.2.2.2.2.2.2.2.2.2.2.2.1 t.2.2.2.2.2.2.2.2.2.2.2.2.2.2.2.2.2.2.2.2.2.2.2.2.2.2.2.2
section RAC
variable {M : Nat} {nw nw1 : Nat → Int32} {now : Int32} {rnd : Int64} {jm : Int32} {rp : Int32} {sc : Int32} {dc : Int32} {cn : Int32} {sUp : Nat → Int32} {sLen : Nat → Int32} {sWrk : Nat → Int32} {sReg : Nat → Int32} {sFst : Nat → Int32} {sLst : Nat → Int32} {dPol : Nat → Int32} {dPtr : Nat → Int32} {dCnt : Nat → Int32} {dIdl : Nat → Nat → Int32} {dKnw : Nat → Nat → Int32} {jCnt : Int32} {jFin : Int32} {jBeg : Int32} {jWs : Int32} {jMis : Int32} {jSrv : Nat → Int32} {jLft : Nat → Int32} {jSub : Nat → Int32} {jWai : Nat → Int32} {jNxt : Nat → Int32} {cnd : Nat → Int32} {S D J T r md pd : Nat} {Ls : Nat → List Nat}
theorem RA.mono (h : RA M nw now rnd jm rp sc dc cn sUp sLen sWrk sReg sFst sLst dPol dPtr dCnt dIdl dKnw jCnt jFin jBeg jWs jMis jSrv jLft jSub jWai jNxt cnd) {M1 : Nat} (hM : M ≤ M1) : RA M1 nw now rnd jm rp sc dc cn sUp sLen sWrk sReg sFst sLst dPol dPtr dCnt dIdl dKnw jCnt jFin jBeg jWs jMis jSrv jLft jSub jWai jNxt cnd := by
  obtain ⟨S, D, J, T, r, md, pd, Ls, g, h⟩ := h
  exact ⟨S, D, J, T, r, md, pd, Ls, Nat.le_trans g hM, h⟩
theorem RA.nwc (h : RA M nw now rnd jm rp sc dc cn sUp sLen sWrk sReg sFst sLst dPol dPtr dCnt dIdl dKnw jCnt jFin jBeg jWs jMis jSrv jLft jSub jWai jNxt cnd) (h1 : ∀ i, i < 893 → nw1 i = nw i) : RA M nw1 now rnd jm rp sc dc cn sUp sLen sWrk sReg sFst sLst dPol dPtr dCnt dIdl dKnw jCnt jFin jBeg jWs jMis jSrv jLft jSub jWai jNxt cnd := by
  obtain ⟨S, D, J, T, r, md, pd, Ls, g, ⟨hI, hQ, hJb, hW, ⟨h0, hr⟩, h7, ⟨h6, hJ⟩, ⟨h5, hD⟩, ⟨h4, hS⟩, ⟨h2, hmd⟩, ⟨g1, hT⟩, hU⟩, hR, hE, ⟨h3, hp1, hp2⟩, h8, hP, hN⟩ := h
  refine ⟨S, D, J, T, r, md, pd, Ls, g, ⟨hI.cong hS (fun i _ _ => h1 i (by omega)), hQ.cong hJ (fun i _ _ => h1 i (by omega)), hJb.cong hJ (fun i _ _ => h1 i (by omega)), hW.cong hJ (fun i _ _ => h1 i (by omega)), ⟨(h1 _ (by omega)).trans h0, hr⟩, (h1 _ (by omega)).trans h7, ⟨(h1 _ (by omega)).trans h6, hJ⟩, ⟨(h1 _ (by omega)).trans h5, hD⟩, ⟨(h1 _ (by omega)).trans h4, hS⟩, ⟨(h1 _ (by omega)).trans h2, hmd⟩, ⟨(h1 _ (by omega)).trans g1, hT⟩, fun x hx => by rw [h1 _ (by omega)]; exact hU x hx⟩, hR.cong (fun i _ _ => h1 i (by omega)), hE, ⟨(h1 _ (by omega)).trans h3, hp1, hp2⟩, (h1 _ (by omega)).trans h8, fun d hd => ?_, hN⟩
  rw [h1 _ (by omega)]
  exact hP d hd
theorem RI.copy {sUp1 sLen1 sReg1 dCnt1 : Nat → Int32} {dIdl1 : Nat → Nat → Int32} (h : RI nw sUp sLen sReg dCnt dIdl S D Ls) (hS : S ≤ 8) (hu : ∀ s, s < 8 → sUp1 s = sUp s) (hl : ∀ s, s < 8 → sLen1 s = sLen s) (hr : ∀ s, s < 8 → sReg1 s = sReg s) (hc : ∀ d, d < 4 → dCnt1 d = dCnt d) (hi : ∀ d k, d < 4 → k < 8 → dIdl1 d k = dIdl d k) : RI nw sUp1 sLen1 sReg1 dCnt1 dIdl1 S D Ls := by
  refine ⟨fun d hd => ?_, h.2.1, h.2.2.1, fun d s hs => ?_, fun s hs => ?_⟩
  · obtain ⟨e1, e2, e3, e4⟩ := h.1 d hd
    have g8 := h.len hS d
    exact ⟨(hc d hd).trans e1, e2, ents_cong e3 (fun k hk => hi d k hd (by omega)), e4⟩
  · obtain ⟨e1, e2, e3, e4⟩ := h.2.2.2.1 d s hs
    rw [hu s (by omega), hl s (by omega), hr s (by omega)]
    exact ⟨e1, e2, e3, e4⟩
  · rw [hr s (by omega)]
    exact h.2.2.2.2 s hs
theorem RQ.copy {sLen1 sWrk1 sFst1 sLst1 jNxt1 : Nat → Int32} (h : RQ nw sLen sWrk sFst sLst jNxt S J) (hS : S ≤ 8) (h1 : ∀ s, s < 8 → sLen1 s = sLen s) (h2 : ∀ s, s < 8 → sWrk1 s = sWrk s) (h3 : ∀ s, s < 8 → sFst1 s = sFst s) (h4 : ∀ s, s < 8 → sLst1 s = sLst s) (h5 : ∀ j, j < J → jNxt1 j = jNxt j) : RQ nw sLen1 sWrk1 sFst1 sLst1 jNxt1 S J := fun s hs => by
  obtain ⟨a1, a2, a3, a4, a5, a6⟩ := h s hs
  rw [h1 s (by omega), h2 s (by omega), h3 s (by omega), h4 s (by omega)]
  exact ⟨a1, a2, a3, a4, lnk_cong (fun y hy => h5 y (que_in hy).1) a5, a6⟩
theorem ups_copy {sUp1 : Nat → Int32} (hS : S ≤ 8) (hu : ∀ s, s < 8 → sUp1 s = sUp s) : ups sUp1 S = ups sUp S := fil_cong (fun j hj => by rw [hu j (by omega)])
theorem RA.copy (h : RA M nw now rnd jm rp sc dc cn sUp sLen sWrk sReg sFst sLst dPol dPtr dCnt dIdl dKnw jCnt jFin jBeg jWs jMis jSrv jLft jSub jWai jNxt cnd) {sUp1 sLen1 sWrk1 sReg1 sFst1 sLst1 dPol1 dPtr1 dCnt1 jSrv1 jLft1 jSub1 jWai1 jNxt1 cnd1 : Nat → Int32} {dIdl1 dKnw1 : Nat → Nat → Int32} {cn1 : Int32} (h1 : ∀ s, s < 8 → sUp1 s = sUp s ∧ sLen1 s = sLen s ∧ sWrk1 s = sWrk s ∧ sReg1 s = sReg s ∧ sFst1 s = sFst s ∧ sLst1 s = sLst s) (h2 : ∀ d, d < 4 → dPol1 d = dPol d ∧ dPtr1 d = dPtr d ∧ dCnt1 d = dCnt d ∧ (∀ k, k < 8 → dIdl1 d k = dIdl d k) ∧ (∀ k, k < 8 → dKnw1 d k = dKnw d k)) (h3 : ∀ j J, jCnt = nI J → J ≤ 200 → j < J → jSrv1 j = jSrv j ∧ jLft1 j = jLft j ∧ jSub1 j = jSub j ∧ jWai1 j = jWai j ∧ jNxt1 j = jNxt j) (h4 : ∀ S, sc = nI S → S ≤ 8 → cn1 = nI (ups sUp1 S).length ∧ ents cnd1 (ups sUp1 S)) : RA M nw now rnd jm rp sc dc cn1 sUp1 sLen1 sWrk1 sReg1 sFst1 sLst1 dPol1 dPtr1 dCnt1 dIdl1 dKnw1 jCnt jFin jBeg jWs jMis jSrv1 jLft1 jSub1 jWai1 jNxt1 cnd1 := by
  obtain ⟨S, D, J, T, r, md, pd, Ls, g, ⟨hI, hQ, hJb, hW, a0, h7, ⟨h6, hJ⟩, a5, ⟨a4, hS⟩, a2, a1, hU⟩, hR, ⟨e1, e2, e3, e4, e5, e6, e7, e8, e9⟩, a3, h8, hP, hN⟩ := h
  refine ⟨S, D, J, T, r, md, pd, Ls, g, ⟨hI.copy hS (fun s hs => (h1 s hs).1) (fun s hs => (h1 s hs).2.1) (fun s hs => (h1 s hs).2.2.2.1) (fun d hd => (h2 d hd).2.2.1) (fun d k hd hk => (h2 d hd).2.2.2.1 k hk), hQ.copy hS (fun s hs => (h1 s hs).2.1) (fun s hs => (h1 s hs).2.2.1) (fun s hs => (h1 s hs).2.2.2.2.1) (fun s hs => (h1 s hs).2.2.2.2.2) (fun j hj => (h3 j J e7 hJ hj).2.2.2.2), fun j hj => ?_, hW, a0, h7, ⟨h6, hJ⟩, a5, ⟨a4, hS⟩, a2, a1, fun s hs => ?_⟩, ⟨fun d hd => ?_, fun d s hd hs => ?_⟩, ⟨e1, e2, e3, e4, e5, e6, e7, (h4 S e5 hS).1, (h4 S e5 hS).2⟩, a3, h8, fun d hd => ?_, fun s hs hs8 => ?_, fun j hj => ?_⟩
  · obtain ⟨b1, b2, b3, b4, b5⟩ := h3 j J e7 hJ hj
    rw [b1, b2, b3, b4]
    exact hJb j hj
  · rw [(h1 s (by omega)).1]
    exact hU s hs
  · rw [(h2 d hd).2.1]
    exact hR.1 d hd
  · rw [(h2 d hd).2.2.2.2 s hs]
    exact hR.2 d s hd hs
  · rw [(h2 d hd).1]
    exact hP d hd
  · obtain ⟨b1, b2, b3, b4, b5, b6⟩ := h1 s hs8
    rw [b1, b2, b3, b4, b5, b6]
    exact hN.1 s hs hs8
  · rw [(h3 j J e7 hJ hj).1]
    exact hN.2 j hj
end RAC
section CPY
variable {M : Nat} {nw : Nat → Int32} {now : Int32} {rnd : Int64} {jm : Int32} {rp : Int32} {sc : Int32} {dc : Int32} {cn : Int32} {sUp : Nat → Int32} {sLen : Nat → Int32} {sWrk : Nat → Int32} {sReg : Nat → Int32} {sFst : Nat → Int32} {sLst : Nat → Int32} {dPol : Nat → Int32} {dPtr : Nat → Int32} {dCnt : Nat → Int32} {dIdl : Nat → Nat → Int32} {dKnw : Nat → Nat → Int32} {jCnt : Int32} {jFin : Int32} {jBeg : Int32} {jWs : Int32} {jMis : Int32} {jSrv : Nat → Int32} {jLft : Nat → Int32} {jSub : Nat → Int32} {jWai : Nat → Int32} {jNxt : Nat → Int32} {cnd : Nat → Int32} {sUpD : Nat → Int32} {sLenD : Nat → Int32} {sWrkD : Nat → Int32} {sRegD : Nat → Int32} {sFstD : Nat → Int32} {sLstD : Nat → Int32} {dPolD : Nat → Int32} {dPtrD : Nat → Int32} {dCntD : Nat → Int32} {dIdlD : Nat → Nat → Int32} {dKnwD : Nat → Nat → Int32} {jSrvD : Nat → Int32} {jLftD : Nat → Int32} {jSubD : Nat → Int32} {jWaiD : Nat → Int32} {jNxtD : Nat → Int32} {cndD : Nat → Int32}
theorem b_copy (h : RA M nw now rnd jm rp sc dc cn sUp sLen sWrk sReg sFst sLst dPol dPtr dCnt dIdl dKnw jCnt jFin jBeg jWs jMis jSrv jLft jSub jWai jNxt cnd) {k : Int32 → Int64 → Int32 → Int32 → Int32 → Int32 → Int32 → (Nat → Int32) → (Nat → Int32) → (Nat → Int32) → (Nat → Int32) → (Nat → Int32) → (Nat → Int32) → (Nat → Int32) → (Nat → Int32) → (Nat → Int32) → (Nat → Nat → Int32) → (Nat → Nat → Int32) → Int32 → Int32 → Int32 → Int32 → Int32 → (Nat → Int32) → (Nat → Int32) → (Nat → Int32) → (Nat → Int32) → (Nat → Int32) → (Nat → Int32) → Prop} (hk : ∀ (cnW : Int32) (sUpW sLenW sWrkW sRegW sFstW sLstW dPolW dPtrW dCntW jSrvW jLftW jSubW jWaiW jNxtW cndW : Nat → Int32) (dIdlW dKnwW : Nat → Nat → Int32), RA M nw now rnd jm rp sc dc cnW sUpW sLenW sWrkW sRegW sFstW sLstW dPolW dPtrW dCntW dIdlW dKnwW jCnt jFin jBeg jWs jMis jSrvW jLftW jSubW jWaiW jNxtW cndW → k now rnd jm rp sc dc cnW sUpW sLenW sWrkW sRegW sFstW sLstW dPolW dPtrW dCntW dIdlW dKnwW jCnt jFin jBeg jWs jMis jSrvW jLftW jSubW jWaiW jNxtW cndW) : wp_X3_copyFrom sUpD sLenD sWrkD sRegD sFstD sLstD dPolD dPtrD dCntD dIdlD dKnwD jSrvD jLftD jSubD jWaiD jNxtD cndD now rnd jm rp sc dc sUp sLen sWrk sReg sFst sLst dPol dPtr dCnt dIdl dKnw jCnt jFin jBeg jWs jMis jSrv jLft jSub jWai jNxt k := by
  obtain ⟨S, D, J, T, r, md, pd, Ls, g, H, hR, ⟨e1, e2, e3, e4, e5, e6, e7, e8, e9⟩, a3, h8, hP, hN⟩ := id h
  have hS : S ≤ 8 := H.2.2.2.2.2.2.2.2.1.2
  have hJ : J ≤ 200 := H.2.2.2.2.2.2.1.2
  have hU := H.2.2.2.2.2.2.2.2.2.2.2
  have hb : ∀ s, s < 8 → sUp s = 0 ∨ sUp s = 1 := fun s hs => by
    by_cases q : s < S
    · exact (hU s q).2
    · exact Or.inr (hN.1 s (by omega) hs).1
  have fin : ∀ (sUp1 sLen1 sWrk1 sReg1 sFst1 sLst1 dPol1 dPtr1 dCnt1 : Nat → Int32) (dIdl1 dKnw1 : Nat → Nat → Int32), (∀ s, s < 8 → sUp1 s = sUp s ∧ sLen1 s = sLen s ∧ sWrk1 s = sWrk s ∧ sReg1 s = sReg s ∧ sFst1 s = sFst s ∧ sLst1 s = sLst s) → (∀ d, d < 4 → dPol1 d = dPol d ∧ dPtr1 d = dPtr d ∧ dCnt1 d = dCnt d ∧ (∀ k, k < 8 → dIdl1 d k = dIdl d k) ∧ (∀ k, k < 8 → dKnw1 d k = dKnw d k)) → wp_X1_copyFrom jSrvD jLftD jSubD jWaiD jNxtD jCnt jFin jBeg jWs jMis jSrv jLft jSub jWai jNxt (fun jCnt_16 jFin_17 jBeg_18 jWs_19 jMis_20 jSrv_21 jLft_22 jSub_23 jWai_24 jNxt_25 => wp_X3_collectCandidates sc sUp1 cndD (fun cn_26 cnd_27 => k now rnd jm rp sc dc cn_26 sUp1 sLen1 sWrk1 sReg1 sFst1 sLst1 dPol1 dPtr1 dCnt1 dIdl1 dKnw1 jCnt_16 jFin_17 jBeg_18 jWs_19 jMis_20 jSrv_21 jLft_22 jSub_23 jWai_24 jNxt_25 cnd_27)) := by
    intro sUp1 sLen1 sWrk1 sReg1 sFst1 sLst1 dPol1 dPtr1 dCnt1 dIdl1 dKnw1 c1 c2
    have hn : jCnt.toNatClampNeg = J := by rw [e7, nI_clamp (by omega)]
    refine ⟨⟨by rw [e7]; exact nI_pos (by omega), by rw [hn]; exact hJ⟩, fun f2 q2 f3 q3 f4 q4 f5 q5 f6 q6 => ?_⟩
    rw [e5]
    refine b_collect hS (fun f hf => ?_)
    rw [← e5]
    refine hk _ _ _ _ _ _ _ _ _ _ _ _ _ _ _ _ _ _ (h.copy c1 c2 (fun j J2 q hJ2 hj => ?_) (fun S2 q hS2 => ?_))
    · rw [e7] at q
      have q9 := (nI_eq (by omega) (by omega)).mp q
      subst q9
      rw [hn] at q2 q3 q4 q5 q6
      rw [q2, q3, q4, q5, q6, pk_cpy_in (Nat.zero_le _) (by omega), pk_cpy_in (Nat.zero_le _) (by omega), pk_cpy_in (Nat.zero_le _) (by omega), pk_cpy_in (Nat.zero_le _) (by omega), pk_cpy_in (Nat.zero_le _) (by omega), Nat.sub_zero, Nat.zero_add]
      exact ⟨rfl, rfl, rfl, rfl, rfl⟩
    · rw [e5] at q
      have q9 := (nI_eq (by omega) (by omega)).mp q
      subst q9
      exact ⟨rfl, hf⟩
  have dsp : ∀ (sUp1 sLen1 sWrk1 sReg1 sFst1 sLst1 : Nat → Int32), (∀ s, s < 8 → sUp1 s = sUp s ∧ sLen1 s = sLen s ∧ sWrk1 s = sWrk s ∧ sReg1 s = sReg s ∧ sFst1 s = sFst s ∧ sLst1 s = sLst s) → ∀ (n i : Nat) (dPol1 dPtr1 dCnt1 : Nat → Int32) (dIdl1 dKnw1 : Nat → Nat → Int32), n + i = 4 → (∀ d, d < i → dPol1 d = dPol d ∧ dPtr1 d = dPtr d ∧ dCnt1 d = dCnt d ∧ (∀ k, k < 8 → dIdl1 d k = dIdl d k) ∧ (∀ k, k < 8 → dKnw1 d k = dKnw d k)) → wp_X3_copyFrom_L79 jSrvD jLftD jSubD jWaiD jNxtD jCnt jFin jBeg jWs jMis jSrv jLft jSub jWai jNxt sc sUp1 cndD k now rnd jm rp dc sLen1 sWrk1 sReg1 sFst1 sLst1 dPol dPtr dCnt dIdl dKnw (n + 1) (nI i) dPol1 dPtr1 dCnt1 dIdl1 dKnw1 := by
    intro sUp1 sLen1 sWrk1 sReg1 sFst1 sLst1 c1 n
    induction n with
    | zero =>
      intro i dPol1 dPtr1 dCnt1 dIdl1 dKnw1 hi c2
      have e : i = 4 := by omega
      subst e
      exact ⟨fun _ => fin _ _ _ _ _ _ _ _ _ _ _ c1 c2, fun q => absurd (by decide) q⟩
    | succ n ih =>
      intro i dPol1 dPtr1 dCnt1 dIdl1 dKnw1 hi c2
      refine ⟨fun q => absurd q (nI_ge (b := 4) (by omega) (by decide)), fun _ => ⟨vp_in_nI (by omega) (by decide), fun x1 q1 f2 q2 x3 q3 f4 q4 x5 q5 f6 q6 f7 q7 f8 q8 x34 q34 => ?_⟩⟩
      rw [nI_clamp (by omega)] at q1 q2 q3 q4 q5 q6 q7 q8
      rw [nI_1] at q34
      rw [q34]
      refine ih (i + 1) _ _ _ _ _ (by omega) (fun d hd => ?_)
      rw [q2, q4, q6, q7, q8]
      by_cases e : d = i
      · subst e
        rw [us, us, us, vs, vs]
        exact ⟨q1, q3, q5, fun k hk => by rw [pk_cpy_in (Nat.zero_le _) (by omega), Nat.sub_zero, Nat.zero_add], fun k hk => by rw [pk_cpy_in (Nat.zero_le _) (by omega), Nat.sub_zero, Nat.zero_add]⟩
      · rw [un e, un e, un e, vn e, vn e]
        exact c2 d (by omega)
  have srv : ∀ (n i : Nat) (sUp1 sLen1 sWrk1 sReg1 sFst1 sLst1 : Nat → Int32), n + i = 8 → (∀ s, s < i → sUp1 s = sUp s ∧ sLen1 s = sLen s ∧ sWrk1 s = sWrk s ∧ sReg1 s = sReg s ∧ sFst1 s = sFst s ∧ sLst1 s = sLst s) → wp_X3_copyFrom_L50 jSrvD jLftD jSubD jWaiD jNxtD jCnt jFin jBeg jWs jMis jSrv jLft jSub jWai jNxt sc cndD k now rnd jm rp dc dPol dPtr dCnt dIdl dKnw dPolD dPtrD dCntD dIdlD dKnwD sUp sLen sWrk sReg sFst sLst (n + 1) (nI i) sUp1 sLen1 sWrk1 sReg1 sFst1 sLst1 := by
    intro n
    induction n with
    | zero =>
      intro i sUp1 sLen1 sWrk1 sReg1 sFst1 sLst1 hi c1
      have e : i = 8 := by omega
      subst e
      exact ⟨fun _ => ⟨4 + 1, dsp _ _ _ _ _ _ c1 4 0 _ _ _ _ _ (by omega) (fun d hd => absurd hd (by omega))⟩, fun q => absurd (by decide) q⟩
    | succ n ih =>
      intro i sUp1 sLen1 sWrk1 sReg1 sFst1 sLst1 hi c1
      refine ⟨fun q => absurd q (nI_ge (b := 8) (by omega) (by decide)), fun _ => ⟨vp_in_nI (by omega) (by decide), fun x1 q1 => ⟨?_, fun f3 q3 x4 q4 f5 q5 x6 q6 f7 q7 x8 q8 f9 q9 x10 q10 f11 q11 x12 q12 f13 q13 x42 q42 => ?_⟩⟩⟩
      · rw [nI_clamp (by omega)] at q1
        rw [q1]
        exact bool01 (hb i (by omega))
      · rw [nI_clamp (by omega)] at q1 q3 q4 q5 q6 q7 q8 q9 q10 q11 q12 q13
        rw [nI_1] at q42
        rw [q42]
        refine ih (i + 1) _ _ _ _ _ _ (by omega) (fun s hs => ?_)
        rw [q3, q5, q7, q9, q11, q13]
        by_cases e : s = i
        · subst e
          rw [us, us, us, us, us, us]
          exact ⟨q1, q4, q6, q8, q10, q12⟩
        · rw [un e, un e, un e, un e, un e, un e]
          exact c1 s (by omega)
  exact ⟨8 + 1, srv 8 0 _ _ _ _ _ _ (by omega) (fun s hs => absurd hs (by omega))⟩
end CPY
