/-! The cases of the law that only read. -/
section RDC
variable {M L i : Nat} {xs : Nat → Int32} {cur : Nat} {sav : Nat → Nat} {cnt : Int32} {ST : Nat → TT} {now : Int32} {rnd : Int64} {jm : Int32} {rp : Int32} {sc : Int32} {dc : Int32} {cn : Int32} {sUp : Nat → Int32} {sLen : Nat → Int32} {sWrk : Nat → Int32} {sReg : Nat → Int32} {sFst : Nat → Int32} {sLst : Nat → Int32} {dPol : Nat → Int32} {dPtr : Nat → Int32} {dCnt : Nat → Int32} {dIdl : Nat → Nat → Int32} {dKnw : Nat → Nat → Int32} {jCnt : Int32} {jFin : Int32} {jBeg : Int32} {jWs : Int32} {jMis : Int32} {jSrv : Nat → Int32} {jLft : Nat → Int32} {jSub : Nat → Int32} {jWai : Nat → Int32} {jNxt : Nat → Int32} {cnd : Nat → Int32} {nw hi : Nat → Int32} {sv : Int32} {cd : Nat → Int32} {ha ov : Int64} {rec23 : Int32 → Nat → (Nat → Nat) → Int32 → (Nat → TT) → Int32 → Int64 → Int32 → Int32 → Int32 → Int32 → Int32 → (Nat → Int32) → (Nat → Int32) → (Nat → Int32) → (Nat → Int32) → (Nat → Int32) → (Nat → Int32) → (Nat → Int32) → (Nat → Int32) → (Nat → Int32) → (Nat → Nat → Int32) → (Nat → Nat → Int32) → Int32 → Int32 → Int32 → Int32 → Int32 → (Nat → Int32) → (Nat → Int32) → (Nat → Int32) → (Nat → Int32) → (Nat → Int32) → (Nat → Int32) → (Nat → Int32) → (Nat → Int32) → Int32 → Int32 → (Nat → Int32) → Int64 → Int64 → Prop}
theorem b_c9 (h : INV M cur sav cnt ST now rnd jm rp sc dc cn sUp sLen sWrk sReg sFst sLst dPol dPtr dCnt dIdl dKnw jCnt jFin jBeg jWs jMis jSrv jLft jSub jWai jNxt cnd nw hi sv) (hrec : HREC (M + 500) (nI i) rec23) (hM : M + 500 < 2 ^ 30) (hi2 : i + 2 < L) (hL : L ≤ 1536) : wp_L_c9 cur L xs (nI i) sav cnt ST now rnd jm rp sc dc cn sUp sLen sWrk sReg sFst sLst dPol dPtr dCnt dIdl dKnw jCnt jFin jBeg jWs jMis jSrv jLft jSub jWai jNxt cnd nw hi sv cd ha ov rec23 := by
  obtain ⟨hA, c, rfl, rfl, hV⟩ := id h
  obtain ⟨S, D, J, T, r, md, pd, Ls, hTM, H, hR, ⟨rfl, rfl, rfl, rfl, rfl, rfl, rfl, rfl, hc⟩, ⟨h3, hp1, hp2⟩, h8, hP, hN⟩ := id hA
  obtain ⟨hI, hQ, hJb, hW, ⟨h0, hr⟩, h7, ⟨h6, hJ⟩, ⟨h5, hD⟩, ⟨h4, hS⟩, ⟨h2, hmd⟩, ⟨h1, hT⟩, hU⟩ := id H
  have hG := h.mono (Nat.le_add_right M 500)
  have e1 : vp_in (nI i + 1) L := by rw [nI_1]; exact vp_in_nI (by omega) (by omega)
  refine ⟨hV.2.1.1, e1, ?_⟩
  generalize xs (nI i + 1).toNatClampNeg = v
  unfold wp_L_length
  rcases pk_ix v (n := S) (by omega) with q | q | ⟨s, hs, rfl⟩
  · exact x_srv0 (Or.inl q) ⟨rfl, r_srv0 h4 (by omega) (Or.inl q) ⟨fun _ => e_th (by decide) (hrec.go hG), fun q => absurd rfl q⟩⟩
  · exact x_srv0 (Or.inr q) ⟨rfl, r_srv0 h4 (by omega) (Or.inr q) ⟨fun _ => e_th (by decide) (hrec.go hG), fun q => absurd rfl q⟩⟩
  · refine x_srv1 (by omega) hs ⟨vp_in_nI (by omega) (by decide), fun x ex => ?_⟩
    rw [nI_clamp (by omega)] at ex
    subst ex
    refine r_srv1 h4 (by omega) hs ⟨fun q => absurd q (by decide), fun _ => ?_⟩
    exact (hQ.lk hJ h6).len hs (e_ok (hrec.go hG))
theorem b_c10 (h : INV M cur sav cnt ST now rnd jm rp sc dc cn sUp sLen sWrk sReg sFst sLst dPol dPtr dCnt dIdl dKnw jCnt jFin jBeg jWs jMis jSrv jLft jSub jWai jNxt cnd nw hi sv) (hrec : HREC (M + 500) (nI i) rec23) (hM : M + 500 < 2 ^ 30) (hi2 : i + 2 < L) (hL : L ≤ 1536) : wp_L_c10 cur L xs (nI i) sav cnt ST now rnd jm rp sc dc cn sUp sLen sWrk sReg sFst sLst dPol dPtr dCnt dIdl dKnw jCnt jFin jBeg jWs jMis jSrv jLft jSub jWai jNxt cnd nw hi sv cd ha ov rec23 := by
  obtain ⟨hA, c, rfl, rfl, hV⟩ := id h
  obtain ⟨S, D, J, T, r, md, pd, Ls, hTM, H, hR, ⟨rfl, rfl, rfl, rfl, rfl, rfl, rfl, rfl, hc⟩, ⟨h3, hp1, hp2⟩, h8, hP, hN⟩ := id hA
  obtain ⟨hI, hQ, hJb, hW, ⟨h0, hr⟩, h7, ⟨h6, hJ⟩, ⟨h5, hD⟩, ⟨h4, hS⟩, ⟨h2, hmd⟩, ⟨h1, hT⟩, hU⟩ := id H
  have hG := h.mono (Nat.le_add_right M 500)
  have e1 : vp_in (nI i + 1) L := by rw [nI_1]; exact vp_in_nI (by omega) (by omega)
  refine ⟨hV.2.1.1, e1, ?_⟩
  generalize xs (nI i + 1).toNatClampNeg = v
  unfold wp_L_work
  rcases pk_ix v (n := S) (by omega) with q | q | ⟨s, hs, rfl⟩
  · exact x_srv0 (Or.inl q) ⟨rfl, r_srv0 h4 (by omega) (Or.inl q) ⟨fun _ => e_th (by decide) (hrec.go hG), fun q => absurd rfl q⟩⟩
  · exact x_srv0 (Or.inr q) ⟨rfl, r_srv0 h4 (by omega) (Or.inr q) ⟨fun _ => e_th (by decide) (hrec.go hG), fun q => absurd rfl q⟩⟩
  · refine x_srv1 (by omega) hs ⟨vp_in_nI (by omega) (by decide), fun x ex => ?_⟩
    rw [nI_clamp (by omega), (hQ s hs).2.1] at ex
    subst ex
    refine r_srv1 h4 (by omega) hs ⟨fun q => absurd q (by decide), fun _ => ?_⟩
    exact b_workOf h6 hJ (e_ok (hrec.go hG))
theorem b_c11 (h : INV M cur sav cnt ST now rnd jm rp sc dc cn sUp sLen sWrk sReg sFst sLst dPol dPtr dCnt dIdl dKnw jCnt jFin jBeg jWs jMis jSrv jLft jSub jWai jNxt cnd nw hi sv) (hrec : HREC (M + 500) (nI i) rec23) (hM : M + 500 < 2 ^ 30) (hi2 : i + 2 < L) (hL : L ≤ 1536) : wp_L_c11 cur L xs (nI i) sav cnt ST now rnd jm rp sc dc cn sUp sLen sWrk sReg sFst sLst dPol dPtr dCnt dIdl dKnw jCnt jFin jBeg jWs jMis jSrv jLft jSub jWai jNxt cnd nw hi sv cd ha ov rec23 := by
  obtain ⟨hA, c, rfl, rfl, hV⟩ := id h
  obtain ⟨S, D, J, T, r, md, pd, Ls, hTM, H, hR, ⟨rfl, rfl, rfl, rfl, rfl, rfl, rfl, rfl, hc⟩, ⟨h3, hp1, hp2⟩, h8, hP, hN⟩ := id hA
  obtain ⟨hI, hQ, hJb, hW, ⟨h0, hr⟩, h7, ⟨h6, hJ⟩, ⟨h5, hD⟩, ⟨h4, hS⟩, ⟨h2, hmd⟩, ⟨h1, hT⟩, hU⟩ := id H
  have hG := h.mono (Nat.le_add_right M 500)
  have e1 : vp_in (nI i + 1) L := by rw [nI_1]; exact vp_in_nI (by omega) (by omega)
  refine ⟨hV.2.1.1, e1, ?_⟩
  generalize xs (nI i + 1).toNatClampNeg = v
  unfold wp_L_registeredAt
  rcases pk_ix v (n := S) (by omega) with q | q | ⟨s, hs, rfl⟩
  · exact x_srv0 (Or.inl q) ⟨rfl, r_srv0 h4 (by omega) (Or.inl q) ⟨fun _ => e_th (by decide) (hrec.go hG), fun q => absurd rfl q⟩⟩
  · exact x_srv0 (Or.inr q) ⟨rfl, r_srv0 h4 (by omega) (Or.inr q) ⟨fun _ => e_th (by decide) (hrec.go hG), fun q => absurd rfl q⟩⟩
  · refine x_srv1 (by omega) hs ⟨vp_in_nI (by omega) (by decide), fun x ex => ?_⟩
    rw [nI_clamp (by omega)] at ex
    subst ex
    refine r_srv1 h4 (by omega) hs ⟨fun q => absurd q (by decide), fun _ => ?_⟩
    exact b_listOf hI hS hD h5 hs (e_ok (hrec.go hG))
theorem b_c12 (h : INV M cur sav cnt ST now rnd jm rp sc dc cn sUp sLen sWrk sReg sFst sLst dPol dPtr dCnt dIdl dKnw jCnt jFin jBeg jWs jMis jSrv jLft jSub jWai jNxt cnd nw hi sv) (hrec : HREC (M + 500) (nI i) rec23) (hM : M + 500 < 2 ^ 30) (hi2 : i + 2 < L) (hL : L ≤ 1536) : wp_L_c12 cur L xs (nI i) sav cnt ST now rnd jm rp sc dc cn sUp sLen sWrk sReg sFst sLst dPol dPtr dCnt dIdl dKnw jCnt jFin jBeg jWs jMis jSrv jLft jSub jWai jNxt cnd nw hi sv cd ha ov rec23 := by
  obtain ⟨hA, c, rfl, rfl, hV⟩ := id h
  obtain ⟨S, D, J, T, r, md, pd, Ls, hTM, H, hR, ⟨rfl, rfl, rfl, rfl, rfl, rfl, rfl, rfl, hc⟩, ⟨h3, hp1, hp2⟩, h8, hP, hN⟩ := id hA
  obtain ⟨hI, hQ, hJb, hW, ⟨h0, hr⟩, h7, ⟨h6, hJ⟩, ⟨h5, hD⟩, ⟨h4, hS⟩, ⟨h2, hmd⟩, ⟨h1, hT⟩, hU⟩ := id H
  have hG := h.mono (Nat.le_add_right M 500)
  have e1 : vp_in (nI i + 1) L := by rw [nI_1]; exact vp_in_nI (by omega) (by omega)
  refine ⟨hV.2.1.1, e1, ?_⟩
  generalize xs (nI i + 1).toNatClampNeg = v
  unfold wp_L_idleCount
  rcases pk_ix v (n := D) (by omega) with q | q | ⟨s, hs, rfl⟩
  · exact x_dsp0 (Or.inl q) ⟨rfl, r_dsp0 h5 (by omega) (Or.inl q) ⟨fun _ => e_th (by decide) (hrec.go hG), fun q => absurd rfl q⟩⟩
  · exact x_dsp0 (Or.inr q) ⟨rfl, r_dsp0 h5 (by omega) (Or.inr q) ⟨fun _ => e_th (by decide) (hrec.go hG), fun q => absurd rfl q⟩⟩
  · refine x_dsp1 (by omega) hs ⟨vp_in_nI (by omega) (by decide), fun x ex => ?_⟩
    rw [nI_clamp (by omega), (hI.1 s (by omega)).1] at ex
    subst ex
    refine r_dsp1 h5 (by omega) hs ⟨fun q => absurd q (by decide), fun _ => ?_⟩
    refine ⟨i57 (by omega), ?_⟩
    rw [q57 (by omega), (hI.1 s (by omega)).2.1]
    exact e_ok (hrec.go hG)
theorem b_c18 (h : INV M cur sav cnt ST now rnd jm rp sc dc cn sUp sLen sWrk sReg sFst sLst dPol dPtr dCnt dIdl dKnw jCnt jFin jBeg jWs jMis jSrv jLft jSub jWai jNxt cnd nw hi sv) (hrec : HREC (M + 500) (nI i) rec23) (hM : M + 500 < 2 ^ 30) (hi2 : i + 2 < L) (hL : L ≤ 1536) : wp_L_c18 cur L xs (nI i) sav cnt ST now rnd jm rp sc dc cn sUp sLen sWrk sReg sFst sLst dPol dPtr dCnt dIdl dKnw jCnt jFin jBeg jWs jMis jSrv jLft jSub jWai jNxt cnd nw hi sv cd ha ov rec23 := by
  obtain ⟨hA, c, rfl, rfl, hV⟩ := id h
  obtain ⟨S, D, J, T, r, md, pd, Ls, hTM, H, hR, ⟨rfl, rfl, rfl, rfl, rfl, rfl, rfl, rfl, hc⟩, ⟨h3, hp1, hp2⟩, h8, hP, hN⟩ := id hA
  obtain ⟨hI, hQ, hJb, hW, ⟨h0, hr⟩, h7, ⟨h6, hJ⟩, ⟨h5, hD⟩, ⟨h4, hS⟩, ⟨h2, hmd⟩, ⟨h1, hT⟩, hU⟩ := id H
  have hG := h.mono (Nat.le_add_right M 500)
  have e1 : vp_in (nI i + 1) L := by rw [nI_1]; exact vp_in_nI (by omega) (by omega)
  refine ⟨hV.2.1.1, e1, ?_⟩
  generalize xs (nI i + 1).toNatClampNeg = v
  unfold wp_L_serverOf
  rcases pk_ix v (n := J) (by omega) with q | q | ⟨s, hs, rfl⟩
  · exact x_idx0 (Or.inl q) ⟨rfl, r_job0 h6 (by omega) (Or.inl q) ⟨fun _ => e_th (by decide) (hrec.go hG), fun q => absurd rfl q⟩⟩
  · exact x_idx0 (Or.inr q) ⟨rfl, r_job0 h6 (by omega) (Or.inr q) ⟨fun _ => e_th (by decide) (hrec.go hG), fun q => absurd rfl q⟩⟩
  · refine x_idx1 (by omega) hs ⟨vp_in_nI (by omega) (by decide), fun x ex => ?_⟩
    rw [nI_clamp (by omega), ← (hJb s hs).1] at ex
    subst ex
    refine r_job1 h6 (by omega) hs ⟨fun q => absurd q (by decide), fun _ => ?_⟩
    refine ⟨i93 (by omega), ?_⟩
    rw [q93 (by omega)]
    exact e_ok (hrec.go hG)
theorem b_c19 (h : INV M cur sav cnt ST now rnd jm rp sc dc cn sUp sLen sWrk sReg sFst sLst dPol dPtr dCnt dIdl dKnw jCnt jFin jBeg jWs jMis jSrv jLft jSub jWai jNxt cnd nw hi sv) (hrec : HREC (M + 500) (nI i) rec23) (hM : M + 500 < 2 ^ 30) (hi2 : i + 2 < L) (hL : L ≤ 1536) : wp_L_c19 cur L xs (nI i) sav cnt ST now rnd jm rp sc dc cn sUp sLen sWrk sReg sFst sLst dPol dPtr dCnt dIdl dKnw jCnt jFin jBeg jWs jMis jSrv jLft jSub jWai jNxt cnd nw hi sv cd ha ov rec23 := by
  obtain ⟨hA, c, rfl, rfl, hV⟩ := id h
  obtain ⟨S, D, J, T, r, md, pd, Ls, hTM, H, hR, ⟨rfl, rfl, rfl, rfl, rfl, rfl, rfl, rfl, hc⟩, ⟨h3, hp1, hp2⟩, h8, hP, hN⟩ := id hA
  obtain ⟨hI, hQ, hJb, hW, ⟨h0, hr⟩, h7, ⟨h6, hJ⟩, ⟨h5, hD⟩, ⟨h4, hS⟩, ⟨h2, hmd⟩, ⟨h1, hT⟩, hU⟩ := id H
  have hG := h.mono (Nat.le_add_right M 500)
  have e1 : vp_in (nI i + 1) L := by rw [nI_1]; exact vp_in_nI (by omega) (by omega)
  refine ⟨hV.2.1.1, e1, ?_⟩
  generalize xs (nI i + 1).toNatClampNeg = v
  unfold wp_L_waitOf
  rcases pk_ix v (n := J) (by omega) with q | q | ⟨s, hs, rfl⟩
  · exact x_idx0 (Or.inl q) ⟨rfl, r_job0 h6 (by omega) (Or.inl q) ⟨fun _ => e_th (by decide) (hrec.go hG), fun q => absurd rfl q⟩⟩
  · exact x_idx0 (Or.inr q) ⟨rfl, r_job0 h6 (by omega) (Or.inr q) ⟨fun _ => e_th (by decide) (hrec.go hG), fun q => absurd rfl q⟩⟩
  · refine x_idx1 (by omega) hs ⟨vp_in_nI (by omega) (by decide), fun x ex => ?_⟩
    rw [nI_clamp (by omega), ← (hJb s hs).2.2.1] at ex
    subst ex
    refine r_job1 h6 (by omega) hs ⟨fun q => absurd q (by decide), fun _ => ?_⟩
    refine ⟨i493 (by omega), ?_⟩
    rw [q493 (by omega)]
    exact e_ok (hrec.go hG)
theorem b_c13 (h : INV M cur sav cnt ST now rnd jm rp sc dc cn sUp sLen sWrk sReg sFst sLst dPol dPtr dCnt dIdl dKnw jCnt jFin jBeg jWs jMis jSrv jLft jSub jWai jNxt cnd nw hi sv) (hrec : HREC (M + 500) (nI i) rec23) (hM : M + 500 < 2 ^ 30) (hi2 : i + 2 < L) (hL : L ≤ 1536) : wp_L_c13 cur L xs (nI i) sav cnt ST now rnd jm rp sc dc cn sUp sLen sWrk sReg sFst sLst dPol dPtr dCnt dIdl dKnw jCnt jFin jBeg jWs jMis jSrv jLft jSub jWai jNxt cnd nw hi sv cd ha ov rec23 := by
  obtain ⟨hA, c, rfl, rfl, hV⟩ := id h
  obtain ⟨S, D, J, T, r, md, pd, Ls, hTM, H, hR, ⟨rfl, rfl, rfl, rfl, rfl, rfl, rfl, rfl, hc⟩, ⟨h3, hp1, hp2⟩, h8, hP, hN⟩ := id hA
  obtain ⟨hI, hQ, hJb, hW, ⟨h0, hr⟩, h7, ⟨h6, hJ⟩, ⟨h5, hD⟩, ⟨h4, hS⟩, ⟨h2, hmd⟩, ⟨h1, hT⟩, hU⟩ := id H
  have hG := h.mono (Nat.le_add_right M 500)
  have e1 : vp_in (nI i + 1) L := by rw [nI_1]; exact vp_in_nI (by omega) (by omega)
  have e2 : vp_in (nI i + 2) L := by rw [show (2 : Int32) = nI 2 from rfl, nI_add]; exact vp_in_nI (by omega) (by omega)
  refine ⟨hV.2.1.1, e1, e2, ?_⟩
  generalize xs (nI i + 1).toNatClampNeg = v
  generalize xs (nI i + 2).toNatClampNeg = v2
  unfold wp_L_idleAt
  rcases pk_ix v (n := D) (by omega) with q | q | ⟨d, hd, rfl⟩
  · exact x_dsp0 (Or.inl q) (Or.inl ⟨rfl, r_dsp0 h5 (by omega) (Or.inl q) ⟨fun _ => e_th (by decide) (hrec.go hG), fun q => absurd rfl q⟩⟩)
  · exact x_dsp0 (Or.inr q) (Or.inl ⟨rfl, r_dsp0 h5 (by omega) (Or.inr q) ⟨fun _ => e_th (by decide) (hrec.go hG), fun q => absurd rfl q⟩⟩)
  · obtain ⟨g1, g2, g3, g4⟩ := hI.1 d (by omega)
    have g8 := hI.len hS d
    have hM13 : ∀ K : Int32 → Int32 → Prop, wp_X5_in v2 0 (nI (Ls d).length - 1) (fun r4 => (r4 = 0 → (wp_X5_refuse 2 (fun r6 th_7 => K r6 th_7))) ∧ (¬ (r4 = 0) → ((vp_in ((61 + (8 * nI d)) + v2) 893) ∧ (K (nw ((61 + (8 * nI d)) + v2).toNatClampNeg) 0)))) → wp_X5_idleAt nw (nI d) v2 K := fun K hK => r_dsp1 h5 (by omega) hd ⟨fun q => absurd q (by decide), fun _ => ⟨i57 (by omega), by rw [q57 (by omega), g2]; exact hK⟩⟩
    refine x_dsp1 (by omega) hd ⟨vp_in_nI (by omega) (by decide), ?_⟩
    rw [nI_clamp (by omega), g1]
    rcases pk_ix v2 (n := (Ls d).length) (by omega) with q | q | ⟨j, hj, rfl⟩
    · exact x_idx0 (Or.inl q) (Or.inr ⟨rfl, hM13 _ (r_in0 (by omega) (Or.inl q) ⟨fun _ => e_th (by decide) (hrec.go hG), fun q => absurd rfl q⟩)⟩)
    · exact x_idx0 (Or.inr q) (Or.inr ⟨rfl, hM13 _ (r_in0 (by omega) (Or.inr q) ⟨fun _ => e_th (by decide) (hrec.go hG), fun q => absurd rfl q⟩)⟩)
    · refine x_idx1 (by omega) hj ⟨vp_in_nI (by omega) (by decide), fun x ex => ?_⟩
      rw [nI_clamp (by omega), ents_at g3 hj] at ex
      subst ex
      refine hM13 _ (r_in1 (by omega) hj ⟨fun q => absurd q (by decide), fun _ => ⟨i61 (by omega), ?_⟩⟩)
      have v9 : nw (61 + 8 * d + j) = nI (Ls d)[j] := ents_at g4 hj
      rw [q61 (by omega), v9]
      exact e_ok (hrec.go hG)
theorem b_c14 (h : INV M cur sav cnt ST now rnd jm rp sc dc cn sUp sLen sWrk sReg sFst sLst dPol dPtr dCnt dIdl dKnw jCnt jFin jBeg jWs jMis jSrv jLft jSub jWai jNxt cnd nw hi sv) (hrec : HREC (M + 500) (nI i) rec23) (hM : M + 500 < 2 ^ 30) (hi2 : i + 2 < L) (hL : L ≤ 1536) : wp_L_c14 cur L xs (nI i) sav cnt ST now rnd jm rp sc dc cn sUp sLen sWrk sReg sFst sLst dPol dPtr dCnt dIdl dKnw jCnt jFin jBeg jWs jMis jSrv jLft jSub jWai jNxt cnd nw hi sv cd ha ov rec23 := by
  obtain ⟨hA, c, rfl, rfl, hV⟩ := id h
  obtain ⟨S, D, J, T, r, md, pd, Ls, hTM, H, hR, ⟨rfl, rfl, rfl, rfl, rfl, rfl, rfl, rfl, hc⟩, ⟨h3, hp1, hp2⟩, h8, hP, hN⟩ := id hA
  obtain ⟨hI, hQ, hJb, hW, ⟨h0, hr⟩, h7, ⟨h6, hJ⟩, ⟨h5, hD⟩, ⟨h4, hS⟩, ⟨h2, hmd⟩, ⟨h1, hT⟩, hU⟩ := id H
  have hG := h.mono (Nat.le_add_right M 500)
  have e1 : vp_in (nI i + 1) L := by rw [nI_1]; exact vp_in_nI (by omega) (by omega)
  have e2 : vp_in (nI i + 2) L := by rw [show (2 : Int32) = nI 2 from rfl, nI_add]; exact vp_in_nI (by omega) (by omega)
  refine ⟨hV.2.1.1, e1, e2, ?_⟩
  generalize xs (nI i + 1).toNatClampNeg = v
  generalize xs (nI i + 2).toNatClampNeg = v2
  unfold wp_L_knownLength
  rcases pk_ix v (n := D) (by omega) with q | q | ⟨d, hd, rfl⟩
  · exact x_dsp0 (Or.inl q) ⟨rfl, r_dsp0 h5 (by omega) (Or.inl q) ⟨fun _ => e_th (by decide) (hrec.go hG), fun q => absurd rfl q⟩⟩
  · exact x_dsp0 (Or.inr q) ⟨rfl, r_dsp0 h5 (by omega) (Or.inr q) ⟨fun _ => e_th (by decide) (hrec.go hG), fun q => absurd rfl q⟩⟩
  · refine x_dsp1 (by omega) hd ?_
    rcases pk_ix v2 (n := S) (by omega) with q | q | ⟨s, hs, rfl⟩
    · exact x_srv0 (Or.inl q) ⟨rfl, r_dsp1 h5 (by omega) hd ⟨fun q => absurd q (by decide), fun _ => r_srv0 h4 (by omega) (Or.inl q) ⟨fun _ => e_th (by decide) (hrec.go hG), fun q => absurd rfl q⟩⟩⟩
    · exact x_srv0 (Or.inr q) ⟨rfl, r_dsp1 h5 (by omega) hd ⟨fun q => absurd q (by decide), fun _ => r_srv0 h4 (by omega) (Or.inr q) ⟨fun _ => e_th (by decide) (hrec.go hG), fun q => absurd rfl q⟩⟩⟩
    · refine x_srv1 (by omega) hs ⟨vp_in_nI (by omega) (by decide), vp_in_nI (by omega) (by decide), fun x ex => ?_⟩
      rw [nI_clamp (by omega), nI_clamp (by omega), ← (hR.2 d s (by omega) (by omega)).1 hs] at ex
      subst ex
      refine r_dsp1 h5 (by omega) hd ⟨fun q => absurd q (by decide), fun _ => r_srv1 h4 (by omega) hs ⟨fun q => absurd q (by decide), fun _ => ⟨i25 (by omega), ?_⟩⟩⟩
      rw [q25 (by omega)]
      exact e_ok (hrec.go hG)
theorem b_c16 (h : INV M cur sav cnt ST now rnd jm rp sc dc cn sUp sLen sWrk sReg sFst sLst dPol dPtr dCnt dIdl dKnw jCnt jFin jBeg jWs jMis jSrv jLft jSub jWai jNxt cnd nw hi sv) (hrec : HREC (M + 500) (nI i) rec23) (hM : M + 500 < 2 ^ 30) (hi2 : i + 2 < L) (hL : L ≤ 1536) : wp_L_c16 cur (nI i) sav cnt ST now rnd jm rp sc dc cn sUp sLen sWrk sReg sFst sLst dPol dPtr dCnt dIdl dKnw jCnt jFin jBeg jWs jMis jSrv jLft jSub jWai jNxt cnd nw hi sv cd ha ov rec23 := by
  obtain ⟨hA, c, rfl, rfl, hV⟩ := id h
  obtain ⟨S, D, J, T, r, md, pd, Ls, hTM, H, hR, ⟨rfl, rfl, rfl, rfl, rfl, rfl, rfl, rfl, hc⟩, ⟨h3, hp1, hp2⟩, h8, hP, hN⟩ := id hA
  obtain ⟨hI, hQ, hJb, hW, ⟨h0, hr⟩, h7, ⟨h6, hJ⟩, ⟨h5, hD⟩, ⟨h4, hS⟩, ⟨h2, hmd⟩, ⟨h1, hT⟩, hU⟩ := id H
  have hG := h.mono (Nat.le_add_right M 500)
  exact ⟨hV.2.1.1, fun _ => hrec.go hG, fun q => absurd h6.symm q⟩
theorem b_c17 (h : INV M cur sav cnt ST now rnd jm rp sc dc cn sUp sLen sWrk sReg sFst sLst dPol dPtr dCnt dIdl dKnw jCnt jFin jBeg jWs jMis jSrv jLft jSub jWai jNxt cnd nw hi sv) (hrec : HREC (M + 500) (nI i) rec23) (hM : M + 500 < 2 ^ 30) (hi2 : i + 2 < L) (hL : L ≤ 1536) : wp_L_c17 cur (nI i) sav cnt ST now rnd jm rp sc dc cn sUp sLen sWrk sReg sFst sLst dPol dPtr dCnt dIdl dKnw jCnt jFin jBeg jWs jMis jSrv jLft jSub jWai jNxt cnd nw hi sv cd ha ov rec23 := by
  obtain ⟨hA, c, rfl, rfl, hV⟩ := id h
  obtain ⟨S, D, J, T, r, md, pd, Ls, hTM, H, hR, ⟨rfl, rfl, rfl, rfl, rfl, rfl, rfl, rfl, hc⟩, ⟨h3, hp1, hp2⟩, h8, hP, hN⟩ := id hA
  obtain ⟨hI, hQ, hJb, hW, ⟨h0, hr⟩, h7, ⟨h6, hJ⟩, ⟨h5, hD⟩, ⟨h4, hS⟩, ⟨h2, hmd⟩, ⟨h1, hT⟩, hU⟩ := id H
  have hG := h.mono (Nat.le_add_right M 500)
  exact ⟨hV.2.1.1, fun _ => hrec.go hG, fun q => absurd h7.symm q⟩
theorem b_c21 (h : INV M cur sav cnt ST now rnd jm rp sc dc cn sUp sLen sWrk sReg sFst sLst dPol dPtr dCnt dIdl dKnw jCnt jFin jBeg jWs jMis jSrv jLft jSub jWai jNxt cnd nw hi sv) (hrec : HREC (M + 500) (nI i) rec23) (hM : M + 500 < 2 ^ 30) (hi2 : i + 2 < L) (hL : L ≤ 1536) : wp_L_c21 cur (nI i) sav cnt ST now rnd jm rp sc dc cn sUp sLen sWrk sReg sFst sLst dPol dPtr dCnt dIdl dKnw jCnt jFin jBeg jWs jMis jSrv jLft jSub jWai jNxt cnd nw hi sv cd ha ov rec23 := by
  obtain ⟨hA, c, rfl, rfl, hV⟩ := id h
  obtain ⟨S, D, J, T, r, md, pd, Ls, hTM, H, hR, ⟨rfl, rfl, rfl, rfl, rfl, rfl, rfl, rfl, hc⟩, ⟨h3, hp1, hp2⟩, h8, hP, hN⟩ := id hA
  obtain ⟨hI, hQ, hJb, hW, ⟨h0, hr⟩, h7, ⟨h6, hJ⟩, ⟨h5, hD⟩, ⟨h4, hS⟩, ⟨h2, hmd⟩, ⟨h1, hT⟩, hU⟩ := id H
  have hG := h.mono (Nat.le_add_right M 500)
  exact ⟨hV.2.1.1, fun _ => hrec.go hG, fun q => absurd h8.symm q⟩
theorem b_c22 (h : INV M cur sav cnt ST now rnd jm rp sc dc cn sUp sLen sWrk sReg sFst sLst dPol dPtr dCnt dIdl dKnw jCnt jFin jBeg jWs jMis jSrv jLft jSub jWai jNxt cnd nw hi sv) (hrec : HREC (M + 500) (nI i) rec23) (hM : M + 500 < 2 ^ 30) (hi2 : i + 2 < L) (hL : L ≤ 1536) : wp_L_c22 cur (nI i) sav cnt ST now rnd jm rp sc dc cn sUp sLen sWrk sReg sFst sLst dPol dPtr dCnt dIdl dKnw jCnt jFin jBeg jWs jMis jSrv jLft jSub jWai jNxt cnd nw hi sv cd ha ov rec23 := by
  obtain ⟨hA, c, rfl, rfl, hV⟩ := id h
  obtain ⟨S, D, J, T, r, md, pd, Ls, hTM, H, hR, ⟨rfl, rfl, rfl, rfl, rfl, rfl, rfl, rfl, hc⟩, ⟨h3, hp1, hp2⟩, h8, hP, hN⟩ := id hA
  obtain ⟨hI, hQ, hJb, hW, ⟨h0, hr⟩, h7, ⟨h6, hJ⟩, ⟨h5, hD⟩, ⟨h4, hS⟩, ⟨h2, hmd⟩, ⟨h1, hT⟩, hU⟩ := id H
  have hG := h.mono (Nat.le_add_right M 500)
  exact ⟨hV.2.1.1, fun _ => hrec.go hG, fun q => absurd h1.symm q⟩
theorem b_c20 (h : INV M cur sav cnt ST now rnd jm rp sc dc cn sUp sLen sWrk sReg sFst sLst dPol dPtr dCnt dIdl dKnw jCnt jFin jBeg jWs jMis jSrv jLft jSub jWai jNxt cnd nw hi sv) (hrec : HREC (M + 500) (nI i) rec23) (hM : M + 500 < 2 ^ 30) (hi2 : i + 2 < L) (hL : L ≤ 1536) : wp_L_c20 cur (nI i) sav cnt ST now rnd jm rp sc dc cn sUp sLen sWrk sReg sFst sLst dPol dPtr dCnt dIdl dKnw jCnt jFin jBeg jWs jMis jSrv jLft jSub jWai jNxt cnd nw hi sv cd ha ov rec23 := by
  obtain ⟨hA, c, rfl, rfl, hV⟩ := id h
  obtain ⟨S, D, J, T, r, md, pd, Ls, hTM, H, hR, ⟨rfl, rfl, rfl, rfl, rfl, rfl, rfl, rfl, hc⟩, ⟨h3, hp1, hp2⟩, h8, hP, hN⟩ := id hA
  obtain ⟨hI, hQ, hJb, hW, ⟨h0, hr⟩, h7, ⟨h6, hJ⟩, ⟨h5, hD⟩, ⟨h4, hS⟩, ⟨h2, hmd⟩, ⟨h1, hT⟩, hU⟩ := id H
  have hG := h.mono (Nat.le_add_right M 500)
  have hlen : (wts nw J).length ≤ J := fil_len _ J
  obtain ⟨w1, w2⟩ := hW
  refine ⟨hV.2.1.1, ?_⟩
  by_cases q : (wts nw J).length = 0
  · have hz : jBeg = 0 := by rw [w1, q]; rfl
    refine ⟨fun q2 => absurd q2 (by rw [hz]; decide), fun _ => b_begun h6 hJ ⟨fun _ => ?_, fun q2 => absurd (by rw [q]; rfl) q2⟩⟩
    exact ⟨fun _ => hrec.go hG, fun q3 => absurd (by decide) q3⟩
  · obtain ⟨m1, m2⟩ := b_mean jWs (n := (wts nw J).length) (by omega) (by omega)
    have m3 := m1
    rw [← w1] at m1 m2
    rw [w2] at m3
    refine ⟨fun _ => ⟨m1, b_begun h6 hJ ⟨fun q2 => absurd q2 (nI_ne0 (by omega) (by omega)), fun _ => b_waits h6 hJ ⟨m3, ?_⟩⟩⟩, fun q2 => absurd (by rw [w1]; exact nI_lt (a := 0) (by omega) (by omega)) q2⟩
    rw [← w1, ← w2]
    exact ⟨fun _ => hrec.go hG, fun q3 => absurd m2 q3⟩
theorem b_c24 (h : INV M cur sav cnt ST now rnd jm rp sc dc cn sUp sLen sWrk sReg sFst sLst dPol dPtr dCnt dIdl dKnw jCnt jFin jBeg jWs jMis jSrv jLft jSub jWai jNxt cnd nw hi sv) (hrec : HREC (M + 500) (nI i) rec23) (hM : M + 500 < 2 ^ 30) (hi2 : i + 2 < L) (hL : L ≤ 1536) : wp_L_c24 cur (nI i) sav cnt ST now rnd jm rp sc dc cn sUp sLen sWrk sReg sFst sLst dPol dPtr dCnt dIdl dKnw jCnt jFin jBeg jWs jMis jSrv jLft jSub jWai jNxt cnd nw hi sv cd ov rec23 := by
  obtain ⟨hA, c, rfl, rfl, hV⟩ := id h
  obtain ⟨S, D, J, T, r, md, pd, Ls, hTM, H, hR, ⟨rfl, rfl, rfl, rfl, rfl, rfl, rfl, rfl, hc⟩, ⟨h3, hp1, hp2⟩, h8, hP, hN⟩ := id hA
  obtain ⟨hI, hQ, hJb, hW, ⟨h0, hr⟩, h7, ⟨h6, hJ⟩, ⟨h5, hD⟩, ⟨h4, hS⟩, ⟨h2, hmd⟩, ⟨h1, hT⟩, hU⟩ := id H
  have hG := h.mono (Nat.le_add_right M 500)
  obtain ⟨w1, w2⟩ := hW
  have hpol : ∀ d, d < 4 → nw (17 + d) = dPol d := fun d hd => by
    obtain ⟨p, -, p1, p2⟩ := hP d hd
    rw [p1, p2]
  obtain ⟨a1, g1, g2⟩ := b_mixSs (dPol := dPol) (dPtr := dPtr) (dKnw := dKnw) (jCnt := nI J) (jFin := jFin) (jWs := jWs) (jMis := jMis) hI hQ hS hD hJ h4 h5 h6 hU S 0 ((31 : Int64) * ((31 : Int64) * ((31 : Int64) * ((31 : Int64) * ((31 : Int64) * (2753 : Int64) + (nI T).toInt64) + lN r) + (nI md).toInt64) + (nI pd).toInt64) + (nI S).toInt64) (by omega)
  obtain ⟨a2, g3, g4⟩ := b_mixDs (jCnt := nI J) (jFin := jFin) (jWs := jWs) (jMis := jMis) hI hS hD h4 h5 hR hpol D 0 ((31 : Int64) * a1 + (nI D).toInt64) (by omega)
  refine ⟨hV.2.1.1, ⟨S + 1, g1 _ _ ⟨D + 1, g3 _ ?_⟩⟩⟩
  intro x1 q1 x2 q2 x3 q3 x4 q4 x5 q5 x6 q6
  rw [h1, q1] at q2
  rw [h0, nI_l (by omega), q2] at q3
  rw [h2, q3] at q4
  rw [h3, q4] at q5
  rw [h4, q5] at q6
  refine ⟨S + 1, ?_⟩
  rw [q6]
  refine g2 _ ?_
  intro x7 q7
  rw [h5] at q7
  refine ⟨D + 1, ?_⟩
  rw [q7]
  refine g4 _ ?_
  intro x8 q8 x9 q9
  refine b_waits h6 hJ ?_
  intro x10 q10 x11 q11 x12 q12
  rw [h6] at q8
  rw [h7, q8] at q9
  rw [← w2, q9] at q10
  rw [h8, q10] at q11
  rw [q11] at q12
  rw [q12]
  exact ⟨fun _ => hrec.go hG, fun q => absurd (e_lg _) q⟩
theorem b_c15 (h : INV M cur sav cnt ST now rnd jm rp sc dc cn sUp sLen sWrk sReg sFst sLst dPol dPtr dCnt dIdl dKnw jCnt jFin jBeg jWs jMis jSrv jLft jSub jWai jNxt cnd nw hi sv) (hrec : HREC (M + 500) (nI i) rec23) (hM : M + 500 < 2 ^ 30) (hi2 : i + 2 < L) (hL : L ≤ 1536) : wp_L_c15 cur L xs (nI i) sav cnt ST now rnd jm rp sc dc cn sUp sLen sWrk sReg sFst sLst dPol dPtr dCnt dIdl dKnw jCnt jFin jBeg jWs jMis jSrv jLft jSub jWai jNxt cnd nw hi sv cd ha ov rec23 := by
  obtain ⟨hA, c, rfl, rfl, hV⟩ := id h
  obtain ⟨S, D, J, T, r, md, pd, Ls, hTM, H, hR, ⟨rfl, rfl, rfl, rfl, rfl, rfl, rfl, rfl, hc⟩, ⟨h3, hp1, hp2⟩, h8, hP, hN⟩ := id hA
  obtain ⟨hI, hQ, hJb, hW, ⟨h0, hr⟩, h7, ⟨h6, hJ⟩, ⟨h5, hD⟩, ⟨h4, hS⟩, ⟨h2, hmd⟩, ⟨h1, hT⟩, hU⟩ := id H
  have hG := h.mono (Nat.le_add_right M 500)
  have e1 : vp_in (nI i + 1) L := by rw [nI_1]; exact vp_in_nI (by omega) (by omega)
  have e2 : vp_in (nI i + 2) L := by rw [show (2 : Int32) = nI 2 from rfl, nI_add]; exact vp_in_nI (by omega) (by omega)
  refine ⟨hV.2.1.1, e1, e2, ?_⟩
  generalize xs (nI i + 1).toNatClampNeg = v
  generalize xs (nI i + 2).toNatClampNeg = v2
  unfold wp_L_expectedLength
  rcases pk_ix v (n := D) (by omega) with q | q | ⟨d, hd, rfl⟩
  · exact x_dsp0 (Or.inl q) (Or.inl ⟨rfl, r_dsp0 h5 (by omega) (Or.inl q) ⟨fun _ => e_th (by decide) (hrec.go hG), fun q => absurd rfl q⟩⟩)
  · exact x_dsp0 (Or.inr q) (Or.inl ⟨rfl, r_dsp0 h5 (by omega) (Or.inr q) ⟨fun _ => e_th (by decide) (hrec.go hG), fun q => absurd rfl q⟩⟩)
  · have hM15 : ∀ K : Int32 → Int32 → (Nat → Int32) → Prop, wp_X5_in v2 0 1 (fun r5 => (r5 = 0 → (wp_X5_refuse 1 (fun r13 th_14 => K r13 th_14 cd))) ∧ (¬ r5 = 0 → (wp_X5_findCandidates nw cd (fun r7 cd_8 => (r7 = 0 → (wp_X5_refuse 2 (fun r11 th_12 => K r11 th_12 cd_8))) ∧ (¬ r7 = 0 → (wp_X5_expected nw cd_8 (nI d) r7 v2 (fun r10 => K r10 0 cd_8))))))) → wp_X5_expectedLength nw cd (nI d) v2 K := fun K hK => r_dsp1 h5 (by omega) hd ⟨fun q => absurd q (by decide), fun _ => hK⟩
    rcases rng_split v2 0 1 with q | ⟨q1, q2⟩
    · exact x_dsp1 (by omega) hd (x_rng0 q (Or.inl ⟨rfl, hM15 _ (r_rng0 q ⟨fun _ => e_th (by decide) (hrec.go hG), fun q => absurd rfl q⟩)⟩))
    · have h8l := ups_len (sUp := sUp) S
      by_cases hz : (ups sUp S).length = 0
      · have hz2 : nI (ups sUp S).length = 0 := by rw [hz]; rfl
        exact x_dsp1 (by omega) hd (x_rng1 q1 q2 ⟨fun q => absurd q (by rw [hz2]; decide), fun _ => Or.inr ⟨rfl, hM15 _ (r_rng1 q1 q2 ⟨fun q => absurd q (by decide), fun _ => b_findF hS h4 hU ⟨fun _ => e_th (by decide) (hrec.go hG), fun q => absurd hz2 q⟩⟩)⟩⟩)
      · obtain ⟨p, hp, p1, p2⟩ := hP d (by omega)
        obtain ⟨w, u1, u2⟩ := b_exp (part := v2) (cnd := cnd) (cd := cdF cd sUp S) hI (hQ.lk hJ h6) hR hS hD hd p1 p2 hp (by omega) hc (cdF_ents cd sUp S)
        have hX15 : ∀ (k : Int32 → Prop) (kx : String → Prop), k w → wp_X4_expectedLength (nI D) (nI (ups sUp S).length) sLen dPol dPtr dCnt dIdl dKnw cnd (nI d) v2 k kx := fun k kx hk => x_dsp1 (by omega) hd (x_rng1 q1 q2 ⟨fun _ => u1 k hk, fun q => absurd (nI_lt (a := 0) (by omega) (by omega)) q⟩)
        refine hX15 _ _ (fun x ex => ?_)
        subst ex
        exact hM15 _ (r_rng1 q1 q2 ⟨fun q => absurd q (by decide), fun _ => b_findF hS h4 hU ⟨fun q => absurd q (nI_ne0 (by omega) (by omega)), fun _ => u2 _ (e_ok (hrec.go hG))⟩⟩)
end RDC
