/-! The cases of the law that write, without setUp and submit. -/
section WRC
variable {M L i : Nat} {xs : Nat → Int32} {cur : Nat} {sav : Nat → Nat} {cnt : Int32} {ST : Nat → TT} {now : Int32} {rnd : Int64} {jm : Int32} {rp : Int32} {sc : Int32} {dc : Int32} {cn : Int32} {sUp : Nat → Int32} {sLen : Nat → Int32} {sWrk : Nat → Int32} {sReg : Nat → Int32} {sFst : Nat → Int32} {sLst : Nat → Int32} {dPol : Nat → Int32} {dPtr : Nat → Int32} {dCnt : Nat → Int32} {dIdl : Nat → Nat → Int32} {dKnw : Nat → Nat → Int32} {jCnt : Int32} {jFin : Int32} {jBeg : Int32} {jWs : Int32} {jMis : Int32} {jSrv : Nat → Int32} {jLft : Nat → Int32} {jSub : Nat → Int32} {jWai : Nat → Int32} {jNxt : Nat → Int32} {cnd : Nat → Int32} {nw hi : Nat → Int32} {sv : Int32} {cd : Nat → Int32} {ha ov : Int64} {rec23 : Int32 → Nat → (Nat → Nat) → Int32 → (Nat → TT) → Int32 → Int64 → Int32 → Int32 → Int32 → Int32 → Int32 → (Nat → Int32) → (Nat → Int32) → (Nat → Int32) → (Nat → Int32) → (Nat → Int32) → (Nat → Int32) → (Nat → Int32) → (Nat → Int32) → (Nat → Int32) → (Nat → Nat → Int32) → (Nat → Nat → Int32) → Int32 → Int32 → Int32 → Int32 → Int32 → (Nat → Int32) → (Nat → Int32) → (Nat → Int32) → (Nat → Int32) → (Nat → Int32) → (Nat → Int32) → (Nat → Int32) → (Nat → Int32) → Int32 → Int32 → (Nat → Int32) → Int64 → Int64 → Prop}
theorem b_c3 (h : INV M cur sav cnt ST now rnd jm rp sc dc cn sUp sLen sWrk sReg sFst sLst dPol dPtr dCnt dIdl dKnw jCnt jFin jBeg jWs jMis jSrv jLft jSub jWai jNxt cnd nw hi sv) (hrec : HREC (M + 500) (nI i) rec23) (hM : M + 500 < 2 ^ 30) (hi2 : i + 2 < L) (hL : L ≤ 1536) : wp_L_c3 cur L xs (nI i) sav cnt ST now rnd jm rp sc dc cn sUp sLen sWrk sReg sFst sLst dPol dPtr dCnt dIdl dKnw jCnt jFin jBeg jWs jMis jSrv jLft jSub jWai jNxt cnd nw hi sv cd ha ov rec23 := by
  obtain ⟨hA, c, rfl, rfl, hV⟩ := id h
  obtain ⟨S, D, J, T, r, md, pd, Ls, hTM, H, hR, ⟨rfl, rfl, rfl, rfl, rfl, rfl, rfl, rfl, hc⟩, ⟨h3, hp1, hp2⟩, h8, hP, hN⟩ := id hA
  obtain ⟨hI, hQ, hJb, hW, ⟨h0, hr⟩, h7, ⟨h6, hJ⟩, ⟨h5, hD⟩, ⟨h4, hS⟩, ⟨h2, hmd⟩, ⟨h1, hT⟩, hU⟩ := id H
  have hG := h.mono (Nat.le_add_right M 500)
  have hSV : ∀ {sav1 : Nat → Nat} {ST1 : Nat → TT} {hi1 : Nat → Int32} {t0 : TT}, PSX M nw cur t0 sav c ST sav1 ST1 → PSM nw hi c hi1 → SV (M + 500) cur sav1 (c1 c + 1) ST1 hi1 := fun a b => (hV.save a b).mono (Nat.le_add_right M 500)
  have hB0 : RB M (nI T, lN r, nI md, nI pd, nI S, nI D, nI (ups sUp S).length, sUp, sLen, sWrk, sReg, sFst, sLst, dPol, dPtr, dCnt, dIdl, dKnw, nI J, jFin, jBeg, jWs, jMis, jSrv, jLft, jSub, jWai, jNxt, cnd) nw := hA
  have e1 : vp_in (nI i + 1) L := by rw [nI_1]; exact vp_in_nI (by omega) (by omega)
  refine ⟨hV.2.1.1, e1, ?_⟩
  generalize xs (nI i + 1).toNatClampNeg = v
  unfold wp_L_setJoinMode
  rcases rng_split v 0 2 with q | ⟨q1, q2⟩
  · exact x_rng0 q ⟨rfl, r_rng0 q ⟨fun _ => e_th (by decide) (hrec.go hG), fun q => absurd rfl q⟩⟩
  · obtain ⟨m, -, hm, rfl⟩ := rng_nat (x := 0) (y := 2) (by decide) (by decide) q1 q2
    refine x_rng1 q1 q2 (b_saveX hV hB0 (fun sav1 ST1 hX => ⟨hX.2.1, fun x ex => ?_⟩))
    subst ex
    refine r_rng1 q1 q2 ⟨fun q => absurd q (by decide), fun _ => b_saveM hV.1 (fun hi1 hY x5 e5 f6 e6 => ?_)⟩
    rw [h2] at e5
    subst e5 e6
    exact e_ok (hrec.go ⟨⟨S, D, J, T, r, m, pd, Ls, by omega, H.mode hm, hR.cong (fun i _ _ => un (by omega)), ⟨rfl, rfl, rfl, rfl, rfl, rfl, rfl, rfl, hc⟩, ⟨by rw [un (by omega)]; exact h3, hp1, hp2⟩, by rw [un (by omega)]; exact h8, fun d hd => by rw [un (by omega)]; exact hP d hd, hN⟩, c1 c + 1, rfl, rfl, hSV hX hY⟩)
theorem b_c4 (h : INV M cur sav cnt ST now rnd jm rp sc dc cn sUp sLen sWrk sReg sFst sLst dPol dPtr dCnt dIdl dKnw jCnt jFin jBeg jWs jMis jSrv jLft jSub jWai jNxt cnd nw hi sv) (hrec : HREC (M + 500) (nI i) rec23) (hM : M + 500 < 2 ^ 30) (hi2 : i + 2 < L) (hL : L ≤ 1536) : wp_L_c4 cur L xs (nI i) sav cnt ST now rnd jm rp sc dc cn sUp sLen sWrk sReg sFst sLst dPol dPtr dCnt dIdl dKnw jCnt jFin jBeg jWs jMis jSrv jLft jSub jWai jNxt cnd nw hi sv cd ha ov rec23 := by
  obtain ⟨hA, c, rfl, rfl, hV⟩ := id h
  obtain ⟨S, D, J, T, r, md, pd, Ls, hTM, H, hR, ⟨rfl, rfl, rfl, rfl, rfl, rfl, rfl, rfl, hc⟩, ⟨h3, hp1, hp2⟩, h8, hP, hN⟩ := id hA
  obtain ⟨hI, hQ, hJb, hW, ⟨h0, hr⟩, h7, ⟨h6, hJ⟩, ⟨h5, hD⟩, ⟨h4, hS⟩, ⟨h2, hmd⟩, ⟨h1, hT⟩, hU⟩ := id H
  have hG := h.mono (Nat.le_add_right M 500)
  have hSV : ∀ {sav1 : Nat → Nat} {ST1 : Nat → TT} {hi1 : Nat → Int32} {t0 : TT}, PSX M nw cur t0 sav c ST sav1 ST1 → PSM nw hi c hi1 → SV (M + 500) cur sav1 (c1 c + 1) ST1 hi1 := fun a b => (hV.save a b).mono (Nat.le_add_right M 500)
  have hB0 : RB M (nI T, lN r, nI md, nI pd, nI S, nI D, nI (ups sUp S).length, sUp, sLen, sWrk, sReg, sFst, sLst, dPol, dPtr, dCnt, dIdl, dKnw, nI J, jFin, jBeg, jWs, jMis, jSrv, jLft, jSub, jWai, jNxt, cnd) nw := hA
  have e1 : vp_in (nI i + 1) L := by rw [nI_1]; exact vp_in_nI (by omega) (by omega)
  refine ⟨hV.2.1.1, e1, ?_⟩
  generalize xs (nI i + 1).toNatClampNeg = v
  unfold wp_L_setReportPeriod
  rcases rng_split v 1 100 with q | ⟨q1, q2⟩
  · exact x_rng0 q ⟨rfl, r_rng0 q ⟨fun _ => e_th (by decide) (hrec.go hG), fun q => absurd rfl q⟩⟩
  · obtain ⟨m, hm0, hm, rfl⟩ := rng_nat (x := 1) (y := 100) (by decide) (by decide) q1 q2
    refine x_rng1 q1 q2 (b_saveX hV hB0 (fun sav1 ST1 hX => ⟨hX.2.1, fun x ex => ?_⟩))
    subst ex
    refine r_rng1 q1 q2 ⟨fun q => absurd q (by decide), fun _ => b_saveM hV.1 (fun hi1 hY x5 e5 f6 e6 => ?_)⟩
    rw [h3] at e5
    subst e5 e6
    exact e_ok (hrec.go ⟨⟨S, D, J, T, r, md, m, Ls, by omega, H.cong (fun i h _ _ => un h), hR.cong (fun i _ _ => un (by omega)), ⟨rfl, rfl, rfl, rfl, rfl, rfl, rfl, rfl, hc⟩, ⟨us, hm0, hm⟩, by rw [un (by omega)]; exact h8, fun d hd => by rw [un (by omega)]; exact hP d hd, hN⟩, c1 c + 1, rfl, rfl, hSV hX hY⟩)
theorem b_c5 (h : INV M cur sav cnt ST now rnd jm rp sc dc cn sUp sLen sWrk sReg sFst sLst dPol dPtr dCnt dIdl dKnw jCnt jFin jBeg jWs jMis jSrv jLft jSub jWai jNxt cnd nw hi sv) (hrec : HREC (M + 500) (nI i) rec23) (hM : M + 500 < 2 ^ 30) (hi2 : i + 2 < L) (hL : L ≤ 1536) : wp_L_c5 cur L xs (nI i) sav cnt ST now rnd jm rp sc dc cn sUp sLen sWrk sReg sFst sLst dPol dPtr dCnt dIdl dKnw jCnt jFin jBeg jWs jMis jSrv jLft jSub jWai jNxt cnd nw hi sv cd ha ov rec23 := by
  obtain ⟨hA, c, rfl, rfl, hV⟩ := id h
  obtain ⟨S, D, J, T, r, md, pd, Ls, hTM, H, hR, ⟨rfl, rfl, rfl, rfl, rfl, rfl, rfl, rfl, hc⟩, ⟨h3, hp1, hp2⟩, h8, hP, hN⟩ := id hA
  obtain ⟨hI, hQ, hJb, hW, ⟨h0, hr⟩, h7, ⟨h6, hJ⟩, ⟨h5, hD⟩, ⟨h4, hS⟩, ⟨h2, hmd⟩, ⟨h1, hT⟩, hU⟩ := id H
  have hG := h.mono (Nat.le_add_right M 500)
  have hSV : ∀ {sav1 : Nat → Nat} {ST1 : Nat → TT} {hi1 : Nat → Int32} {t0 : TT}, PSX M nw cur t0 sav c ST sav1 ST1 → PSM nw hi c hi1 → SV (M + 500) cur sav1 (c1 c + 1) ST1 hi1 := fun a b => (hV.save a b).mono (Nat.le_add_right M 500)
  have hB0 : RB M (nI T, lN r, nI md, nI pd, nI S, nI D, nI (ups sUp S).length, sUp, sLen, sWrk, sReg, sFst, sLst, dPol, dPtr, dCnt, dIdl, dKnw, nI J, jFin, jBeg, jWs, jMis, jSrv, jLft, jSub, jWai, jNxt, cnd) nw := hA
  have e1 : vp_in (nI i + 1) L := by rw [nI_1]; exact vp_in_nI (by omega) (by omega)
  refine ⟨hV.2.1.1, e1, ?_⟩
  generalize xs (nI i + 1).toNatClampNeg = v
  unfold wp_L_setRandom
  rcases rng_split v 0 999999 with q | ⟨q1, q2⟩
  · exact x_rng0 q ⟨rfl, r_rng0 q ⟨fun _ => e_th (by decide) (hrec.go hG), fun q => absurd rfl q⟩⟩
  · obtain ⟨m, -, hm, rfl⟩ := rng_nat (x := 0) (y := 999999) (by decide) (by decide) q1 q2
    refine x_rng1 q1 q2 (b_saveX hV hB0 (fun sav1 ST1 hX => ⟨hX.2.1, fun x5 e5 x ex => ?_⟩))
    rw [nI_l (by omega)] at e5
    subst e5 ex
    refine r_rng1 q1 q2 ⟨fun q => absurd q (by decide), fun _ => b_saveM hV.1 (fun hi1 hY f6 e6 => ?_)⟩
    subst e6
    exact e_ok (hrec.go ⟨⟨S, D, J, T, m, md, pd, Ls, by omega, H.rnd us (by omega) (fun i hi _ => un hi), hR.cong (fun i _ _ => un (by omega)), ⟨rfl, rfl, rfl, rfl, rfl, rfl, rfl, rfl, hc⟩, ⟨by rw [un (by omega)]; exact h3, hp1, hp2⟩, by rw [un (by omega)]; exact h8, fun d hd => by rw [un (by omega)]; exact hP d hd, hN⟩, c1 c + 1, rfl, rfl, hSV hX hY⟩)
theorem b_c2 (h : INV M cur sav cnt ST now rnd jm rp sc dc cn sUp sLen sWrk sReg sFst sLst dPol dPtr dCnt dIdl dKnw jCnt jFin jBeg jWs jMis jSrv jLft jSub jWai jNxt cnd nw hi sv) (hrec : HREC (M + 500) (nI i) rec23) (hM : M + 500 < 2 ^ 30) (hi2 : i + 2 < L) (hL : L ≤ 1536) : wp_L_c2 cur L xs (nI i) sav cnt ST now rnd jm rp sc dc cn sUp sLen sWrk sReg sFst sLst dPol dPtr dCnt dIdl dKnw jCnt jFin jBeg jWs jMis jSrv jLft jSub jWai jNxt cnd nw hi sv cd ha ov rec23 := by
  obtain ⟨hA, c, rfl, rfl, hV⟩ := id h
  obtain ⟨S, D, J, T, r, md, pd, Ls, hTM, H, hR, ⟨rfl, rfl, rfl, rfl, rfl, rfl, rfl, rfl, hc⟩, ⟨h3, hp1, hp2⟩, h8, hP, hN⟩ := id hA
  obtain ⟨hI, hQ, hJb, hW, ⟨h0, hr⟩, h7, ⟨h6, hJ⟩, ⟨h5, hD⟩, ⟨h4, hS⟩, ⟨h2, hmd⟩, ⟨h1, hT⟩, hU⟩ := id H
  have hG := h.mono (Nat.le_add_right M 500)
  have hSV : ∀ {sav1 : Nat → Nat} {ST1 : Nat → TT} {hi1 : Nat → Int32} {t0 : TT}, PSX M nw cur t0 sav c ST sav1 ST1 → PSM nw hi c hi1 → SV (M + 500) cur sav1 (c1 c + 1) ST1 hi1 := fun a b => (hV.save a b).mono (Nat.le_add_right M 500)
  have hB0 : RB M (nI T, lN r, nI md, nI pd, nI S, nI D, nI (ups sUp S).length, sUp, sLen, sWrk, sReg, sFst, sLst, dPol, dPtr, dCnt, dIdl, dKnw, nI J, jFin, jBeg, jWs, jMis, jSrv, jLft, jSub, jWai, jNxt, cnd) nw := hA
  have e1 : vp_in (nI i + 1) L := by rw [nI_1]; exact vp_in_nI (by omega) (by omega)
  have e2 : vp_in (nI i + 2) L := by rw [show (2 : Int32) = nI 2 from rfl, nI_add]; exact vp_in_nI (by omega) (by omega)
  refine ⟨hV.2.1.1, e1, e2, ?_⟩
  generalize xs (nI i + 1).toNatClampNeg = v
  generalize xs (nI i + 2).toNatClampNeg = v2
  unfold wp_L_setPolicy
  rcases pk_ix v (n := D) (by omega) with q | q | ⟨d, hd, rfl⟩
  · exact x_dsp0 (Or.inl q) ⟨rfl, r_dsp0 h5 (by omega) (Or.inl q) ⟨fun _ => e_th (by decide) (hrec.go hG), fun q => absurd rfl q⟩⟩
  · exact x_dsp0 (Or.inr q) ⟨rfl, r_dsp0 h5 (by omega) (Or.inr q) ⟨fun _ => e_th (by decide) (hrec.go hG), fun q => absurd rfl q⟩⟩
  · rcases rng_split v2 0 4 with q | ⟨q1, q2⟩
    · exact x_dsp1 (by omega) hd (x_rng0 q ⟨rfl, r_dsp1 h5 (by omega) hd ⟨fun q => absurd q (by decide), fun _ => r_rng0 q ⟨fun _ => e_th (by decide) (hrec.go hG), fun q => absurd rfl q⟩⟩⟩)
    · obtain ⟨m, -, hm, rfl⟩ := rng_nat (x := 0) (y := 4) (by decide) (by decide) q1 q2
      refine x_dsp1 (by omega) hd (x_rng1 q1 q2 (b_saveX hV hB0 (fun sav1 ST1 hX => ⟨hX.2.1, vp_in_nI (by omega) (by decide), fun x6 e6 f7 e7 x ex => ?_⟩)))
      obtain ⟨p, hp, p1, p2⟩ := hP d (by omega)
      rw [nI_clamp (by omega)] at e6 e7
      rw [p1] at e6
      subst e6 ex e7
      refine r_dsp1 h5 (by omega) hd ⟨fun q => absurd q (by decide), fun _ => r_rng1 q1 q2 ⟨fun q => absurd q (by decide), fun _ => b_saveM hV.1 (fun hi1 hY => ⟨i17 (by omega), fun x10 e10 f11 e11 => ?_⟩)⟩⟩
      rw [q17 (by omega), p2] at e10
      rw [q17 (by omega)] at e11
      subst e10 e11
      have hP2 : ∀ d1, d1 < 4 → ∃ p, p ≤ 4 ∧ upd dPol d (nI m) d1 = nI p ∧ upd nw (17 + d) (nI m) (17 + d1) = nI p := fun d1 hd1 => by
        by_cases e : d1 = d
        · subst e
          rw [us, us]
          exact ⟨m, hm, rfl, rfl⟩
        · rw [un e, un (by omega)]
          exact hP d1 hd1
      exact e_ok (hrec.go ⟨⟨S, D, J, T, r, md, pd, Ls, by omega, H.cong (fun i _ _ _ => un (by omega)), hR.cong (fun i _ _ => un (by omega)), ⟨rfl, rfl, rfl, rfl, rfl, rfl, rfl, rfl, hc⟩, ⟨by rw [un (by omega)]; exact h3, hp1, hp2⟩, by rw [un (by omega)]; exact h8, hP2, hN⟩, c1 c + 1, rfl, rfl, hSV hX hY⟩)
theorem b_c1 (h : INV M cur sav cnt ST now rnd jm rp sc dc cn sUp sLen sWrk sReg sFst sLst dPol dPtr dCnt dIdl dKnw jCnt jFin jBeg jWs jMis jSrv jLft jSub jWai jNxt cnd nw hi sv) (hrec : HREC (M + 500) (nI i) rec23) (hM : M + 500 < 2 ^ 30) (hi2 : i + 2 < L) (hL : L ≤ 1536) : wp_L_c1 cur L xs (nI i) sav cnt ST now rnd jm rp sc dc cn sUp sLen sWrk sReg sFst sLst dPol dPtr dCnt dIdl dKnw jCnt jFin jBeg jWs jMis jSrv jLft jSub jWai jNxt cnd nw hi sv cd ha ov rec23 := by
  obtain ⟨hA, c, rfl, rfl, hV⟩ := id h
  obtain ⟨S, D, J, T, r, md, pd, Ls, hTM, H, hR, ⟨rfl, rfl, rfl, rfl, rfl, rfl, rfl, rfl, hc⟩, ⟨h3, hp1, hp2⟩, h8, hP, hN⟩ := id hA
  obtain ⟨hI, hQ, hJb, hW, ⟨h0, hr⟩, h7, ⟨h6, hJ⟩, ⟨h5, hD⟩, ⟨h4, hS⟩, ⟨h2, hmd⟩, ⟨h1, hT⟩, hU⟩ := id H
  have hG := h.mono (Nat.le_add_right M 500)
  have hSV : ∀ {sav1 : Nat → Nat} {ST1 : Nat → TT} {hi1 : Nat → Int32} {t0 : TT}, PSX M nw cur t0 sav c ST sav1 ST1 → PSM nw hi c hi1 → SV (M + 500) cur sav1 (c1 c + 1) ST1 hi1 := fun a b => (hV.save a b).mono (Nat.le_add_right M 500)
  have hB0 : RB M (nI T, lN r, nI md, nI pd, nI S, nI D, nI (ups sUp S).length, sUp, sLen, sWrk, sReg, sFst, sLst, dPol, dPtr, dCnt, dIdl, dKnw, nI J, jFin, jBeg, jWs, jMis, jSrv, jLft, jSub, jWai, jNxt, cnd) nw := hA
  have e1 : vp_in (nI i + 1) L := by rw [nI_1]; exact vp_in_nI (by omega) (by omega)
  refine ⟨hV.2.1.1, e1, ?_⟩
  generalize xs (nI i + 1).toNatClampNeg = v
  unfold wp_L_addDispatcher
  rcases rng_split v 0 4 with q | ⟨q1, q2⟩
  · exact x_rng0 q (Or.inl ⟨rfl, r_rng0 q ⟨fun _ => e_th (by decide) (hrec.go hG), fun q => absurd rfl q⟩⟩)
  · obtain ⟨m, -, hm, rfl⟩ := rng_nat (x := 0) (y := 4) (by decide) (by decide) q1 q2
    by_cases hD4 : D = 4
    · have hz : nI D = 4 := by rw [hD4]; rfl
      exact x_rng1 q1 q2 ⟨fun q => absurd q (by rw [hz]; decide), fun _ => Or.inr ⟨rfl, r_rng1 q1 q2 ⟨fun q => absurd q (by decide), fun _ => ⟨fun _ => e_th (by decide) (hrec.go hG), fun q => absurd (h5.trans hz) q⟩⟩⟩⟩
    · have hz : ¬ nw 5 = 4 := fun q => hD4 ((nI_eq (b := 4) (by omega) (by decide)).mp (h5.symm.trans q))
      refine x_rng1 q1 q2 ⟨fun _ => b_saveX hV hB0 (fun sav1 ST1 hX => ⟨hX.2.1, fun x1 ex1 => ⟨vp_in_nI (by omega) (by decide), fun f3 e3 x ex => ?_⟩⟩), fun q => absurd (nI_lt (b := 4) (by omega) (by decide)) q⟩
      rw [nI_1] at ex1
      rw [nI_clamp (by omega)] at e3
      subst ex1 e3 ex
      refine r_rng1 q1 q2 ⟨fun q => absurd q (by decide), fun _ => ⟨fun q => absurd q hz, fun _ => b_saveM hV.1 (fun hi1 hY x6 e6 => ?_)⟩⟩
      rw [h5] at e6
      subst e6
      refine ⟨i17 (by omega), fun f8 e8 f9 e9 => ?_⟩
      rw [q17 (by omega)] at e8
      rw [e8, un (by omega), h5, nI_1] at e9
      subst e9
      have hP2 : ∀ d1, d1 < 4 → ∃ p, p ≤ 4 ∧ upd dPol D (nI m) d1 = nI p ∧ upd (upd nw (17 + D) (nI m)) 5 (nI (D + 1)) (17 + d1) = nI p := fun d1 hd1 => by
        rw [un (j := 17 + d1) (k := 5) (by omega)]
        by_cases e : d1 = D
        · subst e
          rw [us, us]
          exact ⟨m, hm, rfl, rfl⟩
        · rw [un e, un (by omega)]
          exact hP d1 hd1
      have U2 : ∀ i, i ≠ 5 → i ≠ 17 + D → upd (upd nw (17 + D) (nI m)) 5 (nI (D + 1)) i = nw i := fun i a b => by rw [un a, un b]
      exact e_ok (hrec.go ⟨⟨S, D + 1, J, T, r, md, pd, Ls, by omega, H.dsp (by omega) us (fun i hi _ => U2 i hi (by omega)), hR.cong (fun i _ _ => U2 i (by omega) (by omega)), ⟨rfl, rfl, rfl, rfl, rfl, rfl, rfl, rfl, hc⟩, ⟨(U2 3 (by omega) (by omega)).trans h3, hp1, hp2⟩, (U2 8 (by omega) (by omega)).trans h8, hP2, hN⟩, c1 c + 1, rfl, rfl, hSV hX hY⟩)
theorem b_c0 (h : INV M cur sav cnt ST now rnd jm rp sc dc cn sUp sLen sWrk sReg sFst sLst dPol dPtr dCnt dIdl dKnw jCnt jFin jBeg jWs jMis jSrv jLft jSub jWai jNxt cnd nw hi sv) (hrec : HREC (M + 500) (nI i) rec23) (hM : M + 500 < 2 ^ 30) (hi2 : i + 2 < L) (hL : L ≤ 1536) : wp_L_c0 cur (nI i) sav cnt ST now rnd jm rp sc dc cn sUp sLen sWrk sReg sFst sLst dPol dPtr dCnt dIdl dKnw jCnt jFin jBeg jWs jMis jSrv jLft jSub jWai jNxt cnd nw hi sv cd ha ov rec23 := by
  obtain ⟨hA, c, rfl, rfl, hV⟩ := id h
  obtain ⟨S, D, J, T, r, md, pd, Ls, hTM, H, hR, ⟨rfl, rfl, rfl, rfl, rfl, rfl, rfl, rfl, hc⟩, ⟨h3, hp1, hp2⟩, h8, hP, hN⟩ := id hA
  obtain ⟨hI, hQ, hJb, hW, ⟨h0, hr⟩, h7, ⟨h6, hJ⟩, ⟨h5, hD⟩, ⟨h4, hS⟩, ⟨h2, hmd⟩, ⟨h1, hT⟩, hU⟩ := id H
  have hG := h.mono (Nat.le_add_right M 500)
  have hSV : ∀ {sav1 : Nat → Nat} {ST1 : Nat → TT} {hi1 : Nat → Int32} {t0 : TT}, PSX M nw cur t0 sav c ST sav1 ST1 → PSM nw hi c hi1 → SV (M + 500) cur sav1 (c1 c + 1) ST1 hi1 := fun a b => (hV.save a b).mono (Nat.le_add_right M 500)
  have hB0 : RB M (nI T, lN r, nI md, nI pd, nI S, nI D, nI (ups sUp S).length, sUp, sLen, sWrk, sReg, sFst, sLst, dPol, dPtr, dCnt, dIdl, dKnw, nI J, jFin, jBeg, jWs, jMis, jSrv, jLft, jSub, jWai, jNxt, cnd) nw := hA
  refine ⟨hV.2.1.1, ?_⟩
  unfold wp_L_addServer
  by_cases hS8 : S = 8
  · have hz : nI S = 8 := by rw [hS8]; rfl
    exact ⟨fun q => absurd q (by rw [hz]; decide), fun _ => ⟨rfl, fun _ => e_th (by decide) (hrec.go hG), fun q => absurd (h4.trans hz) q⟩⟩
  · have hz : ¬ nw 4 = 8 := fun q => hS8 ((nI_eq (b := 8) (by omega) (by decide)).mp (h4.symm.trans q))
    have hS7 : S < 8 := by omega
    obtain ⟨n1, n2, n3, n4, n5, n6⟩ := hN.1 S (Nat.le_refl _) hS7
    -- the reference's state before it registers the server
    have U4 : ∀ f : Nat → Int32, (∀ d, d < 4 → f (25 + 8 * d + S) = 0) → (∀ i, (∀ d, d < 4 → i ≠ 25 + 8 * d + S) → f i = upd (upd nw 4 (nI (S + 1))) (9 + S) 1 i) → ∀ i, i ≠ 4 → i ≠ 9 + S → (∀ d, d < 4 → i ≠ 25 + 8 * d + S) → f i = nw i := fun f _ g i a b e => by rw [g i e, un b, un a]
    have nwS : ∃ f : Nat → Int32, (∀ d, d < 4 → f (25 + 8 * d + S) = 0) ∧ (∀ i, (∀ d, d < 4 → i ≠ 25 + 8 * d + S) → f i = upd (upd nw 4 (nI (S + 1))) (9 + S) 1 i) ∧ (∀ (k : Int32 → (Nat → Int32) → (Nat → Int32) → Int32 → Int32 → Prop) (hi1 : Nat → Int32) (sv1 : Int32), wp_X5_register f (nI S) (fun nw_11 => k (nI S) nw_11 hi1 sv1 0) → ∃ fu, wp_X5_addServer_L55 (nI S) k hi1 sv1 fu 0 (upd (upd nw 4 (nI (S + 1))) (9 + S) 1)) := by
      refine ⟨upd (upd (upd (upd (upd (upd nw 4 (nI (S + 1))) (9 + S) 1) (25 + 8 * 0 + S) 0) (25 + 8 * 1 + S) 0) (25 + 8 * 2 + S) 0) (25 + 8 * 3 + S) 0, fun d hd => ?_, fun i hi => ?_, fun k hi1 sv1 hk => ⟨5, ?_⟩⟩
      · rcases (show d = 0 ∨ d = 1 ∨ d = 2 ∨ d = 3 by omega) with rfl | rfl | rfl | rfl
        · rw [un (by omega), un (by omega), un (by omega), us]
        · rw [un (by omega), un (by omega), us]
        · rw [un (by omega), us]
        · rw [us]
      · rw [un (hi 3 (by omega)), un (hi 2 (by omega)), un (hi 1 (by omega)), un (hi 0 (by omega))]
      · have step : ∀ (n d : Nat) (f : Nat → Int32), d < 4 → wp_X5_addServer_L55 (nI S) k hi1 sv1 n (nI (d + 1)) (upd f (25 + 8 * d + S) 0) → wp_X5_addServer_L55 (nI S) k hi1 sv1 (n + 1) (nI d) f := fun n d f hd hk => by
          refine ⟨fun q => absurd q (nI_ge (b := 4) hd (by decide)), fun _ => ⟨i25 (by omega), fun f13 e13 x14 e14 => ?_⟩⟩
          rw [q25 (by omega)] at e13
          rw [nI_1] at e14
          subst e13 e14
          exact hk
        refine step 4 0 _ (by omega) (step 3 1 _ (by omega) (step 2 2 _ (by omega) (step 1 3 _ (by omega) ?_)))
        exact ⟨fun _ => hk, fun q => absurd (by decide) q⟩
    obtain ⟨f, f1, f2, f3⟩ := nwS
    have U5 := U4 f f1 f2
    have g4 : f 4 = nI (S + 1) := by rw [f2 4 (fun d _ => by omega), un (by omega), us]
    have g9 : f (9 + S) = 1 := by rw [f2 _ (fun d _ => by omega), us]
    have H1 := H.srv (nw1 := f) hS7 ⟨n1, n2, n3, n4, n5, n6⟩ hN.2 g4 g9 (fun i a b e => U5 i a b (fun d hd => by omega))
    obtain ⟨r1, nw1, sReg1, dCnt1, dIdl1, Ls1, k1, k2, k3, k4, k5⟩ := H1.reg (s := S) (by omega) n4 n1 n2
    have U6 : ∀ i, i ≠ 0 → i ≠ 4 → i ≠ 9 + S → i < 25 → nw1 i = nw i := fun i a b e g => by rw [k2 i a (by omega), U5 i b e (fun d hd => by omega)]
    refine ⟨fun _ => b_saveX hV hB0 (fun sav1 ST1 hX => ⟨hX.2.1, fun x1 ex1 => ?_⟩), fun q => absurd (nI_lt (b := 8) hS7 (by decide)) q⟩
    rw [nI_1] at ex1
    subst ex1
    refine b_collect (by omega) (fun cnd1 hc1 => k4 _ (fun x ex => ?_))
    subst ex
    refine ⟨fun q => absurd q hz, fun _ => b_saveM hV.1 (fun hi1 hY x4 e4 f5 e5 => ?_)⟩
    rw [h4] at e4
    rw [h4, nI_1] at e5
    subst e4 e5
    refine ⟨i9 (by omega), fun f7 e7 => ?_⟩
    rw [q9 (by omega)] at e7
    subst e7
    refine f3 _ _ _ (k5 _ ?_)
    have hR2 : RK nw1 dPtr dKnw (S + 1) := by
      refine ⟨fun d hd => ?_, fun d s hd hs => ?_⟩
      · rw [k2 _ (by omega) (by omega), U5 _ (by omega) (by omega) (fun d hd => by omega)]
        exact hR.1 d hd
      · rw [k2 _ (by omega) (by omega)]
        by_cases e : s = S
        · subst e
          rw [f1 d hd, (hR.2 d s hd hs).2 (Nat.le_refl _)]
          exact ⟨fun _ => rfl, fun _ => rfl⟩
        · rw [U5 _ (by omega) (by omega) (fun d1 hd1 => by omega)]
          exact ⟨fun q => (hR.2 d s hd hs).1 (by omega), fun q => (hR.2 d s hd hs).2 (by omega)⟩
    exact e_ok (hrec.go ⟨⟨S + 1, D, J, T, r1, md, pd, Ls1, by omega, k1, hR2, ⟨rfl, rfl, rfl, rfl, rfl, rfl, rfl, rfl, hc1⟩, ⟨(U6 3 (by omega) (by omega) (by omega) (by omega)).trans h3, hp1, hp2⟩, (U6 8 (by omega) (by omega) (by omega) (by omega)).trans h8, fun d hd => by rw [U6 _ (by omega) (by omega) (by omega) (by omega)]; exact hP d hd, ⟨fun s hs hs8 => by rw [k3 s (by omega)]; exact hN.1 s (by omega) hs8, fun j hj => by obtain ⟨x, hx, ex⟩ := hN.2 j hj; exact ⟨x, by omega, ex⟩⟩⟩, c1 c + 1, rfl, rfl, hSV hX hY⟩)
theorem b_c8 (h : INV M cur sav cnt ST now rnd jm rp sc dc cn sUp sLen sWrk sReg sFst sLst dPol dPtr dCnt dIdl dKnw jCnt jFin jBeg jWs jMis jSrv jLft jSub jWai jNxt cnd nw hi sv) (hrec : HREC (M + 500) (nI i) rec23) (hM : M + 500 < 2 ^ 30) (hi2 : i + 2 < L) (hL : L ≤ 1536) : wp_L_c8 cur L xs (nI i) sav cnt ST now rnd jm rp sc dc cn sUp sLen sWrk sReg sFst sLst dPol dPtr dCnt dIdl dKnw jCnt jFin jBeg jWs jMis jSrv jLft jSub jWai jNxt cnd nw hi sv cd ha ov rec23 := by
  obtain ⟨hA, c, rfl, rfl, hV⟩ := id h
  obtain ⟨S, D, J, T, r, md, pd, Ls, hTM, H, hR, ⟨rfl, rfl, rfl, rfl, rfl, rfl, rfl, rfl, hc⟩, ⟨h3, hp1, hp2⟩, h8, hP, hN⟩ := id hA
  obtain ⟨hI, hQ, hJb, hW, ⟨h0, hr⟩, h7, ⟨h6, hJ⟩, ⟨h5, hD⟩, ⟨h4, hS⟩, ⟨h2, hmd⟩, ⟨h1, hT⟩, hU⟩ := id H
  have hG := h.mono (Nat.le_add_right M 500)
  have hSV : ∀ {sav1 : Nat → Nat} {ST1 : Nat → TT} {hi1 : Nat → Int32} {t0 : TT}, PSX M nw cur t0 sav c ST sav1 ST1 → PSM nw hi c hi1 → SV (M + 500) cur sav1 (c1 c + 1) ST1 hi1 := fun a b => (hV.save a b).mono (Nat.le_add_right M 500)
  have hB0 : RB M (nI T, lN r, nI md, nI pd, nI S, nI D, nI (ups sUp S).length, sUp, sLen, sWrk, sReg, sFst, sLst, dPol, dPtr, dCnt, dIdl, dKnw, nI J, jFin, jBeg, jWs, jMis, jSrv, jLft, jSub, jWai, jNxt, cnd) nw := hA
  have e1 : vp_in (nI i + 1) L := by rw [nI_1]; exact vp_in_nI (by omega) (by omega)
  refine ⟨hV.2.1.1, e1, ?_⟩
  generalize xs (nI i + 1).toNatClampNeg = v
  unfold wp_L_tick
  rcases rng_split v 0 500 with q | ⟨q1, q2⟩
  · exact x_rng0 q ⟨rfl, r_rng0 q ⟨fun _ => e_th (by decide) (hrec.go hG), fun q => absurd rfl q⟩⟩
  · obtain ⟨m, -, hm, rfl⟩ := rng_nat (x := 0) (y := 500) (by decide) (by decide) q1 q2
    obtain ⟨r1, nw1, sLen1, sWrk1, sReg1, sFst1, sLst1, dCnt1, dIdl1, dKnw1, jFin1, jBeg1, jWs1, jLft1, jWai1, Ls1, k1, k2, k3, k4, k5, k6⟩ := b_ticks hp1 hp2 hm m 0 T r _ _ _ _ _ _ _ _ _ _ _ _ _ _ _ (by omega) H hR h3 (by omega)
    refine x_rng1 q1 q2 (b_saveX hV hB0 (fun sav1 ST1 hX => ⟨hX.2.1, m + 1, k5 _ _ _ _ _ (fun x ex => ?_)⟩))
    subst ex
    refine r_rng1 q1 q2 ⟨fun q => absurd q (by decide), fun _ => b_saveM hV.1 (fun hi1 hY x5 e5 => ⟨m + 1, ?_⟩)⟩
    rw [h7] at e5
    subst e5
    refine k6 _ _ _ _ ?_
    exact e_ok (hrec.go ⟨⟨S, D, J, T + m, r1, md, pd, Ls1, by omega, k1, k2, ⟨rfl, rfl, rfl, rfl, rfl, rfl, rfl, rfl, hc⟩, ⟨(k3 3 (by omega)).trans h3, hp1, hp2⟩, (k3 8 (by omega)).trans h8, fun d hd => by rw [k3 _ (by omega)]; exact hP d hd, ⟨fun s hs hs8 => by obtain ⟨u1, u2, u3, u4, u5⟩ := k4 s hs; rw [u1, u2, u3, u4, u5]; exact hN.1 s hs hs8, hN.2⟩⟩, c1 c + 1, rfl, rfl, hSV hX hY⟩)
theorem b_c23 (h : INV M cur sav cnt ST now rnd jm rp sc dc cn sUp sLen sWrk sReg sFst sLst dPol dPtr dCnt dIdl dKnw jCnt jFin jBeg jWs jMis jSrv jLft jSub jWai jNxt cnd nw hi sv) (hrec : HREC (M + 500) (nI i) rec23) (hM : M + 500 < 2 ^ 30) (hi2 : i + 2 < L) (hL : L ≤ 1536) : wp_L_c23 cur (nI i) sav cnt ST now rnd jm rp sc dc cn sUp sLen sWrk sReg sFst sLst dPol dPtr dCnt dIdl dKnw jCnt jFin jBeg jWs jMis jSrv jLft jSub jWai jNxt cnd nw hi sv cd ha ov rec23 := by
  obtain ⟨hA, c, rfl, rfl, hV⟩ := id h
  obtain ⟨S, D, J, T, r, md, pd, Ls, hTM, H, hR, ⟨rfl, rfl, rfl, rfl, rfl, rfl, rfl, rfl, hc⟩, ⟨h3, hp1, hp2⟩, h8, hP, hN⟩ := id hA
  obtain ⟨hI, hQ, hJb, hW, ⟨h0, hr⟩, h7, ⟨h6, hJ⟩, ⟨h5, hD⟩, ⟨h4, hS⟩, ⟨h2, hmd⟩, ⟨h1, hT⟩, hU⟩ := id H
  have hG := h.mono (Nat.le_add_right M 500)
  refine ⟨hV.2.1.1, ?_⟩
  unfold wp_L_undo
  obtain ⟨hc3, hpr, hsv⟩ := hV
  cases c with
  | zero => exact ⟨fun q => absurd q (by decide), fun _ => ⟨rfl, fun _ => e_th (by decide) (hrec.go hG), fun q => absurd rfl q⟩⟩
  | succ c =>
    refine ⟨fun _ x2 e2 => ?_, fun q => absurd (nI_lt (a := 0) (by omega) (by omega)) q⟩
    rw [nI_pred] at e2
    subst e2
    refine ⟨vp_in_nI (by omega) (by decide), hpr.1, fun sav5 e5 => ?_⟩
    rw [nI_clamp (by omega)] at e5
    rw [nI_clamp (by omega)]
    have g0 := hpr.at (k := c) (by omega)
    intro ST5 eST now1 e_now1 rnd1 e_rnd1 jm1 e_jm1 rp1 e_rp1 sc1 e_sc1 dc1 e_dc1 cn1 e_cn1 sUp1 e_sUp1 sLen1 e_sLen1 sWrk1 e_sWrk1 sReg1 e_sReg1 sFst1 e_sFst1 sLst1 e_sLst1 dPol1 e_dPol1 dPtr1 e_dPtr1 dCnt1 e_dCnt1 dIdl1 e_dIdl1 dKnw1 e_dKnw1 jCnt1 e_jCnt1 jFin1 e_jFin1 jBeg1 e_jBeg1 jWs1 e_jWs1 jMis1 e_jMis1 jSrv1 e_jSrv1 jLft1 e_jLft1 jSub1 e_jSub1 jWai1 e_jWai1 jNxt1 e_jNxt1 cnd1 e_cnd1 x35 e35
    have hB : RB M (ST5 (sav c)) (fun i => hi (893 * c + i)) := by
      rw [eST, vn g0.2]
      exact hsv c (by omega)
    subst e35
    refine b_undo5 (by omega) (fun nw1 hn => ?_)
    have hB2 : RB (M + 500) (ST5 (sav c)) nw1 := (hB.nwc hn).mono (Nat.le_add_right M 500)
    have hV2 : SV (M + 500) (sav c) sav5 c ST5 hi := by
      refine ⟨by omega, ?_, fun k hk => ?_⟩
      · have hs5 : ∀ k, k < 3 → sav5 k < 4 ∧ sav5 k ≠ sav c := fun k hk => by
          rw [e5]
          by_cases e : k = c
          · subst e
            rw [vs]
            exact ⟨hpr.1, fun z => g0.2 z.symm⟩
          · rw [vn e]
            exact ⟨(hpr.at hk).1, hpr.ne hk (by omega) e⟩
        have hne : ∀ k j, k < 3 → j < 3 → k ≠ j → sav5 k ≠ sav5 j := fun k j hk hj hkj => by
          rw [e5]
          by_cases e : k = c
          · subst e
            rw [vs, vn (fun z => hkj z.symm)]
            exact fun z => (hpr.at hj).2 z.symm
          · rw [vn e]
            by_cases e2 : j = c
            · subst e2
              rw [vs]
              exact (hpr.at hk).2
            · rw [vn e2]
              exact hpr.ne hk hj hkj
        exact ⟨g0.1, hs5 0 (by omega), hs5 1 (by omega), hs5 2 (by omega), hne 0 1 (by omega) (by omega) (by omega), hne 0 2 (by omega) (by omega) (by omega), hne 1 2 (by omega) (by omega) (by omega)⟩
      · have hk9 := hpr.at (k := k) (by omega)
        rw [e5, vn (by omega), eST, vn hk9.2]
        exact (hsv k (by omega)).mono (Nat.le_add_right M 500)
    subst e_now1 e_rnd1 e_jm1 e_rp1 e_sc1 e_dc1 e_cn1 e_sUp1 e_sLen1 e_sWrk1 e_sReg1 e_sFst1 e_sLst1 e_dPol1 e_dPtr1 e_dCnt1 e_dIdl1 e_dKnw1 e_jCnt1 e_jFin1 e_jBeg1 e_jWs1 e_jMis1 e_jSrv1 e_jLft1 e_jSub1 e_jWai1 e_jNxt1 e_cnd1
    exact e_ok (hrec.go ⟨hB2, c, rfl, rfl, hV2⟩)
end WRC
