/-! The cases submit and setUp of the law. -/
section SBC
variable {M L i : Nat} {xs : Nat → Int32} {cur : Nat} {sav : Nat → Nat} {cnt : Int32} {ST : Nat → TT} {now : Int32} {rnd : Int64} {jm : Int32} {rp : Int32} {sc : Int32} {dc : Int32} {cn : Int32} {sUp : Nat → Int32} {sLen : Nat → Int32} {sWrk : Nat → Int32} {sReg : Nat → Int32} {sFst : Nat → Int32} {sLst : Nat → Int32} {dPol : Nat → Int32} {dPtr : Nat → Int32} {dCnt : Nat → Int32} {dIdl : Nat → Nat → Int32} {dKnw : Nat → Nat → Int32} {jCnt : Int32} {jFin : Int32} {jBeg : Int32} {jWs : Int32} {jMis : Int32} {jSrv : Nat → Int32} {jLft : Nat → Int32} {jSub : Nat → Int32} {jWai : Nat → Int32} {jNxt : Nat → Int32} {cnd : Nat → Int32} {nw hi : Nat → Int32} {sv : Int32} {cd : Nat → Int32} {ha ov : Int64} {rec23 : Int32 → Nat → (Nat → Nat) → Int32 → (Nat → TT) → Int32 → Int64 → Int32 → Int32 → Int32 → Int32 → Int32 → (Nat → Int32) → (Nat → Int32) → (Nat → Int32) → (Nat → Int32) → (Nat → Int32) → (Nat → Int32) → (Nat → Int32) → (Nat → Int32) → (Nat → Int32) → (Nat → Nat → Int32) → (Nat → Nat → Int32) → Int32 → Int32 → Int32 → Int32 → Int32 → (Nat → Int32) → (Nat → Int32) → (Nat → Int32) → (Nat → Int32) → (Nat → Int32) → (Nat → Int32) → (Nat → Int32) → (Nat → Int32) → Int32 → Int32 → (Nat → Int32) → Int64 → Int64 → Prop}
theorem b_subM {S D d z c x : Nat} {PM : (Nat → Int32) → Prop} (h5 : nw 5 = nI D) (hD : D ≤ 4) (hd : d < D) (q1 : ¬ nI z < 1) (q2 : nI z ≤ 20) (hS : S ≤ 8) (h4 : nw 4 = nI S) (hU : ∀ s, s < S → nw (9 + s) = sUp s ∧ (sUp s = 0 ∨ sUp s = 1)) (hl : ¬ (ups sUp S).length = 0) (hJ6 : ¬ nw 6 = 200) (hcc : c ≤ 3) (dM : ∀ K : Int32 → (Nat → Int32) → Prop, (∀ nw1, PM nw1 → K (nI x) nw1) → wpSub nw (cdF cd sUp S) (nI d) (nI (ups sUp S).length) (nI z) K) {K : Int32 → (Nat → Int32) → (Nat → Int32) → Int32 → Int32 → (Nat → Int32) → Prop} (hk : ∀ hi1 nw1, PSM nw hi c hi1 → PM nw1 → K (nI x) nw1 hi1 (nI (c1 c + 1)) 0 (cdF cd sUp S)) : wp_X5_submit nw hi (nI c) cd (nI d) (nI z) K := by
  have h8l := ups_len (sUp := sUp) S
  exact r_dsp1 h5 (by omega) hd ⟨fun q => absurd q (by decide), fun _ => r_rng1 q1 q2 ⟨fun q => absurd q (by decide), fun _ => b_findF hS h4 hU ⟨fun q => absurd q (nI_ne0 (by omega) (by omega)), fun _ => ⟨fun q => absurd q hJ6, fun _ => b_saveM hcc (fun hi1 hY => dM (fun a b => K a b hi1 (nI (c1 c + 1)) 0 (cdF cd sUp S)) (fun nw1 hPM => hk hi1 nw1 hY hPM))⟩⟩⟩⟩
theorem b_c7 (h : INV M cur sav cnt ST now rnd jm rp sc dc cn sUp sLen sWrk sReg sFst sLst dPol dPtr dCnt dIdl dKnw jCnt jFin jBeg jWs jMis jSrv jLft jSub jWai jNxt cnd nw hi sv) (hrec : HREC (M + 500) (nI i) rec23) (hM : M + 500 < 2 ^ 30) (hi2 : i + 2 < L) (hL : L ≤ 1536) : wp_L_c7 cur L xs (nI i) sav cnt ST now rnd jm rp sc dc cn sUp sLen sWrk sReg sFst sLst dPol dPtr dCnt dIdl dKnw jCnt jFin jBeg jWs jMis jSrv jLft jSub jWai jNxt cnd nw hi sv cd ha ov rec23 := by
  obtain ⟨hA, c, rfl, rfl, hV⟩ := id h
  obtain ⟨S, D, J, T, r, md, pd, Ls, hTM, H, hR, ⟨rfl, rfl, rfl, rfl, rfl, rfl, rfl, rfl, hc⟩, ⟨h3, hp1, hp2⟩, h8, hP, hN⟩ := id hA
  obtain ⟨hI, hQ, hJb, hW, ⟨h0, hr⟩, h7, ⟨h6, hJ⟩, ⟨h5, hD⟩, ⟨h4, hS⟩, ⟨h2, hmd⟩, ⟨h1, hT⟩, hU⟩ := id H
  have hG := h.mono (Nat.le_add_right M 500)
  have hSV : ∀ {sav1 : Nat → Nat} {ST1 : Nat → TT} {hi1 : Nat → Int32} {t0 : TT}, PSX M nw cur t0 sav c ST sav1 ST1 → PSM nw hi c hi1 → SV (M + 500) cur sav1 (c1 c + 1) ST1 hi1 := fun a b => (hV.save a b).mono (Nat.le_add_right M 500)
  have hB0 : RB M (nI T, lN r, nI md, nI pd, nI S, nI D, nI (ups sUp S).length, sUp, sLen, sWrk, sReg, sFst, sLst, dPol, dPtr, dCnt, dIdl, dKnw, nI J, jFin, jBeg, jWs, jMis, jSrv, jLft, jSub, jWai, jNxt, cnd) nw := hA
  have e1 : vp_in (nI i + 1) L := by rw [nI_1]; exact vp_in_nI (by omega) (by omega)
  have e2 : vp_in (nI i + 2) L := by rw [show (2 : Int32) = nI 2 from rfl, nI_add]; exact vp_in_nI (by omega) (by omega)
  refine ⟨hV.2.1.1, e1, e2, ?_⟩
  generalize xs (nI i + 1).toNatClampNeg = v
  generalize xs (nI i + 2).toNatClampNeg = v2
  unfold wp_L_submit
  rcases pk_ix v (n := D) (by omega) with q | q | ⟨d, hd, rfl⟩
  · exact x_dsp0 (Or.inl q) (Or.inl ⟨rfl, r_dsp0 h5 (by omega) (Or.inl q) ⟨fun _ => e_th (by decide) (hrec.go hG), fun q => absurd rfl q⟩⟩)
  · exact x_dsp0 (Or.inr q) (Or.inl ⟨rfl, r_dsp0 h5 (by omega) (Or.inr q) ⟨fun _ => e_th (by decide) (hrec.go hG), fun q => absurd rfl q⟩⟩)
  · rcases rng_split v2 1 20 with q | ⟨q1, q2⟩
    · exact x_dsp1 (by omega) hd (x_rng0 q (Or.inl ⟨rfl, r_dsp1 h5 (by omega) hd ⟨fun q => absurd q (by decide), fun _ => r_rng0 q ⟨fun _ => e_th (by decide) (hrec.go hG), fun q => absurd rfl q⟩⟩⟩))
    · obtain ⟨m, hm1, hm2, rfl⟩ := rng_nat (x := 1) (y := 20) (by decide) (by decide) q1 q2
      have h8l := ups_len (sUp := sUp) S
      by_cases hz : (ups sUp S).length = 0
      · have hz2 : nI (ups sUp S).length = 0 := by rw [hz]; rfl
        exact x_dsp1 (by omega) hd (x_rng1 q1 q2 ⟨fun q => absurd q (by rw [hz2]; decide), fun _ => Or.inr ⟨rfl, r_dsp1 h5 (by omega) hd ⟨fun q => absurd q (by decide), fun _ => r_rng1 q1 q2 ⟨fun q => absurd q (by decide), fun _ => b_findF hS h4 hU ⟨fun _ => e_th (by decide) (hrec.go hG), fun q => absurd hz2 q⟩⟩⟩⟩⟩)
      · have hpos : (0 : Int32) < nI (ups sUp S).length := nI_lt (a := 0) (by omega) (by omega)
        by_cases hJ200 : J = 200
        · have hz2 : nI J = 200 := by rw [hJ200]; rfl
          exact x_dsp1 (by omega) hd (x_rng1 q1 q2 ⟨fun _ => ⟨fun q => absurd q (by rw [hz2]; decide), fun _ => Or.inr ⟨rfl, r_dsp1 h5 (by omega) hd ⟨fun q => absurd q (by decide), fun _ => r_rng1 q1 q2 ⟨fun q => absurd q (by decide), fun _ => b_findF hS h4 hU ⟨fun q => absurd q (nI_ne0 (by omega) (by omega)), fun _ => ⟨fun _ => e_th (by decide) (hrec.go hG), fun q => absurd (h6.trans hz2) q⟩⟩⟩⟩⟩⟩, fun q => absurd hpos q⟩)
        · have hJ6 : ¬ nw 6 = 200 := fun q => hJ200 ((nI_eq (b := 200) (by omega) (by decide)).mp (h6.symm.trans q))
          obtain ⟨p, hp, p1, p2⟩ := hP d (by omega)
          obtain ⟨x, r1, sFst1, dPtr1, dKnw1, jBeg1, jWs1, jMis1, jWai1, jNxt1, PM, hx, f2, fin, dX, dM⟩ := b_disp (cd := cdF cd sUp S) H hR h8 (by omega) hd hm1 hm2 p1 p2 hp (by omega) hc (cdF_ents cd sUp S)
          refine x_dsp1 (by omega) hd (x_rng1 q1 q2 ⟨fun _ => ⟨fun _ => b_saveX hV hB0 (fun sav1 ST1 hX => ⟨hX.2.1, dX _ (fun dCnt1 dIdl1 hPX x24 e24 => ?_)⟩), fun q => absurd (nI_lt (b := 200) (by omega) (by decide)) q⟩, fun q => absurd hpos q⟩)
          subst e24
          refine b_subM h5 hD hd q1 q2 hS h4 hU hz hJ6 hV.1 dM (fun hi1 nw1 hY hPM => ?_)
          obtain ⟨k1, k2, k3, k4⟩ := fin dCnt1 dIdl1 nw1 hPX hPM
          exact e_ok (hrec.go ⟨⟨S, D, J + 1, T, r1, md, pd, lsx Ls x, by omega, k1, k2, ⟨rfl, rfl, rfl, rfl, rfl, rfl, rfl, rfl, hc⟩, ⟨(k4 3 (by omega)).trans h3, hp1, hp2⟩, k3, fun d hd => by rw [k4 _ (by omega)]; exact hP d hd, ⟨fun s hs hs8 => by rw [un (by omega), un (by omega), un (by omega), f2 s (by omega), un (by omega)]; exact hN.1 s hs hs8, fun j hj => by by_cases e : j = J; exact ⟨x, hx, by rw [e, us]⟩; rw [un e]; exact hN.2 j (by omega)⟩⟩, c1 c + 1, rfl, rfl, hSV hX hY⟩)
theorem e_bool {P : Int64 → Prop} {r : Int32} (hr : r = 0 ∨ r = 1) (h : P r.toInt64) : (r = 0 → (∀ x : Int64, x = (0 : Int64) → P x)) ∧ (¬ (r = 0) → (∀ x : Int64, x = (1 : Int64) → P x)) := by
  rcases hr with rfl | rfl
  · exact ⟨fun _ x e => by rw [e]; exact h, fun q => absurd rfl q⟩
  · exact ⟨fun q => absurd q (by decide), fun _ x e => by rw [e]; exact h⟩
theorem b_up0 {S D s c : Nat} {Ls : Nat → List Nat} (hI : RI nw sUp sLen sReg dCnt dIdl S D Ls) (h4 : nw 4 = nI S) (hS : S ≤ 8) (h5 : nw 5 = nI D) (hD : D ≤ 4) (hs : s < S) (hcc : c ≤ 3) (hU : nw (9 + s) = sUp s ∧ (sUp s = 0 ∨ sUp s = 1)) {K : Int32 → (Nat → Int32) → (Nat → Int32) → Int32 → Int32 → Prop} (hk : ∀ hi1 nw1, PSM nw hi c hi1 → (∀ d, d < 4 → nw1 (57 + d) = nI (lsx Ls s d).length ∧ ents (fun k => nw1 (61 + 8 * d + k)) (lsx Ls s d)) → (∀ i, (i < 57 ∨ 93 ≤ i) → nw1 i = upd nw (9 + s) 0 i) → K (sUp s) nw1 hi1 (nI (c1 c + 1)) 0) : wp_X5_setUp nw hi (nI c) (nI s) 0 K := by
  refine r_srv1 h4 (by omega) hs ⟨fun q => absurd q (by decide), fun _ => b_saveM hcc (fun hi1 hY => b_isUp (sUp := sUp) (by omega) hU.1 hU.2 ⟨fun _ => ⟨i9 (by omega), fun nw8 e8 => ?_⟩, fun q => absurd rfl q⟩)⟩
  rw [q9 (by omega)] at e8
  subst e8
  exact ⟨fun _ => ⟨fun _ => b_leaveM (hI.cong hS (fun i _ _ => un (by omega))) hS hD (by rw [un (by omega)]; exact h5) hs (fun nw1 g1 g2 => ⟨(bool01 hU.2).1, hk hi1 nw1 hY g1 g2⟩), fun q => absurd rfl q⟩, fun q => absurd rfl q⟩
theorem b_up1 {S s c J : Nat} (hK : LK nw sLen S J) (h4 : nw 4 = nI S) (hS : S ≤ 8) (hs : s < S) (hcc : c ≤ 3) (hU : nw (9 + s) = sUp s ∧ (sUp s = 0 ∨ sUp s = 1)) {K : Int32 → (Nat → Int32) → (Nat → Int32) → Int32 → Int32 → Prop} (ha : sUp s = 0 → sLen s = 0 → ∀ hi1, PSM nw hi c hi1 → wp_X5_register (upd nw (9 + s) 1) (nI s) (fun nw1 => ((1 : Int32) = 0 → (wp_X5_leave nw1 (nI s) (fun nw_51 => (narrow .boolean (.int (sUp s)) = .int (sUp s)) ∧ (K (sUp s) nw_51 hi1 (nI (c1 c + 1)) 0)))) ∧ (¬ (1 : Int32) = 0 → ((narrow .boolean (.int (sUp s)) = .int (sUp s)) ∧ (K (sUp s) nw1 hi1 (nI (c1 c + 1)) 0))))) (hb : ¬ (sUp s = 0 ∧ sLen s = 0) → ∀ hi1, PSM nw hi c hi1 → K (sUp s) (upd nw (9 + s) 1) hi1 (nI (c1 c + 1)) 0) : wp_X5_setUp nw hi (nI c) (nI s) 1 K := by
  have hn := (bool01 hU.2).1
  refine r_srv1 h4 (by omega) hs ⟨fun q => absurd q (by decide), fun _ => b_saveM hcc (fun hi1 hY => b_isUp (sUp := sUp) (by omega) hU.1 hU.2 ⟨fun q => absurd q (by decide), fun _ => ⟨i9 (by omega), fun nw8 e8 => ?_⟩⟩)⟩
  rw [q9 (by omega)] at e8
  subst e8
  have hK2 : LK (upd nw (9 + s) 1) sLen S J := hK.cong (un (by omega)) (fun i _ _ => un (by omega))
  refine ⟨fun q => absurd q (by decide), fun _ => ⟨fun q1 => hK2.len hs ⟨fun q2 => ?_, fun q2 => ⟨fun q => absurd q (by decide), fun _ => ⟨hn, hb (fun z => q2 z.2) hi1 hY⟩⟩⟩, fun q1 => ⟨fun q => absurd q (by decide), fun _ => ⟨hn, hb (fun z => q1 z.1) hi1 hY⟩⟩⟩⟩
  exact ha q1 q2 hi1 hY
theorem b_c6 (h : INV M cur sav cnt ST now rnd jm rp sc dc cn sUp sLen sWrk sReg sFst sLst dPol dPtr dCnt dIdl dKnw jCnt jFin jBeg jWs jMis jSrv jLft jSub jWai jNxt cnd nw hi sv) (hrec : HREC (M + 500) (nI i) rec23) (hM : M + 500 < 2 ^ 30) (hi2 : i + 2 < L) (hL : L ≤ 1536) : wp_L_c6 cur L xs (nI i) sav cnt ST now rnd jm rp sc dc cn sUp sLen sWrk sReg sFst sLst dPol dPtr dCnt dIdl dKnw jCnt jFin jBeg jWs jMis jSrv jLft jSub jWai jNxt cnd nw hi sv cd ha ov rec23 := by
  obtain ⟨hA, c, rfl, rfl, hV⟩ := id h
  obtain ⟨S, D, J, T, r, md, pd, Ls, hTM, H, hR, ⟨rfl, rfl, rfl, rfl, rfl, rfl, rfl, rfl, hc⟩, ⟨h3, hp1, hp2⟩, h8, hP, hN⟩ := id hA
  obtain ⟨hI, hQ, hJb, hW, ⟨h0, hr⟩, h7, ⟨h6, hJ⟩, ⟨h5, hD⟩, ⟨h4, hS⟩, ⟨h2, hmd⟩, ⟨h1, hT⟩, hU⟩ := id H
  have hG := h.mono (Nat.le_add_right M 500)
  have hSV : ∀ {sav1 : Nat → Nat} {ST1 : Nat → TT} {hi1 : Nat → Int32} {t0 : TT}, PSX M nw cur t0 sav c ST sav1 ST1 → PSM nw hi c hi1 → SV (M + 500) cur sav1 (c1 c + 1) ST1 hi1 := fun a b => (hV.save a b).mono (Nat.le_add_right M 500)
  have hB0 : RB M (nI T, lN r, nI md, nI pd, nI S, nI D, nI (ups sUp S).length, sUp, sLen, sWrk, sReg, sFst, sLst, dPol, dPtr, dCnt, dIdl, dKnw, nI J, jFin, jBeg, jWs, jMis, jSrv, jLft, jSub, jWai, jNxt, cnd) nw := hA
  have e1 : vp_in (nI i + 1) L := by rw [nI_1]; exact vp_in_nI (by omega) (by omega)
  have e2 : vp_in (nI i + 2) L := by rw [show (2 : Int32) = nI 2 from rfl, nI_add]; exact vp_in_nI (by omega) (by omega)
  refine ⟨hV.2.1.1, e1, e2, ?_⟩
  generalize xs (nI i + 1).toNatClampNeg = v
  generalize xs (nI i + 2).toNatClampNeg = v2
  refine ⟨fun hv2 => ?_, fun hv2 => ?_⟩
  · unfold wp_L_setUp
    rcases pk_ix v (n := S) (by omega) with q | q | ⟨s, hs, rfl⟩
    · exact x_srv0 (Or.inl q) ⟨rfl, fun _ => r_srv0 h4 (by omega) (Or.inl q) ⟨fun _ => e_th (by decide) (hrec.go hG), fun q => absurd rfl q⟩, fun q => absurd hv2 q⟩
    · exact x_srv0 (Or.inr q) ⟨rfl, fun _ => r_srv0 h4 (by omega) (Or.inr q) ⟨fun _ => e_th (by decide) (hrec.go hG), fun q => absurd rfl q⟩, fun q => absurd hv2 q⟩
    · have hu := hU s hs
      have hn := (bool01 hu.2).1
      refine x_srv1 (by omega) hs (b_saveX hV hB0 (fun sav1 ST1 hX => ⟨hX.2.1, vp_in_nI (by omega) (by decide), fun x2 ex2 => ⟨bool01 (Or.inl rfl), fun sUp4 e4 => ?_⟩⟩))
      rw [nI_clamp (by omega)] at ex2 e4
      subst ex2 e4
      refine b_collect hS (fun cnd1 hc1 => ⟨fun _ => b_leaveX hI hS hD hs (fun dCnt1 dIdl1 hPX => ⟨hn, hn, e_bool hu.2 ?_⟩), fun q => absurd rfl q⟩)
      refine ⟨fun _ => b_up0 hI h4 hS h5 hD hs hV.1 hu (fun hi1 nw1 hY g1 g2 => ?_), fun q => absurd hv2 q⟩
      have U6 : ∀ i, i ≠ 9 + s → (i < 57 ∨ 93 ≤ i) → nw1 i = nw i := fun i a b => by rw [g2 i b, un a]
      have HD := H.down hs hPX g1 U6 (by rw [g2 _ (by omega), us])
      have hG2 : INV (M + 500) cur sav1 (nI (c1 c + 1)) ST1 (nI T) (lN r) (nI md) (nI pd) (nI S) (nI D) (nI (ups (upd sUp s 0) S).length) (upd sUp s 0) sLen sWrk (upd sReg s (-1)) sFst sLst dPol dPtr dCnt1 dIdl1 dKnw (nI J) jFin jBeg jWs jMis jSrv jLft jSub jWai jNxt cnd1 nw1 hi1 (nI (c1 c + 1)) := ⟨⟨S, D, J, T, r, md, pd, lsx Ls s, by omega, HD, hR.cong (fun i _ _ => U6 i (by omega) (by omega)), ⟨rfl, rfl, rfl, rfl, rfl, rfl, rfl, rfl, hc1⟩, ⟨(U6 3 (by omega) (by omega)).trans h3, hp1, hp2⟩, (U6 8 (by omega) (by omega)).trans h8, fun d hd => by rw [U6 _ (by omega) (by omega)]; exact hP d hd, ⟨fun s1 hs1 hs8 => by rw [un (by omega), un (by omega)]; exact hN.1 s1 hs1 hs8, hN.2⟩⟩, c1 c + 1, rfl, rfl, hSV hX hY⟩
      exact e_okB hu.2 (hrec.go hG2) (hrec.go hG2)
  · unfold wp_L_setUp
    rcases pk_ix v (n := S) (by omega) with q | q | ⟨s, hs, rfl⟩
    · exact x_srv0 (Or.inl q) ⟨rfl, fun q => absurd q hv2, fun _ => r_srv0 h4 (by omega) (Or.inl q) ⟨fun _ => e_th (by decide) (hrec.go hG), fun q => absurd rfl q⟩⟩
    · exact x_srv0 (Or.inr q) ⟨rfl, fun q => absurd q hv2, fun _ => r_srv0 h4 (by omega) (Or.inr q) ⟨fun _ => e_th (by decide) (hrec.go hG), fun q => absurd rfl q⟩⟩
    · have hu := hU s hs
      have hn := (bool01 hu.2).1
      refine x_srv1 (by omega) hs (b_saveX hV hB0 (fun sav1 ST1 hX => ⟨hX.2.1, vp_in_nI (by omega) (by decide), fun x2 ex2 => ⟨bool01 (Or.inr rfl), fun sUp4 e4 => ?_⟩⟩))
      rw [nI_clamp (by omega)] at ex2 e4
      rw [nI_clamp (by omega)]
      subst ex2 e4
      refine b_collect hS (fun cnd1 hc1 => ⟨fun q => absurd q (by decide), fun _ => ?_⟩)
      have U6 : ∀ i, i ≠ 9 + s → upd nw (9 + s) 1 i = nw i := fun i a => un a
      have hnew : ∀ s1, S ≤ s1 → s1 < 8 → upd sUp s 1 s1 = 1 ∧ sLen s1 = 0 ∧ sWrk s1 = 0 ∧ sReg s1 = -1 ∧ sFst s1 = -1 ∧ sLst s1 = -1 := fun s1 hs1 hs8 => by rw [un (by omega)]; exact hN.1 s1 hs1 hs8
      by_cases hz : sUp s = 0 ∧ sLen s = 0
      · have hreg : sReg s = -1 := by
          rcases hI.at hD hs with z | ⟨d, -, z, -⟩
          · exact z.1
          · exact absurd ((hI.2.2.2.1 d s z).2.2.1.symm.trans hz.1) (by decide)
        obtain ⟨r1, nw1, sReg1, dCnt1, dIdl1, Ls1, k1, k2, k3, k4, k5⟩ := (H.up hs hreg).reg hs hreg us hz.2
        refine ⟨fun _ => ⟨fun _ => k4 _ ⟨hn, hn, e_bool hu.2 ⟨fun q => absurd q hv2, fun _ => b_up1 (hQ.lk hJ h6) h4 hS hs hV.1 hu (fun _ _ hi1 hY => k5 _ ⟨fun q => absurd q (by decide), fun _ => ⟨hn, ?_⟩⟩) (fun q => absurd hz q)⟩⟩, fun q => absurd hz.2 q⟩, fun q => absurd hz.1 q⟩
        have U7 : ∀ i, i ≠ 0 → i ≠ 9 + s → (i < 57 ∨ 93 ≤ i) → nw1 i = nw i := fun i a b e => by rw [k2 i a e, un b]
        have hG2 : INV (M + 500) cur sav1 (nI (c1 c + 1)) ST1 (nI T) (lN r1) (nI md) (nI pd) (nI S) (nI D) (nI (ups (upd sUp s 1) S).length) (upd sUp s 1) sLen sWrk sReg1 sFst sLst dPol dPtr dCnt1 dIdl1 dKnw (nI J) jFin jBeg jWs jMis jSrv jLft jSub jWai jNxt cnd1 nw1 hi1 (nI (c1 c + 1)) := ⟨⟨S, D, J, T, r1, md, pd, Ls1, by omega, k1, hR.cong (fun i _ _ => U7 i (by omega) (by omega) (by omega)), ⟨rfl, rfl, rfl, rfl, rfl, rfl, rfl, rfl, hc1⟩, ⟨(U7 3 (by omega) (by omega) (by omega)).trans h3, hp1, hp2⟩, (U7 8 (by omega) (by omega) (by omega)).trans h8, fun d hd => by rw [U7 _ (by omega) (by omega) (by omega)]; exact hP d hd, ⟨fun s1 hs1 hs8 => by rw [k3 s1 (by omega)]; exact hnew s1 hs1 hs8, hN.2⟩⟩, c1 c + 1, rfl, rfl, hSV hX hY⟩
        exact e_okB hu.2 (hrec.go hG2) (hrec.go hG2)
      · have HU : RT (upd nw (9 + s) 1) (upd sUp s 1) sLen sWrk sReg sFst sLst dCnt dIdl jFin jBeg jWs jSrv jLft jSub jWai jNxt S D J T r md Ls := by
          rcases hu.2 with z | z
          · refine H.up hs ?_
            rcases hI.at hD hs with y | ⟨d, -, y, -⟩
            · exact y.1
            · exact absurd ((hI.2.2.2.1 d s y).2.2.1.symm.trans z) (by decide)
          · rw [upd_same z, upd_same (hu.1.trans z)]
            exact H
        have hG2 : ∀ hi1, PSM nw hi c hi1 → INV (M + 500) cur sav1 (nI (c1 c + 1)) ST1 (nI T) (lN r) (nI md) (nI pd) (nI S) (nI D) (nI (ups (upd sUp s 1) S).length) (upd sUp s 1) sLen sWrk sReg sFst sLst dPol dPtr dCnt dIdl dKnw (nI J) jFin jBeg jWs jMis jSrv jLft jSub jWai jNxt cnd1 (upd nw (9 + s) 1) hi1 (nI (c1 c + 1)) := fun hi1 hY => ⟨⟨S, D, J, T, r, md, pd, Ls, by omega, HU, hR.cong (fun i _ _ => U6 i (by omega)), ⟨rfl, rfl, rfl, rfl, rfl, rfl, rfl, rfl, hc1⟩, ⟨(U6 3 (by omega)).trans h3, hp1, hp2⟩, (U6 8 (by omega)).trans h8, fun d hd => by rw [U6 _ (by omega)]; exact hP d hd, ⟨hnew, hN.2⟩⟩, c1 c + 1, rfl, rfl, hSV hX hY⟩
        have fin9 := b_up1 (hi := hi) (K := fun r31 nw_32 hi_33 sv_34 th_35 => wp_X5_thrown th_35 (fun r36 => (r36 = 0 → (((0 : Int32) = 0 → ((r31 = 0 → (((lg_cmp (sUp s).toInt64 (0 : Int64)) = 0 → (∀ x42 : Int32, x42 = nI i + 3 → (rec23 x42 cur sav1 (nI (c1 c + 1)) ST1 (nI T) (lN r) (nI md) (nI pd) (nI S) (nI D) (nI (ups (upd sUp s 1) S).length) (upd sUp s 1) sLen sWrk sReg sFst sLst dPol dPtr dCnt dIdl dKnw (nI J) jFin jBeg jWs jMis jSrv jLft jSub jWai jNxt cnd1 nw_32 hi_33 sv_34 th_35 cd ha (sUp s).toInt64))) ∧ (¬ ((lg_cmp (sUp s).toInt64 (0 : Int64)) = 0) → (False)))) ∧ (¬ (r31 = 0) → (((lg_cmp (sUp s).toInt64 (1 : Int64)) = 0 → (∀ x44 : Int32, x44 = nI i + 3 → (rec23 x44 cur sav1 (nI (c1 c + 1)) ST1 (nI T) (lN r) (nI md) (nI pd) (nI S) (nI D) (nI (ups (upd sUp s 1) S).length) (upd sUp s 1) sLen sWrk sReg sFst sLst dPol dPtr dCnt dIdl dKnw (nI J) jFin jBeg jWs jMis jSrv jLft jSub jWai jNxt cnd1 nw_32 hi_33 sv_34 th_35 cd ha (sUp s).toInt64))) ∧ (¬ ((lg_cmp (sUp s).toInt64 (1 : Int64)) = 0) → (False)))))) ∧ (¬ (0 : Int32) = 0 → (∀ x39 : Int32, x39 = nI i + 3 → (rec23 x39 cur sav1 (nI (c1 c + 1)) ST1 (nI T) (lN r) (nI md) (nI pd) (nI S) (nI D) (nI (ups (upd sUp s 1) S).length) (upd sUp s 1) sLen sWrk sReg sFst sLst dPol dPtr dCnt dIdl dKnw (nI J) jFin jBeg jWs jMis jSrv jLft jSub jWai jNxt cnd1 nw_32 hi_33 sv_34 th_35 cd ha (sUp s).toInt64))))) ∧ (¬ (r36 = 0) → (False)))) (hQ.lk hJ h6) h4 hS hs hV.1 hu (fun a b => absurd ⟨a, b⟩ hz) (fun _ hi1 hY => e_okB hu.2 (hrec.go (hG2 hi1 hY)) (hrec.go (hG2 hi1 hY)))
        refine ⟨fun z1 => ⟨fun z2 => absurd ⟨z1, z2⟩ hz, fun _ => ⟨hn, hn, e_bool hu.2 ⟨fun q => absurd q hv2, fun _ => fin9⟩⟩⟩, fun _ => ⟨hn, hn, e_bool hu.2 ⟨fun q => absurd q hv2, fun _ => fin9⟩⟩⟩
end SBC
