/-! A tick of all servers, and many ticks. -/
section TIC
variable {nw nw1 sUp sLen sWrk sReg sFst sLst dCnt dPtr : Nat → Int32} {dIdl dKnw : Nat → Nat → Int32} {jFin jBeg jWs : Int32} {jSrv jLft jSub jWai jNxt : Nat → Int32} {S D J T r md pd : Nat} {Ls : Nat → List Nat}
theorem RT.cong (H : RT nw sUp sLen sWrk sReg sFst sLst dCnt dIdl jFin jBeg jWs jSrv jLft jSub jWai jNxt S D J T r md Ls) (h : ∀ i, i ≠ 3 → i ≠ 8 → (i < 17 ∨ 57 ≤ i) → nw1 i = nw i) : RT nw1 sUp sLen sWrk sReg sFst sLst dCnt dIdl jFin jBeg jWs jSrv jLft jSub jWai jNxt S D J T r md Ls := by
  obtain ⟨hI, hQ, hJb, hW, ⟨h0, hr⟩, h7, ⟨h6, hJ⟩, ⟨h5, hD⟩, ⟨h4, hS⟩, ⟨h2, hmd⟩, ⟨h1, hT⟩, hU⟩ := H
  exact ⟨hI.cong hS (fun i _ _ => h i (by omega) (by omega) (by omega)), hQ.cong hJ (fun i _ _ => h i (by omega) (by omega) (by omega)), hJb.cong hJ (fun i _ _ => h i (by omega) (by omega) (by omega)), hW.cong hJ (fun i _ _ => h i (by omega) (by omega) (by omega)), ⟨(h 0 (by omega) (by omega) (by omega)).trans h0, hr⟩, (h 7 (by omega) (by omega) (by omega)).trans h7, ⟨(h 6 (by omega) (by omega) (by omega)).trans h6, hJ⟩, ⟨(h 5 (by omega) (by omega) (by omega)).trans h5, hD⟩, ⟨(h 4 (by omega) (by omega) (by omega)).trans h4, hS⟩, ⟨(h 2 (by omega) (by omega) (by omega)).trans h2, hmd⟩, ⟨(h 1 (by omega) (by omega) (by omega)).trans h1, hT⟩, fun x hx => by rw [h _ (by omega) (by omega) (by omega)]; exact hU x hx⟩
theorem RT.clock (H : RT nw sUp sLen sWrk sReg sFst sLst dCnt dIdl jFin jBeg jWs jSrv jLft jSub jWai jNxt S D J T r md Ls) (hT1 : T + 1 < 2 ^ 30) : RT (upd nw 1 (nI (T + 1))) sUp sLen sWrk sReg sFst sLst dCnt dIdl jFin jBeg jWs jSrv jLft jSub jWai jNxt S D J (T + 1) r md Ls := by
  obtain ⟨hI, hQ, hJb, hW, ⟨h0, hr⟩, h7, ⟨h6, hJ⟩, ⟨h5, hD⟩, ⟨h4, hS⟩, ⟨h2, hmd⟩, ⟨h1, hT⟩, hU⟩ := H
  exact ⟨hI.cong hS (fun i _ _ => un (by omega)), hQ.cong hJ (fun i _ _ => un (by omega)), (hJb.mono (Nat.le_succ T)).cong hJ (fun i _ _ => un (by omega)), hW.cong hJ (fun i _ _ => un (by omega)), ⟨by rw [un (by omega)]; exact h0, hr⟩, by rw [un (by omega)]; exact h7, ⟨by rw [un (by omega)]; exact h6, hJ⟩, ⟨by rw [un (by omega)]; exact h5, hD⟩, ⟨by rw [un (by omega)]; exact h4, hS⟩, ⟨by rw [un (by omega)]; exact h2, hmd⟩, ⟨us, hT1⟩, fun x hx => by rw [un (by omega)]; exact hU x hx⟩
def nwR (nw sLen : Nat → Int32) (S D : Nat) : Nat → Int32 := fun i => if 25 ≤ i ∧ i < 57 ∧ (i - 25) / 8 < D ∧ (i - 25) % 8 < S then sLen ((i - 25) % 8) else nw i
theorem nwR_in (hS : S ≤ 8) (hD : D ≤ 4) {d s : Nat} (hd : d < D) (hs : s < S) : nwR nw sLen S D (25 + 8 * d + s) = sLen s := by
  unfold nwR
  have e : (25 + 8 * d + s - 25) % 8 = s := by omega
  have e2 : (25 + 8 * d + s - 25) / 8 = d := by omega
  rw [e, e2, if_pos ⟨by omega, by omega, hd, hs⟩]
theorem nwR_out (hS : S ≤ 8) {i : Nat} (h : ∀ d s, d < D → s < S → i ≠ 25 + 8 * d + s) : nwR nw sLen S D i = nw i := by
  unfold nwR
  refine if_neg (fun q => h ((i - 25) / 8) ((i - 25) % 8) q.2.2.1 q.2.2.2 (by omega))
theorem nwR_of (hS : S ≤ 8) (hD : D ≤ 4) {f : Nat → Int32} (h1 : ∀ d s, d < D → s < S → f (25 + 8 * d + s) = sLen s) (h2 : ∀ i, (∀ d s, d < D → s < S → i ≠ 25 + 8 * d + s) → f i = nw i) : f = nwR nw sLen S D := by
  funext i
  by_cases q : 25 ≤ i ∧ i < 57 ∧ (i - 25) / 8 < D ∧ (i - 25) % 8 < S
  · have e : i = 25 + 8 * ((i - 25) / 8) + (i - 25) % 8 := by omega
    have e2 := h1 _ _ q.2.2.1 q.2.2.2
    rw [← e] at e2
    rw [e2]
    unfold nwR
    rw [if_pos q]
  · unfold nwR
    rw [if_neg q]
    exact h2 i (fun d s hd hs e => q (by omega))
/-- from server i on -/
theorem b_passL (hpd : 1 ≤ pd) (hpd2 : pd ≤ 100) : ∀ (n i r : Nat) (nw sLen sWrk sReg sFst sLst dCnt : Nat → Int32) (dIdl : Nat → Nat → Int32) (jFin jBeg jWs : Int32) (jLft jWai : Nat → Int32) (Ls : Nat → List Nat), n + i = S → RT nw sUp sLen sWrk sReg sFst sLst dCnt dIdl jFin jBeg jWs jSrv jLft jSub jWai jNxt S D J T r md Ls → RK nw dPtr dKnw S → nw 3 = nI pd →
    ∃ (r1 : Nat) (nw1 sLen1 sWrk1 sReg1 sFst1 sLst1 dCnt1 : Nat → Int32) (dIdl1 dKnw1 : Nat → Nat → Int32) (jFin1 jBeg1 jWs1 : Int32) (jLft1 jWai1 : Nat → Int32) (Ls1 : Nat → List Nat), RT nw1 sUp sLen1 sWrk1 sReg1 sFst1 sLst1 dCnt1 dIdl1 jFin1 jBeg1 jWs1 jSrv jLft1 jSub jWai1 jNxt S D J T r1 md Ls1 ∧ RK nw1 dPtr dKnw1 S ∧ (∀ i, (i = 3 ∨ i = 8 ∨ (17 ≤ i ∧ i < 21)) → nw1 i = nw i) ∧ (∀ x, S ≤ x → sLen1 x = sLen x ∧ sWrk1 x = sWrk x ∧ sReg1 x = sReg x ∧ sFst1 x = sFst x ∧ sLst1 x = sLst x) ∧ (∀ k : Int32 → Int64 → (Nat → Int32) → (Nat → Int32) → (Nat → Int32) → (Nat → Int32) → (Nat → Int32) → (Nat → Int32) → (Nat → Nat → Int32) → (Nat → Nat → Int32) → Int32 → Int32 → Int32 → (Nat → Int32) → (Nat → Int32) → Prop, k (nI T) (lN r1) sLen1 sWrk1 sReg1 sFst1 sLst1 dCnt1 dIdl1 dKnw1 jFin1 jBeg1 jWs1 jLft1 jWai1 → wp_X3_passTick_L12 (nI S) (nI pd) k (nI T) dKnw (nI D) (nI md) sUp jSub jNxt (n + 1) (nI i) (lN r) sLen sWrk sReg sFst sLst dCnt dIdl jFin jBeg jWs jLft jWai) ∧ (∀ (x6 : Int32) (rec36 : Int32 → (Nat → Int32) → Prop), (∀ x : Int32, x = x6 + 1 → rec36 x nw1) → wp_X5_tick_L54 x6 rec36 (n + 1) (nI i) nw) := by
  intro n
  induction n with
  | zero =>
    intro i r nw sLen sWrk sReg sFst sLst dCnt dIdl jFin jBeg jWs jLft jWai Ls hi H hR h3
    have e : i = S := by omega
    subst e
    obtain ⟨hI, hQ, hJb, hW, ⟨h0, hr⟩, h7, ⟨h6, hJ⟩, ⟨h5, hD⟩, ⟨h4, hS⟩, ⟨h2, hmd⟩, ⟨h1, hT⟩, hU⟩ := id H
    have hle : nI i ≤ nI i := nI_le (Nat.le_refl _) (by omega)
    have hp0 : ¬ nI pd ≤ 0 := nI_nle (by omega) (by omega)
    have hp1 : ¬ nI pd = 0 := nI_ne0 (by omega) (by omega)
    by_cases hz : (nI T - nI T / nI pd * nI pd) = 0
    · refine ⟨r, nwR nw sLen i D, sLen, sWrk, sReg, sFst, sLst, dCnt, dIdl, (fun d s => if d < D ∧ s < i then sLen s else dKnw d s), jFin, jBeg, jWs, jLft, jWai, Ls, H.cong (fun j _ _ _ => nwR_out hS (fun d s hd hs => by omega)), hR.report hS hD (fun _ _ => rfl) (fun d s hd hs => nwR_in hS hD hd hs) (fun j hj => nwR_out hS hj), fun j hj => nwR_out hS (fun d s hd hs => by omega), fun x hx => ⟨rfl, rfl, rfl, rfl, rfl⟩, fun k hk => ⟨fun _ => ⟨fun q => absurd q hp0, fun _ => ⟨hp1, fun _ => b_reportX hS hD (fun f hf => ?_), fun q => absurd hz q⟩⟩, fun q => absurd hle q⟩, fun x6 rec36 hk => ⟨fun _ => ?_, fun q => absurd (by rw [h4]; exact hle) q⟩⟩
      · have ef : f = (fun d s => if d < D ∧ s < i then sLen s else dKnw d s) := by
          funext d s
          exact hf d s
        rw [ef]
        exact hk
      · rw [h1, h3]
        refine ⟨hp1, fun _ => b_reportM (hQ.lk hJ h6) hS hD h4 h5 (fun f f1 f2 => ?_), fun q => absurd hz q⟩
        rw [nwR_of hS hD f1 f2]
        exact hk
    · refine ⟨r, nw, sLen, sWrk, sReg, sFst, sLst, dCnt, dIdl, dKnw, jFin, jBeg, jWs, jLft, jWai, Ls, H, hR, fun _ _ => rfl, fun x hx => ⟨rfl, rfl, rfl, rfl, rfl⟩, fun k hk => ⟨fun _ => ⟨fun q => absurd q hp0, fun _ => ⟨hp1, fun q => absurd q hz, fun _ => hk⟩⟩, fun q => absurd hle q⟩, fun x6 rec36 hk => ⟨fun _ => ?_, fun q => absurd (by rw [h4]; exact hle) q⟩⟩
      rw [h1, h3]
      exact ⟨hp1, fun q => absurd q hz, fun _ => hk⟩
  | succ n ih =>
    intro i r nw sLen sWrk sReg sFst sLst dCnt dIdl jFin jBeg jWs jLft jWai Ls hi H hR h3
    have hS : S ≤ 8 := H.2.2.2.2.2.2.2.2.1.2
    have h4 : nw 4 = nI S := H.2.2.2.2.2.2.2.2.1.1
    have hlt : i < S := by omega
    obtain ⟨r1, nw1, sLen1, sWrk1, sReg1, sFst1, sLst1, dCnt1, dIdl1, jFin1, jBeg1, jWs1, jLft1, jWai1, Ls1, g1, g2, g3, g4, g5⟩ := b_serve H hlt
    obtain ⟨r2, nw2, sLen2, sWrk2, sReg2, sFst2, sLst2, dCnt2, dIdl2, dKnw2, jFin2, jBeg2, jWs2, jLft2, jWai2, Ls2, k1, k2, k3, k4, k5, k6⟩ := ih (i + 1) r1 nw1 sLen1 sWrk1 sReg1 sFst1 sLst1 dCnt1 dIdl1 jFin1 jBeg1 jWs1 jLft1 jWai1 Ls1 (by omega) g1 (hR.cong (fun j _ _ => g2 j (by omega))) ((g2 3 (by omega)).trans h3)
    refine ⟨r2, nw2, sLen2, sWrk2, sReg2, sFst2, sLst2, dCnt2, dIdl2, dKnw2, jFin2, jBeg2, jWs2, jLft2, jWai2, Ls2, k1, k2, fun j hj => by rw [k3 j hj, g2 j (by omega)], fun x hx => ?_, fun k hk => ⟨fun q => absurd q (nI_ge hlt (by omega)), fun _ => g4 _ (fun x e => ?_)⟩, fun x6 rec36 hk => ⟨fun q => absurd q (by rw [h4]; exact nI_ge hlt (by omega)), fun _ => g5 _ (fun x e => ?_)⟩⟩
    · obtain ⟨u1, u2, u3, u4, u5⟩ := k4 x hx
      obtain ⟨v1, v2, v3, v4, v5⟩ := g3 x (by omega)
      exact ⟨u1.trans v1, u2.trans v2, u3.trans v3, u4.trans v4, u5.trans v5⟩
    · rw [nI_1] at e
      rw [e]
      exact k5 k hk
    · rw [nI_1] at e
      rw [e]
      exact k6 x6 rec36 hk
/-- one tick -/
theorem b_pass (hpd : 1 ≤ pd) (hpd2 : pd ≤ 100) (H : RT nw sUp sLen sWrk sReg sFst sLst dCnt dIdl jFin jBeg jWs jSrv jLft jSub jWai jNxt S D J T r md Ls) (hR : RK nw dPtr dKnw S) (h3 : nw 3 = nI pd) (hT1 : T + 1 < 2 ^ 30) :
    ∃ (r1 : Nat) (nw1 sLen1 sWrk1 sReg1 sFst1 sLst1 dCnt1 : Nat → Int32) (dIdl1 dKnw1 : Nat → Nat → Int32) (jFin1 jBeg1 jWs1 : Int32) (jLft1 jWai1 : Nat → Int32) (Ls1 : Nat → List Nat), RT nw1 sUp sLen1 sWrk1 sReg1 sFst1 sLst1 dCnt1 dIdl1 jFin1 jBeg1 jWs1 jSrv jLft1 jSub jWai1 jNxt S D J (T + 1) r1 md Ls1 ∧ RK nw1 dPtr dKnw1 S ∧ (∀ i, (i = 3 ∨ i = 8 ∨ (17 ≤ i ∧ i < 21)) → nw1 i = nw i) ∧ (∀ x, S ≤ x → sLen1 x = sLen x ∧ sWrk1 x = sWrk x ∧ sReg1 x = sReg x ∧ sFst1 x = sFst x ∧ sLst1 x = sLst x) ∧ (∀ k : Int32 → Int64 → (Nat → Int32) → (Nat → Int32) → (Nat → Int32) → (Nat → Int32) → (Nat → Int32) → (Nat → Int32) → (Nat → Nat → Int32) → (Nat → Nat → Int32) → Int32 → Int32 → Int32 → (Nat → Int32) → (Nat → Int32) → Prop, k (nI (T + 1)) (lN r1) sLen1 sWrk1 sReg1 sFst1 sLst1 dCnt1 dIdl1 dKnw1 jFin1 jBeg1 jWs1 jLft1 jWai1 → wp_X3_passTick (nI T) (lN r) (nI md) (nI pd) (nI S) (nI D) sUp sLen sWrk sReg sFst sLst dCnt dIdl dKnw jFin jBeg jWs jLft jSub jWai jNxt k) ∧ (∀ (x6 : Int32) (rec36 : Int32 → (Nat → Int32) → Prop), (∀ x : Int32, x = x6 + 1 → rec36 x nw1) → ∀ nw_9 : Nat → Int32, nw_9 = upd nw 1 ((nw 1) + 1) → (∃ fu, wp_X5_tick_L54 x6 rec36 fu 0 nw_9)) := by
  have h1 : nw 1 = nI T := H.2.2.2.2.2.2.2.2.2.2.1.1
  obtain ⟨r1, nw1, sLen1, sWrk1, sReg1, sFst1, sLst1, dCnt1, dIdl1, dKnw1, jFin1, jBeg1, jWs1, jLft1, jWai1, Ls1, g1, g2, g3, g4, g5, g6⟩ := b_passL hpd hpd2 S 0 r _ _ _ _ _ _ _ _ _ _ _ _ _ _ (by omega) (H.clock hT1) (hR.cong (fun i _ _ => un (by omega))) (by rw [un (by omega)]; exact h3)
  refine ⟨r1, nw1, sLen1, sWrk1, sReg1, sFst1, sLst1, dCnt1, dIdl1, dKnw1, jFin1, jBeg1, jWs1, jLft1, jWai1, Ls1, g1, g2, fun i hi => by rw [g3 i hi, un (by omega)], g4, fun k hk x e => ⟨S + 1, ?_⟩, fun x6 rec36 hk nw9 e9 => ⟨S + 1, ?_⟩⟩
  · rw [nI_1] at e
    rw [e]
    exact g5 k hk
  · rw [h1, nI_1] at e9
    rw [e9]
    exact g6 x6 rec36 hk
/-- many ticks -/
theorem b_ticks (hpd : 1 ≤ pd) (hpd2 : pd ≤ 100) {N : Nat} (hN : N ≤ 500) : ∀ (n i T r : Nat) (nw sLen sWrk sReg sFst sLst dCnt : Nat → Int32) (dIdl dKnw : Nat → Nat → Int32) (jFin jBeg jWs : Int32) (jLft jWai : Nat → Int32) (Ls : Nat → List Nat), n + i = N → RT nw sUp sLen sWrk sReg sFst sLst dCnt dIdl jFin jBeg jWs jSrv jLft jSub jWai jNxt S D J T r md Ls → RK nw dPtr dKnw S → nw 3 = nI pd → T + n < 2 ^ 30 →
    ∃ (r1 : Nat) (nw1 sLen1 sWrk1 sReg1 sFst1 sLst1 dCnt1 : Nat → Int32) (dIdl1 dKnw1 : Nat → Nat → Int32) (jFin1 jBeg1 jWs1 : Int32) (jLft1 jWai1 : Nat → Int32) (Ls1 : Nat → List Nat), RT nw1 sUp sLen1 sWrk1 sReg1 sFst1 sLst1 dCnt1 dIdl1 jFin1 jBeg1 jWs1 jSrv jLft1 jSub jWai1 jNxt S D J (T + n) r1 md Ls1 ∧ RK nw1 dPtr dKnw1 S ∧ (∀ i, (i = 3 ∨ i = 8 ∨ (17 ≤ i ∧ i < 21)) → nw1 i = nw i) ∧ (∀ x, S ≤ x → sLen1 x = sLen x ∧ sWrk1 x = sWrk x ∧ sReg1 x = sReg x ∧ sFst1 x = sFst x ∧ sLst1 x = sLst x) ∧ (∀ (jF0 : Int32) (sav1 : Nat → Nat) (cnt2 : Int32) (ST3 : Nat → TT) (k : Int32 → (Nat → Nat) → Int32 → (Nat → TT) → Int32 → Int64 → (Nat → Int32) → (Nat → Int32) → (Nat → Int32) → (Nat → Int32) → (Nat → Int32) → (Nat → Int32) → (Nat → Nat → Int32) → (Nat → Nat → Int32) → Int32 → Int32 → Int32 → (Nat → Int32) → (Nat → Int32) → Prop), k (jFin1 - jF0) sav1 cnt2 ST3 (nI (T + n)) (lN r1) sLen1 sWrk1 sReg1 sFst1 sLst1 dCnt1 dIdl1 dKnw1 jFin1 jBeg1 jWs1 jLft1 jWai1 → wp_X4_tick_L25 (nI N) k jF0 sav1 cnt2 ST3 (nI md) (nI pd) (nI S) (nI D) sUp jSub jNxt (n + 1) (nI i) (nI T) (lN r) sLen sWrk sReg sFst sLst dCnt dIdl dKnw jFin jBeg jWs jLft jWai) ∧ (∀ (x5 : Int32) (hi3 : Nat → Int32) (sv4 : Int32) (k : Int32 → (Nat → Int32) → (Nat → Int32) → Int32 → Int32 → Prop), k (jFin1 - x5) nw1 hi3 sv4 0 → wp_X5_tick_L36 (nI N) k x5 hi3 sv4 (n + 1) (nI i) nw) := by
  intro n
  induction n with
  | zero =>
    intro i T r nw sLen sWrk sReg sFst sLst dCnt dIdl dKnw jFin jBeg jWs jLft jWai Ls hi H hR h3 hT
    have e : i = N := by omega
    subst e
    have h7 : nw 7 = jFin := H.2.2.2.2.2.1
    have hle : nI i ≤ nI i := nI_le (Nat.le_refl _) (by omega)
    exact ⟨r, nw, sLen, sWrk, sReg, sFst, sLst, dCnt, dIdl, dKnw, jFin, jBeg, jWs, jLft, jWai, Ls, H, hR, fun _ _ => rfl, fun x hx => ⟨rfl, rfl, rfl, rfl, rfl⟩, fun _ _ _ _ k hk => ⟨fun _ => hk, fun q => absurd hle q⟩, fun _ _ _ k hk => ⟨fun _ => by rw [h7]; exact hk, fun q => absurd hle q⟩⟩
  | succ n ih =>
    intro i T r nw sLen sWrk sReg sFst sLst dCnt dIdl dKnw jFin jBeg jWs jLft jWai Ls hi H hR h3 hT
    have hlt : i < N := by omega
    obtain ⟨r1, nw1, sLen1, sWrk1, sReg1, sFst1, sLst1, dCnt1, dIdl1, dKnw1, jFin1, jBeg1, jWs1, jLft1, jWai1, Ls1, g1, g2, g3, g4, g5, g6⟩ := b_pass hpd hpd2 H hR h3 (by omega)
    obtain ⟨r2, nw2, sLen2, sWrk2, sReg2, sFst2, sLst2, dCnt2, dIdl2, dKnw2, jFin2, jBeg2, jWs2, jLft2, jWai2, Ls2, k1, k2, k3, k4, k5, k6⟩ := ih (i + 1) (T + 1) r1 nw1 sLen1 sWrk1 sReg1 sFst1 sLst1 dCnt1 dIdl1 dKnw1 jFin1 jBeg1 jWs1 jLft1 jWai1 Ls1 (by omega) g1 g2 ((g3 3 (by omega)).trans h3) (by omega)
    have eT : T + 1 + n = T + (n + 1) := by omega
    rw [eT] at k1 k5
    refine ⟨r2, nw2, sLen2, sWrk2, sReg2, sFst2, sLst2, dCnt2, dIdl2, dKnw2, jFin2, jBeg2, jWs2, jLft2, jWai2, Ls2, k1, k2, fun j hj => by rw [k3 j hj, g3 j hj], fun x hx => ?_, fun jF0 sav1 cnt2 ST3 k hk => ⟨fun q => absurd q (nI_ge hlt (by omega)), fun _ => g5 _ (fun x e => ?_)⟩, fun x5 hi3 sv4 k hk => ⟨fun q => absurd q (nI_ge hlt (by omega)), fun _ => g6 _ _ (fun x e => ?_)⟩⟩
    · obtain ⟨u1, u2, u3, u4, u5⟩ := k4 x hx
      obtain ⟨v1, v2, v3, v4, v5⟩ := g4 x hx
      exact ⟨u1.trans v1, u2.trans v2, u3.trans v3, u4.trans v4, u5.trans v5⟩
    · rw [nI_1] at e
      rw [e]
      exact k5 _ _ _ _ k hk
    · rw [nI_1] at e
      rw [e]
      exact k6 _ _ _ k hk
end TIC
