/-! A tick at one server. -/
def RT (nw sUp sLen sWrk sReg sFst sLst dCnt : Nat → Int32) (dIdl : Nat → Nat → Int32) (jFin jBeg jWs : Int32) (jSrv jLft jSub jWai jNxt : Nat → Int32) (S D J T r md : Nat) (Ls : Nat → List Nat) : Prop :=
  RI nw sUp sLen sReg dCnt dIdl S D Ls ∧ RQ nw sLen sWrk sFst sLst jNxt S J ∧ RJ nw jSrv jLft jSub jWai J T ∧ RW nw jBeg jWs J ∧ (nw 0 = nI r ∧ r < 2147483648) ∧ nw 7 = jFin ∧ (nw 6 = nI J ∧ J ≤ 200) ∧ (nw 5 = nI D ∧ D ≤ 4) ∧ (nw 4 = nI S ∧ S ≤ 8) ∧ (nw 2 = nI md ∧ md ≤ 2) ∧ (nw 1 = nI T ∧ T < 2 ^ 30) ∧ ∀ s, s < S → nw (9 + s) = sUp s ∧ (sUp s = 0 ∨ sUp s = 1)
section SRV
variable {nw sUp sLen sWrk sReg sFst sLst dCnt : Nat → Int32} {dIdl : Nat → Nat → Int32} {jFin jBeg jWs : Int32} {jSrv jLft jSub jWai jNxt : Nat → Int32} {S D J T r md : Nat} {Ls : Nat → List Nat}
theorem b_serveA (H : RT nw sUp sLen sWrk sReg sFst sLst dCnt dIdl jFin jBeg jWs jSrv jLft jSub jWai jNxt S D J T r md Ls) {s : Nat} (hs : s < S) (hno : ∀ h t, que nw (nI s) J = h :: t → ¬ nw (293 + h) = nI 1) :
    ∃ (r1 : Nat) (nw1 sLen1 sWrk1 sReg1 sFst1 sLst1 dCnt1 : Nat → Int32) (dIdl1 : Nat → Nat → Int32) (jFin1 jBeg1 jWs1 : Int32) (jLft1 jWai1 : Nat → Int32) (Ls1 : Nat → List Nat), RT nw1 sUp sLen1 sWrk1 sReg1 sFst1 sLst1 dCnt1 dIdl1 jFin1 jBeg1 jWs1 jSrv jLft1 jSub jWai1 jNxt S D J T r1 md Ls1 ∧ (∀ i, (i = 3 ∨ i = 8 ∨ (17 ≤ i ∧ i < 57)) → nw1 i = nw i) ∧ (∀ x, x ≠ s → sLen1 x = sLen x ∧ sWrk1 x = sWrk x ∧ sReg1 x = sReg x ∧ sFst1 x = sFst x ∧ sLst1 x = sLst x) ∧ (∀ k : Int64 → (Nat → Int32) → (Nat → Int32) → (Nat → Int32) → (Nat → Int32) → (Nat → Int32) → (Nat → Int32) → (Nat → Nat → Int32) → Int32 → Int32 → Int32 → (Nat → Int32) → (Nat → Int32) → Prop, k (lN r1) sLen1 sWrk1 sReg1 sFst1 sLst1 dCnt1 dIdl1 jFin1 jBeg1 jWs1 jLft1 jWai1 → wp_X3_serve (nI T) (lN r) (nI md) (nI D) sUp sLen sWrk sReg sFst sLst dCnt dIdl jFin jBeg jWs jLft jSub jWai jNxt (nI s) k) ∧ (∀ k : (Nat → Int32) → Prop, k nw1 → wp_X5_serve nw (nI s) k) := by
  obtain ⟨hI, hQ, hJb, hW, ⟨h0, hr⟩, h7, ⟨h6, hJ⟩, ⟨h5, hD⟩, ⟨h4, hS⟩, ⟨h2, hmd⟩, ⟨h1, hT⟩, hU⟩ := id H
  obtain ⟨a1, a2, a3, a4, a5, a6⟩ := hQ s hs
  cases hq : que nw (nI s) J with
  | nil =>
    rw [hq] at a3
    refine ⟨r, nw, sLen, sWrk, sReg, sFst, sLst, dCnt, dIdl, jFin, jBeg, jWs, jLft, jWai, Ls, H, fun _ _ => rfl, fun _ _ => ⟨rfl, rfl, rfl, rfl, rfl⟩, fun k hk => ⟨vp_in_nI (by omega) (by decide), fun x2 e2 => ?_⟩, fun k hk => b_firstJob h6 hJ ?_⟩
    · rw [nI_clamp (by omega), a3] at e2
      exact ⟨fun _ => hk, fun q => absurd e2 q⟩
    · rw [hq]
      exact ⟨fun _ => hk, fun q => absurd rfl q⟩
  | cons h t =>
    have hmem : h ∈ que nw (nI s) J := by rw [hq]; exact List.mem_cons_self
    obtain ⟨hh, e93, hpos⟩ := que_in hmem
    obtain ⟨b1, b2, b3, b4, ⟨m, hm, em⟩, b6⟩ := hJb h hh
    have em2 : nw (293 + h) = nI m := b2.trans em
    have hm1 : 1 ≤ m := by
      apply Nat.one_le_iff_ne_zero.mpr
      intro e
      rw [em2, e] at hpos
      exact hpos (by decide)
    have hn : sReg s = -1 := by
      rcases hI.at hD hs with z | ⟨d, -, z, -⟩
      · exact z.1
      · have e := (hI.2.2.2.1 d s z).2.2.2
        rw [a1, hq, List.length_cons] at e
        have hl := que_len nw (nI s) J
        rw [hq, List.length_cons] at hl
        exact absurd e (nI_ne0 (by omega) (by omega))
    have edec : nI m - 1 = nI (m - 1) := by
      have e9 := i_pred hm1 0
      rw [Int32.add_zero, Int32.add_zero] at e9
      exact e9
    rw [hq] at a3
    by_cases hm2 : 2 ≤ m
    · refine ⟨r, upd nw (293 + h) (nI (m - 1)), sLen, upd sWrk s (sWrk s - 1), sReg, sFst, sLst, dCnt, dIdl, jFin, jBeg, jWs, upd jLft h (nI (m - 1)), jWai, Ls, ⟨hI.cong hS (fun i _ _ => un (by omega)), hQ.work hJ hS hs hq em2 hm2 hm, hJb.left hJ hh (by omega), hW.cong hJ (fun i _ _ => un (by omega)), ⟨by rw [un (by omega)]; exact h0, hr⟩, by rw [un (by omega)]; exact h7, ⟨by rw [un (by omega)]; exact h6, hJ⟩, ⟨by rw [un (by omega)]; exact h5, hD⟩, ⟨by rw [un (by omega)]; exact h4, hS⟩, ⟨by rw [un (by omega)]; exact h2, hmd⟩, ⟨by rw [un (by omega)]; exact h1, hT⟩, fun x hx => by rw [un (by omega)]; exact hU x hx⟩, fun i hi => un (by omega), fun x hx => ⟨rfl, un hx, rfl, rfl, rfl⟩, fun k hk => ⟨vp_in_nI (by omega) (by decide), fun x2 e2 => ?_⟩, fun k hk => b_firstJob h6 hJ ?_⟩
      · rw [nI_clamp (by omega), a3] at e2
        have e2 : x2 = nI h := e2
        subst e2
        refine ⟨fun q => absurd q (m1_ne (by omega)), fun _ x4 e4 f5 e5 => ⟨vp_in_nI (by omega) (by decide), fun f7 e7 => ?_⟩⟩
        rw [nI_clamp (by omega)] at e4 e5
        rw [nI_clamp (by omega), em, edec] at e7
        rw [e7, nI_clamp (by omega), us]
        refine ⟨fun _ => ?_, fun q => absurd (nI_lt (a := 0) (by omega) (by omega)) q⟩
        rw [e5, e4]
        exact hk
      · rw [hq, show hdI (h :: t) = nI h from rfl]
        refine ⟨fun q => absurd q (m1_ne (by omega)), fun _ => ⟨i293 (by omega), fun f4 e4 => ?_⟩⟩
        rw [q293 (by omega), em2, edec] at e4
        rw [e4, q293 (by omega), us]
        exact ⟨fun q => absurd q (nI_nle (by omega) (by omega)), fun _ => hk⟩
    · exact absurd (em2.trans (by rw [show m = 1 by omega])) (hno h t hq)
end SRV
