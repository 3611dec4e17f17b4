/-! A tick at one server: all cases. -/
section SRC
variable {nw sUp sLen sWrk sReg sFst sLst dCnt : Nat → Int32} {dIdl : Nat → Nat → Int32} {jFin jBeg jWs : Int32} {jSrv jLft jSub jWai jNxt : Nat → Int32} {S D J T r md : Nat} {Ls : Nat → List Nat}
theorem b_serve (H : RT nw sUp sLen sWrk sReg sFst sLst dCnt dIdl jFin jBeg jWs jSrv jLft jSub jWai jNxt S D J T r md Ls) {s : Nat} (hs : s < S) :
    ∃ (r1 : Nat) (nw1 sLen1 sWrk1 sReg1 sFst1 sLst1 dCnt1 : Nat → Int32) (dIdl1 : Nat → Nat → Int32) (jFin1 jBeg1 jWs1 : Int32) (jLft1 jWai1 : Nat → Int32) (Ls1 : Nat → List Nat), RT nw1 sUp sLen1 sWrk1 sReg1 sFst1 sLst1 dCnt1 dIdl1 jFin1 jBeg1 jWs1 jSrv jLft1 jSub jWai1 jNxt S D J T r1 md Ls1 ∧ (∀ i, (i = 3 ∨ i = 8 ∨ (17 ≤ i ∧ i < 57)) → nw1 i = nw i) ∧ (∀ x, x ≠ s → sLen1 x = sLen x ∧ sWrk1 x = sWrk x ∧ sReg1 x = sReg x ∧ sFst1 x = sFst x ∧ sLst1 x = sLst x) ∧ (∀ k : Int64 → (Nat → Int32) → (Nat → Int32) → (Nat → Int32) → (Nat → Int32) → (Nat → Int32) → (Nat → Int32) → (Nat → Nat → Int32) → Int32 → Int32 → Int32 → (Nat → Int32) → (Nat → Int32) → Prop, k (lN r1) sLen1 sWrk1 sReg1 sFst1 sLst1 dCnt1 dIdl1 jFin1 jBeg1 jWs1 jLft1 jWai1 → wp_X3_serve (nI T) (lN r) (nI md) (nI D) sUp sLen sWrk sReg sFst sLst dCnt dIdl jFin jBeg jWs jLft jSub jWai jNxt (nI s) k) ∧ (∀ k : (Nat → Int32) → Prop, k nw1 → wp_X5_serve nw (nI s) k) := by
  by_cases hno : ∀ h t, que nw (nI s) J = h :: t → ¬ nw (293 + h) = nI 1
  · exact b_serveA H hs hno
  · have hex : ∃ h t, que nw (nI s) J = h :: t ∧ nw (293 + h) = nI 1 := Classical.byContradiction (fun q => hno (fun h t h1 h2 => q ⟨h, t, h1, h2⟩))
    obtain ⟨h, t, hq, em⟩ := hex
    obtain ⟨hI, hQ, hJb, hW, ⟨h0, hr⟩, h7, ⟨h6, hJ⟩, ⟨h5, hD⟩, ⟨h4, hS⟩, ⟨h2, hmd⟩, ⟨h1, hT⟩, hU⟩ := id H
    obtain ⟨a1, a2, a3, a4, a5, a6⟩ := hQ s hs
    have hmem : h ∈ que nw (nI s) J := by rw [hq]; exact List.mem_cons_self
    obtain ⟨hh, e93, hpos⟩ := que_in hmem
    obtain ⟨b1, b2, b3, b4, -, b6⟩ := hJb h hh
    have em2 : jLft h = nI 1 := b2.symm.trans em
    have hl := que_len nw (nI s) J
    rw [hq, List.length_cons] at hl
    have hn : sReg s = -1 := by
      rcases hI.at hD hs with z | ⟨d, -, z, -⟩
      · exact z.1
      · have e := (hI.2.2.2.1 d s z).2.2.2
        rw [a1, hq, List.length_cons] at e
        exact absurd e (nI_ne0 (by omega) (by omega))
    have edec : nI 1 - 1 = nI 0 := by decide
    have hqF : que (upd (upd nw (293 + h) (nI 0)) 7 (jFin + 1)) (nI s) J = t := by
      rw [que_cong (nw := upd nw (293 + h) (nI 0)) hJ (fun i _ _ => un (by omega))]
      exact que_done hJ hq
    have hF6 : upd (upd nw (293 + h) (nI 0)) 7 (jFin + 1) 6 = nI J := by rw [un (by omega), un (by omega)]; exact h6
    have hlenF : upd sLen s (sLen s - 1) s = nI t.length := by rw [us, a1, hq, List.length_cons, nI_pred]
    rw [hq] at a3 a4 a5 a6
    have ehd : sFst s = nI h := a3
    obtain ⟨c1, c2⟩ := lnk_tail a5
    -- what both do up to the choice of the next job
    have goX : ∀ k : Int64 → (Nat → Int32) → (Nat → Int32) → (Nat → Int32) → (Nat → Int32) → (Nat → Int32) → (Nat → Int32) → (Nat → Nat → Int32) → Int32 → Int32 → Int32 → (Nat → Int32) → (Nat → Int32) → Prop, wp_X3_finish (nI T) sLen sFst sLst jFin jBeg jWs jSub jWai jNxt s (nI h) (fun sLen_9 sFst_10 sLst_11 jFin_12 jBeg_13 jWs_14 jWai_15 => wp_X2_isIdle sUp sLen_9 s (fun r16 => (r16 = 0 → (k (lN r) sLen_9 (upd sWrk s (sWrk s - 1)) sReg sFst_10 sLst_11 dCnt dIdl jFin_12 jBeg_13 jWs_14 (upd jLft h (nI 0)) jWai_15)) ∧ (¬ (r16 = 0) → (wp_X3_register (lN r) (nI md) (nI D) sReg dCnt dIdl (nI s) (fun rnd_18 sReg_19 dCnt_20 dIdl_21 => k rnd_18 sLen_9 (upd sWrk s (sWrk s - 1)) sReg_19 sFst_10 sLst_11 dCnt_20 dIdl_21 jFin_12 jBeg_13 jWs_14 (upd jLft h (nI 0)) jWai_15))))) → wp_X3_serve (nI T) (lN r) (nI md) (nI D) sUp sLen sWrk sReg sFst sLst dCnt dIdl jFin jBeg jWs jLft jSub jWai jNxt (nI s) k := fun k hk => by
      refine ⟨vp_in_nI (by omega) (by decide), fun x2 e2 => ?_⟩
      rw [nI_clamp (by omega), ehd] at e2
      subst e2
      refine ⟨fun q => absurd q (m1_ne (by omega)), fun _ x4 e4 f5 e5 => ⟨vp_in_nI (by omega) (by decide), fun f7 e7 => ?_⟩⟩
      rw [nI_clamp (by omega)] at e4 e5
      rw [nI_clamp (by omega), em2, edec] at e7
      rw [e7, nI_clamp (by omega), us]
      refine ⟨fun q => absurd q (by decide), fun _ => ?_⟩
      rw [e5, e4, nI_clamp (by omega)]
      exact hk
    have goM : ∀ k : (Nat → Int32) → Prop, wp_X5_firstJob (upd (upd nw (293 + h) (nI 0)) 7 (jFin + 1)) (nI s) (fun r7 => (r7 = (-1) → (wp_X5_isUp (upd (upd nw (293 + h) (nI 0)) 7 (jFin + 1)) (nI s) (fun r9 => (r9 = 0 → (k (upd (upd nw (293 + h) (nI 0)) 7 (jFin + 1)))) ∧ (¬ (r9 = 0) → (wp_X5_register (upd (upd nw (293 + h) (nI 0)) 7 (jFin + 1)) (nI s) (fun nw_11 => k nw_11)))))) ∧ (¬ (r7 = (-1)) → ((vp_in (693 + r7) 893) ∧ ((vp_in (493 + r7) 893) ∧ (∀ nw_14 : Nat → Int32, nw_14 = upd (upd (upd nw (293 + h) (nI 0)) 7 (jFin + 1)) (493 + r7).toNatClampNeg (((upd (upd nw (293 + h) (nI 0)) 7 (jFin + 1)) 1) - ((upd (upd nw (293 + h) (nI 0)) 7 (jFin + 1)) (693 + r7).toNatClampNeg)) → (k nw_14)))))) → wp_X5_serve nw (nI s) k := fun k hk => b_firstJob h6 hJ (by
      rw [hq, show hdI (h :: t) = nI h from rfl]
      refine ⟨fun q => absurd q (m1_ne (by omega)), fun _ => ⟨i293 (by omega), fun f4 e4 => ?_⟩⟩
      rw [q293 (by omega), em, edec] at e4
      rw [e4, q293 (by omega), us]
      refine ⟨fun _ f6 e6 => ?_, fun q => absurd (by decide) q⟩
      rw [un (by omega), h7] at e6
      rw [e6]
      exact hk)
    cases t with
    | nil =>
      have H1 := H.fin hs hn hq em (sLst1 := upd sLst s (-1)) us (fun x hx => un hx)
      have c1 : jNxt h = -1 := c1
      have hlz : upd sLen s (sLen s - 1) s = 0 := hlenF
      have finX : ∀ K : (Nat → Int32) → (Nat → Int32) → (Nat → Int32) → Int32 → Int32 → Int32 → (Nat → Int32) → Prop, K (upd sLen s (sLen s - 1)) (upd sFst s (jNxt h)) (upd sLst s (-1)) (jFin + 1) jBeg jWs jWai → wp_X3_finish (nI T) sLen sFst sLst jFin jBeg jWs jSub jWai jNxt s (nI h) K := fun K hK x1 e1 x2 e2 f3 e3 => ⟨vp_in_nI (by omega) (by decide), fun x5 e5 f6 e6 => by
        rw [nI_clamp (by omega)] at e5
        subst e1 e2 e3 e5 e6
        exact ⟨fun _ f11 e11 => by rw [e11]; exact hK, fun q => absurd (us.trans c1) q⟩⟩
      rcases (hU s hs).2 with hu | hu
      · refine ⟨r, _, _, _, _, _, _, _, _, _, _, _, _, _, _, H1, fun i hi => by rw [un (by omega), un (by omega)], fun x hx => ⟨un hx, un hx, rfl, un hx, un hx⟩, fun k hk => goX k (finX _ ⟨fun _ => ⟨fun _ => hk, fun q => absurd rfl q⟩, fun q => absurd hu q⟩), fun k hk => goM k (b_firstJob hF6 hJ ?_)⟩
        rw [hqF]
        refine ⟨fun _ => b_isUp (sUp := sUp) (by omega) (by rw [un (by omega), un (by omega)]; exact (hU s hs).1) (hU s hs).2 ?_, fun q => absurd rfl q⟩
        exact ⟨fun _ => hk, fun q => absurd hu q⟩
      · obtain ⟨r1, nw1, sReg1, dCnt1, dIdl1, Ls1, g1, g2, g3, g4, g5⟩ := H1.reg hs hn hu hlz
        refine ⟨r1, nw1, _, _, sReg1, _, _, dCnt1, dIdl1, _, _, _, _, _, Ls1, g1, fun i hi => by rw [g2 i (by omega) (by omega), un (by omega), un (by omega)], fun x hx => ⟨un hx, un hx, g3 x hx, un hx, un hx⟩, fun k hk => goX k (finX _ ⟨fun q => absurd (q.symm.trans hu) (by decide), fun _ => ⟨fun _ => ⟨fun q => absurd q (by decide), fun _ => g4 _ hk⟩, fun q => absurd hlz q⟩⟩), fun k hk => goM k (b_firstJob hF6 hJ ?_)⟩
        rw [hqF]
        refine ⟨fun _ => b_isUp (sUp := sUp) (by omega) (by rw [un (by omega), un (by omega)]; exact (hU s hs).1) (hU s hs).2 ?_, fun q => absurd rfl q⟩
        exact ⟨fun q => absurd (q.symm.trans hu) (by decide), fun _ => g5 _ hk⟩
    | cons b t2 =>
      have H1 := H.fin hs hn hq em (sLst1 := sLst) (by rw [a4, lastI_tail]) (fun x hx => rfl)
      have hbm : b ∈ que nw (nI s) J := by rw [hq]; exact List.mem_cons_of_mem _ List.mem_cons_self
      have hb := (que_in hbm).1
      obtain ⟨d1, d2, d3, d4, -, v, hv, ev⟩ := hJb b hb
      have c1 : jNxt h = nI b := c1
      have hwb : upd (upd nw (293 + h) (nI 0)) 7 (jFin + 1) (493 + b) = -1 := by
        rw [un (by omega), un (by omega)]
        exact a6 b List.mem_cons_self
      have H2 := H1.beg hs hqF hwb (v := T - v) (by omega)
      have etv : nI T - nI v = nI (T - v) := pk_sub hv
      have hl0 : ¬ upd sLen s (sLen s - 1) s = 0 := by
        rw [hlenF, List.length_cons]
        rw [List.length_cons] at hl
        exact nI_ne0 (by omega) (by omega)
      refine ⟨r, _, _, _, _, _, _, _, _, _, _, _, _, _, _, H2, fun i hi => by rw [un (by omega), un (by omega), un (by omega)], fun x hx => ⟨un hx, un hx, rfl, un hx, rfl⟩, fun k hk => goX k ?_, fun k hk => goM k (b_firstJob hF6 hJ ?_)⟩
      · intro x1 e1 x2 e2 f3 e3
        refine ⟨vp_in_nI (by omega) (by decide), fun x5 e5 f6 e6 => ?_⟩
        rw [nI_clamp (by omega)] at e5
        subst e1 e2 e3 e5 e6
        rw [us, c1]
        refine ⟨fun q => absurd q (m1_ne (by omega)), fun _ => ⟨vp_in_nI (by omega) (by decide), fun f2 e2 x3 e3 x4 e4 => ?_⟩⟩
        rw [nI_clamp (by omega), ev, etv] at e2
        subst e2
        rw [nI_clamp (by omega), us] at e3
        subst e3 e4
        rw [← c1]
        refine ⟨fun _ => ⟨fun _ => hk, fun q => absurd rfl q⟩, fun _ => ⟨fun q => absurd q hl0, fun _ => ⟨fun _ => hk, fun q => absurd rfl q⟩⟩⟩
      · rw [hqF, show hdI (b :: t2) = nI b from rfl]
        refine ⟨fun q => absurd q (m1_ne (by omega)), fun _ => ⟨i693 (by omega), i493 (by omega), fun f e => ?_⟩⟩
        rw [q493 (by omega), q693 (by omega), un (j := 1) (by omega), un (j := 1) (by omega), un (j := 693 + b) (by omega), un (j := 693 + b) (by omega), h1, d4, ev, etv] at e
        rw [e]
        exact hk
end SRC
