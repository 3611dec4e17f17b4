/-! The candidates, as a function; a job is dispatched. -/
def cdF (cd sUp : Nat → Int32) (S : Nat) : Nat → Int32 := fun k => if k < (ups sUp S).length then nI ((ups sUp S).getD k 0) else cd k
theorem cdF_ents (cd sUp : Nat → Int32) (S : Nat) : ents (cdF cd sUp S) (ups sUp S) := fun k x hk => by
  unfold cdF
  rw [if_pos (List.getElem?_eq_some_iff.mp hk).1, List.getD_eq_getElem?_getD, hk]
  rfl
theorem cdF_0 (cd sUp : Nat → Int32) : cdF cd sUp 0 = cd := by
  funext k
  exact if_neg (by simp [ups])
theorem cdF_n {cd sUp : Nat → Int32} {i : Nat} (e : ups sUp (i + 1) = ups sUp i) : cdF cd sUp (i + 1) = cdF cd sUp i := by
  unfold cdF
  rw [e]
theorem cdF_y {cd sUp : Nat → Int32} {i : Nat} (e : ups sUp (i + 1) = ups sUp i ++ [i]) : cdF cd sUp (i + 1) = upd (cdF cd sUp i) (ups sUp i).length (nI i) := by
  funext k
  unfold cdF
  rw [e, List.length_append, List.length_singleton]
  by_cases q : k = (ups sUp i).length
  · subst q
    rw [us, if_pos (by omega), List.getD_eq_getElem?_getD, List.getElem?_append_right (Nat.le_refl _), Nat.sub_self]
    rfl
  · rw [un q]
    by_cases q2 : k < (ups sUp i).length
    · rw [if_pos (by omega), if_pos q2, List.getD_eq_getElem?_getD, List.getElem?_append_left q2, List.getD_eq_getElem?_getD]
    · rw [if_neg (by omega), if_neg q2]
section DSP
variable {nw nw1 sUp sLen sWrk sReg sFst sLst dCnt dPol dPtr cnd cd : Nat → Int32} {dIdl dKnw : Nat → Nat → Int32} {jFin jBeg jWs jMis : Int32} {jSrv jLft jSub jWai jNxt : Nat → Int32} {S D J T r md : Nat} {Ls : Nat → List Nat}
theorem b_findF (hS : S ≤ 8) (h4 : nw 4 = nI S) (h9 : ∀ s, s < S → nw (9 + s) = sUp s ∧ (sUp s = 0 ∨ sUp s = 1)) {k : Int32 → (Nat → Int32) → Prop} (h : k (nI (ups sUp S).length) (cdF cd sUp S)) : wp_X5_findCandidates nw cd k := by
  have main : ∀ n i, n + i = S → wp_X5_findCandidates_L4 nw k (n + 1) (nI i) (nI (ups sUp i).length) (cdF cd sUp i) := by
    intro n
    induction n with
    | zero =>
      intro i hi
      have e : i = S := by omega
      subst e
      exact ⟨fun _ => h, fun q => absurd (by rw [h4]; exact nI_le (Nat.le_refl _) (by omega)) q⟩
    | succ n ih =>
      intro i hi
      have hl := ups_len (sUp := sUp) i
      refine ⟨fun q => absurd q (by rw [h4]; exact nI_ge (by omega) (by omega)), fun _ => b_isUp (by omega) (h9 i (by omega)).1 (h9 i (by omega)).2 ⟨fun q x7 e7 => ?_, fun q => ⟨vp_in_nI (by omega) (by decide), fun f9 e9 x10 e10 x11 e11 => ?_⟩⟩⟩
      · rw [nI_1] at e7
        have e : ups sUp (i + 1) = ups sUp i := fil_n (by simp [q])
        rw [e7, ← e, ← cdF_n e]
        exact ih (i + 1) (by omega)
      · have e : ups sUp (i + 1) = ups sUp i ++ [i] := fil_y (by simp [q])
        rw [nI_1] at e10 e11
        rw [nI_clamp (by omega), ← cdF_y e] at e9
        rw [e9, e10, e11, show (ups sUp i).length + 1 = (ups sUp (i + 1)).length by rw [e, List.length_append]; rfl]
        exact ih (i + 1) (by omega)
  have h0 := main S 0 (by omega)
  rw [cdF_0] at h0
  exact ⟨S + 1, h0⟩
def wpPut (r15 size r17 : Int32) (nw20 : Nat → Int32) (K : (Nat → Int32) → Prop) : Prop := ∀ x21 : Int32, x21 = (nw20 6) → ((vp_in (93 + x21) 893) ∧ (∀ nw_23 : Nat → Int32, nw_23 = upd nw20 (93 + x21).toNatClampNeg r15 → ((vp_in (293 + x21) 893) ∧ (∀ nw_25 : Nat → Int32, nw_25 = upd nw_23 (293 + x21).toNatClampNeg size → ((r17 = 0 → ((vp_in (493 + x21) 893) ∧ (∀ nw_33 : Nat → Int32, nw_33 = upd nw_25 (493 + x21).toNatClampNeg 0 → ((vp_in (693 + x21) 893) ∧ (∀ nw_35 : Nat → Int32, nw_35 = upd nw_33 (693 + x21).toNatClampNeg (nw_33 1) → (∀ nw_36 : Nat → Int32, nw_36 = upd nw_35 6 ((nw_35 6) + 1) → (K nw_36))))))) ∧ (¬ r17 = 0 → ((vp_in (493 + x21) 893) ∧ (∀ nw_33 : Nat → Int32, nw_33 = upd nw_25 (493 + x21).toNatClampNeg (-1) → ((vp_in (693 + x21) 893) ∧ (∀ nw_35 : Nat → Int32, nw_35 = upd nw_33 (693 + x21).toNatClampNeg (nw_33 1) → (∀ nw_36 : Nat → Int32, nw_36 = upd nw_35 6 ((nw_35 6) + 1) → (K nw_36))))))))))))
def wpSub (nw cd : Nat → Int32) (d n size : Int32) (K : Int32 → (Nat → Int32) → Prop) : Prop := wp_X5_taken nw cd d n (fun r15 nw_16 => wp_X5_lengthOf nw_16 r15 (fun r17 => (r17 ≤ 0 → (∀ nw_19 : Nat → Int32, nw_19 = upd nw_16 8 ((nw_16 8) + 0) → (wp_X5_leave nw_19 r15 (fun nw_20 => wpPut r15 size r17 nw_20 (K r15))))) ∧ (¬ (r17 ≤ 0) → (wp_X5_isSomeIdle nw_16 cd n (fun r37 => (r37 = 0 → (∀ nw_39 : Nat → Int32, nw_39 = upd nw_16 8 ((nw_16 8) + 0) → (wp_X5_leave nw_39 r15 (fun nw_40 => wpPut r15 size r17 nw_40 (K r15))))) ∧ (¬ (r37 = 0) → (∀ nw_57 : Nat → Int32, nw_57 = upd nw_16 8 ((nw_16 8) + 1) → (wp_X5_leave nw_57 r15 (fun nw_58 => wpPut r15 size r17 nw_58 (K r15))))))))))
theorem b_put5 {x z : Nat} {v w : Int32} (h6 : nw 6 = nI J) (h1 : nw 1 = nI T) (hJ : J < 200) (w0 : v = 0 → w = 0) (w1 : ¬ v = 0 → w = -1) {K : (Nat → Int32) → Prop} (hk : K (nwP nw J x z T w)) : wpPut (nI x) (nI z) v nw K := by
  intro x21 e21
  rw [h6] at e21
  subst e21
  refine ⟨i93 (by omega), fun f23 e23 => ⟨i293 (by omega), fun f25 e25 => ⟨fun q => ⟨i493 (by omega), fun f33 e33 => ⟨i693 (by omega), fun f35 e35 f36 e36 => ?_⟩⟩, fun q => ⟨i493 (by omega), fun f33 e33 => ⟨i693 (by omega), fun f35 e35 f36 e36 => ?_⟩⟩⟩⟩⟩
  · rw [q93 (by omega)] at e23
    rw [q293 (by omega)] at e25
    rw [q493 (by omega), ← w0 q] at e33
    have t1 : f33 1 = nI T := by rw [e33, un (by omega), e25, un (by omega), e23, un (by omega)]; exact h1
    rw [q693 (by omega), t1] at e35
    have t6 : f35 6 = nI J := by rw [e35, un (by omega), e33, un (by omega), e25, un (by omega), e23, un (by omega)]; exact h6
    rw [t6, nI_1] at e36
    subst e23 e25 e33 e35 e36
    exact hk
  · rw [q93 (by omega)] at e23
    rw [q293 (by omega)] at e25
    rw [q493 (by omega), ← w1 q] at e33
    have t1 : f33 1 = nI T := by rw [e33, un (by omega), e25, un (by omega), e23, un (by omega)]; exact h1
    rw [q693 (by omega), t1] at e35
    have t6 : f35 6 = nI J := by rw [e35, un (by omega), e33, un (by omega), e25, un (by omega), e23, un (by omega)]; exact h6
    rw [t6, nI_1] at e36
    subst e23 e25 e33 e35 e36
    exact hk
theorem b_disp (H : RT nw sUp sLen sWrk sReg sFst sLst dCnt dIdl jFin jBeg jWs jSrv jLft jSub jWai jNxt S D J T r md Ls) (hR : RK nw dPtr dKnw S) (h8 : nw 8 = jMis) (hJ : J < 200) {d z p : Nat} (hd : d < D) (hz : 1 ≤ z) (hz2 : z ≤ 20) (hpol : dPol d = nI p) (hpn : nw (17 + d) = nI p) (hp : p ≤ 4) (hl0 : 0 < (ups sUp S).length) (hc : ents cnd (ups sUp S)) (hc2 : ents cd (ups sUp S)) :
    ∃ (x r1 : Nat) (sFst1 dPtr1 : Nat → Int32) (dKnw1 : Nat → Nat → Int32) (jBeg1 jWs1 jMis1 : Int32) (jWai1 jNxt1 : Nat → Int32) (PM : (Nat → Int32) → Prop), x < S ∧ (∀ y, y ≠ x → sFst1 y = sFst y) ∧
      (∀ (dCnt1 : Nat → Int32) (dIdl1 : Nat → Nat → Int32) (nw1 : Nat → Int32), (∀ q, q < 4 → dCnt1 q = nI (lsx Ls x q).length ∧ ents (dIdl1 q) (lsx Ls x q)) → PM nw1 → RT nw1 sUp (upd sLen x (sLen x + 1)) (upd sWrk x (sWrk x + nI z)) (upd sReg x (-1)) sFst1 (upd sLst x (nI J)) dCnt1 dIdl1 jFin jBeg1 jWs1 (upd jSrv J (nI x)) (upd jLft J (nI z)) (upd jSub J (nI T)) jWai1 jNxt1 S D (J + 1) T r1 md (lsx Ls x) ∧ RK nw1 dPtr1 dKnw1 S ∧ nw1 8 = jMis1 ∧ (∀ i, (i = 3 ∨ (17 ≤ i ∧ i < 21)) → nw1 i = nw i)) ∧
      (∀ k : Int32 → Int64 → (Nat → Int32) → (Nat → Int32) → (Nat → Int32) → (Nat → Int32) → (Nat → Int32) → (Nat → Int32) → (Nat → Int32) → (Nat → Nat → Int32) → (Nat → Nat → Int32) → Int32 → Int32 → Int32 → Int32 → (Nat → Int32) → (Nat → Int32) → (Nat → Int32) → (Nat → Int32) → (Nat → Int32) → Prop, (∀ (dCnt1 : Nat → Int32) (dIdl1 : Nat → Nat → Int32), (∀ q, q < 4 → dCnt1 q = nI (lsx Ls x q).length ∧ ents (dIdl1 q) (lsx Ls x q)) → k (nI x) (lN r1) (upd sLen x (sLen x + 1)) (upd sWrk x (sWrk x + nI z)) (upd sReg x (-1)) sFst1 (upd sLst x (nI J)) dPtr1 dCnt1 dIdl1 dKnw1 (nI (J + 1)) jBeg1 jWs1 jMis1 (upd jSrv J (nI x)) (upd jLft J (nI z)) (upd jSub J (nI T)) jWai1 jNxt1) → wp_X3_dispatch (nI T) (lN r) (nI S) (nI (ups sUp S).length) sUp sLen sWrk sReg sFst sLst dPol dPtr dCnt dIdl dKnw (nI J) jBeg jWs jMis jSrv jLft jSub jWai jNxt cnd (nI d) (nI z) k) ∧
      (∀ K : Int32 → (Nat → Int32) → Prop, (∀ nw1, PM nw1 → K (nI x) nw1) → wpSub nw cd (nI d) (nI (ups sUp S).length) (nI z) K) := by
  obtain ⟨hI, hQ, hJb, hW, ⟨h0, hr⟩, h7, ⟨h6, hJ2⟩, ⟨h5, hD⟩, ⟨h4, hS⟩, ⟨h2, hmd⟩, ⟨h1, hT⟩, hU⟩ := id H
  obtain ⟨x, r1, nw1, dPtr1, dKnw1, hx, hr1, e0, en, hR1, tX, tM⟩ := b_taken hI (hQ.lk hJ2 h6) hR hS hD h0 hr hd hpol hpn hp hl0 hc hc2
  have H1 := H.rnd e0 hr1 (fun i hi h => en i hi (by omega))
  have h61 : nw1 6 = nI J := (en 6 (by omega) (by omega)).trans h6
  have h51 : nw1 5 = nI D := (en 5 (by omega) (by omega)).trans h5
  have h11 : nw1 1 = nI T := (en 1 (by omega) (by omega)).trans h1
  have h81 : nw1 8 = jMis := (en 8 (by omega) (by omega)).trans h8
  have hK1 : LK nw1 sLen S J := (H1.2.1).lk hJ2 h61
  obtain ⟨ra, hra, aX, aM⟩ := b_anyIdle (sUp := sUp) (cd := cd) hK1 hS hc2
  obtain ⟨w, jBeg1, jWs1, sFst1, jWai1, jNxt1, w0, w1, f2, eX, eP⟩ := b_enq H1 hJ hx hz hz2
  have coreX : ∀ (jm : Int32) (k : Int32 → Int64 → (Nat → Int32) → (Nat → Int32) → (Nat → Int32) → (Nat → Int32) → (Nat → Int32) → (Nat → Int32) → (Nat → Int32) → (Nat → Nat → Int32) → (Nat → Nat → Int32) → Int32 → Int32 → Int32 → Int32 → (Nat → Int32) → (Nat → Int32) → (Nat → Int32) → (Nat → Int32) → (Nat → Int32) → Prop), (∀ (dCnt1 : Nat → Int32) (dIdl1 : Nat → Nat → Int32), (∀ q, q < 4 → dCnt1 q = nI (lsx Ls x q).length ∧ ents (dIdl1 q) (lsx Ls x q)) → k (nI x) (lN r1) (upd sLen x (sLen x + 1)) (upd sWrk x (sWrk x + nI z)) (upd sReg x (-1)) sFst1 (upd sLst x (nI J)) dPtr1 dCnt1 dIdl1 dKnw1 (nI (J + 1)) jBeg1 jWs1 jm (upd jSrv J (nI x)) (upd jLft J (nI z)) (upd jSub J (nI T)) jWai1 jNxt1) → wp_X3_leaveIdleList sReg dCnt dIdl (nI x) (fun sReg_8 dCnt_9 dIdl_10 => wp_X3_enqueue (nI T) sLen sWrk sFst sLst (nI J) jBeg jWs jSrv jLft jSub jWai jNxt (nI x) (nI z) (fun sLen_11 sWrk_12 sFst_13 sLst_14 jCnt_15 jBeg_16 jWs_17 jSrv_18 jLft_19 jSub_20 jWai_21 jNxt_22 => k (nI x) (lN r1) sLen_11 sWrk_12 sReg_8 sFst_13 sLst_14 dPtr1 dCnt_9 dIdl_10 dKnw1 jCnt_15 jBeg_16 jWs_17 jm jSrv_18 jLft_19 jSub_20 jWai_21 jNxt_22)) := fun jm k hk => b_leaveX hI hS hD hx (fun dCnt1 dIdl1 hP => eX _ (hk dCnt1 dIdl1 hP))
  have H19 : ∀ v : Int32, RT (upd nw1 8 v) sUp sLen sWrk sReg sFst sLst dCnt dIdl jFin jBeg jWs jSrv jLft jSub jWai jNxt S D J T r1 md Ls := fun v => H1.cong (fun i _ h _ => un h)
  have coreM : ∀ (e : Int32) (K : (Nat → Int32) → Prop), (∀ nwf, (∃ nwL : Nat → Int32, (∀ q, q < 4 → nwL (57 + q) = nI (lsx Ls x q).length ∧ ents (fun k => nwL (61 + 8 * q + k)) (lsx Ls x q)) ∧ (∀ i, (i < 57 ∨ 93 ≤ i) → nwL i = upd nw1 8 (jMis + e) i) ∧ nwf = nwP nwL J x z T w) → K nwf) → ∀ nw19 : Nat → Int32, nw19 = upd nw1 8 ((nw1 8) + e) → wp_X5_leave nw19 (nI x) (fun nw20 => wpPut (nI x) (nI z) (sLen x) nw20 K) := fun e K hk nw19 e19 => by
    rw [h81] at e19
    subst e19
    refine b_leaveM (H19 _).1 hS hD (by rw [un (by omega)]; exact h51) hx (fun nwL g1 g2 => b_put5 ?_ ?_ hJ w0 w1 (hk _ ⟨nwL, g1, g2, rfl⟩))
    · rw [g2 _ (by omega), un (by omega)]; exact h61
    · rw [g2 _ (by omega), un (by omega)]; exact h11
  have fin : ∀ e : Int32, (∀ k : Int32 → Int64 → (Nat → Int32) → (Nat → Int32) → (Nat → Int32) → (Nat → Int32) → (Nat → Int32) → (Nat → Int32) → (Nat → Int32) → (Nat → Nat → Int32) → (Nat → Nat → Int32) → Int32 → Int32 → Int32 → Int32 → (Nat → Int32) → (Nat → Int32) → (Nat → Int32) → (Nat → Int32) → (Nat → Int32) → Prop, (∀ (dCnt1 : Nat → Int32) (dIdl1 : Nat → Nat → Int32), (∀ q, q < 4 → dCnt1 q = nI (lsx Ls x q).length ∧ ents (dIdl1 q) (lsx Ls x q)) → k (nI x) (lN r1) (upd sLen x (sLen x + 1)) (upd sWrk x (sWrk x + nI z)) (upd sReg x (-1)) sFst1 (upd sLst x (nI J)) dPtr1 dCnt1 dIdl1 dKnw1 (nI (J + 1)) jBeg1 jWs1 (jMis + e) (upd jSrv J (nI x)) (upd jLft J (nI z)) (upd jSub J (nI T)) jWai1 jNxt1) → wp_X3_dispatch (nI T) (lN r) (nI S) (nI (ups sUp S).length) sUp sLen sWrk sReg sFst sLst dPol dPtr dCnt dIdl dKnw (nI J) jBeg jWs jMis jSrv jLft jSub jWai jNxt cnd (nI d) (nI z) k) → (∀ K : Int32 → (Nat → Int32) → Prop, (∀ nw19 : Nat → Int32, nw19 = upd nw1 8 ((nw1 8) + e) → wp_X5_leave nw19 (nI x) (fun nw20 => wpPut (nI x) (nI z) (sLen x) nw20 (K (nI x)))) → wpSub nw cd (nI d) (nI (ups sUp S).length) (nI z) K) → ∃ (x r1 : Nat) (sFst1 dPtr1 : Nat → Int32) (dKnw1 : Nat → Nat → Int32) (jBeg1 jWs1 jMis1 : Int32) (jWai1 jNxt1 : Nat → Int32) (PM : (Nat → Int32) → Prop), x < S ∧ (∀ y, y ≠ x → sFst1 y = sFst y) ∧
      (∀ (dCnt1 : Nat → Int32) (dIdl1 : Nat → Nat → Int32) (nw1 : Nat → Int32), (∀ q, q < 4 → dCnt1 q = nI (lsx Ls x q).length ∧ ents (dIdl1 q) (lsx Ls x q)) → PM nw1 → RT nw1 sUp (upd sLen x (sLen x + 1)) (upd sWrk x (sWrk x + nI z)) (upd sReg x (-1)) sFst1 (upd sLst x (nI J)) dCnt1 dIdl1 jFin jBeg1 jWs1 (upd jSrv J (nI x)) (upd jLft J (nI z)) (upd jSub J (nI T)) jWai1 jNxt1 S D (J + 1) T r1 md (lsx Ls x) ∧ RK nw1 dPtr1 dKnw1 S ∧ nw1 8 = jMis1 ∧ (∀ i, (i = 3 ∨ (17 ≤ i ∧ i < 21)) → nw1 i = nw i)) ∧
      (∀ k : Int32 → Int64 → (Nat → Int32) → (Nat → Int32) → (Nat → Int32) → (Nat → Int32) → (Nat → Int32) → (Nat → Int32) → (Nat → Int32) → (Nat → Nat → Int32) → (Nat → Nat → Int32) → Int32 → Int32 → Int32 → Int32 → (Nat → Int32) → (Nat → Int32) → (Nat → Int32) → (Nat → Int32) → (Nat → Int32) → Prop, (∀ (dCnt1 : Nat → Int32) (dIdl1 : Nat → Nat → Int32), (∀ q, q < 4 → dCnt1 q = nI (lsx Ls x q).length ∧ ents (dIdl1 q) (lsx Ls x q)) → k (nI x) (lN r1) (upd sLen x (sLen x + 1)) (upd sWrk x (sWrk x + nI z)) (upd sReg x (-1)) sFst1 (upd sLst x (nI J)) dPtr1 dCnt1 dIdl1 dKnw1 (nI (J + 1)) jBeg1 jWs1 jMis1 (upd jSrv J (nI x)) (upd jLft J (nI z)) (upd jSub J (nI T)) jWai1 jNxt1) → wp_X3_dispatch (nI T) (lN r) (nI S) (nI (ups sUp S).length) sUp sLen sWrk sReg sFst sLst dPol dPtr dCnt dIdl dKnw (nI J) jBeg jWs jMis jSrv jLft jSub jWai jNxt cnd (nI d) (nI z) k) ∧
      (∀ K : Int32 → (Nat → Int32) → Prop, (∀ nw1, PM nw1 → K (nI x) nw1) → wpSub nw cd (nI d) (nI (ups sUp S).length) (nI z) K) := fun e hX hM => by
    refine ⟨x, r1, sFst1, dPtr1, dKnw1, jBeg1, jWs1, jMis + e, jWai1, jNxt1, _, hx, f2, fun dCnt1 dIdl1 nwf hP hQ2 => ?_, hX, fun K hk => hM K (coreM e (K (nI x)) hk)⟩
    obtain ⟨nwL, g1, g2, g3⟩ := hQ2
    subst g3
    have ho : ∀ i, i < 57 → i ≠ 6 → nwP nwL J x z T w i = upd nw1 8 (jMis + e) i := fun i hi h6 => by rw [nwP_out h6 (by omega) (by omega) (by omega) (by omega), g2 i (by omega)]
    refine ⟨eP nwL _ dCnt1 dIdl1 r1 _ ((H19 _).lve hP g1 g2) (fun i hi => by rw [g2 i (by omega), un (by omega)]) us, hR1.cong (fun i a b => by rw [ho i b (by omega), un (by omega)]), by rw [ho 8 (by omega) (by omega), us], fun i hi => by rw [ho i (by omega) (by omega), un (by omega), en i (by omega) (by omega)]⟩
  have hd4 : (nI d).toNatClampNeg = d := nI_clamp (by omega)
  by_cases hq : sLen x ≤ 0
  · refine fin 0 (fun k hk => ⟨vp_in_nI (by omega) (by decide), ?_⟩) (fun K hK => tM _ (hK1.len hx ⟨fun _ => hK, fun q => absurd hq q⟩))
    rw [hd4]
    refine tX _ ⟨vp_in_nI (by omega) (by decide), fun _ => coreX jMis k (by rw [Int32.add_zero] at hk; exact hk), fun q => absurd (by rw [nI_clamp (by omega)]; exact hq) q⟩
  · rcases hra with e | e
    · refine fin 0 (fun k hk => ⟨vp_in_nI (by omega) (by decide), ?_⟩) (fun K hK => tM _ (hK1.len hx ⟨fun q => absurd q hq, fun _ => aM _ ⟨fun _ => hK, fun q => absurd e q⟩⟩))
      rw [hd4]
      exact tX _ ⟨vp_in_nI (by omega) (by decide), fun q => absurd (by rw [nI_clamp (by omega)] at q; exact q) hq, fun _ => aX _ ⟨fun _ => coreX jMis k (by rw [Int32.add_zero] at hk; exact hk), fun q => absurd e q⟩⟩
    · have e1 : ¬ ra = 0 := by rw [e]; decide
      refine fin 1 (fun k hk => ⟨vp_in_nI (by omega) (by decide), ?_⟩) (fun K hK => tM _ (hK1.len hx ⟨fun q => absurd q hq, fun _ => aM _ ⟨fun q => absurd q e1, fun _ => hK⟩⟩))
      rw [hd4]
      exact tX _ ⟨vp_in_nI (by omega) (by decide), fun q => absurd (by rw [nI_clamp (by omega)] at q; exact q) hq, fun _ => aX _ ⟨fun q => absurd q e1, fun _ x40 e40 => by rw [e40]; exact coreX (jMis + 1) k hk⟩⟩
end DSP
