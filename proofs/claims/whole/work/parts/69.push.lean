/-! A new job, within RT. -/
section PSH
variable {nw nw1 sUp sLen sWrk sReg sFst sLst dCnt : Nat → Int32} {dIdl : Nat → Nat → Int32} {jFin jBeg jWs : Int32} {jSrv jLft jSub jWai jNxt : Nat → Int32} {S D J T r md : Nat} {Ls : Nat → List Nat}
/-- the new job in the reference -/
def nwP (nw : Nat → Int32) (J x z T : Nat) (w : Int32) : Nat → Int32 := upd (upd (upd (upd (upd nw (93 + J) (nI x)) (293 + J) (nI z)) (493 + J) w) (693 + J) (nI T)) 6 (nI (J + 1))
theorem nwP_out {x z : Nat} {w : Int32} {i : Nat} (h6 : i ≠ 6) (h1 : i ≠ 93 + J) (h2 : i ≠ 293 + J) (h3 : i ≠ 493 + J) (h4 : i ≠ 693 + J) : nwP nw J x z T w i = nw i := by
  unfold nwP
  rw [un h6, un h4, un h3, un h2, un h1]
theorem nwP_93 {x z : Nat} {w : Int32} (hJ : J < 200) : nwP nw J x z T w (93 + J) = nI x := by
  unfold nwP
  rw [un (by omega), un (by omega), un (by omega), un (by omega), us]
theorem nwP_293 {x z : Nat} {w : Int32} (hJ : J < 200) : nwP nw J x z T w (293 + J) = nI z := by
  unfold nwP
  rw [un (by omega), un (by omega), un (by omega), us]
theorem nwP_493 {x z : Nat} {w : Int32} (hJ : J < 200) : nwP nw J x z T w (493 + J) = w := by
  unfold nwP
  rw [un (by omega), un (by omega), us]
theorem nwP_693 {x z : Nat} {w : Int32} (hJ : J < 200) : nwP nw J x z T w (693 + J) = nI T := by
  unfold nwP
  rw [un (by omega), us]
theorem RT.rnd (H : RT nw sUp sLen sWrk sReg sFst sLst dCnt dIdl jFin jBeg jWs jSrv jLft jSub jWai jNxt S D J T r md Ls) {r1 : Nat} (h0 : nw1 0 = nI r1) (hr : r1 < 2147483648) (h : ∀ i, i ≠ 0 → (i < 17 ∨ 57 ≤ i) → nw1 i = nw i) : RT nw1 sUp sLen sWrk sReg sFst sLst dCnt dIdl jFin jBeg jWs jSrv jLft jSub jWai jNxt S D J T r1 md Ls := by
  obtain ⟨hI, hQ, hJb, hW, -, h7, ⟨h6, hJ⟩, ⟨h5, hD⟩, ⟨h4, hS⟩, ⟨h2, hmd⟩, ⟨h1, hT⟩, hU⟩ := H
  exact ⟨hI.cong hS (fun i _ _ => h i (by omega) (by omega)), hQ.cong hJ (fun i _ _ => h i (by omega) (by omega)), hJb.cong hJ (fun i _ _ => h i (by omega) (by omega)), hW.cong hJ (fun i _ _ => h i (by omega) (by omega)), ⟨h0, hr⟩, (h 7 (by omega) (by omega)).trans h7, ⟨(h 6 (by omega) (by omega)).trans h6, hJ⟩, ⟨(h 5 (by omega) (by omega)).trans h5, hD⟩, ⟨(h 4 (by omega) (by omega)).trans h4, hS⟩, ⟨(h 2 (by omega) (by omega)).trans h2, hmd⟩, ⟨(h 1 (by omega) (by omega)).trans h1, hT⟩, fun x hx => by rw [h _ (by omega) (by omega)]; exact hU x hx⟩
/-- a server leaves its list, within RT -/
theorem RT.lve (H : RT nw sUp sLen sWrk sReg sFst sLst dCnt dIdl jFin jBeg jWs jSrv jLft jSub jWai jNxt S D J T r md Ls) {s : Nat} {dCnt1 : Nat → Int32} {dIdl1 : Nat → Nat → Int32} (hX : ∀ d, d < 4 → dCnt1 d = nI (lsx Ls s d).length ∧ ents (dIdl1 d) (lsx Ls s d)) (hM : ∀ d, d < 4 → nw1 (57 + d) = nI (lsx Ls s d).length ∧ ents (fun k => nw1 (61 + 8 * d + k)) (lsx Ls s d)) (h : ∀ i, (i < 57 ∨ 93 ≤ i) → nw1 i = nw i) : RT nw1 sUp sLen sWrk (upd sReg s (-1)) sFst sLst dCnt1 dIdl1 jFin jBeg jWs jSrv jLft jSub jWai jNxt S D J T r md (lsx Ls s) := by
  obtain ⟨hI, hQ, hJb, hW, ⟨h0, hr⟩, h7, ⟨h6, hJ⟩, ⟨h5, hD⟩, ⟨h4, hS⟩, ⟨h2, hmd⟩, ⟨h1, hT⟩, hU⟩ := H
  exact ⟨hI.leave hX hM (fun _ _ => rfl) (fun _ _ => rfl), hQ.cong hJ (fun i _ _ => h i (by omega)), hJb.cong hJ (fun i _ _ => h i (by omega)), hW.cong hJ (fun i _ _ => h i (by omega)), ⟨(h 0 (by omega)).trans h0, hr⟩, (h 7 (by omega)).trans h7, ⟨(h 6 (by omega)).trans h6, hJ⟩, ⟨(h 5 (by omega)).trans h5, hD⟩, ⟨(h 4 (by omega)).trans h4, hS⟩, ⟨(h 2 (by omega)).trans h2, hmd⟩, ⟨(h 1 (by omega)).trans h1, hT⟩, fun x hx => by rw [h _ (by omega)]; exact hU x hx⟩
theorem RW.push {x z : Nat} (h : RW nw jBeg jWs J) (hJ : J < 200) : RW (nwP nw J x z T (-1)) jBeg jWs (J + 1) ∧ RW (nwP nw J x z T 0) (jBeg + 1) (jWs + 0) (J + 1) := by
  have hw : ∀ w, (List.range J).filter (isW (nwP nw J x z T w)) = wts nw J := fun w => fil_cong (fun j hj => by unfold isW; rw [nwP_out (by omega) (by omega) (by omega) (by omega) (by omega)])
  have hsum : ∀ w, sumI (fun j => nwP nw J x z T w (493 + j)) (wts nw J) = sumI (fun j => nw (493 + j)) (wts nw J) := fun w => sumI_cong (fun j hj => by
    have := (fil_lt hj).1
    exact nwP_out (by omega) (by omega) (by omega) (by omega) (by omega))
  refine ⟨⟨?_, ?_⟩, ⟨?_, ?_⟩⟩
  · unfold wts
    rw [fil_n (by unfold isW; rw [nwP_493 hJ]; decide), hw]
    exact h.1
  · unfold wts
    rw [fil_n (by unfold isW; rw [nwP_493 hJ]; decide), hw, hsum]
    exact h.2
  · unfold wts
    rw [fil_y (by unfold isW; rw [nwP_493 hJ]; decide), hw, List.length_append, h.1, nI_1]
    rfl
  · unfold wts
    rw [fil_y (by unfold isW; rw [nwP_493 hJ]; decide), hw, sumI_snoc, hsum, h.2, nwP_493 hJ]
theorem RJ.push {x z : Nat} {w : Int32} (h : RJ nw jSrv jLft jSub jWai J T) (hJ : J < 200) (hz : z ≤ 20) {jWai1 : Nat → Int32} (hw : jWai1 J = w) (hw2 : ∀ j, j < J → jWai1 j = jWai j) : RJ (nwP nw J x z T w) (upd jSrv J (nI x)) (upd jLft J (nI z)) (upd jSub J (nI T)) jWai1 (J + 1) T := by
  intro j hj
  by_cases e : j = J
  · subst e
    rw [nwP_93 hJ, nwP_293 hJ, nwP_493 hJ, nwP_693 hJ, us, us, us, hw]
    exact ⟨rfl, rfl, rfl, rfl, ⟨z, hz, rfl⟩, ⟨T, Nat.le_refl _, rfl⟩⟩
  · obtain ⟨a1, a2, a3, a4, a5, a6⟩ := h j (by omega)
    rw [nwP_out (by omega) (by omega) (by omega) (by omega) (by omega), nwP_out (by omega) (by omega) (by omega) (by omega) (by omega), nwP_out (by omega) (by omega) (by omega) (by omega) (by omega), nwP_out (by omega) (by omega) (by omega) (by omega) (by omega), un e, un e, un e, hw2 j (by omega)]
    exact ⟨a1, a2, a3, a4, a5, a6⟩
theorem RT.push (H : RT nw sUp sLen sWrk sReg sFst sLst dCnt dIdl jFin jBeg jWs jSrv jLft jSub jWai jNxt S D J T r md Ls) (hJ : J < 200) {x z : Nat} (hx : x < S) (hn : sReg x = -1) (hz : 1 ≤ z) (hz2 : z ≤ 20) {w jBeg1 jWs1 : Int32} {sFst1 jNxt1 jWai1 : Nat → Int32} (hW1 : RW (nwP nw J x z T w) jBeg1 jWs1 (J + 1)) (hw : jWai1 J = w) (hw2 : ∀ j, j < J → jWai1 j = jWai j) (hf : sFst1 x = hdI (que nw (nI x) J ++ [J])) (hf2 : ∀ y, y ≠ x → sFst1 y = sFst y) (hn1 : jNxt1 J = -1) (hn2 : ∀ y, (que nw (nI x) J).getLast? = some y → jNxt1 y = nI J ∧ w = -1) (hn3 : ∀ y, y < J → (que nw (nI x) J).getLast? ≠ some y → jNxt1 y = jNxt y) :
    RT (nwP nw J x z T w) sUp (upd sLen x (sLen x + 1)) (upd sWrk x (sWrk x + nI z)) sReg sFst1 (upd sLst x (nI J)) dCnt dIdl jFin jBeg1 jWs1 (upd jSrv J (nI x)) (upd jLft J (nI z)) (upd jSub J (nI T)) jWai1 jNxt1 S D (J + 1) T r md Ls := by
  obtain ⟨hI, hQ, hJb, hW, ⟨h0, hr⟩, h7, ⟨h6, -⟩, ⟨h5, hD⟩, ⟨h4, hS⟩, ⟨h2, hmd⟩, ⟨h1, hT⟩, hU⟩ := H
  have ho : ∀ i, i < 93 → i ≠ 6 → nwP nw J x z T w i = nw i := fun i hi h9 => nwP_out h9 (by omega) (by omega) (by omega) (by omega)
  refine ⟨(hI.off hD hn (fun _ _ => rfl) (fun y hy => un hy)).cong hS (fun i _ hi => ho i hi (by omega)), hQ.push hJ hS hx (fun j hj => ⟨nwP_out (by omega) (by omega) (by omega) (by omega) (by omega), nwP_out (by omega) (by omega) (by omega) (by omega) (by omega), nwP_out (by omega) (by omega) (by omega) (by omega) (by omega)⟩) (nwP_93 hJ) (nwP_293 hJ) hz hz2 hf hf2 hn1 (fun y hy => ⟨(hn2 y hy).1, (nwP_493 hJ).trans (hn2 y hy).2⟩) hn3, hJb.push hJ hz2 hw hw2, hW1, ⟨(ho 0 (by omega) (by omega)).trans h0, hr⟩, (ho 7 (by omega) (by omega)).trans h7, ⟨us, hJ⟩, ⟨(ho 5 (by omega) (by omega)).trans h5, hD⟩, ⟨(ho 4 (by omega) (by omega)).trans h4, hS⟩, ⟨(ho 2 (by omega) (by omega)).trans h2, hmd⟩, ⟨(ho 1 (by omega) (by omega)).trans h1, hT⟩, fun y hy => by rw [ho _ (by omega) (by omega)]; exact hU y hy⟩
/-- the queue of x gets the job: both sides -/
theorem b_enq (H : RT nw sUp sLen sWrk sReg sFst sLst dCnt dIdl jFin jBeg jWs jSrv jLft jSub jWai jNxt S D J T r md Ls) (hJ : J < 200) {x z : Nat} (hx : x < S) (hz : 1 ≤ z) (hz2 : z ≤ 20) :
    ∃ (w jBeg1 jWs1 : Int32) (sFst1 jWai1 jNxt1 : Nat → Int32), (sLen x = 0 → w = 0) ∧ (¬ sLen x = 0 → w = -1) ∧ (∀ y, y ≠ x → sFst1 y = sFst y) ∧ (∀ k : (Nat → Int32) → (Nat → Int32) → (Nat → Int32) → (Nat → Int32) → Int32 → Int32 → Int32 → (Nat → Int32) → (Nat → Int32) → (Nat → Int32) → (Nat → Int32) → (Nat → Int32) → Prop, k (upd sLen x (sLen x + 1)) (upd sWrk x (sWrk x + nI z)) sFst1 (upd sLst x (nI J)) (nI (J + 1)) jBeg1 jWs1 (upd jSrv J (nI x)) (upd jLft J (nI z)) (upd jSub J (nI T)) jWai1 jNxt1 → wp_X3_enqueue (nI T) sLen sWrk sFst sLst (nI J) jBeg jWs jSrv jLft jSub jWai jNxt (nI x) (nI z) k) ∧ (∀ (nw2 sReg2 dCnt2 : Nat → Int32) (dIdl2 : Nat → Nat → Int32) (r2 : Nat) (Ls2 : Nat → List Nat), RT nw2 sUp sLen sWrk sReg2 sFst sLst dCnt2 dIdl2 jFin jBeg jWs jSrv jLft jSub jWai jNxt S D J T r2 md Ls2 → (∀ i, 93 ≤ i → nw2 i = nw i) → sReg2 x = -1 → RT (nwP nw2 J x z T w) sUp (upd sLen x (sLen x + 1)) (upd sWrk x (sWrk x + nI z)) sReg2 sFst1 (upd sLst x (nI J)) dCnt2 dIdl2 jFin jBeg1 jWs1 (upd jSrv J (nI x)) (upd jLft J (nI z)) (upd jSub J (nI T)) jWai1 jNxt1 S D (J + 1) T r2 md Ls2) := by
  obtain ⟨hI, hQ, hJb, hW, ⟨h0, hr⟩, h7, ⟨h6, -⟩, ⟨h5, hD⟩, ⟨h4, hS⟩, ⟨h2, hmd⟩, ⟨h1, hT⟩, hU⟩ := id H
  obtain ⟨a1, a2, a3, a4, a5, a6⟩ := hQ x hx
  have hl := que_len nw (nI x) J
  have hqe : ∀ nw2 : Nat → Int32, (∀ i, 93 ≤ i → nw2 i = nw i) → que nw2 (nI x) J = que nw (nI x) J := fun nw2 h => que_cong (by omega) (fun i hi _ => h i hi)
  by_cases hq : que nw (nI x) J = []
  · rw [hq] at a1 a3 a4
    have a4 : sLst x = -1 := a4
    have hz0 : sLen x = 0 := a1
    refine ⟨0, jBeg + 1, jWs + 0, upd sFst x (nI J), upd (upd jWai J (-1)) J 0, upd jNxt J (-1), fun _ => rfl, fun q => absurd hz0 q, fun y hy => un hy, fun k hk => ⟨fun _ x2 e2 => ⟨vp_in_nI hJ (by decide), fun f4 e4 f5 e5 f6 e6 f7 e7 f8 e8 => ⟨fun q => absurd q (m1_ne (by omega)), fun _ => ⟨vp_in_nI (by omega) (by decide), ?_⟩⟩⟩, fun q => absurd (nI_lt (b := 200) hJ (by decide)) q⟩, fun nw2 sReg2 dCnt2 dIdl2 r2 Ls2 H2 he hn => ?_⟩
    · rw [nI_clamp (n := J) (by omega)] at e4 e5 e6 e7 e8
      rw [nI_1] at e2
      subst e2 e4 e5 e6 e7 e8
      rw [nI_clamp (n := x) (by omega), a4]
      refine ⟨fun _ f18 e18 => ⟨vp_in_nI hJ (by decide), fun f2 e2 x3 e3 x4 e4 => ?_⟩, fun q => absurd rfl q⟩
      rw [nI_clamp (n := J) (by omega), us, Int32.sub_self] at e2
      subst e2
      rw [nI_clamp (n := J) (by omega), us] at e3
      subst e3 e4 e18
      intro f22 e22 x23 e23 f24 e24 x25 e25 f26 e26
      subst e22 e23 e24 e25 e26
      exact hk
    · refine H2.push hJ hx hn hz hz2 ((H2.2.2.2.1).push hJ).2 us (fun j hj => by rw [un (by omega), un (by omega)]) ?_ (fun y hy => un hy) us (fun y hy => ?_) (fun y hy _ => un (by omega))
      · rw [hqe nw2 he, hq, us]
        rfl
      · rw [hqe nw2 he, hq] at hy
        cases hy
  · obtain ⟨y, y1, y2, y3⟩ := last_of hq
    have hyJ := (que_in y2).1
    have hpos : 0 < (que nw (nI x) J).length := List.length_pos_iff.mpr hq
    have hz0 : ¬ sLen x = 0 := by rw [a1]; exact nI_ne0 hpos (by omega)
    rw [y3] at a4
    refine ⟨-1, jBeg, jWs, sFst, upd jWai J (-1), upd (upd jNxt J (-1)) y (nI J), fun q => absurd q hz0, fun _ => rfl, fun _ _ => rfl, fun k hk => ⟨fun _ x2 e2 => ⟨vp_in_nI hJ (by decide), fun f4 e4 f5 e5 f6 e6 f7 e7 f8 e8 => ⟨fun q => absurd q (m1_ne (by omega)), fun _ => ⟨vp_in_nI (by omega) (by decide), ?_⟩⟩⟩, fun q => absurd (nI_lt (b := 200) hJ (by decide)) q⟩, fun nw2 sReg2 dCnt2 dIdl2 r2 Ls2 H2 he hn => ?_⟩
    · rw [nI_clamp (n := J) (by omega)] at e4 e5 e6 e7 e8
      rw [nI_1] at e2
      subst e2 e4 e5 e6 e7 e8
      rw [nI_clamp (n := x) (by omega), a4]
      refine ⟨fun q => absurd q (m1_ne (by omega)), fun _ => ⟨vp_in_nI (by omega) (by decide), fun f12 e12 f13 e13 x14 e14 f15 e15 x16 e16 f17 e17 => ?_⟩⟩
      rw [nI_clamp (n := y) (by omega)] at e12
      subst e12 e13 e14 e15 e16 e17
      exact hk
    · refine H2.push hJ hx hn hz hz2 ((H2.2.2.2.1).push hJ).1 us (fun j hj => un (by omega)) ?_ (fun _ _ => rfl) (by rw [un (by omega), us]) (fun v hv => ?_) (fun v hv hne => ?_)
      · rw [hqe nw2 he, hdI_snoc hq]
        exact a3
      · rw [hqe nw2 he, y1] at hv
        have e : y = v := Option.some.inj hv
        subst e
        exact ⟨us, rfl⟩
      · rw [hqe nw2 he, y1] at hne
        have e : v ≠ y := fun e => hne (by rw [e])
        rw [un e, un (by omega)]
end PSH
