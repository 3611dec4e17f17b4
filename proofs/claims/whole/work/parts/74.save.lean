/-! Saved states. -/
def PRM (cur : Nat) (sav : Nat → Nat) : Prop := cur < 4 ∧ (sav 0 < 4 ∧ sav 0 ≠ cur) ∧ (sav 1 < 4 ∧ sav 1 ≠ cur) ∧ (sav 2 < 4 ∧ sav 2 ≠ cur) ∧ sav 0 ≠ sav 1 ∧ sav 0 ≠ sav 2 ∧ sav 1 ≠ sav 2
theorem PRM.at {cur : Nat} {sav : Nat → Nat} (h : PRM cur sav) {k : Nat} (hk : k < 3) : sav k < 4 ∧ sav k ≠ cur := by
  obtain ⟨h0, h1, h2, h3, -⟩ := h
  rcases (show k = 0 ∨ k = 1 ∨ k = 2 by omega) with rfl | rfl | rfl
  · exact h1
  · exact h2
  · exact h3
theorem PRM.ne {cur : Nat} {sav : Nat → Nat} (h : PRM cur sav) {k j : Nat} (hk : k < 3) (hj : j < 3) (hne : k ≠ j) : sav k ≠ sav j := by
  obtain ⟨-, -, -, -, h1, h2, h3⟩ := h
  rcases (show k = 0 ∨ k = 1 ∨ k = 2 by omega) with rfl | rfl | rfl <;> rcases (show j = 0 ∨ j = 1 ∨ j = 2 by omega) with rfl | rfl | rfl
  · exact absurd rfl hne
  · exact h1
  · exact h2
  · exact fun e => h1 e.symm
  · exact absurd rfl hne
  · exact h3
  · exact fun e => h2 e.symm
  · exact fun e => h3 e.symm
  · exact absurd rfl hne
def SV (M cur : Nat) (sav : Nat → Nat) (c : Nat) (ST : Nat → TT) (hi : Nat → Int32) : Prop := c ≤ 3 ∧ PRM cur sav ∧ ∀ k, k < c → RB M (ST (sav k)) (fun i => hi (893 * k + i))
theorem RB.mono {M M1 : Nat} {t : TT} {nw : Nat → Int32} (h : RB M t nw) (hM : M ≤ M1) : RB M1 t nw := RA.mono h hM
theorem RB.nwc {M : Nat} {t : TT} {nw nw1 : Nat → Int32} (h : RB M t nw) (h1 : ∀ i, i < 893 → nw1 i = nw i) : RB M t nw1 := RA.nwc h h1
theorem SV.mono {M M1 cur : Nat} {sav : Nat → Nat} {c : Nat} {ST : Nat → TT} {hi : Nat → Int32} (h : SV M cur sav c ST hi) (hM : M ≤ M1) : SV M1 cur sav c ST hi := ⟨h.1, h.2.1, fun k hk => (h.2.2 k hk).mono hM⟩
section SAV
variable {M cur c : Nat} {sav : Nat → Nat} {ST : Nat → TT} {nw hi : Nat → Int32}
def c1 (c : Nat) : Nat := if c = 3 then 2 else c
def sh (c : Nat) : Nat := if c = 3 then 1 else 0
def PSX (M : Nat) (nw : Nat → Int32) (cur : Nat) (t0 : TT) (sav : Nat → Nat) (c : Nat) (ST : Nat → TT) (sav1 : Nat → Nat) (ST1 : Nat → TT) : Prop := PRM cur sav1 ∧ ST1 cur = t0 ∧ RB M (ST1 (sav1 (c1 c))) nw ∧ ∀ k, k < c1 c → ST1 (sav1 k) = ST (sav (k + sh c))
def PSM (nw hi : Nat → Int32) (c : Nat) (hi1 : Nat → Int32) : Prop := (∀ i, i < 893 → hi1 (893 * c1 c + i) = nw i) ∧ ∀ j, j < 893 * c1 c → hi1 j = hi (j + 893 * sh c)
theorem SV.save {t0 : TT} {sav1 : Nat → Nat} {ST1 : Nat → TT} {hi1 : Nat → Int32} (h : SV M cur sav c ST hi) (h1 : PSX M nw cur t0 sav c ST sav1 ST1) (h2 : PSM nw hi c hi1) : SV M cur sav1 (c1 c + 1) ST1 hi1 := by
  obtain ⟨hc, hp, hs⟩ := h
  have hc1 : c1 c ≤ 2 ∧ c1 c + sh c ≤ c := by unfold c1 sh; split <;> omega
  refine ⟨by omega, h1.1, fun k hk => ?_⟩
  by_cases e : k = c1 c
  · subst e
    exact h1.2.2.1.nwc (fun i hi => h2.1 i hi)
  · rw [h1.2.2.2 k (by omega)]
    refine (hs (k + sh c) (by omega)).nwc (fun i hi => ?_)
    have e2 := h2.2 (893 * k + i) (by omega)
    show hi1 (893 * k + i) = _
    rw [e2]
    congr 1
    omega
theorem b_copyT {t0 tD : TT} (h : RB M t0 nw) {k : Int32 → Int64 → Int32 → Int32 → Int32 → Int32 → Int32 → (Nat → Int32) → (Nat → Int32) → (Nat → Int32) → (Nat → Int32) → (Nat → Int32) → (Nat → Int32) → (Nat → Int32) → (Nat → Int32) → (Nat → Int32) → (Nat → Nat → Int32) → (Nat → Nat → Int32) → Int32 → Int32 → Int32 → Int32 → Int32 → (Nat → Int32) → (Nat → Int32) → (Nat → Int32) → (Nat → Int32) → (Nat → Int32) → (Nat → Int32) → Prop} (hk : ∀ t1 : TT, RB M t1 nw → k t1.1 t1.2.1 t1.2.2.1 t1.2.2.2.1 t1.2.2.2.2.1 t1.2.2.2.2.2.1 t1.2.2.2.2.2.2.1 t1.2.2.2.2.2.2.2.1 t1.2.2.2.2.2.2.2.2.1 t1.2.2.2.2.2.2.2.2.2.1 t1.2.2.2.2.2.2.2.2.2.2.1 t1.2.2.2.2.2.2.2.2.2.2.2.1 t1.2.2.2.2.2.2.2.2.2.2.2.2.1 t1.2.2.2.2.2.2.2.2.2.2.2.2.2.1 t1.2.2.2.2.2.2.2.2.2.2.2.2.2.2.1 t1.2.2.2.2.2.2.2.2.2.2.2.2.2.2.2.1 t1.2.2.2.2.2.2.2.2.2.2.2.2.2.2.2.2.1 t1.2.2.2.2.2.2.2.2.2.2.2.2.2.2.2.2.2.1 t1.2.2.2.2.2.2.2.2.2.2.2.2.2.2.2.2.2.2.1 t1.2.2.2.2.2.2.2.2.2.2.2.2.2.2.2.2.2.2.2.1 t1.2.2.2.2.2.2.2.2.2.2.2.2.2.2.2.2.2.2.2.2.1 t1.2.2.2.2.2.2.2.2.2.2.2.2.2.2.2.2.2.2.2.2.2.1 t1.2.2.2.2.2.2.2.2.2.2.2.2.2.2.2.2.2.2.2.2.2.2.1 t1.2.2.2.2.2.2.2.2.2.2.2.2.2.2.2.2.2.2.2.2.2.2.2.1 t1.2.2.2.2.2.2.2.2.2.2.2.2.2.2.2.2.2.2.2.2.2.2.2.2.1 t1.2.2.2.2.2.2.2.2.2.2.2.2.2.2.2.2.2.2.2.2.2.2.2.2.2.1 t1.2.2.2.2.2.2.2.2.2.2.2.2.2.2.2.2.2.2.2.2.2.2.2.2.2.2.1 t1.2.2.2.2.2.2.2.2.2.2.2.2.2.2.2.2.2.2.2.2.2.2.2.2.2.2.2.1 t1.2.2.2.2.2.2.2.2.2.2.2.2.2.2.2.2.2.2.2.2.2.2.2.2.2.2.2.2) : wp_X3_copyFrom tD.2.2.2.2.2.2.2.1 tD.2.2.2.2.2.2.2.2.1 tD.2.2.2.2.2.2.2.2.2.1 tD.2.2.2.2.2.2.2.2.2.2.1 tD.2.2.2.2.2.2.2.2.2.2.2.1 tD.2.2.2.2.2.2.2.2.2.2.2.2.1 tD.2.2.2.2.2.2.2.2.2.2.2.2.2.1 tD.2.2.2.2.2.2.2.2.2.2.2.2.2.2.1 tD.2.2.2.2.2.2.2.2.2.2.2.2.2.2.2.1 tD.2.2.2.2.2.2.2.2.2.2.2.2.2.2.2.2.1 tD.2.2.2.2.2.2.2.2.2.2.2.2.2.2.2.2.2.1 tD.2.2.2.2.2.2.2.2.2.2.2.2.2.2.2.2.2.2.2.2.2.2.2.1 tD.2.2.2.2.2.2.2.2.2.2.2.2.2.2.2.2.2.2.2.2.2.2.2.2.1 tD.2.2.2.2.2.2.2.2.2.2.2.2.2.2.2.2.2.2.2.2.2.2.2.2.2.1 tD.2.2.2.2.2.2.2.2.2.2.2.2.2.2.2.2.2.2.2.2.2.2.2.2.2.2.1 tD.2.2.2.2.2.2.2.2.2.2.2.2.2.2.2.2.2.2.2.2.2.2.2.2.2.2.2.1 tD.2.2.2.2.2.2.2.2.2.2.2.2.2.2.2.2.2.2.2.2.2.2.2.2.2.2.2.2 t0.1 t0.2.1 t0.2.2.1 t0.2.2.2.1 t0.2.2.2.2.1 t0.2.2.2.2.2.1 t0.2.2.2.2.2.2.2.1 t0.2.2.2.2.2.2.2.2.1 t0.2.2.2.2.2.2.2.2.2.1 t0.2.2.2.2.2.2.2.2.2.2.1 t0.2.2.2.2.2.2.2.2.2.2.2.1 t0.2.2.2.2.2.2.2.2.2.2.2.2.1 t0.2.2.2.2.2.2.2.2.2.2.2.2.2.1 t0.2.2.2.2.2.2.2.2.2.2.2.2.2.2.1 t0.2.2.2.2.2.2.2.2.2.2.2.2.2.2.2.1 t0.2.2.2.2.2.2.2.2.2.2.2.2.2.2.2.2.1 t0.2.2.2.2.2.2.2.2.2.2.2.2.2.2.2.2.2.1 t0.2.2.2.2.2.2.2.2.2.2.2.2.2.2.2.2.2.2.1 t0.2.2.2.2.2.2.2.2.2.2.2.2.2.2.2.2.2.2.2.1 t0.2.2.2.2.2.2.2.2.2.2.2.2.2.2.2.2.2.2.2.2.1 t0.2.2.2.2.2.2.2.2.2.2.2.2.2.2.2.2.2.2.2.2.2.1 t0.2.2.2.2.2.2.2.2.2.2.2.2.2.2.2.2.2.2.2.2.2.2.1 t0.2.2.2.2.2.2.2.2.2.2.2.2.2.2.2.2.2.2.2.2.2.2.2.1 t0.2.2.2.2.2.2.2.2.2.2.2.2.2.2.2.2.2.2.2.2.2.2.2.2.1 t0.2.2.2.2.2.2.2.2.2.2.2.2.2.2.2.2.2.2.2.2.2.2.2.2.2.1 t0.2.2.2.2.2.2.2.2.2.2.2.2.2.2.2.2.2.2.2.2.2.2.2.2.2.2.1 t0.2.2.2.2.2.2.2.2.2.2.2.2.2.2.2.2.2.2.2.2.2.2.2.2.2.2.2.1 k := by
  refine b_copy h (fun cnW sUpW sLenW sWrkW sRegW sFstW sLstW dPolW dPtrW dCntW jSrvW jLftW jSubW jWaiW jNxtW cndW dIdlW dKnwW h1 => ?_)
  exact hk (t0.1, t0.2.1, t0.2.2.1, t0.2.2.2.1, t0.2.2.2.2.1, t0.2.2.2.2.2.1, cnW, sUpW, sLenW, sWrkW, sRegW, sFstW, sLstW, dPolW, dPtrW, dCntW, dIdlW, dKnwW, t0.2.2.2.2.2.2.2.2.2.2.2.2.2.2.2.2.2.2.1, t0.2.2.2.2.2.2.2.2.2.2.2.2.2.2.2.2.2.2.2.1, t0.2.2.2.2.2.2.2.2.2.2.2.2.2.2.2.2.2.2.2.2.1, t0.2.2.2.2.2.2.2.2.2.2.2.2.2.2.2.2.2.2.2.2.2.1, t0.2.2.2.2.2.2.2.2.2.2.2.2.2.2.2.2.2.2.2.2.2.2.1, jSrvW, jLftW, jSubW, jWaiW, jNxtW, cndW) h1
theorem b_saveX (h : SV M cur sav c ST hi) {t0 : TT} (h0 : RB M t0 nw) {k : (Nat → Nat) → Int32 → (Nat → TT) → Prop} (hk : ∀ sav1 ST1, PSX M nw cur t0 sav c ST sav1 ST1 → k sav1 (nI (c1 c + 1)) ST1) : wp_X4_save cur sav (nI c) (va_up ST cur t0) k := by
  obtain ⟨hc, hp, hs⟩ := h
  by_cases q : c = 3
  · subst q
    have hcx : c1 3 = 2 := rfl
    refine ⟨fun z => absurd z (by decide), fun _ => ?_⟩
    -- the oldest is dropped
    have dr : ∀ K : (Nat → Nat) → Int32 → Prop, (∀ sav1 : Nat → Nat, sav1 0 = sav 1 → sav1 1 = sav 2 → sav1 2 = sav 0 → K sav1 2) → wp_X4_dropOldest sav K := fun K hK => by
      refine ⟨3, fun z => absurd z (by decide), fun _ => ⟨vp_in_nI (n := 1) (by decide) (by decide), vp_in_nI (n := 0) (by decide) (by decide), (hp.at (k := 1) (by omega)).1, fun s9 e9 x10 e10 => ?_⟩⟩
      have e10 : x10 = 2 := e10
      subst e10
      refine ⟨fun z => absurd z (by decide), fun _ => ⟨vp_in_nI (n := 2) (by decide) (by decide), vp_in_nI (n := 1) (by decide) (by decide), ?_⟩⟩
      have e9 : s9 = va_up sav 0 (sav 1) := e9
      have n2 : ((2 : Int32).toNatClampNeg) = 2 := by decide
      rw [n2, e9, vn (by omega)]
      refine ⟨(hp.at (k := 2) (by omega)).1, fun sa ea x11 e11 => ?_⟩
      have e11 : x11 = 3 := e11
      subst e11
      have ea : sa = va_up (va_up sav 0 (sav 1)) 1 (sav 2) := ea
      refine ⟨fun _ => ⟨(hp.at (k := 0) (by omega)).1, fun s5 e5 => ?_⟩, fun z => absurd (by decide) z⟩
      rw [e5, ea]
      refine hK _ ?_ ?_ ?_
      · rw [vn (by omega), vn (by omega), vs]
      · rw [vn (by omega), vs]
      · rw [vs]
    refine dr _ (fun sav1 a0 a1 a2 => ⟨vp_in_nI (n := 2) (by decide) (by decide), ?_⟩)
    have n2 : ((2 : Int32).toNatClampNeg) = 2 := by decide
    rw [n2, a2]
    have g0 := hp.at (k := 0) (by omega)
    refine ⟨⟨g0.1, hp.1, g0.2⟩, ?_⟩
    rw [vn g0.2, vs]
    refine b_copyT h0 (fun t1 h1 ST68 e68 x69 e69 => ?_)
    have e69 : x69 = nI 3 := e69
    have e68 : ST68 = va_up (va_up ST cur t0) (sav 0) t1 := e68
    rw [e69]
    refine hk sav1 ST68 ⟨⟨hp.1, by rw [a0]; exact hp.at (by omega), by rw [a1]; exact hp.at (by omega), by rw [a2]; exact hp.at (by omega), by rw [a0, a1]; exact hp.ne (by omega) (by omega) (by omega), by rw [a0, a2]; exact hp.ne (by omega) (by omega) (by omega), by rw [a1, a2]; exact hp.ne (by omega) (by omega) (by omega)⟩, ?_, ?_, fun j hj => ?_⟩
    · rw [e68, vn (fun z => g0.2 z.symm), vs]
    · rw [hcx, a2, e68, vs]
      exact h1
    · rw [hcx] at hj
      have hj2 : sav1 j = sav (j + 1) := by
        rcases (show j = 0 ∨ j = 1 by omega) with rfl | rfl
        · exact a0
        · exact a1
      show ST68 (sav1 j) = ST (sav (j + 1))
      rw [hj2, e68, vn (hp.ne (by omega) (by omega) (by omega)), vn (hp.at (by omega)).2]
  · have hcx : c1 c = c := if_neg q
    have hsx : sh c = 0 := if_neg q
    have hc3 : c < 3 := by omega
    have g0 := hp.at hc3
    refine ⟨fun _ => ⟨vp_in_nI hc3 (by decide), ?_⟩, fun z => absurd (nI_lt (b := 3) hc3 (by decide)) z⟩
    rw [nI_clamp (by omega)]
    refine ⟨⟨g0.1, hp.1, g0.2⟩, ?_⟩
    rw [vn g0.2, vs]
    refine b_copyT h0 (fun t1 h1 ST68 e68 x69 e69 => ?_)
    rw [nI_1] at e69
    have e68 : ST68 = va_up (va_up ST cur t0) (sav c) t1 := e68
    rw [e69]
    rw [hcx] at hk
    refine hk sav ST68 ⟨hp, ?_, ?_, fun j hj => ?_⟩
    · rw [e68, vn (fun z => g0.2 z.symm), vs]
    · rw [hcx, e68, vs]
      exact h1
    · rw [hcx] at hj
      rw [hsx, Nat.add_zero, e68, vn (hp.ne (by omega) hc3 (by omega)), vn (hp.at (by omega)).2]
theorem b_save51 {K : (Nat → Int32) → Int32 → Prop} (hc : c ≤ 2) (hk : ∀ hi1 : Nat → Int32, (∀ i, i < 893 → hi1 (893 * c + i) = nw i) → (∀ j, j < 893 * c → hi1 j = hi j) → K hi1 (nI (c + 1))) : ∃ fu, wp_X5_save_L51 (nI c) K nw fu 0 hi := by
  have main : ∀ (n i : Nat) (f : Nat → Int32), n + i = 893 → (∀ j, j < i → f (893 * c + j) = nw j) → (∀ j, j < 893 * c → f j = hi j) → wp_X5_save_L51 (nI c) K nw (n + 1) (nI i) f := by
    intro n
    induction n with
    | zero =>
      intro i f hi1 g1 g2
      have e : i = 893 := by omega
      subst e
      refine ⟨fun _ x5 e5 => ?_, fun q => absurd (by decide) q⟩
      rw [nI_1] at e5
      rw [e5]
      exact hk f g1 g2
    | succ n ih =>
      intro i f hi1 g1 g2
      have e9 : (893 : Int32) * nI c + nI i = nI (893 * c + i) := by rw [show (893 : Int32) = nI 893 from rfl, pk_mul, nI_add]
      refine ⟨fun q => absurd q (nI_ge (b := 893) (by omega) (by decide)), fun _ => ⟨vp_in_nI (by omega) (by decide), ?_⟩⟩
      rw [e9, nI_clamp (by omega), nI_clamp (by omega)]
      refine ⟨vp_in_nI (by omega) (by decide), fun f8 e8 x9 ex => ?_⟩
      rw [nI_1] at ex
      rw [ex, e8]
      refine ih (i + 1) _ (by omega) (fun j hj => ?_) (fun j hj => ?_)
      · by_cases e : j = i
        · subst e
          rw [us]
        · rw [un (by omega)]
          exact g1 j (by omega)
      · rw [un (by omega)]
        exact g2 j hj
  exact ⟨893 + 1, main 893 0 hi (by omega) (fun j hj => absurd hj (by omega)) (fun _ _ => rfl)⟩
theorem b_saveM (hc : c ≤ 3) {K : (Nat → Int32) → Int32 → Prop} (hk : ∀ hi1 : Nat → Int32, PSM nw hi c hi1 → K hi1 (nI (c1 c + 1))) : wp_X5_save nw hi (nI c) K := by
  by_cases q : c = 3
  · subst q
    refine ⟨fun _ => ?_, fun z => absurd rfl z⟩
    have main : ∀ (n i : Nat) (f : Nat → Int32), n + i = 1786 → (∀ j, j < i → f j = hi (j + 893)) → (∀ j, i ≤ j → f j = hi j) → wp_X5_save_L10 (nI 3) K nw (n + 1) (nI i) f := by
      intro n
      induction n with
      | zero =>
        intro i f hi1 g1 g2
        have e : i = 1786 := by omega
        subst e
        refine ⟨fun _ x13 e13 => ?_, fun q => absurd (by decide) q⟩
        have e13 : x13 = nI 2 := e13
        rw [e13]
        exact b_save51 (c := 2) (by omega) (fun hi1 u1 u2 => hk hi1 ⟨u1, fun j hj => (u2 j hj).trans (g1 j hj)⟩)
      | succ n ih =>
        intro i f hi1 g1 g2
        have e9 : nI i + (893 : Int32) = nI (i + 893) := by rw [show (893 : Int32) = nI 893 from rfl, nI_add]
        refine ⟨fun q => absurd q (nI_ge (b := 1786) (by omega) (by decide)), fun _ => ?_⟩
        rw [e9, nI_clamp (by omega), nI_clamp (by omega)]
        refine ⟨vp_in_nI (by omega) (by decide), vp_in_nI (by omega) (by decide), fun f8 e8 x9 ex => ?_⟩
        rw [nI_1] at ex
        rw [ex, e8]
        refine ih (i + 1) _ (by omega) (fun j hj => ?_) (fun j hj => ?_)
        · by_cases e : j = i
          · subst e
            rw [us]
            exact g2 _ (by omega)
          · rw [un e]
            exact g1 j (by omega)
        · rw [un (by omega)]
          exact g2 j (by omega)
    exact ⟨1786 + 1, main 1786 0 hi (by omega) (fun j hj => absurd hj (by omega)) (fun _ _ => rfl)⟩
  · have hcx : c1 c = c := if_neg q
    have hsx : sh c = 0 := if_neg q
    refine ⟨fun z => absurd ((nI_eq (b := 3) (by omega) (by decide)).mp z) q, fun _ => b_save51 (by omega) (fun hi1 u1 u2 => ?_)⟩
    rw [hcx] at hk
    refine hk hi1 ⟨by rw [hcx]; exact u1, fun j hj => ?_⟩
    rw [hcx] at hj
    rw [hsx, u2 j hj]
    rfl
theorem b_undo5 {K : Int32 → (Nat → Int32) → Int32 → Int32 → Prop} (hc : c ≤ 2) (hk : ∀ nw1 : Nat → Int32, (∀ i, i < 893 → nw1 i = hi (893 * c + i)) → K (nI c) nw1 (nI c) 0) : wp_X5_undo nw hi (nI (c + 1)) K := by
  refine ⟨fun q => absurd q (nI_ne0 (by omega) (by omega)), fun _ x2 e2 => ?_⟩
  rw [nI_pred] at e2
  subst e2
  have main : ∀ (n i : Nat) (f : Nat → Int32), n + i = 893 → (∀ j, j < i → f j = hi (893 * c + j)) → wp_X5_undo_L30 K (nI c) hi (n + 1) (nI i) f := by
    intro n
    induction n with
    | zero =>
      intro i f hi1 g1
      have e : i = 893 := by omega
      subst e
      exact ⟨fun _ => hk f g1, fun q => absurd (by decide) q⟩
    | succ n ih =>
      intro i f hi1 g1
      have e9 : (893 : Int32) * nI c + nI i = nI (893 * c + i) := by rw [show (893 : Int32) = nI 893 from rfl, pk_mul, nI_add]
      refine ⟨fun q => absurd q (nI_ge (b := 893) (by omega) (by decide)), fun _ => ?_⟩
      rw [e9, nI_clamp (by omega), nI_clamp (by omega)]
      refine ⟨vp_in_nI (by omega) (by decide), vp_in_nI (by omega) (by decide), fun f8 e8 x9 ex => ?_⟩
      rw [nI_1] at ex
      rw [ex, e8]
      refine ih (i + 1) _ (by omega) (fun j hj => ?_)
      by_cases e : j = i
      · subst e
        rw [us]
      · rw [un e]
        exact g1 j (by omega)
  exact ⟨893 + 1, main 893 0 nw (by omega) (fun j hj => absurd hj (by omega))⟩
end SAV
