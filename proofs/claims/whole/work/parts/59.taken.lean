/-! Which server is taken. -/
def RK (nw dPtr : Nat → Int32) (dKnw : Nat → Nat → Int32) (S : Nat) : Prop := (∀ d, d < 4 → nw (21 + d) = dPtr d) ∧ ∀ d s, d < 4 → s < 8 → (s < S → nw (25 + 8 * d + s) = dKnw d s) ∧ (S ≤ s → dKnw d s = 0)
section TAK
variable {nw nw1 sUp sLen sReg dCnt dPol dPtr cnd cd : Nat → Int32} {dIdl dKnw : Nat → Nat → Int32} {S D J r p : Nat} {Ls : Nat → List Nat}
theorem RK.cong (h : RK nw dPtr dKnw S) (h1 : ∀ i, 21 ≤ i → i < 57 → nw1 i = nw i) : RK nw1 dPtr dKnw S := ⟨fun d hd => by rw [h1 _ (by omega) (by omega)]; exact h.1 d hd, fun d s hd hs => by rw [h1 _ (by omega) (by omega)]; exact h.2 d s hd hs⟩
theorem b_taken (hI : RI nw sUp sLen sReg dCnt dIdl S D Ls) (hK : LK nw sLen S J) (hR : RK nw dPtr dKnw S) (hS : S ≤ 8) (hD : D ≤ 4) (h0 : nw 0 = nI r) (hr : r < 2147483648) {d : Nat} (hd : d < D) (hpol : dPol d = nI p) (hpn : nw (17 + d) = nI p) (hp : p ≤ 4) (hl0 : 0 < (ups sUp S).length) (hc : ents cnd (ups sUp S)) (hc2 : ents cd (ups sUp S)) :
    ∃ (x r1 : Nat) (nw1 dPtr1 : Nat → Int32) (dKnw1 : Nat → Nat → Int32), x < S ∧ r1 < 2147483648 ∧ nw1 0 = nI r1 ∧ (∀ i, i ≠ 0 → (i < 21 ∨ 57 ≤ i) → nw1 i = nw i) ∧ RK nw1 dPtr1 dKnw1 S ∧ (∀ k : Int32 → Int64 → (Nat → Int32) → (Nat → Nat → Int32) → Prop, k (nI x) (lN r1) dPtr1 dKnw1 → wp_X3_takeServer (lN r) (nI (ups sUp S).length) sLen dPol dPtr dCnt dIdl dKnw cnd d k) ∧ (∀ k : Int32 → (Nat → Int32) → Prop, k (nI x) nw1 → wp_X5_taken nw cd (nI d) (nI (ups sUp S).length) k) := by
  have h8 := ups_len (sUp := sUp) S
  have hT : (dPol d).toInt = (p : Int) := by rw [hpol, nI_toInt (by omega)]
  have hTn : (nw (17 + nI d).toNatClampNeg).toInt = (p : Int) := by rw [q17 (by omega), hpn, nI_toInt (by omega)]
  have hpn2 : nw (17 + nI d).toNatClampNeg = nI p := by rw [q17 (by omega), hpn]
  have hi1 : rN r / 65536 % (ups sUp S).length < (ups sUp S).length := Nat.mod_lt _ hl0
  have hi2 : rN (rN r) / 65536 % (ups sUp S).length < (ups sUp S).length := Nat.mod_lt _ hl0
  generalize hj1 : rN r / 65536 % (ups sUp S).length = j1 at hi1
  generalize hj2 : rN (rN r) / 65536 % (ups sUp S).length = j2 at hi2
  have hs1 := (ups_lt (List.getElem_mem hi1)).1
  have hs2 := (ups_lt (List.getElem_mem hi2)).1
  have hX1 : ∀ (pol : Int32) (k : Int32 → Int64 → Prop), ¬ pol = 2 → k (nI (ups sUp S)[j1]) (lN (rN r)) → wp_X3_drawServer (lN r) (nI (ups sUp S).length) sLen cnd pol k := fun pol k hp hk => by
    refine b_draw3 hr hl0 (by omega) ?_
    rw [hj1]
    refine ⟨vp_in_nI (by omega) (by decide), fun x4 e4 => ⟨fun q => absurd q hp, fun _ => ?_⟩⟩
    rw [nI_clamp (by omega), ents_at hc hi1] at e4
    rw [e4]
    exact hk
  have hM1 : ∀ k : Int32 → (Nat → Int32) → Prop, k (nI (ups sUp S)[j1]) (upd nw 0 (nI (rN r))) → wp_X5_draw nw (nI (ups sUp S).length) (fun r12 nw_13 => (vp_in r12 8) ∧ (k (cd r12.toNatClampNeg) nw_13)) := fun k hk => by
    refine b_draw5 h0 hr hl0 (by omega) ?_
    rw [hj1]
    refine ⟨vp_in_nI (by omega) (by decide), ?_⟩
    rw [nI_clamp (by omega), ents_at hc2 hi1]
    exact hk
  rcases (show p = 0 ∨ p = 1 ∨ p = 2 ∨ p = 3 ∨ p = 4 by omega) with rfl | rfl | rfl | rfl | rfl
  · refine ⟨_, rN r, upd nw 0 (nI (rN r)), dPtr, dKnw, hs1, rN_lt r, us, fun i hi _ => un hi, hR.cong (fun i _ _ => un (by omega)), fun k hk => ?_, fun k hk => ?_⟩
    · refine ⟨fun q => absurd (hT.symm.trans q) (by decide), fun q => absurd (hT.symm.trans q) (by decide), fun q => absurd (hT.symm.trans q) (by decide), fun q => absurd (hT.symm.trans q) (by decide), fun _ => ⟨fun _ => hX1 _ _ (by rw [hpol]; decide) ⟨fun q => absurd (hpol.symm.trans q) (by decide), fun _ => ⟨fun q => absurd (hpol.symm.trans q) (by decide), fun _ => hk⟩⟩, fun q => absurd rfl q⟩⟩
    · exact ⟨i17 (by omega), fun q => absurd (hTn.symm.trans q) (by decide), fun q => absurd (hTn.symm.trans q) (by decide), fun q => absurd (hTn.symm.trans q) (by decide), fun q => absurd (hTn.symm.trans q) (by decide), fun _ => ⟨fun q => absurd (hpn2.symm.trans q) (by decide), fun _ => hM1 k hk⟩⟩
  · obtain ⟨x, hx, a1, a2⟩ := b_next (nw := nw) (d := d) (ptr := dPtr d) (by omega) hl0 (by omega) hc hc2 (hR.1 d (by omega))
    have hxS := (ups_lt hx).1
    refine ⟨x, r, upd nw (21 + d) (nI x + 1), upd dPtr d (nI x + 1), dKnw, hxS, hr, by rw [un (by omega)]; exact h0, fun i hi h9 => un (by omega), ⟨fun q hq => ?_, fun q s hq hs => ?_⟩, fun k hk => ?_, fun k hk => ?_⟩
    · by_cases e : q = d
      · subst e; rw [us, us]
      · rw [un e, un (by omega)]; exact hR.1 q hq
    · rw [un (by omega)]; exact hR.2 q s hq hs
    · refine ⟨fun _ => a1 _ ⟨fun q => absurd q (m1_ne (by omega)), fun _ => ⟨fun _ x7 e7 f8 e8 => ?_, fun q => absurd hpol q⟩⟩, fun q => absurd (hT.symm.trans q) (by decide), fun q => absurd (hT.symm.trans q) (by decide), fun q => absurd (hT.symm.trans q) (by decide), fun q => absurd q (by rw [hT]; decide)⟩
      rw [e8, e7]
      exact hk
    · refine ⟨i17 (by omega), fun _ => a2 _ ⟨i21 (by omega), fun f5 e5 => ?_⟩, fun q => absurd (hTn.symm.trans q) (by decide), fun q => absurd (hTn.symm.trans q) (by decide), fun q => absurd (hTn.symm.trans q) (by decide), fun q => absurd q (by rw [hTn]; decide)⟩
      rw [q21 (by omega)] at e5
      rw [e5]
      exact hk
  · obtain ⟨u, hu, eu⟩ := hK.nat hs1
    obtain ⟨v, hv, ev⟩ := hK.nat hs2
    have hK2 : LK (upd (upd nw 0 (nI (rN r))) 0 (nI (rN (rN r)))) sLen S J := hK.cong (by rw [un (by omega), un (by omega)]) (fun i _ _ => by rw [un (by omega), un (by omega)])
    refine ⟨if u ≤ v then (ups sUp S)[j1] else (ups sUp S)[j2], rN (rN r), upd (upd nw 0 (nI (rN r))) 0 (nI (rN (rN r))), dPtr, dKnw, by split <;> assumption, rN_lt _, us, fun i hi _ => by rw [un hi, un hi], hR.cong (fun i _ _ => by rw [un (by omega), un (by omega)]), fun k hk => ?_, fun k hk => ?_⟩
    · refine ⟨fun q => absurd (hT.symm.trans q) (by decide), fun _ => ⟨fun _ => b_draw3 hr hl0 (by omega) ?_, fun q => absurd rfl q⟩, fun q => absurd (hT.symm.trans q) (by decide), fun q => absurd (hT.symm.trans q) (by decide), fun q => absurd q (by rw [hT]; decide)⟩
      rw [hj1]
      refine ⟨vp_in_nI (by omega) (by decide), fun x4 e4 => ⟨fun _ => b_draw3 (rN_lt r) hl0 (by omega) ?_, fun q => absurd hpol q⟩⟩
      rw [nI_clamp (by omega), ents_at hc hi1] at e4
      rw [hj2, e4]
      refine ⟨vp_in_nI (by omega) (by decide), fun x9 e9 => ?_⟩
      rw [nI_clamp (by omega), ents_at hc hi2] at e9
      rw [e9, nI_clamp (n := (ups sUp S)[j1]) (by omega), nI_clamp (n := (ups sUp S)[j2]) (by omega), eu, ev]
      have hfin : ∀ y : Int32, k y (lN (rN (rN r))) dPtr dKnw → (dPol d = 1 → (∀ x15 : Int32, x15 = (y + 1) → (∀ dPtr_16 : Nat → Int32, dPtr_16 = upd dPtr d x15 → (k y (lN (rN (rN r))) dPtr_16 dKnw)))) ∧ (¬ (dPol d) = 1 → (((dPol d) = 4 → ((vp_in y 8) ∧ (∀ dKnw_14 : Nat → Nat → Int32, dKnw_14 = va_up dKnw d (upd (dKnw d) y.toNatClampNeg ((dKnw d y.toNatClampNeg) + 1)) → (k y (lN (rN (rN r))) dPtr dKnw_14)))) ∧ (¬ (dPol d) = 4 → (k y (lN (rN (rN r))) dPtr dKnw)))) := fun y hy => ⟨fun q => absurd (hpol.symm.trans q) (by decide), fun _ => ⟨fun q => absurd (hpol.symm.trans q) (by decide), fun _ => hy⟩⟩
      refine ⟨vp_in_nI (by omega) (by decide), vp_in_nI (by omega) (by decide), fun q => hfin _ ?_, fun q => hfin _ ?_⟩
      · rw [if_pos ((nI_leI (by omega) (by omega)).mp q)] at hk; exact hk
      · rw [if_neg (fun z => q ((nI_leI (by omega) (by omega)).mpr z))] at hk; exact hk
    · refine ⟨i17 (by omega), fun q => absurd (hTn.symm.trans q) (by decide), fun _ => b_draw5 h0 hr hl0 (by omega) ?_, fun q => absurd (hTn.symm.trans q) (by decide), fun q => absurd (hTn.symm.trans q) (by decide), fun q => absurd q (by rw [hTn]; decide)⟩
      rw [hj1]
      refine ⟨vp_in_nI (by omega) (by decide), fun x4 e4 => b_draw5 us (rN_lt r) hl0 (by omega) ?_⟩
      rw [nI_clamp (by omega), ents_at hc2 hi1] at e4
      rw [hj2]
      refine ⟨vp_in_nI (by omega) (by decide), fun x8 e8 => ?_⟩
      rw [nI_clamp (by omega), ents_at hc2 hi2] at e8
      rw [e4, e8]
      refine hK2.len hs2 (hK2.len hs1 ?_)
      rw [eu, ev]
      refine ⟨fun q => ?_, fun q => ?_⟩
      · rw [if_pos ((nI_leI (by omega) (by omega)).mp q)] at hk; exact hk
      · rw [if_neg (fun z => q ((nI_leI (by omega) (by omega)).mpr z))] at hk; exact hk
  · obtain ⟨ec, en, e3, e4⟩ := hI.1 d (by omega)
    have hlen := hI.len hS d
    by_cases hz : (Ls d).length = 0
    · refine ⟨_, rN r, upd nw 0 (nI (rN r)), dPtr, dKnw, hs1, rN_lt r, us, fun i hi _ => un hi, hR.cong (fun i _ _ => un (by omega)), fun k hk => ?_, fun k hk => ?_⟩
      · refine ⟨fun q => absurd (hT.symm.trans q) (by decide), fun q => absurd (hT.symm.trans q) (by decide), fun _ => ⟨fun _ => ⟨fun _ => hX1 _ _ (by rw [hpol]; decide) ⟨fun q => absurd (hpol.symm.trans q) (by decide), fun _ => ⟨fun q => absurd (hpol.symm.trans q) (by decide), fun _ => hk⟩⟩, fun q => absurd rfl q⟩, fun q => absurd (by rw [ec, hz]; decide) q⟩, fun q => absurd (hT.symm.trans q) (by decide), fun q => absurd q (by rw [hT]; decide)⟩
      · exact ⟨i17 (by omega), fun q => absurd (hTn.symm.trans q) (by decide), fun q => absurd (hTn.symm.trans q) (by decide), fun _ => ⟨fun _ => ⟨i57 (by omega), fun _ => hM1 k hk, fun q => absurd (by rw [q57 (by omega), en, hz]; decide) q⟩, fun q => absurd hpn2 q⟩, fun q => absurd (hTn.symm.trans q) (by decide), fun q => absurd q (by rw [hTn]; decide)⟩
    · have hlt : 0 < (Ls d).length := by omega
      have hx := hI.2.2.2.1 d _ (List.getElem_mem hlt)
      have v1 : dIdl d 0 = nI (Ls d)[0] := ents_at e3 hlt
      have v2 : nw (61 + 8 * d) = nI (Ls d)[0] := ents_at e4 hlt
      refine ⟨(Ls d)[0], r, nw, dPtr, dKnw, hx.1, hr, h0, fun i _ _ => rfl, hR, fun k hk => ?_, fun k hk => ?_⟩
      · refine ⟨fun q => absurd (hT.symm.trans q) (by decide), fun q => absurd (hT.symm.trans q) (by decide), fun _ => ⟨fun q => absurd q (by rw [ec]; exact nI_nle hlt (by omega)), fun _ => ?_⟩, fun q => absurd (hT.symm.trans q) (by decide), fun q => absurd q (by rw [hT]; decide)⟩
        rw [v1]
        exact ⟨fun q => absurd q (m1_ne (by omega)), fun _ => ⟨fun q => absurd (hpol.symm.trans q) (by decide), fun _ => ⟨fun q => absurd (hpol.symm.trans q) (by decide), fun _ => hk⟩⟩⟩
      · refine ⟨i17 (by omega), fun q => absurd (hTn.symm.trans q) (by decide), fun q => absurd (hTn.symm.trans q) (by decide), fun _ => ⟨fun _ => ⟨i57 (by omega), fun q => absurd q (by rw [q57 (by omega), en]; exact nI_nle hlt (by omega)), fun _ => ⟨i61a (by omega), ?_⟩⟩, fun q => absurd hpn2 q⟩, fun q => absurd (hTn.symm.trans q) (by decide), fun q => absurd q (by rw [hTn]; decide)⟩
        rw [q61a (by omega), v2]
        exact hk
  · obtain ⟨x, hx, a1, a2⟩ := b_least (nw := nw) (dKnw := dKnw) (d := d) (by omega) hl0 (by omega) (fun y hy => by have := (ups_lt hy).1; omega) hc hc2 (fun y hy => (hR.2 d y (by omega) (by have := (ups_lt hy).1; omega)).1 (ups_lt hy).1)
    have hxS := (ups_lt hx).1
    have hkn := (hR.2 d x (by omega) (by omega)).1 hxS
    refine ⟨x, r, upd nw (25 + 8 * d + x) (dKnw d x + 1), dPtr, va_up dKnw d (upd (dKnw d) x (dKnw d x + 1)), hxS, hr, by rw [un (by omega)]; exact h0, fun i hi h9 => un (by omega), ⟨fun q hq => ?_, fun q s hq hs => ?_⟩, fun k hk => ?_, fun k hk => ?_⟩
    · rw [un (by omega)]; exact hR.1 q hq
    · by_cases e : q = d
      · subst e
        rw [vs]
        by_cases e2 : s = x
        · subst e2
          rw [us, us]
          exact ⟨fun _ => rfl, fun z => absurd z (by omega)⟩
        · rw [un e2, un (by omega)]
          exact hR.2 q s hq hs
      · rw [vn e, un (by omega)]
        exact hR.2 q s hq hs
    · refine ⟨fun q => absurd (hT.symm.trans q) (by decide), fun q => absurd (hT.symm.trans q) (by decide), fun q => absurd (hT.symm.trans q) (by decide), fun _ => a1 _ ⟨fun q => absurd q (m1_ne (by omega)), fun _ => ⟨fun q => absurd (hpol.symm.trans q) (by decide), fun _ => ⟨fun _ => ⟨vp_in_nI (by omega) (by decide), fun f6 e6 => ?_⟩, fun q => absurd hpol q⟩⟩⟩, fun q => absurd q (by rw [hT]; decide)⟩
      rw [nI_clamp (by omega)] at e6
      rw [e6]
      exact hk
    · refine ⟨i17 (by omega), fun q => absurd (hTn.symm.trans q) (by decide), fun q => absurd (hTn.symm.trans q) (by decide), fun q => absurd (hTn.symm.trans q) (by decide), fun _ => a2 _ ⟨i25 (by omega), fun f5 e5 => ?_⟩, fun q => absurd q (by rw [hTn]; decide)⟩
      rw [q25 (by omega), hkn] at e5
      rw [e5]
      exact hk
end TAK
