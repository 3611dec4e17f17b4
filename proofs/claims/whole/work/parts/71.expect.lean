/-! The expected length. -/
section EXP
variable {nw sUp sLen sReg dCnt dPol dPtr cnd cd : Nat → Int32} {dIdl dKnw : Nat → Nat → Int32} {S D J p : Nat} {Ls : Nat → List Nat} {cn part : Int32}
theorem b_expX {d a b : Nat} {c : Int32} (hd : d < 4) (hc : ∀ k : Int32 → Prop, k c → wp_X3_certainServer cn dPol dPtr dCnt dIdl dKnw cnd d k) (h1 : c = -1 → (dPol d = 2 → (∀ k : Int32 → Prop, k (nI a) → wp_X3_sumOverPairs cn sLen cnd k) ∧ cn * cn = nI b) ∧ (¬ dPol d = 2 → (∀ k : Int32 → Prop, k (nI a) → wp_X3_sumOverCandidates cn sLen cnd k) ∧ cn = nI b)) (h2 : ¬ c = -1 → vp_in c 8 ∧ sLen c.toNatClampNeg = nI a ∧ b = 1) (ha : a < 2 ^ 31) (hb : b < 2 ^ 31) (h0 : 0 < b) {k : Int32 → Prop} (hk : k (if part = 0 then nI a / nI (Nat.gcd b a) else nI b / nI (Nat.gcd b a))) :
    wp_X3_sumOverOutcomes cn sLen dPol dPtr dCnt dIdl dKnw cnd (nI d) (fun r1 => wp_X3_countOutcomes cn dPol dPtr dCnt dIdl dKnw cnd (nI d) (fun r2 => (part = 0 → (wp_X4_commonDivisor r1 r2 (fun r6 => (¬ r6 = 0) ∧ (k (r1 / r6))))) ∧ (¬ part = 0 → (wp_X4_commonDivisor r1 r2 (fun r4 => (¬ r4 = 0) ∧ (k (r2 / r4))))))) := by
  have hg : 0 < Nat.gcd b a := Nat.gcd_pos_of_pos_left _ h0
  have hgb : Nat.gcd b a ≤ b := Nat.gcd_le_left _ h0
  have hne : ¬ nI (Nat.gcd b a) = 0 := nI_ne0 hg (by omega)
  have last : (part = 0 → (wp_X4_commonDivisor (nI a) (nI b) (fun r6 => (¬ r6 = 0) ∧ (k (nI a / r6))))) ∧ (¬ part = 0 → (wp_X4_commonDivisor (nI a) (nI b) (fun r4 => (¬ r4 = 0) ∧ (k (nI b / r4))))) := by
    refine ⟨fun q => b_gcd4 ha hb h0 ⟨hne, ?_⟩, fun q => b_gcd4 ha hb h0 ⟨hne, ?_⟩⟩
    · rw [if_pos q] at hk; exact hk
    · rw [if_neg q] at hk; exact hk
  have hd1 : (nI d).toNatClampNeg = d := nI_clamp (by omega)
  have cnt : wp_X3_countOutcomes cn dPol dPtr dCnt dIdl dKnw cnd (nI d) (fun r2 => (part = 0 → (wp_X4_commonDivisor (nI a) r2 (fun r6 => (¬ r6 = 0) ∧ (k (nI a / r6))))) ∧ (¬ part = 0 → (wp_X4_commonDivisor (nI a) r2 (fun r4 => (¬ r4 = 0) ∧ (k (r2 / r4)))))) := by
    refine ⟨vp_in_nI hd (by decide), ?_⟩
    rw [hd1]
    refine hc _ ⟨fun q => ⟨fun q2 => ?_, fun q2 => ?_⟩, fun q => ?_⟩
    · rw [((h1 q).1 q2).2]; exact last
    · rw [((h1 q).2 q2).2]; exact last
    · have e := (h2 q).2.2
      subst e
      exact last
  refine ⟨vp_in_nI hd (by decide), ?_⟩
  rw [hd1]
  refine hc _ ⟨fun q => ⟨fun q2 => ((h1 q).1 q2).1 _ cnt, fun q2 => ((h1 q).2 q2).1 _ cnt⟩, fun q => ⟨(h2 q).1, ?_⟩⟩
  rw [(h2 q).2.1]
  exact cnt
theorem b_expM {a b : Nat} (ha : a < 2 ^ 31) (hb : b < 2 ^ 31) (h0 : 0 < b) {k : Int32 → Prop} (hk : k (if part = 0 then nI a / nI (Nat.gcd b a) else nI b / nI (Nat.gcd b a))) : wp_X5_common (nI a) (nI b) (fun r5 => (part = 0 → ((¬ r5 = 0) ∧ (k (nI a / r5)))) ∧ (¬ part = 0 → ((¬ r5 = 0) ∧ (k (nI b / r5))))) := by
  have hg : 0 < Nat.gcd b a := Nat.gcd_pos_of_pos_left _ h0
  have hgb : Nat.gcd b a ≤ b := Nat.gcd_le_left _ h0
  have hne : ¬ nI (Nat.gcd b a) = 0 := nI_ne0 hg (by omega)
  refine b_gcd5 ha hb ⟨fun q => ⟨hne, ?_⟩, fun q => ⟨hne, ?_⟩⟩
  · rw [if_pos q] at hk; exact hk
  · rw [if_neg q] at hk; exact hk
theorem b_exp (hI : RI nw sUp sLen sReg dCnt dIdl S D Ls) (hK : LK nw sLen S J) (hR : RK nw dPtr dKnw S) (hS : S ≤ 8) (hD : D ≤ 4) {d : Nat} (hd : d < D) (hpol : dPol d = nI p) (hpn : nw (17 + d) = nI p) (hp : p ≤ 4) (hl0 : 0 < (ups sUp S).length) (hc : ents cnd (ups sUp S)) (hc2 : ents cd (ups sUp S)) :
    ∃ v : Int32, (∀ k : Int32 → Prop, k v → wp_X3_sumOverOutcomes (nI (ups sUp S).length) sLen dPol dPtr dCnt dIdl dKnw cnd (nI d) (fun r1 => wp_X3_countOutcomes (nI (ups sUp S).length) dPol dPtr dCnt dIdl dKnw cnd (nI d) (fun r2 => (part = 0 → (wp_X4_commonDivisor r1 r2 (fun r6 => (¬ r6 = 0) ∧ (k (r1 / r6))))) ∧ (¬ part = 0 → (wp_X4_commonDivisor r1 r2 (fun r4 => (¬ r4 = 0) ∧ (k (r2 / r4)))))))) ∧ (∀ k : Int32 → Prop, k v → wp_X5_expected nw cd (nI d) (nI (ups sUp S).length) part k) := by
  have h8 := ups_len (sUp := sUp) S
  have hT : (dPol d).toInt = (p : Int) := by rw [hpol, nI_toInt (by omega)]
  have hpn2 : nw (17 + nI d).toNatClampNeg = nI p := by rw [q17 (by omega), hpn]
  have hlS : ∀ x ∈ ups sUp S, x < S := fun x hx => (ups_lt hx).1
  obtain ⟨m1, hm1, s1X, s1M⟩ := b_sum1 hK hS hlS (by omega) hc hc2
  obtain ⟨m2, hm2, s2X, s2M⟩ := b_sum2 hK hS hlS (by omega) hc hc2
  have e1 : (1 : Int32) = nI 1 := rfl
  have hmul : nI (ups sUp S).length * nI (ups sUp S).length = nI ((ups sUp S).length * (ups sUp S).length) := pk_mul _ _
  have hl8 : (ups sUp S).length ≤ 8 := by omega
  have hsq : (ups sUp S).length * (ups sUp S).length ≤ 8 * 8 := Nat.mul_le_mul hl8 hl8
  have hsq0 : 0 < (ups sUp S).length * (ups sUp S).length := Nat.mul_pos hl0 hl0
  have cert : ∀ {x : Nat}, x < S → ¬ nI x = -1 ∧ vp_in (nI x) 8 ∧ ∃ a, a ≤ 200 ∧ sLen x = nI a ∧ sLen (nI x).toNatClampNeg = nI a := fun {x} hx => by
    obtain ⟨a, ha, ea⟩ := hK.nat hx
    exact ⟨m1_ne (by omega), vp_in_nI (by omega) (by decide), a, ha, ea, by rw [nI_clamp (by omega)]; exact ea⟩
  rcases (show p = 0 ∨ p = 1 ∨ p = 2 ∨ p = 3 ∨ p = 4 by omega) with rfl | rfl | rfl | rfl | rfl
  · refine ⟨_, fun k hk => b_expX (a := m1) (b := (ups sUp S).length) (c := -1) (by omega) (fun K hK => ⟨fun q => absurd (hT.symm.trans q) (by decide), fun q => absurd (hT.symm.trans q) (by decide), fun q => absurd (hT.symm.trans q) (by decide), fun q => absurd (hT.symm.trans q) (by decide), fun _ => hK⟩) (fun _ => ⟨fun q => absurd (hpol.symm.trans q) (by decide), fun _ => ⟨s1X, rfl⟩⟩) (fun q => absurd rfl q) (by omega) (by omega) hl0 hk, fun k hk => ⟨i17 (by omega), fun x2 e2 => ?_⟩⟩
    rw [hpn2] at e2
    subst e2
    exact ⟨fun _ => s1M _ (b_expM (by omega) (by omega) hl0 hk), fun q => absurd rfl q⟩
  · obtain ⟨x, hx, a1, a2⟩ := b_next (nw := nw) (d := d) (ptr := dPtr d) (by omega) hl0 (by omega) hc hc2 (hR.1 d (by omega))
    obtain ⟨c1, c2, a, ha, ea, ea2⟩ := cert (hlS x hx)
    refine ⟨_, fun k hk => b_expX (a := a) (b := 1) (c := nI x) (by omega) (fun K hK => ⟨fun _ => a1 _ hK, fun q => absurd (hT.symm.trans q) (by decide), fun q => absurd (hT.symm.trans q) (by decide), fun q => absurd (hT.symm.trans q) (by decide), fun q => absurd q (by rw [hT]; decide)⟩) (fun q => absurd q c1) (fun _ => ⟨c2, ea2, rfl⟩) (by omega) (by decide) (by decide) hk, fun k hk => ⟨i17 (by omega), fun x2 e2 => ?_⟩⟩
    rw [hpn2] at e2
    subst e2
    refine ⟨fun q => absurd q (by decide), fun _ => ⟨fun q => absurd q (by decide), fun _ => ⟨fun q => absurd q (by decide), fun _ => ⟨fun q => absurd q (by decide), fun _ => ⟨fun _ => a2 _ (hK.len (hlS x hx) ?_), fun q => absurd rfl q⟩⟩⟩⟩⟩
    rw [ea]
    exact b_expM (b := 1) (by omega) (by decide) (by decide) hk
  · refine ⟨_, fun k hk => b_expX (a := m2) (b := (ups sUp S).length * (ups sUp S).length) (c := -1) (by omega) (fun K hK => ⟨fun q => absurd (hT.symm.trans q) (by decide), fun _ => hK, fun q => absurd (hT.symm.trans q) (by decide), fun q => absurd (hT.symm.trans q) (by decide), fun q => absurd q (by rw [hT]; decide)⟩) (fun _ => ⟨fun _ => ⟨s2X, hmul⟩, fun q => absurd hpol q⟩) (fun q => absurd rfl q) (by omega) (by omega) hsq0 hk, fun k hk => ⟨i17 (by omega), fun x2 e2 => ?_⟩⟩
    rw [hpn2] at e2
    subst e2
    refine ⟨fun q => absurd q (by decide), fun _ => ⟨fun q => absurd q (by decide), fun _ => ⟨fun _ => s2M _ (fun x61 e61 => ?_), fun q => absurd rfl q⟩⟩⟩
    rw [hmul] at e61
    subst e61
    exact b_expM (by omega) (by omega) hsq0 hk
  · obtain ⟨ec, en, e3, e4⟩ := hI.1 d (by omega)
    have hlen := hI.len hS d
    by_cases hz : (Ls d).length = 0
    · refine ⟨_, fun k hk => b_expX (a := m1) (b := (ups sUp S).length) (c := -1) (by omega) (fun K hK => ⟨fun q => absurd (hT.symm.trans q) (by decide), fun q => absurd (hT.symm.trans q) (by decide), fun _ => ⟨fun _ => hK, fun q => absurd (by rw [ec, hz]; decide) q⟩, fun q => absurd (hT.symm.trans q) (by decide), fun q => absurd q (by rw [hT]; decide)⟩) (fun _ => ⟨fun q => absurd (hpol.symm.trans q) (by decide), fun _ => ⟨s1X, rfl⟩⟩) (fun q => absurd rfl q) (by omega) (by omega) hl0 hk, fun k hk => ⟨i17 (by omega), fun x2 e2 => ?_⟩⟩
      rw [hpn2] at e2
      subst e2
      exact ⟨fun q => absurd q (by decide), fun _ => ⟨fun _ => ⟨i57 (by omega), fun _ => s1M _ (b_expM (by omega) (by omega) hl0 hk), fun q => absurd (by rw [q57 (by omega), en, hz]; rfl) q⟩, fun q => absurd rfl q⟩⟩
    · have hlt : 0 < (Ls d).length := by omega
      have hx := hI.2.2.2.1 d _ (List.getElem_mem hlt)
      have v1 : dIdl d 0 = nI (Ls d)[0] := ents_at e3 hlt
      have v2 : nw (61 + 8 * d) = nI (Ls d)[0] := ents_at e4 hlt
      obtain ⟨c1, c2, a, ha, ea, ea2⟩ := cert hx.1
      refine ⟨_, fun k hk => b_expX (a := a) (b := 1) (c := nI (Ls d)[0]) (by omega) (fun K hK => ⟨fun q => absurd (hT.symm.trans q) (by decide), fun q => absurd (hT.symm.trans q) (by decide), fun _ => ⟨fun q => absurd q (by rw [ec]; exact nI_nle hlt (by omega)), fun _ => by rw [v1]; exact hK⟩, fun q => absurd (hT.symm.trans q) (by decide), fun q => absurd q (by rw [hT]; decide)⟩) (fun q => absurd q c1) (fun _ => ⟨c2, ea2, rfl⟩) (by omega) (by decide) (by decide) hk, fun k hk => ⟨i17 (by omega), fun x2 e2 => ?_⟩⟩
      rw [hpn2] at e2
      subst e2
      refine ⟨fun q => absurd q (by decide), fun _ => ⟨fun _ => ⟨i57 (by omega), fun q => absurd q (by rw [q57 (by omega), en]; exact nI_ne0 hlt (by omega)), fun _ => ⟨fun q => absurd q (by decide), fun _ => ⟨fun _ => ⟨i61a (by omega), hK.lenx (by rw [q61a (by omega), v2]) hx.1 ?_⟩, fun q => absurd rfl q⟩⟩⟩, fun q => absurd rfl q⟩⟩
      rw [ea]
      exact b_expM (b := 1) (by omega) (by decide) (by decide) hk
  · obtain ⟨x, hx, a1, a2⟩ := b_least (nw := nw) (dKnw := dKnw) (d := d) (by omega) hl0 (by omega) (fun y hy => by have := (ups_lt hy).1; omega) hc hc2 (fun y hy => (hR.2 d y (by omega) (by have := (ups_lt hy).1; omega)).1 (ups_lt hy).1)
    obtain ⟨c1, c2, a, ha, ea, ea2⟩ := cert (hlS x hx)
    refine ⟨_, fun k hk => b_expX (a := a) (b := 1) (c := nI x) (by omega) (fun K hK => ⟨fun q => absurd (hT.symm.trans q) (by decide), fun q => absurd (hT.symm.trans q) (by decide), fun q => absurd (hT.symm.trans q) (by decide), fun _ => a1 _ hK, fun q => absurd q (by rw [hT]; decide)⟩) (fun q => absurd q c1) (fun _ => ⟨c2, ea2, rfl⟩) (by omega) (by decide) (by decide) hk, fun k hk => ⟨i17 (by omega), fun x2 e2 => ?_⟩⟩
    rw [hpn2] at e2
    subst e2
    refine ⟨fun q => absurd q (by decide), fun _ => ⟨fun q => absurd q (by decide), fun _ => ⟨fun q => absurd q (by decide), fun _ => ⟨fun q => absurd q (by decide), fun _ => ⟨fun q => absurd q (by decide), fun _ => a2 _ (hK.len (hlS x hx) ?_)⟩⟩⟩⟩⟩
    rw [ea]
    exact b_expM (b := 1) (by omega) (by decide) (by decide) hk
end EXP
