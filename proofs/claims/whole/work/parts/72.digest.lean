/-! The digest. -/
section DIG
variable {nw sUp sLen sWrk sReg sFst sLst dCnt dPol dPtr jNxt : Nat → Int32} {dIdl dKnw : Nat → Nat → Int32} {S D J : Nat} {Ls : Nat → List Nat}
theorem b_mixK (hS : S ≤ 8) (h4 : nw 4 = nI S) (hR : RK nw dPtr dKnw S) {d : Nat} (hd : d < 4) : ∀ (n i : Nat) (ha : Int64), n + i = S → ∃ ha1 : Int64, (∀ k : Int64 → Prop, k ha1 → wp_X0_mixAll_L71 (nI S) k dKnw d (n + 1) (nI i) ha) ∧ (∀ rec12 : Int32 → Int64 → Prop, (∀ x17 : Int32, x17 = nI d + 1 → rec12 x17 ha1) → wp_X5_mixDispatchers_L102 nw (nI d) rec12 (n + 1) (nI i) ha) := by
  intro n
  induction n with
  | zero =>
    intro i ha hi
    have e : i = S := by omega
    subst e
    have hle : nI i ≤ nI i := nI_le (Nat.le_refl _) (by omega)
    exact ⟨ha, fun k hk => ⟨fun _ => hk, fun q => absurd hle q⟩, fun rec12 hk => ⟨fun _ => hk, fun q => absurd (by rw [h4]; exact hle) q⟩⟩
  | succ n ih =>
    intro i ha hi
    have hlt : i < S := by omega
    obtain ⟨ha1, g1, g2⟩ := ih (i + 1) ((31 : Int64) * ha + (dKnw d i).toInt64) (by omega)
    refine ⟨ha1, fun k hk => ⟨fun q => absurd q (nI_ge hlt (by omega)), fun _ => ⟨vp_in_nI (by omega) (by decide), fun x e => ?_⟩⟩, fun rec12 hk => ⟨fun q => absurd q (by rw [h4]; exact nI_ge hlt (by omega)), fun _ => ⟨i25 (by omega), fun y ey x e => ?_⟩⟩⟩
    · rw [nI_1] at e
      rw [e, nI_clamp (by omega)]
      exact g1 k hk
    · rw [q25 (by omega), (hR.2 d i hd (by omega)).1 hlt] at ey
      rw [nI_1] at e
      rw [e, ey]
      exact g2 rec12 hk
theorem b_mixI {d : Nat} {l : List Nat} (hd : d < 4) (h8 : l.length ≤ 8) (hc : dCnt d = nI l.length) (hn : nw (57 + d) = nI l.length) (e1 : ents (dIdl d) l) (e2 : ents (fun k => nw (61 + 8 * d + k)) l) : ∀ (n i : Nat) (ha : Int64), n + i = l.length → ∃ ha1 : Int64, (∀ (cntS : Int32) (k : Int64 → Prop), (∃ fu, wp_X0_mixAll_L71 cntS k dKnw d fu 0 ha1) → wp_X0_mixAll_L38 dCnt d cntS k dKnw dIdl (n + 1) (nI i) ha) ∧ (∀ rec12 : Int32 → Int64 → Prop, (∃ fu, wp_X5_mixDispatchers_L102 nw (nI d) rec12 fu 0 ha1) → wp_X5_mixDispatchers_L63 nw (nI d) rec12 (n + 1) (nI i) ha) := by
  intro n
  induction n with
  | zero =>
    intro i ha hi
    have e : i = l.length := by omega
    subst e
    have hle : nI l.length ≤ nI l.length := nI_le (Nat.le_refl _) (by omega)
    exact ⟨ha, fun cntS k hk => ⟨fun _ => hk, fun q => absurd (by rw [hc]; exact hle) q⟩, fun rec12 hk => ⟨fun _ => hk, fun q => absurd (by rw [q57 (by omega), hn]; exact hle) q⟩⟩
  | succ n ih =>
    intro i ha hi
    have hlt : i < l.length := by omega
    have v1 := ents_at e1 hlt
    have v2 : nw (61 + 8 * d + i) = nI l[i] := ents_at e2 hlt
    obtain ⟨ha1, g1, g2⟩ := ih (i + 1) ((31 : Int64) * ha + (nI l[i]).toInt64) (by omega)
    refine ⟨ha1, fun cntS k hk => ⟨fun q => absurd q (by rw [hc]; exact nI_ge hlt (by omega)), fun _ => ⟨vp_in_nI (by omega) (by decide), fun x e => ?_⟩⟩, fun rec12 hk => ⟨fun q => absurd q (by rw [q57 (by omega), hn]; exact nI_ge hlt (by omega)), fun _ => ⟨i61 (by omega), fun y ey x e => ?_⟩⟩⟩
    · rw [nI_1] at e
      rw [e, nI_clamp (by omega), v1]
      exact g1 cntS k hk
    · rw [q61 (by omega), v2] at ey
      rw [nI_1] at e
      rw [e, ey]
      exact g2 rec12 hk
theorem b_mixD (hI : RI nw sUp sLen sReg dCnt dIdl S D Ls) (hS : S ≤ 8) (h4 : nw 4 = nI S) (hR : RK nw dPtr dKnw S) {d : Nat} (hd : d < 4) (hpol : nw (17 + d) = dPol d) (ha : Int64) : ∃ ha1 : Int64, (∀ k : Int64 → Prop, k ha1 → wp_X0_mixAll dPol dPtr dCnt dIdl dKnw d ha (nI S) k) ∧ (∀ rec12 : Int32 → Int64 → Prop, (∀ x17 : Int32, x17 = nI d + 1 → rec12 x17 ha1) → ((vp_in (17 + nI d) 893) ∧ (wp_X5_mix ha (nw (17 + nI d).toNatClampNeg) (fun ha_6 => (vp_in (21 + nI d) 893) ∧ (wp_X5_mix ha_6 (nw (21 + nI d).toNatClampNeg) (fun ha_8 => (vp_in (57 + nI d) 893) ∧ (wp_X5_mix ha_8 (nw (57 + nI d).toNatClampNeg) (fun ha_10 => ∃ fu, wp_X5_mixDispatchers_L63 nw (nI d) rec12 fu 0 ha_10)))))))) := by
  obtain ⟨ec, en, e3, e4⟩ := hI.1 d hd
  obtain ⟨ha2, g1, g2⟩ := b_mixI (dKnw := dKnw) (nw := nw) hd (hI.len hS d) ec en e3 e4 (Ls d).length 0 ((31 : Int64) * ((31 : Int64) * ((31 : Int64) * ha + (dPol d).toInt64) + (dPtr d).toInt64) + (dCnt d).toInt64) (by omega)
  obtain ⟨ha3, g3, g4⟩ := b_mixK hS h4 hR hd S 0 ha2 (by omega)
  refine ⟨ha3, fun k hk => ⟨(Ls d).length + 1, g1 _ k ⟨S + 1, g3 k hk⟩⟩, fun rec12 hk => ⟨i17 (by omega), fun a ea => ⟨i21 (by omega), fun b eb => ⟨i57 (by omega), fun c ecc => ⟨(Ls d).length + 1, ?_⟩⟩⟩⟩⟩
  rw [q17 (by omega), hpol] at ea
  rw [q21 (by omega), hR.1 d hd, ea] at eb
  rw [q57 (by omega), en, ← ec, eb] at ecc
  rw [ecc]
  exact g2 rec12 ⟨S + 1, g4 rec12 hk⟩
theorem b_mixDs (hI : RI nw sUp sLen sReg dCnt dIdl S D Ls) (hS : S ≤ 8) (hD : D ≤ 4) (h4 : nw 4 = nI S) (h5 : nw 5 = nI D) (hR : RK nw dPtr dKnw S) (hpol : ∀ d, d < 4 → nw (17 + d) = dPol d) {jCnt jFin jWs jMis : Int32} : ∀ (n i : Nat) (ha : Int64), n + i = D → ∃ ha1 : Int64, (∀ k : Int64 → Prop, k ((31 : Int64) * ((31 : Int64) * ((31 : Int64) * ((31 : Int64) * ha1 + jCnt.toInt64) + jFin.toInt64) + jWs.toInt64) + jMis.toInt64) → wp_X3_mixAll_L92 (nI D) jCnt jFin jWs jMis k dPol dPtr dCnt dIdl dKnw (nI S) (n + 1) (nI i) ha) ∧ (∀ k : Int64 → Prop, k ha1 → wp_X5_mixDispatchers_L12 nw k (n + 1) (nI i) ha) := by
  intro n
  induction n with
  | zero =>
    intro i ha hi
    have e : i = D := by omega
    subst e
    have hle : nI i ≤ nI i := nI_le (Nat.le_refl _) (by omega)
    exact ⟨ha, fun k hk => ⟨fun _ => hk, fun q => absurd hle q⟩, fun k hk => ⟨fun _ => hk, fun q => absurd (by rw [h5]; exact hle) q⟩⟩
  | succ n ih =>
    intro i ha hi
    have hlt : i < D := by omega
    obtain ⟨ha2, g1, g2⟩ := b_mixD hI hS h4 hR (d := i) (by omega) (hpol i (by omega)) ha
    obtain ⟨ha1, g3, g4⟩ := ih (i + 1) ha2 (by omega)
    refine ⟨ha1, fun k hk => ⟨fun q => absurd q (nI_ge hlt (by omega)), fun _ => ⟨vp_in_nI (by omega) (by decide), ?_⟩⟩, fun k hk => ⟨fun q => absurd q (by rw [h5]; exact nI_ge hlt (by omega)), fun _ => g2 _ (fun x e => ?_)⟩⟩
    · rw [nI_clamp (by omega)]
      refine g1 _ (fun x e => ?_)
      rw [nI_1] at e
      rw [e]
      exact g3 k hk
    · rw [nI_1] at e
      rw [e]
      exact g4 k hk
theorem b_mixSs (hI : RI nw sUp sLen sReg dCnt dIdl S D Ls) (hQ : RQ nw sLen sWrk sFst sLst jNxt S J) (hS : S ≤ 8) (hD : D ≤ 4) (hJ : J ≤ 200) (h4 : nw 4 = nI S) (h5 : nw 5 = nI D) (h6 : nw 6 = nI J) (hU : ∀ s, s < S → nw (9 + s) = sUp s ∧ (sUp s = 0 ∨ sUp s = 1)) {jCnt jFin jWs jMis : Int32} : ∀ (n i : Nat) (ha : Int64), n + i = S → ∃ ha1 : Int64, (∀ (dc : Int32) (k : Int64 → Prop), wp_X4_mix ha1 (dc.toInt64) (fun r9 => ∃ fu, wp_X3_mixAll_L92 dc jCnt jFin jWs jMis k dPol dPtr dCnt dIdl dKnw (nI S) fu 0 r9) → wp_X3_mixAll_L52 (nI S) dc jCnt jFin jWs jMis k dPol dPtr dCnt dIdl dKnw sUp sLen sWrk sReg (n + 1) (nI i) ha) ∧ (∀ k : Int64 → Prop, k ha1 → wp_X5_mixServers_L12 nw k (n + 1) (nI i) ha) := by
  intro n
  induction n with
  | zero =>
    intro i ha hi
    have e : i = S := by omega
    subst e
    have hle : nI i ≤ nI i := nI_le (Nat.le_refl _) (by omega)
    exact ⟨ha, fun dc k hk => ⟨fun _ => hk, fun q => absurd hle q⟩, fun k hk => ⟨fun _ => hk, fun q => absurd (by rw [h4]; exact hle) q⟩⟩
  | succ n ih =>
    intro i ha hi
    have hlt : i < S := by omega
    obtain ⟨ha1, g3, g4⟩ := ih (i + 1) ((31 : Int64) * ((31 : Int64) * ((31 : Int64) * ((31 : Int64) * ha + (sUp i).toInt64) + (sLen i).toInt64) + (sWrk i).toInt64) + (sReg i).toInt64) (by omega)
    obtain ⟨u1, u2⟩ := hU i hlt
    refine ⟨ha1, fun dc k hk => ⟨fun q => absurd q (nI_ge hlt (by omega)), fun _ => ⟨vp_in_nI (by omega) (by decide), ?_⟩⟩, fun k hk => ⟨fun q => absurd q (by rw [h4]; exact nI_ge hlt (by omega)), fun _ => ⟨i9 (by omega), fun a ea => (hQ.lk hJ h6).len hlt (fun b eb => b_workOf h6 hJ (fun c ecc => b_listOf hI hS hD h5 hlt (fun f ef x e => ?_)))⟩⟩⟩
    · rw [nI_clamp (by omega)]
      have g5 := g3 dc k hk
      refine ⟨fun q x e => ?_, fun q x e => ?_⟩
      · rw [q, show ((0 : Int32).toInt64) = (0 : Int64) by decide] at g5
        rw [nI_1] at e
        rw [e]
        exact g5
      · rw [u2.resolve_left q, show ((1 : Int32).toInt64) = (1 : Int64) by decide] at g5
        rw [nI_1] at e
        rw [e]
        exact g5
    · rw [q9 (by omega), u1] at ea
      rw [ea] at eb
      rw [← (hQ i hlt).2.1, eb] at ecc
      rw [ecc] at ef
      rw [nI_1] at e
      rw [e, ef]
      exact g4 k hk
end DIG
