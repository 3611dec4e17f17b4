section LEB
variable {nw sUp sLen sReg dCnt : Nat → Int32} {dIdl : Nat → Nat → Int32} {S D r md : Nat} {Ls : Nat → List Nat}
theorem RI.at (h : RI nw sUp sLen sReg dCnt dIdl S D Ls) (hD : D ≤ 4) {s : Nat} (hs : s < S) : (sReg s = -1 ∧ ∀ q, ¬ s ∈ Ls q) ∨ ∃ d, d < D ∧ s ∈ Ls d ∧ sReg s = nI d ∧ ∀ q, q ≠ d → ¬ s ∈ Ls q := by
  rcases h.2.2.2.2 s hs with z | ⟨d, z1, z2⟩
  · exact Or.inl ⟨z, fun q => h.free hD z⟩
  · have e1 := (h.2.2.2.1 d s z2).2.1
    refine Or.inr ⟨d, z1, z2, e1, fun q hq hm => ?_⟩
    have e2 := (h.2.2.2.1 q s hm).2.1
    have hqD : q < D := by
      apply Nat.lt_of_not_le
      intro z
      rw [h.2.1 q z] at hm
      exact absurd hm List.not_mem_nil
    rw [e1] at e2
    exact hq ((nI_eq (by omega) (by omega)).mp e2).symm
theorem b_leaveX (h : RI nw sUp sLen sReg dCnt dIdl S D Ls) (hS : S ≤ 8) (hD : D ≤ 4) {s : Nat} (hs : s < S) {k : (Nat → Int32) → (Nat → Int32) → (Nat → Nat → Int32) → Prop}
    (hk : ∀ dCnt1 dIdl1, (∀ d, d < 4 → dCnt1 d = nI (lsx Ls s d).length ∧ ents (dIdl1 d) (lsx Ls s d)) → k (upd sReg s (-1)) dCnt1 dIdl1) : wp_X3_leaveIdleList sReg dCnt dIdl (nI s) k := by
  refine ⟨vp_in_nI (by omega) (by decide), fun x2 e2 => ?_⟩
  rw [nI_clamp (by omega)] at e2
  rcases h.at hD hs with ⟨e, hno⟩ | ⟨d, hd, hm, e, hno⟩
  · refine ⟨fun _ => ?_, fun q => absurd (e2.trans e) q⟩
    have h9 := hk dCnt dIdl (fun d hd => by rw [lsx_none (hno d)]; exact ⟨(h.1 d hd).1, (h.1 d hd).2.2.1⟩)
    rw [upd_same e] at h9
    exact h9
  · rw [e] at e2
    subst e2
    refine ⟨fun q => absurd q (m1_ne (by omega)), fun _ => ⟨vp_in_nI (by omega) (by decide), ?_⟩⟩
    rw [nI_clamp (by omega)]
    obtain ⟨g1, -, g3, -⟩ := h.1 d (by omega)
    refine b_removeIdle (by omega) (h.len hS d) (fun x hx => by have := (h.2.2.2.1 d x hx).1; omega) g1 g3 (fun f hf hq s7 e7 => ?_)
    rw [nI_clamp (by omega)] at e7
    rw [e7]
    refine hk _ f (fun q hq4 => ?_)
    by_cases e9 : q = d
    · subst e9
      rw [us]
      exact ⟨rfl, hf⟩
    · rw [un e9, lsx_none (hno q e9), hq q e9]
      exact ⟨(h.1 q hq4).1, (h.1 q hq4).2.2.1⟩
theorem b_leaveM (h : RI nw sUp sLen sReg dCnt dIdl S D Ls) (hS : S ≤ 8) (hD : D ≤ 4) (h5 : nw 5 = nI D) {s : Nat} (hs : s < S) {k : (Nat → Int32) → Prop}
    (hk : ∀ nw1 : Nat → Int32, (∀ d, d < 4 → nw1 (57 + d) = nI (lsx Ls s d).length ∧ ents (fun k => nw1 (61 + 8 * d + k)) (lsx Ls s d)) → (∀ i, (i < 57 ∨ 93 ≤ i) → nw1 i = nw i) → k nw1) : wp_X5_leave nw (nI s) k := by
  refine b_listOf h hS hD h5 hs ?_
  rcases h.at hD hs with ⟨e, hno⟩ | ⟨d, hd, hm, e, hno⟩
  · refine ⟨fun _ => ?_, fun q => absurd e q⟩
    exact hk nw (fun d hd => by rw [lsx_none (hno d)]; exact ⟨(h.1 d hd).2.1, (h.1 d hd).2.2.2⟩) (fun _ _ => rfl)
  · rw [e]
    refine ⟨fun q => absurd q (m1_ne (by omega)), fun _ => ?_⟩
    obtain ⟨-, g2, -, g4⟩ := h.1 d (by omega)
    refine b_leave17 (by omega) (by omega) (h.len hS d) (fun x hx => by have := (h.2.2.2.1 d x hx).1; omega) g2 g4 (fun f f1 f2 f3 => hk f (fun q hq4 => ?_) (fun i hi => f3 i (by omega) (by omega)))
    by_cases e9 : q = d
    · subst e9
      exact ⟨f1, f2⟩
    · have g8 := h.len hS q
      rw [lsx_none (hno q e9), f3 _ (by omega) (by omega)]
      exact ⟨(h.1 q hq4).2.1, ents_cong (h.1 q hq4).2.2.2 (fun k hk => f3 _ (by omega) (by omega))⟩
theorem RI.leave (h : RI nw sUp sLen sReg dCnt dIdl S D Ls) {s : Nat} {nw1 sUp1 sLen1 dCnt1 : Nat → Int32} {dIdl1 : Nat → Nat → Int32} (hX : ∀ d, d < 4 → dCnt1 d = nI (lsx Ls s d).length ∧ ents (dIdl1 d) (lsx Ls s d)) (hM : ∀ d, d < 4 → nw1 (57 + d) = nI (lsx Ls s d).length ∧ ents (fun k => nw1 (61 + 8 * d + k)) (lsx Ls s d)) (hu : ∀ x, x ≠ s → sUp1 x = sUp x) (hl : ∀ x, x ≠ s → sLen1 x = sLen x) : RI nw1 sUp1 sLen1 (upd sReg s (-1)) dCnt1 dIdl1 S D (lsx Ls s) := by
  have hmem : ∀ d x, x ∈ lsx Ls s d → x ∈ Ls d ∧ x ≠ s := fun d x hx => ⟨(List.mem_filter.mp hx).1, of_decide_eq_true (List.mem_filter.mp hx).2⟩
  refine ⟨fun d hd => ⟨(hX d hd).1, (hM d hd).1, (hX d hd).2, (hM d hd).2⟩, fun d hd => ?_, fun d => (h.2.2.1 d).filter _, fun d x hx => ?_, fun x hx => ?_⟩
  · show (Ls d).filter _ = []
    rw [h.2.1 d hd]
    rfl
  · obtain ⟨m1, m2⟩ := hmem d x hx
    rw [un m2, hu x m2, hl x m2]
    exact h.2.2.2.1 d x m1
  · by_cases e : x = s
    · subst e
      exact Or.inl us
    · rw [un e]
      rcases h.2.2.2.2 x hx with z | ⟨d, z1, z2⟩
      · exact Or.inl z
      · exact Or.inr ⟨d, z1, List.mem_filter.mpr ⟨z2, decide_eq_true e⟩⟩
/-- a server that is in no list may change -/
theorem RI.off (h : RI nw sUp sLen sReg dCnt dIdl S D Ls) (hD : D ≤ 4) {s : Nat} (hn : sReg s = -1) {sUp1 sLen1 : Nat → Int32} (hu : ∀ x, x ≠ s → sUp1 x = sUp x) (hl : ∀ x, x ≠ s → sLen1 x = sLen x) : RI nw sUp1 sLen1 sReg dCnt dIdl S D Ls := by
  refine ⟨h.1, h.2.1, h.2.2.1, fun d x hx => ?_, h.2.2.2.2⟩
  have e : x ≠ s := fun e => h.free hD hn (e ▸ hx)
  rw [hu x e, hl x e]
  exact h.2.2.2.1 d x hx
end LEB
