/-! Lengths, and sums of them. -/
def LK (nw sLen : Nat → Int32) (S J : Nat) : Prop := nw 6 = nI J ∧ J ≤ 200 ∧ ∀ s, s < S → sLen s = nI (que nw (nI s) J).length
section SUM
variable {nw nw1 sUp sLen cnd cd : Nat → Int32} {S J : Nat} {l : List Nat}
theorem que_cong {s : Int32} (hJ : J ≤ 200) (h : ∀ i, 93 ≤ i → i < 493 → nw1 i = nw i) : que nw1 s J = que nw s J := fil_cong (fun j hj => by unfold isQ; rw [h _ (by omega) (by omega), h _ (by omega) (by omega)])
theorem LK.len (h : LK nw sLen S J) {s : Nat} (hs : s < S) {k : Int32 → Prop} (hk : k (sLen s)) : wp_X5_lengthOf nw (nI s) k := b_lengthOf h.1 h.2.1 (by rw [← h.2.2 s hs]; exact hk)
theorem LK.lenx (h : LK nw sLen S J) {s : Nat} {x : Int32} (e : x = nI s) (hs : s < S) {k : Int32 → Prop} (hk : k (sLen s)) : wp_X5_lengthOf nw x k := by
  subst e
  exact h.len hs hk
theorem LK.cong (h : LK nw sLen S J) (h6 : nw1 6 = nw 6) (h9 : ∀ i, 93 ≤ i → i < 493 → nw1 i = nw i) : LK nw1 sLen S J := ⟨h6.trans h.1, h.2.1, fun s hs => by rw [que_cong h.2.1 h9]; exact h.2.2 s hs⟩
theorem LK.nat (h : LK nw sLen S J) {s : Nat} (hs : s < S) : ∃ n, n ≤ 200 ∧ sLen s = nI n := ⟨_, Nat.le_trans (que_len _ _ _) h.2.1, h.2.2 s hs⟩
theorem b_sum1 (hK : LK nw sLen S J) (hS : S ≤ 8) (hl : ∀ x ∈ l, x < S) (h8 : l.length ≤ 8) (hc : ents cnd l) (hc2 : ents cd l) :
    ∃ m, m ≤ 1600 ∧ (∀ k : Int32 → Prop, k (nI m) → wp_X3_sumOverCandidates (nI l.length) sLen cnd k) ∧ (∀ k : Int32 → Prop, k (nI m) → wp_X5_sumOfLengths nw cd (nI l.length) k) := by
  have main : ∀ n i m, n + i = l.length → m ≤ 200 * i → ∃ m1, m1 ≤ 200 * l.length ∧ (∀ k : Int32 → Prop, k (nI m1) → wp_X3_sumOverCandidates_L4 (nI l.length) k cnd sLen (n + 1) (nI i) (nI m)) ∧ (∀ k : Int32 → Prop, k (nI m1) → wp_X5_sumOfLengths_L4 (nI l.length) k nw cd (n + 1) (nI i) (nI m)) := by
    intro n
    induction n with
    | zero =>
      intro i m hi hm
      have e : i = l.length := by omega
      subst e
      exact ⟨m, hm, fun k hk => ⟨fun _ => hk, fun q => absurd (nI_le (Nat.le_refl _) (by omega)) q⟩, fun k hk => ⟨fun _ => hk, fun q => absurd (nI_le (Nat.le_refl _) (by omega)) q⟩⟩
    | succ n ih =>
      intro i m hi hm
      have hlt : i < l.length := by omega
      have hS1 := hl _ (List.getElem_mem hlt)
      obtain ⟨v, hv, ev⟩ := hK.nat hS1
      obtain ⟨m1, hm1, a1, a2⟩ := ih (i + 1) (m + v) (by omega) (by omega)
      refine ⟨m1, hm1, fun k hk => ⟨fun q => absurd q (nI_ge hlt (by omega)), fun _ => ⟨vp_in_nI (by omega) (by decide), ?_⟩⟩, fun k hk => ⟨fun q => absurd q (nI_ge hlt (by omega)), fun _ => ⟨vp_in_nI (by omega) (by decide), ?_⟩⟩⟩
      · rw [nI_clamp (n := i) (by omega), ents_at hc hlt, nI_clamp (n := l[i]) (by omega), ev, nI_add, nI_1]
        refine ⟨vp_in_nI (by omega) (by decide), fun x6 e6 x7 e7 => ?_⟩
        rw [e6, e7]
        exact a1 k hk
      · rw [nI_clamp (n := i) (by omega), ents_at hc2 hlt]
        refine hK.len hS1 (fun x6 e6 x7 e7 => ?_)
        rw [ev, nI_add] at e6
        rw [nI_1] at e7
        rw [e6, e7]
        exact a2 k hk
  obtain ⟨m, hm, a1, a2⟩ := main l.length 0 0 (by omega) (by omega)
  exact ⟨m, by omega, fun k hk => ⟨_, a1 k hk⟩, fun k hk => ⟨_, a2 k hk⟩⟩
theorem b_sum2i (hK : LK nw sLen S J) (hS : S ≤ 8) (hl : ∀ x ∈ l, x < S) (h8 : l.length ≤ 8) (hc : ents cnd l) (hc2 : ents cd l) {i m0 : Nat} (hi0 : i < l.length) (hm0 : m0 ≤ 100000) :
    ∃ m, m ≤ m0 + 200 * l.length ∧ (∀ rec4 : Int32 → Int32 → Prop, rec4 (nI (i + 1)) (nI m) → ∃ fu, wp_X3_sumOverPairs_L30 (nI l.length) (nI i) rec4 cnd sLen (sLen l[i]) fu 0 (nI m0)) ∧ (∀ rec4 : Int32 → Int32 → Prop, rec4 (nI (i + 1)) (nI m) → ∃ fu, wp_X5_sumOfLesser_L12 (nI l.length) (nI i) rec4 nw cd fu 0 (nI m0)) := by
  have hSi := hl _ (List.getElem_mem hi0)
  obtain ⟨u, hu, eu⟩ := hK.nat hSi
  have main : ∀ n j m, n + j = l.length → m ≤ m0 + 200 * j → ∃ m1, m1 ≤ m0 + 200 * l.length ∧ (∀ rec4 : Int32 → Int32 → Prop, rec4 (nI (i + 1)) (nI m1) → wp_X3_sumOverPairs_L30 (nI l.length) (nI i) rec4 cnd sLen (sLen l[i]) (n + 1) (nI j) (nI m)) ∧ (∀ rec4 : Int32 → Int32 → Prop, rec4 (nI (i + 1)) (nI m1) → wp_X5_sumOfLesser_L12 (nI l.length) (nI i) rec4 nw cd (n + 1) (nI j) (nI m)) := by
    intro n
    induction n with
    | zero =>
      intro j m hj hm
      have e : j = l.length := by omega
      subst e
      refine ⟨m, hm, fun k hk => ⟨fun _ x7 e7 => ?_, fun q => absurd (nI_le (Nat.le_refl _) (by omega)) q⟩, fun k hk => ⟨fun _ x7 e7 => ?_, fun q => absurd (nI_le (Nat.le_refl _) (by omega)) q⟩⟩
      · rw [nI_1] at e7; rw [e7]; exact hk
      · rw [nI_1] at e7; rw [e7]; exact hk
    | succ n ih =>
      intro j m hj hm
      have hlt : j < l.length := by omega
      have hS1 := hl _ (List.getElem_mem hlt)
      obtain ⟨v, hv, ev⟩ := hK.nat hS1
      obtain ⟨m1, hm1, a1, a2⟩ := ih (j + 1) (m + (if v < u then v else u)) (by omega) (by split <;> omega)
      refine ⟨m1, hm1, fun k hk => ⟨fun q => absurd q (nI_ge hlt (by omega)), fun _ => ⟨vp_in_nI (by omega) (by decide), ?_⟩⟩, fun k hk => ⟨fun q => absurd q (nI_ge hlt (by omega)), fun _ => ⟨vp_in_nI (by omega) (by decide), ?_⟩⟩⟩
      · rw [nI_clamp (n := j) (by omega), ents_at hc hlt, nI_clamp (n := l[j]) (by omega), nI_1]
        refine ⟨vp_in_nI (by omega) (by decide), fun x6 e6 x7 e7 => ?_⟩
        rw [ev, eu] at e6
        have e9 : nI m + (if nI v < nI u then nI v else nI u) = nI (m + (if v < u then v else u)) := by
          by_cases hq : v < u
          · rw [if_pos hq, if_pos ((nI_ltI (by omega) (by omega)).mpr hq), nI_add]
          · rw [if_neg hq, if_neg (fun z => hq ((nI_ltI (by omega) (by omega)).mp z)), nI_add]
        rw [e9] at e6
        rw [e6, e7]
        exact a1 k hk
      · refine hK.lenx (by rw [nI_clamp (n := i) (by omega), ents_at hc2 hi0]) hSi ⟨vp_in_nI (by omega) (by decide), hK.lenx (by rw [nI_clamp (n := j) (by omega), ents_at hc2 hlt]) hS1 ?_⟩
        refine ⟨fun q x6 e6 x7 e7 => ?_, fun q x6 e6 x7 e7 => ?_⟩
        · rw [eu, ev] at q
          have h9 := (nI_leI (by omega) (by omega)).mp q
          rw [if_neg (by omega)] at a2
          rw [eu, nI_add] at e6
          rw [nI_1] at e7
          rw [e6, e7]
          exact a2 k hk
        · rw [eu, ev] at q
          have h9 : ¬ u ≤ v := fun z => q ((nI_leI (by omega) (by omega)).mpr z)
          rw [if_pos (by omega)] at a2
          rw [ev, nI_add] at e6
          rw [nI_1] at e7
          rw [e6, e7]
          exact a2 k hk
  obtain ⟨m, hm, a1, a2⟩ := main l.length 0 m0 (by omega) (by omega)
  exact ⟨m, by omega, fun k hk => ⟨_, a1 k hk⟩, fun k hk => ⟨_, a2 k hk⟩⟩
theorem b_sum2 (hK : LK nw sLen S J) (hS : S ≤ 8) (hl : ∀ x ∈ l, x < S) (h8 : l.length ≤ 8) (hc : ents cnd l) (hc2 : ents cd l) :
    ∃ m, m ≤ 12800 ∧ (∀ k : Int32 → Prop, k (nI m) → wp_X3_sumOverPairs (nI l.length) sLen cnd k) ∧ (∀ k : Int32 → Prop, k (nI m) → wp_X5_sumOfLesser nw cd (nI l.length) k) := by
  have main : ∀ n i m, n + i = l.length → m ≤ 1600 * i → ∃ m1, m1 ≤ 1600 * l.length ∧ (∀ k : Int32 → Prop, k (nI m1) → wp_X3_sumOverPairs_L4 (nI l.length) k cnd sLen (n + 1) (nI i) (nI m)) ∧ (∀ k : Int32 → Prop, k (nI m1) → wp_X5_sumOfLesser_L4 (nI l.length) k nw cd (n + 1) (nI i) (nI m)) := by
    intro n
    induction n with
    | zero =>
      intro i m hi hm
      have e : i = l.length := by omega
      subst e
      exact ⟨m, hm, fun k hk => ⟨fun _ => hk, fun q => absurd (nI_le (Nat.le_refl _) (by omega)) q⟩, fun k hk => ⟨fun _ => hk, fun q => absurd (nI_le (Nat.le_refl _) (by omega)) q⟩⟩
    | succ n ih =>
      intro i m hi hm
      have hlt : i < l.length := by omega
      have hS1 := hl _ (List.getElem_mem hlt)
      obtain ⟨m2, hm2, b1, b2⟩ := b_sum2i hK hS hl h8 hc hc2 hlt (m0 := m) (by omega)
      obtain ⟨m1, hm1, a1, a2⟩ := ih (i + 1) m2 (by omega) (by omega)
      refine ⟨m1, hm1, fun k hk => ⟨fun q => absurd q (nI_ge hlt (by omega)), fun _ => ⟨vp_in_nI (by omega) (by decide), ?_⟩⟩, fun k hk => ⟨fun q => absurd q (nI_ge hlt (by omega)), fun _ => b2 _ (a2 k hk)⟩⟩
      rw [nI_clamp (n := i) (by omega), ents_at hc hlt, nI_clamp (n := l[i]) (by omega)]
      refine ⟨vp_in_nI (by omega) (by decide), fun x6 e6 => ?_⟩
      rw [e6]
      exact b1 _ (a1 k hk)
  obtain ⟨m, hm, a1, a2⟩ := main l.length 0 0 (by omega) (by omega)
  exact ⟨m, by omega, fun k hk => ⟨_, a1 k hk⟩, fun k hk => ⟨_, a2 k hk⟩⟩
end SUM
