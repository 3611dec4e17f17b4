/-! The servers that are up, and what is chosen of them. -/
def ups (sUp : Nat → Int32) (S : Nat) : List Nat := (List.range S).filter (fun s => decide (¬ sUp s = 0))
section CAN
variable {nw sUp sLen cnd cd : Nat → Int32} {dKnw : Nat → Nat → Int32} {S D : Nat} {l : List Nat}
theorem ups_lt {s : Nat} (h : s ∈ ups sUp S) : s < S ∧ ¬ sUp s = 0 := ⟨(fil_lt h).1, of_decide_eq_true (fil_lt h).2⟩
theorem ups_len (S : Nat) : (ups sUp S).length ≤ S := fil_len _ S
theorem b_collect (hS : S ≤ 8) {k : Int32 → (Nat → Int32) → Prop} (h : ∀ f, ents f (ups sUp S) → k (nI (ups sUp S).length) f) : wp_X3_collectCandidates (nI S) sUp cnd k := by
  have main : ∀ n i f, n + i = S → ents f (ups sUp i) → wp_X3_collectCandidates_L7 (nI S) k sUp (n + 1) (nI i) (nI (ups sUp i).length) f := by
    intro n
    induction n with
    | zero =>
      intro i f hi hf
      have e : i = S := by omega
      subst e
      exact ⟨fun _ => h f hf, fun q => absurd (nI_le (Nat.le_refl _) (by omega)) q⟩
    | succ n ih =>
      intro i f hi hf
      have hl := ups_len (sUp := sUp) i
      refine ⟨fun q => absurd q (nI_ge (by omega) (by omega)), fun _ => ⟨vp_in_nI (by omega) (by decide), fun q x7 e7 => ?_, fun q => ⟨vp_in_nI (by omega) (by decide), fun f9 e9 x10 e10 x11 e11 => ?_⟩⟩⟩
      · rw [nI_clamp (by omega)] at q
        rw [nI_1] at e7
        have e : ups sUp (i + 1) = ups sUp i := fil_n (by simp [q])
        rw [e7, ← e]
        exact ih (i + 1) f (by omega) (by rw [e]; exact hf)
      · rw [nI_clamp (by omega)] at q
        have e : ups sUp (i + 1) = ups sUp i ++ [i] := fil_y (by simp [q])
        rw [nI_1] at e10 e11
        rw [nI_clamp (by omega)] at e9
        rw [e9, e10, e11, show (ups sUp i).length + 1 = (ups sUp (i + 1)).length by rw [e, List.length_append]; rfl]
        exact ih (i + 1) _ (by omega) (by rw [e]; exact ents_snoc hf i)
  exact ⟨S + 1, main S 0 cnd (by omega) (fun q x hq => by simp [ups] at hq)⟩
theorem b_isUp {s : Nat} (hs : s < 8) (h9 : nw (9 + s) = sUp s) (h01 : sUp s = 0 ∨ sUp s = 1) {k : Int32 → Prop} (h : k (sUp s)) : wp_X5_isUp nw (nI s) k := by
  refine ⟨i9 (by omega), ?_⟩
  rw [q9 (by omega), h9]
  rcases h01 with e | e
  · rw [e] at h ⊢
    exact ⟨fun q => absurd q (by decide), fun _ => h⟩
  · rw [e] at h ⊢
    exact ⟨fun _ => h, fun q => absurd rfl q⟩
theorem b_find (hS : S ≤ 8) (h4 : nw 4 = nI S) (h9 : ∀ s, s < S → nw (9 + s) = sUp s ∧ (sUp s = 0 ∨ sUp s = 1)) {k : Int32 → (Nat → Int32) → Prop} (h : ∀ f, ents f (ups sUp S) → k (nI (ups sUp S).length) f) : wp_X5_findCandidates nw cd k := by
  have main : ∀ n i f, n + i = S → ents f (ups sUp i) → wp_X5_findCandidates_L4 nw k (n + 1) (nI i) (nI (ups sUp i).length) f := by
    intro n
    induction n with
    | zero =>
      intro i f hi hf
      have e : i = S := by omega
      subst e
      exact ⟨fun _ => h f hf, fun q => absurd (by rw [h4]; exact nI_le (Nat.le_refl _) (by omega)) q⟩
    | succ n ih =>
      intro i f hi hf
      have hl := ups_len (sUp := sUp) i
      refine ⟨fun q => absurd q (by rw [h4]; exact nI_ge (by omega) (by omega)), fun _ => b_isUp (by omega) (h9 i (by omega)).1 (h9 i (by omega)).2 ⟨fun q x7 e7 => ?_, fun q => ⟨vp_in_nI (by omega) (by decide), fun f9 e9 x10 e10 x11 e11 => ?_⟩⟩⟩
      · rw [nI_1] at e7
        have e : ups sUp (i + 1) = ups sUp i := fil_n (by simp [q])
        rw [e7, ← e]
        exact ih (i + 1) f (by omega) (by rw [e]; exact hf)
      · have e : ups sUp (i + 1) = ups sUp i ++ [i] := fil_y (by simp [q])
        rw [nI_1] at e10 e11
        rw [nI_clamp (by omega)] at e9
        rw [e9, e10, e11, show (ups sUp i).length + 1 = (ups sUp (i + 1)).length by rw [e, List.length_append]; rfl]
        exact ih (i + 1) _ (by omega) (by rw [e]; exact ents_snoc hf i)
  exact ⟨S + 1, main S 0 cd (by omega) (fun q x hq => by simp [ups] at hq)⟩
theorem ents_at {f : Nat → Int32} (h : ents f l) {i : Nat} (hi : i < l.length) : f i = nI l[i] := h i _ (List.getElem?_eq_some_iff.mpr ⟨hi, rfl⟩)
theorem b_next {d : Nat} {ptr : Int32} (hd : d < 4) (h0 : 0 < l.length) (h8 : l.length ≤ 8) (hc : ents cnd l) (hc2 : ents cd l) (hp : nw (21 + d) = ptr) :
    ∃ x, x ∈ l ∧ (∀ k : Int32 → Prop, k (nI x) → wp_X3_nextInTurn (nI l.length) cnd ptr k) ∧ (∀ k : Int32 → Prop, k (nI x) → wp_X5_nextInTurn nw cd (nI d) (nI l.length) k) := by
  have main : ∀ n i, n + i = l.length → ∃ x, x ∈ l ∧ (∀ k : Int32 → Prop, k (nI x) → wp_X3_nextInTurn_L2 (nI l.length) k cnd ptr (n + 1) (nI i)) ∧ (∀ k : Int32 → Prop, k (nI x) → wp_X5_nextInTurn_L2 (nI l.length) k cd (nI d) nw (n + 1) (nI i)) := by
    intro n
    induction n with
    | zero =>
      intro i hi
      have e : i = l.length := by omega
      subst e
      refine ⟨l[0], List.getElem_mem h0, fun k hk => ⟨fun _ => ?_, fun q => absurd (nI_le (Nat.le_refl _) (by omega)) q⟩, fun k hk => ⟨fun _ => ?_, fun q => absurd (nI_le (Nat.le_refl _) (by omega)) q⟩⟩
      · rw [ents_at hc h0]; exact hk
      · rw [ents_at hc2 h0]; exact hk
    | succ n ih =>
      intro i hi
      have hlt : i < l.length := by omega
      by_cases hq : nI l[i] < ptr
      · obtain ⟨x, hx, a1, a2⟩ := ih (i + 1) (by omega)
        refine ⟨x, hx, fun k hk => ⟨fun q => absurd q (nI_ge hlt (by omega)), fun _ => ⟨vp_in_nI (by omega) (by decide), fun _ x5 e5 => ?_, fun q => ?_⟩⟩, fun k hk => ⟨fun q => absurd q (nI_ge hlt (by omega)), fun _ => ⟨vp_in_nI (by omega) (by decide), i21 (by omega), fun _ x5 e5 => ?_, fun q => ?_⟩⟩⟩
        · rw [nI_1] at e5; rw [e5]; exact a1 k hk
        · rw [nI_clamp (by omega), ents_at hc hlt] at q; exact absurd hq q
        · rw [nI_1] at e5; rw [e5]; exact a2 k hk
        · rw [nI_clamp (by omega), ents_at hc2 hlt, q21 (by omega), hp] at q; exact absurd hq q
      · refine ⟨l[i], List.getElem_mem hlt, fun k hk => ⟨fun q => absurd q (nI_ge hlt (by omega)), fun _ => ⟨vp_in_nI (by omega) (by decide), fun q => ?_, fun _ => ?_⟩⟩, fun k hk => ⟨fun q => absurd q (nI_ge hlt (by omega)), fun _ => ⟨vp_in_nI (by omega) (by decide), i21 (by omega), fun q => ?_, fun _ => ?_⟩⟩⟩
        · rw [nI_clamp (by omega), ents_at hc hlt] at q; exact absurd q hq
        · rw [nI_clamp (by omega), ents_at hc hlt]; exact hk
        · rw [nI_clamp (by omega), ents_at hc2 hlt, q21 (by omega), hp] at q; exact absurd q hq
        · rw [nI_clamp (by omega), ents_at hc2 hlt]; exact hk
  obtain ⟨x, hx, a1, a2⟩ := main l.length 0 (by omega)
  exact ⟨x, hx, fun k hk => ⟨_, a1 k hk⟩, fun k hk => ⟨_, a2 k hk⟩⟩
theorem b_least {d : Nat} (hd : d < 4) (h0 : 0 < l.length) (h8 : l.length ≤ 8) (hl : ∀ x ∈ l, x < 8) (hc : ents cnd l) (hc2 : ents cd l) (hp : ∀ x ∈ l, nw (25 + 8 * d + x) = dKnw d x) :
    ∃ x, x ∈ l ∧ (∀ k : Int32 → Prop, k (nI x) → wp_X3_leastKnown (nI l.length) dKnw cnd d k) ∧ (∀ k : Int32 → Prop, k (nI x) → wp_X5_leastKnown nw cd (nI d) (nI l.length) k) := by
  have main : ∀ n i b, n + i = l.length → b ∈ l → ∃ x, x ∈ l ∧ (∀ k : Int32 → Prop, k (nI x) → wp_X3_leastKnown_L9 (nI l.length) k cnd dKnw d (n + 1) (nI i) (nI b)) ∧ (∀ k : Int32 → Prop, k (nI x) → wp_X5_leastKnown_L10 (nI l.length) k (nI d) cd nw (n + 1) (nI i) (nI b)) := by
    intro n
    induction n with
    | zero =>
      intro i b hi hb
      have e : i = l.length := by omega
      subst e
      exact ⟨b, hb, fun k hk => ⟨fun _ => hk, fun q => absurd (nI_le (Nat.le_refl _) (by omega)) q⟩, fun k hk => ⟨fun _ => hk, fun q => absurd (nI_le (Nat.le_refl _) (by omega)) q⟩⟩
    | succ n ih =>
      intro i b hi hb
      have hlt : i < l.length := by omega
      have hm := List.getElem_mem hlt
      have hb8 := hl b hb
      have hm8 := hl _ hm
      by_cases hq : dKnw d b ≤ dKnw d l[i]
      · obtain ⟨x, hx, a1, a2⟩ := ih (i + 1) b (by omega) hb
        refine ⟨x, hx, fun k hk => ⟨fun q => absurd q (nI_ge hlt (by omega)), fun _ => ⟨vp_in_nI (by omega) (by decide), ?_⟩⟩, fun k hk => ⟨fun q => absurd q (nI_ge hlt (by omega)), fun _ => ⟨vp_in_nI (by omega) (by decide), ?_⟩⟩⟩
        · rw [nI_clamp (n := i) (by omega), ents_at hc hlt, nI_clamp (n := l[i]) (by omega), nI_clamp (n := b) (by omega)]
          refine ⟨vp_in_nI (by omega) (by decide), vp_in_nI (by omega) (by decide), fun _ x5 e5 => ?_, fun q => absurd hq q⟩
          rw [nI_1] at e5; rw [e5]; exact a1 k hk
        · rw [nI_clamp (n := i) (by omega), ents_at hc2 hlt]
          refine ⟨i25 (by omega), fun x7 e7 => ⟨i25 (by omega), ?_⟩⟩
          rw [q25 (by omega), hp _ hm] at e7
          rw [e7, q25 (by omega), hp _ hb]
          refine ⟨fun _ x5 e5 => ?_, fun q => absurd hq q⟩
          rw [nI_1] at e5; rw [e5]; exact a2 k hk
      · obtain ⟨x, hx, a1, a2⟩ := ih (i + 1) l[i] (by omega) hm
        refine ⟨x, hx, fun k hk => ⟨fun q => absurd q (nI_ge hlt (by omega)), fun _ => ⟨vp_in_nI (by omega) (by decide), ?_⟩⟩, fun k hk => ⟨fun q => absurd q (nI_ge hlt (by omega)), fun _ => ⟨vp_in_nI (by omega) (by decide), ?_⟩⟩⟩
        · rw [nI_clamp (n := i) (by omega), ents_at hc hlt, nI_clamp (n := l[i]) (by omega), nI_clamp (n := b) (by omega)]
          refine ⟨vp_in_nI (by omega) (by decide), vp_in_nI (by omega) (by decide), fun q => absurd q hq, fun _ x10 e10 x11 e11 => ?_⟩
          rw [nI_1] at e11; rw [e10, e11]; exact a1 k hk
        · rw [nI_clamp (n := i) (by omega), ents_at hc2 hlt]
          refine ⟨i25 (by omega), fun x7 e7 => ⟨i25 (by omega), ?_⟩⟩
          rw [q25 (by omega), hp _ hm] at e7
          rw [e7, q25 (by omega), hp _ hb]
          refine ⟨fun q => absurd q hq, fun _ x10 e10 x11 e11 => ?_⟩
          rw [nI_1] at e11; rw [e10, e11]; exact a2 k hk
  obtain ⟨x, hx, a1, a2⟩ := main (l.length - 1) 1 l[0] (by omega) (List.getElem_mem h0)
  exact ⟨x, hx, fun k hk x1 e1 => ⟨l.length - 1 + 1, by rw [e1, ents_at hc h0]; exact a1 k hk⟩, fun k hk x1 e1 => ⟨l.length - 1 + 1, by rw [e1, ents_at hc2 h0]; exact a2 k hk⟩⟩
end CAN
