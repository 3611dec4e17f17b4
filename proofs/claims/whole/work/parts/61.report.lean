/-! The report. -/
section REP
variable {nw nw1 sLen dPtr : Nat → Int32} {dKnw : Nat → Nat → Int32} {S D J : Nat}
theorem b_reportX (hS : S ≤ 8) (hD : D ≤ 4) {k : (Nat → Nat → Int32) → Prop} (h : ∀ f : Nat → Nat → Int32, (∀ d s, f d s = if d < D ∧ s < S then sLen s else dKnw d s) → k f) : wp_X3_report (nI S) (nI D) sLen dKnw k := by
  have inner : ∀ (d : Nat) (rec2 : Int32 → (Nat → Nat → Int32) → Prop), d < D → (∀ f : Nat → Nat → Int32, (∀ e s, f e s = if e < d + 1 ∧ s < S then sLen s else dKnw e s) → rec2 (nI (d + 1)) f) → ∀ n j (f : Nat → Nat → Int32), n + j = S → (∀ e s, f e s = if (e < d ∧ s < S) ∨ (e = d ∧ s < j) then sLen s else dKnw e s) → wp_X3_report_L12 (nI S) (nI d) rec2 sLen (n + 1) (nI j) f := by
    intro d rec2 hd hr n
    induction n with
    | zero =>
      intro j f hj hf
      have e : j = S := by omega
      subst e
      refine ⟨fun _ x7 e7 => ?_, fun q => absurd (nI_le (Nat.le_refl _) (by omega)) q⟩
      rw [nI_1] at e7
      rw [e7]
      refine hr f (fun e s => ?_)
      rw [hf e s]
      by_cases q : (e < d ∧ s < j) ∨ (e = d ∧ s < j)
      · rw [if_pos q, if_pos (by omega)]
      · rw [if_neg q, if_neg (by omega)]
    | succ n ih =>
      intro j f hj hf
      refine ⟨fun q => absurd q (nI_ge (by omega) (by omega)), fun _ => ⟨vp_in_nI (by omega) (by decide), vp_in_nI (by omega) (by decide), fun f10 e10 x11 e11 => ?_⟩⟩
      rw [nI_1] at e11
      rw [nI_clamp (by omega), nI_clamp (by omega)] at e10
      rw [e10, e11]
      refine ih (j + 1) _ (by omega) (fun e s => ?_)
      by_cases q1 : e = d
      · subst q1
        rw [vs]
        by_cases q2 : s = j
        · subst q2
          rw [us, if_pos (by omega)]
        · rw [un q2, hf e s]
          by_cases q : (e < e ∧ s < S) ∨ (e = e ∧ s < j)
          · rw [if_pos q, if_pos (by omega)]
          · rw [if_neg q, if_neg (by omega)]
      · rw [vn q1, hf e s]
        by_cases q : (e < d ∧ s < S) ∨ (e = d ∧ s < j)
        · rw [if_pos q, if_pos (by omega)]
        · rw [if_neg q, if_neg (by omega)]
  have main : ∀ n d (f : Nat → Nat → Int32), n + d = D → (∀ e s, f e s = if e < d ∧ s < S then sLen s else dKnw e s) → wp_X3_report_L2 (nI D) k (nI S) sLen (n + 1) (nI d) f := by
    intro n
    induction n with
    | zero =>
      intro d f hd hf
      have e : d = D := by omega
      subst e
      exact ⟨fun _ => h f hf, fun q => absurd (nI_le (Nat.le_refl _) (by omega)) q⟩
    | succ n ih =>
      intro d f hd hf
      refine ⟨fun q => absurd q (nI_ge (by omega) (by omega)), fun _ => ⟨S + 1, inner d _ (by omega) (fun g hg => ih (d + 1) g (by omega) hg) S 0 f (by omega) (fun e s => ?_)⟩⟩
      rw [hf e s]
      by_cases q : e < d ∧ s < S
      · rw [if_pos q, if_pos (by omega)]
      · rw [if_neg q, if_neg (by omega)]
  exact ⟨D + 1, main D 0 dKnw (by omega) (fun e s => by rw [if_neg (by omega)])⟩
theorem b_reportM (hK : LK nw sLen S J) (hS : S ≤ 8) (hD : D ≤ 4) (h4 : nw 4 = nI S) (h5 : nw 5 = nI D) {k : (Nat → Int32) → Prop} (h : ∀ f : Nat → Int32, (∀ d s, d < D → s < S → f (25 + 8 * d + s) = sLen s) → (∀ i, (∀ d s, d < D → s < S → i ≠ 25 + 8 * d + s) → f i = nw i) → k f) : wp_X5_report nw k := by
  have inner : ∀ (t : Nat) (rec2 : Int32 → (Nat → Int32) → Prop), t < S → (∀ f : Nat → Int32, (∀ d s, d < D → s < t + 1 → f (25 + 8 * d + s) = sLen s) → (∀ i, (∀ d s, d < D → s < t + 1 → i ≠ 25 + 8 * d + s) → f i = nw i) → rec2 (nI (t + 1)) f) → ∀ n j (f : Nat → Int32), n + j = D → (∀ d s, d < D → (s < t ∨ (s = t ∧ d < j)) → f (25 + 8 * d + s) = sLen s) → (∀ i, (∀ d s, d < D → (s < t ∨ (s = t ∧ d < j)) → i ≠ 25 + 8 * d + s) → f i = nw i) → wp_X5_report_L20 (nI t) rec2 (sLen t) (n + 1) (nI j) f := by
    intro t rec2 ht hr n
    induction n with
    | zero =>
      intro j f hj hf hg
      have e : j = D := by omega
      subst e
      refine ⟨fun _ x8 e8 => ?_, fun q => absurd (by rw [hg 5 (fun d s _ _ => by omega), h5]; exact nI_le (Nat.le_refl _) (by omega)) q⟩
      rw [nI_1] at e8
      rw [e8]
      exact hr f (fun d s hd hs => hf d s hd (by omega)) (fun i hi => hg i (fun d s hd hs => hi d s hd (by omega)))
    | succ n ih =>
      intro j f hj hf hg
      refine ⟨fun q => absurd q (by rw [hg 5 (fun d s _ _ => by omega), h5]; exact nI_ge (by omega) (by omega)), fun _ => ⟨i25 (by omega), fun f10 e10 x11 e11 => ?_⟩⟩
      rw [nI_1] at e11
      rw [q25 (by omega)] at e10
      rw [e10, e11]
      refine ih (j + 1) _ (by omega) (fun d s hd hs => ?_) (fun i hi => ?_)
      · by_cases e : 25 + 8 * d + s = 25 + 8 * j + t
        · rw [e, us]
          have e9 : s = t := by omega
          rw [e9]
        · rw [un e]
          exact hf d s hd (by omega)
      · rw [un (hi j t (by omega) (by omega))]
        exact hg i (fun d s hd hs => hi d s hd (by omega))
  have main : ∀ n t (f : Nat → Int32), n + t = S → (∀ d s, d < D → s < t → f (25 + 8 * d + s) = sLen s) → (∀ i, (∀ d s, d < D → s < t → i ≠ 25 + 8 * d + s) → f i = nw i) → wp_X5_report_L2 k (n + 1) (nI t) f := by
    intro n
    induction n with
    | zero =>
      intro t f ht hf hg
      have e : t = S := by omega
      subst e
      exact ⟨fun _ => h f hf hg, fun q => absurd (by rw [hg 4 (fun d s _ _ => by omega), h4]; exact nI_le (Nat.le_refl _) (by omega)) q⟩
    | succ n ih =>
      intro t f ht hf hg
      have hK2 : LK f sLen S J := hK.cong (hg 6 (fun d s _ _ => by omega)) (fun i _ _ => hg i (fun d s _ _ => by omega))
      refine ⟨fun q => absurd q (by rw [hg 4 (fun d s _ _ => by omega), h4]; exact nI_ge (by omega) (by omega)), fun _ => hK2.len (by omega) ⟨D + 1, inner t _ (by omega) (fun g hg1 hg2 => ih (t + 1) g (by omega) hg1 hg2) D 0 f (by omega) (fun d s hd hs => hf d s hd (by omega)) (fun i hi => hg i (fun d s hd hs => hi d s hd (by omega)))⟩⟩
  exact ⟨S + 1, main S 0 nw (by omega) (fun d s _ hs => absurd hs (by omega)) (fun _ _ => rfl)⟩
theorem RK.report (h : RK nw dPtr dKnw S) (hS : S ≤ 8) (hD : D ≤ 4) {f : Nat → Nat → Int32} (hf : ∀ d s, f d s = if d < D ∧ s < S then sLen s else dKnw d s) (h1 : ∀ d s, d < D → s < S → nw1 (25 + 8 * d + s) = sLen s) (h2 : ∀ i, (∀ d s, d < D → s < S → i ≠ 25 + 8 * d + s) → nw1 i = nw i) : RK nw1 dPtr f S := by
  refine ⟨fun d hd => ?_, fun d s hd hs => ?_⟩
  · rw [h2 _ (fun d s _ _ => by omega)]
    exact h.1 d hd
  · rw [hf d s]
    by_cases q : d < D ∧ s < S
    · rw [if_pos q]
      exact ⟨fun _ => h1 d s q.1 q.2, fun z => absurd z (by omega)⟩
    · rw [if_neg q]
      refine ⟨fun z => ?_, (h.2 d s hd hs).2⟩
      rw [h2 _ (fun d1 s1 _ _ => by omega)]
      exact (h.2 d s hd hs).1 z
end REP
