/-! The values that the reference computes over its jobs. -/
def sumI (f : Nat → Int32) : List Nat → Int32
  | [] => 0
  | j :: t => f j + sumI f t
theorem sumI_snoc (f : Nat → Int32) : ∀ (l : List Nat) (j : Nat), sumI f (l ++ [j]) = sumI f l + f j
  | [], j => by show f j + 0 = 0 + f j; rw [Int32.add_zero, Int32.zero_add]
  | a :: t, j => by show f a + sumI f (t ++ [j]) = f a + sumI f t + f j; rw [sumI_snoc f t j, Int32.add_assoc]
theorem sumI_cong {f g : Nat → Int32} : ∀ {l : List Nat}, (∀ j ∈ l, f j = g j) → sumI f l = sumI g l
  | [], _ => rfl
  | a :: t, h => by show f a + sumI f t = g a + sumI g t; rw [h a List.mem_cons_self, sumI_cong (fun j hj => h j (List.mem_cons_of_mem _ hj))]
def hdI : List Nat → Int32
  | [] => -1
  | j :: _ => nI j
def isQ (nw : Nat → Int32) (s : Int32) (j : Nat) : Bool := decide (nw (93 + j) = s) && decide (¬ nw (293 + j) ≤ 0)
def que (nw : Nat → Int32) (s : Int32) (J : Nat) : List Nat := (List.range J).filter (isQ nw s)
theorem fil_y {p : Nat → Bool} {i : Nat} (h : p i = true) : (List.range (i + 1)).filter p = (List.range i).filter p ++ [i] := by
  rw [List.range_succ, List.filter_append, List.filter_cons_of_pos h]; rfl
theorem fil_n {p : Nat → Bool} {i : Nat} (h : ¬ p i = true) : (List.range (i + 1)).filter p = (List.range i).filter p := by
  rw [List.range_succ, List.filter_append, List.filter_cons_of_neg h]; exact List.append_nil _
theorem fil_pre (p : Nat → Bool) (i : Nat) : ∀ m, ∃ t, (List.range (i + m)).filter p = (List.range i).filter p ++ t
  | 0 => ⟨[], (List.append_nil _).symm⟩
  | m + 1 => by
    obtain ⟨t, ht⟩ := fil_pre p i m
    by_cases h : p (i + m) = true
    · exact ⟨t ++ [i + m], by rw [← Nat.add_assoc, fil_y h, ht, List.append_assoc]⟩
    · exact ⟨t, by rw [← Nat.add_assoc, fil_n h, ht]⟩
theorem fil_len (p : Nat → Bool) : ∀ i, ((List.range i).filter p).length ≤ i := fun i => by
  have h := List.length_filter_le p (List.range i)
  rw [List.length_range] at h
  exact h
theorem fil_lt {p : Nat → Bool} {i j : Nat} (h : j ∈ (List.range i).filter p) : j < i ∧ p j = true := ⟨List.mem_range.mp (List.mem_filter.mp h).1, (List.mem_filter.mp h).2⟩
theorem fil_cong {p q : Nat → Bool} : ∀ {i : Nat}, (∀ j, j < i → p j = q j) → (List.range i).filter p = (List.range i).filter q := fun {i} h => by
  apply List.filter_congr
  intro j hj
  exact h j (List.mem_range.mp hj)
theorem que_len (nw : Nat → Int32) (s : Int32) (J : Nat) : (que nw s J).length ≤ J := fil_len _ J
theorem b_isQ {nw : Nat → Int32} {s : Int32} {j : Nat} (hj : j < 200) {k : Int32 → Prop} (h1 : isQ nw s j = true → k 1) (h0 : ¬ isQ nw s j = true → k 0) : wp_X5_isQueued nw (nI j) s k := by
  refine ⟨i93 (by omega), fun q => ⟨i293 (by omega), fun q2 => ?_, fun q2 => ?_⟩, fun q => ?_⟩
  · rw [q93 (by omega)] at q
    rw [q293 (by omega)] at q2
    exact h0 (by simp [isQ, q2])
  · rw [q93 (by omega)] at q
    rw [q293 (by omega)] at q2
    exact h1 (by simp only [isQ, q, q2]; decide)
  · rw [q93 (by omega)] at q
    exact h0 (by simp [isQ, q])
section RV
variable {nw : Nat → Int32} {J : Nat} {k : Int32 → Prop} {s : Int32}
theorem b_lengthOf (h6 : nw 6 = nI J) (hJ : J ≤ 200) (h : k (nI (que nw s J).length)) : wp_X5_lengthOf nw s k := by
  have main : ∀ n i, n + i = J → wp_X5_lengthOf_L4 nw k s (n + 1) (nI i) (nI (que nw s i).length) := by
    intro n
    induction n with
    | zero =>
      intro i hi
      have e : i = J := by omega
      subst e
      exact ⟨fun _ => h, fun q => absurd (by rw [h6]; exact nI_le (Nat.le_refl _) (by omega)) q⟩
    | succ n ih =>
      intro i hi
      refine ⟨fun q => absurd q (by rw [h6]; exact nI_ge (by omega) (by omega)), fun _ => b_isQ (by omega) (fun hq => ⟨fun z => absurd z (by decide), fun _ => ?_⟩) (fun hq => ⟨fun _ => ?_, fun z => absurd rfl z⟩)⟩
      · intro x8 e8 x9 e9
        rw [nI_1] at e9
        rw [show nI (que nw s i).length + 1 = nI (que nw s (i + 1)).length by rw [nI_1, que, que, fil_y hq, List.length_append]; rfl] at e8
        rw [e8, e9]
        exact ih (i + 1) (by omega)
      · intro x6 e6 x7 e7
        rw [nI_1] at e7
        rw [Int32.add_zero, show nI (que nw s i).length = nI (que nw s (i + 1)).length by rw [que, que, fil_n hq]] at e6
        rw [e6, e7]
        exact ih (i + 1) (by omega)
  exact ⟨J + 1, main J 0 (by omega)⟩
theorem b_workOf (h6 : nw 6 = nI J) (hJ : J ≤ 200) (h : k (sumI (fun j => nw (293 + j)) (que nw s J))) : wp_X5_workOf nw s k := by
  have main : ∀ n i, n + i = J → wp_X5_workOf_L4 nw k s (n + 1) (nI i) (sumI (fun j => nw (293 + j)) (que nw s i)) := by
    intro n
    induction n with
    | zero =>
      intro i hi
      have e : i = J := by omega
      subst e
      exact ⟨fun _ => h, fun q => absurd (by rw [h6]; exact nI_le (Nat.le_refl _) (by omega)) q⟩
    | succ n ih =>
      intro i hi
      refine ⟨fun q => absurd q (by rw [h6]; exact nI_ge (by omega) (by omega)), fun _ => b_isQ (by omega) (fun hq => ⟨fun z => absurd z (by decide), fun _ => ⟨i293 (by omega), ?_⟩⟩) (fun hq => ⟨fun _ => ?_, fun z => absurd rfl z⟩)⟩
      · intro x8 e8 x9 e9
        rw [nI_1] at e9
        rw [q293 (by omega), show sumI (fun j => nw (293 + j)) (que nw s i) + nw (293 + i) = sumI (fun j => nw (293 + j)) (que nw s (i + 1)) by rw [que, que, fil_y hq, sumI_snoc]] at e8
        rw [e8, e9]
        exact ih (i + 1) (by omega)
      · intro x6 e6 x7 e7
        rw [nI_1] at e7
        rw [Int32.add_zero, show que nw s i = que nw s (i + 1) by rw [que, que, fil_n hq]] at e6
        rw [e6, e7]
        exact ih (i + 1) (by omega)
  exact ⟨J + 1, main J 0 (by omega)⟩
theorem b_firstJob (h6 : nw 6 = nI J) (hJ : J ≤ 200) (h : k (hdI (que nw s J))) : wp_X5_firstJob nw s k := by
  have main : ∀ n i, n + i = J → que nw s i = [] → wp_X5_firstJob_L2 nw k s (n + 1) (nI i) := by
    intro n
    induction n with
    | zero =>
      intro i hi hq
      have e : i = J := by omega
      subst e
      rw [hq] at h
      exact ⟨fun _ => h, fun q => absurd (by rw [h6]; exact nI_le (Nat.le_refl _) (by omega)) q⟩
    | succ n ih =>
      intro i hi hq
      refine ⟨fun q => absurd q (by rw [h6]; exact nI_ge (by omega) (by omega)), fun _ => b_isQ (by omega) (fun hb => ⟨fun z => absurd z (by decide), fun _ => ?_⟩) (fun hb => ⟨fun _ => ?_, fun z => absurd rfl z⟩)⟩
      · obtain ⟨t, ht⟩ := fil_pre (isQ nw s) (i + 1) n
        rw [fil_y hb] at ht
        have e2 : que nw s J = i :: t := by
          rw [show J = i + 1 + n by omega]
          show (List.range (i + 1 + n)).filter (isQ nw s) = _
          rw [ht]
          show que nw s i ++ [i] ++ t = _
          rw [hq]
          rfl
        rw [e2] at h
        exact h
      · intro x5 e5
        rw [nI_1] at e5
        rw [e5]
        exact ih (i + 1) (by omega) (by rw [que, fil_n hb]; exact hq)
  exact ⟨J + 1, main J 0 (by omega) rfl⟩
def isW (nw : Nat → Int32) (j : Nat) : Bool := decide (¬ nw (493 + j) = -1)
def wts (nw : Nat → Int32) (J : Nat) : List Nat := (List.range J).filter (isW nw)
theorem b_waits (h6 : nw 6 = nI J) (hJ : J ≤ 200) (h : k (sumI (fun j => nw (493 + j)) (wts nw J))) : wp_X5_waits nw k := by
  have main : ∀ n i, n + i = J → wp_X5_waits_L4 nw k (n + 1) (nI i) (sumI (fun j => nw (493 + j)) (wts nw i)) := by
    intro n
    induction n with
    | zero =>
      intro i hi
      have e : i = J := by omega
      subst e
      exact ⟨fun _ => h, fun q => absurd (by rw [h6]; exact nI_le (Nat.le_refl _) (by omega)) q⟩
    | succ n ih =>
      intro i hi
      refine ⟨fun q => absurd q (by rw [h6]; exact nI_ge (by omega) (by omega)), fun _ => ⟨i493 (by omega), fun hq => ?_, fun hq => ?_⟩⟩
      · intro x6 e6 x7 e7
        rw [q493 (by omega)] at hq
        rw [nI_1] at e7
        rw [Int32.add_zero, show wts nw i = wts nw (i + 1) by rw [wts, wts, fil_n (by simp [isW, hq])]] at e6
        rw [e6, e7]
        exact ih (i + 1) (by omega)
      · intro x8 e8 x9 e9
        rw [q493 (by omega)] at hq
        rw [nI_1] at e9
        rw [q493 (by omega), show sumI (fun j => nw (493 + j)) (wts nw i) + nw (493 + i) = sumI (fun j => nw (493 + j)) (wts nw (i + 1)) by rw [wts, wts, fil_y (by simp [isW, hq]), sumI_snoc]] at e8
        rw [e8, e9]
        exact ih (i + 1) (by omega)
  exact ⟨J + 1, main J 0 (by omega)⟩
theorem b_begun (h6 : nw 6 = nI J) (hJ : J ≤ 200) (h : k (nI (wts nw J).length)) : wp_X5_begun nw k := by
  have main : ∀ n i, n + i = J → wp_X5_begun_L4 nw k (n + 1) (nI i) (nI (wts nw i).length) := by
    intro n
    induction n with
    | zero =>
      intro i hi
      have e : i = J := by omega
      subst e
      exact ⟨fun _ => h, fun q => absurd (by rw [h6]; exact nI_le (Nat.le_refl _) (by omega)) q⟩
    | succ n ih =>
      intro i hi
      refine ⟨fun q => absurd q (by rw [h6]; exact nI_ge (by omega) (by omega)), fun _ => ⟨i493 (by omega), fun hq => ?_, fun hq => ?_⟩⟩
      · intro x6 e6 x7 e7
        rw [q493 (by omega)] at hq
        rw [nI_1] at e7
        rw [Int32.add_zero, show wts nw i = wts nw (i + 1) by rw [wts, wts, fil_n (by simp [isW, hq])]] at e6
        rw [e6, e7]
        exact ih (i + 1) (by omega)
      · intro x8 e8 x9 e9
        rw [q493 (by omega)] at hq
        rw [nI_1] at e9
        rw [show nI (wts nw i).length + 1 = nI (wts nw (i + 1)).length by rw [nI_1, wts, wts, fil_y (by simp [isW, hq]), List.length_append]; rfl] at e8
        rw [e8, e9]
        exact ih (i + 1) (by omega)
  exact ⟨J + 1, main J 0 (by omega)⟩
end RV
