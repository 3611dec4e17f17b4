/-! Queues: lists of jobs, chained. -/
def lastI (l : List Nat) : Int32 := match l.getLast? with
  | none => -1
  | some z => nI z
def lnk (nx : Nat → Int32) : List Nat → Prop
  | [] => True
  | [j] => nx j = -1
  | j :: b :: t => nx j = nI b ∧ lnk nx (b :: t)
theorem lastI_snoc (l : List Nat) (j : Nat) : lastI (l ++ [j]) = nI j := by
  unfold lastI
  rw [List.getLast?_concat]
theorem hdI_snoc {l : List Nat} (h : l ≠ []) (j : Nat) : hdI (l ++ [j]) = hdI l := by
  cases l with
  | nil => exact absurd rfl h
  | cons a t => rfl
theorem last_of {l : List Nat} (h : l ≠ []) : ∃ z, l.getLast? = some z ∧ z ∈ l ∧ lastI l = nI z := by
  refine ⟨l.getLast h, List.getLast?_eq_some_getLast h, List.getLast_mem h, ?_⟩
  unfold lastI
  rw [List.getLast?_eq_some_getLast h]
theorem lastI_tail {h b : Nat} {t : List Nat} : lastI (h :: b :: t) = lastI (b :: t) := by
  unfold lastI
  rw [List.getLast?_cons_cons]
theorem lnk_cong {nx nx1 : Nat → Int32} : ∀ {l : List Nat}, (∀ y ∈ l, nx1 y = nx y) → lnk nx l → lnk nx1 l
  | [], _, _ => trivial
  | [j], h, h2 => (h j List.mem_cons_self).trans h2
  | j :: b :: t, h, h2 => ⟨(h j List.mem_cons_self).trans h2.1, lnk_cong (l := b :: t) (fun y hy => h y (List.mem_cons_of_mem _ hy)) h2.2⟩
theorem lnk_tail {nx : Nat → Int32} {h : Nat} : ∀ {t : List Nat}, lnk nx (h :: t) → nx h = hdI t ∧ lnk nx t
  | [], q => ⟨q, trivial⟩
  | _ :: _, q => ⟨q.1, q.2⟩
theorem lnk_snoc {nx nx1 : Nat → Int32} {J z : Nat} : ∀ (l : List Nat), l.Nodup → l.getLast? = some z → lnk nx l → nx1 J = -1 → nx1 z = nI J → (∀ y ∈ l, y ≠ z → nx1 y = nx y) → lnk nx1 (l ++ [J])
  | [], _, h, _, _, _, _ => by cases h
  | [a], _, h, _, h1, h2, _ => by
    have e : a = z := Option.some.inj h
    subst e
    exact ⟨h2, h1⟩
  | a :: b :: t, hn, h, hl, h1, h2, h3 => by
    rw [List.getLast?_cons_cons] at h
    have hz : z ∈ b :: t := List.mem_of_getLast? h
    have hne : a ≠ z := fun e => (List.nodup_cons.mp hn).1 (e ▸ hz)
    refine ⟨(h3 a List.mem_cons_self hne).trans hl.1, ?_⟩
    exact lnk_snoc (b :: t) (List.nodup_cons.mp hn).2 h hl.2 h1 h2 (fun y hy hyz => h3 y (List.mem_cons_of_mem _ hy) hyz)
theorem fil_nodup (p : Nat → Bool) (J : Nat) : ((List.range J).filter p).Nodup := List.nodup_range.filter _
theorem fil_drop {p p1 : Nat → Bool} {J h : Nat} {t : List Nat} (hq : (List.range J).filter p = h :: t) (h1 : p1 h = false) (h2 : ∀ j, j < J → j ≠ h → p1 j = p j) : (List.range J).filter p1 = t := by
  have e1 : (List.range J).filter p1 = ((List.range J).filter p).filter (fun x => decide (x ≠ h)) := by
    rw [List.filter_filter]
    apply List.filter_congr
    intro x hx
    by_cases e : x = h
    · subst e; rw [h1]; simp
    · rw [h2 x (List.mem_range.mp hx) e]; simp [e]
  have hn : (h :: t).Nodup := hq ▸ fil_nodup p J
  rw [e1, hq, List.filter_cons_of_neg (by simp)]
  apply List.filter_eq_self.mpr
  intro x hx
  exact decide_eq_true (fun e => (List.nodup_cons.mp hn).1 (e ▸ hx))
theorem fil_keep {p p1 : Nat → Bool} {J : Nat} (h : ∀ j, j < J → p1 j = p j) : (List.range J).filter p1 = (List.range J).filter p := fil_cong h
/-- the sum with one summand less by one -/
theorem sumI_head {f g : Nat → Int32} {h : Nat} {t : List Nat} (hn : (h :: t).Nodup) (hg : ∀ j, j ≠ h → g j = f j) : sumI g (h :: t) = g h + sumI f t := by
  show g h + sumI g t = _
  rw [sumI_cong (fun j hj => hg j (fun e => (List.nodup_cons.mp hn).1 (e ▸ hj)))]
/-- the set of the jobs that have begun grows by one: the sum and the number of the waits -/
theorem fil_add {p p1 : Nat → Bool} {h : Nat} : ∀ {J : Nat}, h < J → p h = false → p1 h = true → (∀ j, j ≠ h → p1 j = p j) → ∀ (f g : Nat → Int32), (∀ j, j ≠ h → g j = f j) → sumI g ((List.range J).filter p1) = sumI f ((List.range J).filter p) + g h ∧ ((List.range J).filter p1).length = ((List.range J).filter p).length + 1
  | 0, hJ, _, _, _, _, _, _ => absurd hJ (by omega)
  | J + 1, hJ, h0, h1, h2, f, g, hg => by
    by_cases e : h = J
    · subst e
      have e1 : (List.range h).filter p1 = (List.range h).filter p := fil_cong (fun j hj => h2 j (by omega))
      rw [fil_y h1, fil_n (by rw [h0]; decide), sumI_snoc, List.length_append, e1]
      refine ⟨?_, rfl⟩
      rw [sumI_cong (f := g) (g := f) (fun j hj => hg j (by have := (fil_lt hj).1; omega))]
    · obtain ⟨a1, a2⟩ := fil_add (J := J) (by omega) h0 h1 h2 f g hg
      have ej : p1 J = p J := h2 J (fun z => e z.symm)
      by_cases hp : p J = true
      · rw [fil_y hp, fil_y (ej.trans hp), sumI_snoc, sumI_snoc, List.length_append, List.length_append, a1, a2, hg J (fun z => e z.symm)]
        refine ⟨?_, by simp⟩
        rw [Int32.add_assoc, Int32.add_assoc, Int32.add_comm (g h)]
      · rw [fil_n hp, fil_n (by rw [ej]; exact hp)]
        exact ⟨a1, a2⟩
