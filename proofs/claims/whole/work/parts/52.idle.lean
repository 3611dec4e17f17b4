/-! The idle lists. -/
def ents (f : Nat → Int32) (l : List Nat) : Prop := ∀ (k x : Nat), l[k]? = some x → f k = nI x
theorem ents_snoc {f : Nat → Int32} {l : List Nat} (h : ents f l) (s : Nat) : ents (upd f l.length (nI s)) (l ++ [s]) := by
  intro k x hk
  by_cases e : k = l.length
  · subst e
    rw [List.getElem?_append_right (Nat.le_refl _), Nat.sub_self] at hk
    have e2 : s = x := Option.some.inj hk
    rw [us, e2]
  · rw [un e]
    have h2 : k < (l ++ [s]).length := (List.getElem?_eq_some_iff.mp hk).1
    rw [List.length_append, List.length_singleton] at h2
    rw [List.getElem?_append_left (by omega)] at hk
    exact h k x hk
theorem ents_cong {f g : Nat → Int32} {l : List Nat} (h : ents f l) (hg : ∀ k, k < l.length → g k = f k) : ents g l := fun k x hk => by
  rw [hg k (List.getElem?_eq_some_iff.mp hk).1]
  exact h k x hk
theorem nd_len : ∀ (n : Nat) (l : List Nat), l.Nodup → (∀ x ∈ l, x < n) → l.length ≤ n
  | 0, l, _, h => by
    cases l with
    | nil => exact Nat.le_refl _
    | cons a t => exact absurd (h a List.mem_cons_self) (by omega)
  | n + 1, l, hn, h => by
    by_cases hm : n ∈ l
    · have h1 := nd_len n (l.erase n) (hn.erase n) (fun x hx => by
        have h2 := (List.Nodup.mem_erase_iff hn).mp hx
        have h3 := h x h2.2
        have h4 := h2.1
        omega)
      rw [List.length_erase_of_mem hm] at h1
      omega
    · have h1 := nd_len n l hn (fun x hx => by
        have h3 := h x hx
        have h4 : x ≠ n := fun e => hm (e ▸ hx)
        omega)
      omega
def RI (nw sUp sLen sReg dCnt : Nat → Int32) (dIdl : Nat → Nat → Int32) (S D : Nat) (Ls : Nat → List Nat) : Prop :=
  (∀ d, d < 4 → dCnt d = nI (Ls d).length ∧ nw (57 + d) = nI (Ls d).length ∧ ents (dIdl d) (Ls d) ∧ ents (fun k => nw (61 + 8 * d + k)) (Ls d)) ∧ (∀ d, D ≤ d → Ls d = []) ∧ (∀ d, (Ls d).Nodup) ∧ (∀ d s, s ∈ Ls d → s < S ∧ sReg s = nI d ∧ sUp s = 1 ∧ sLen s = 0) ∧ (∀ s, s < S → sReg s = -1 ∨ ∃ d, d < D ∧ s ∈ Ls d)
section IDL
variable {nw sUp sLen sReg dCnt : Nat → Int32} {dIdl : Nat → Nat → Int32} {S D : Nat} {Ls : Nat → List Nat}
theorem RI.len (h : RI nw sUp sLen sReg dCnt dIdl S D Ls) (hS : S ≤ 8) (d : Nat) : (Ls d).length ≤ 8 := Nat.le_trans (nd_len S _ (h.2.2.1 d) (fun x hx => (h.2.2.2.1 d x hx).1)) hS
theorem RI.free (h : RI nw sUp sLen sReg dCnt dIdl S D Ls) (hD : D ≤ 4) {s d : Nat} (hr : sReg s = -1) : ¬ s ∈ Ls d := fun hm => by
  have h1 := (h.2.2.2.1 d s hm).2.1
  have hd : d < D := by
    apply Nat.lt_of_not_le
    intro q
    rw [h.2.1 d q] at hm
    exact absurd hm List.not_mem_nil
  rw [hr] at h1
  exact m1_ne (by omega) h1.symm
theorem RI.len7 (h : RI nw sUp sLen sReg dCnt dIdl S D Ls) (hS : S ≤ 8) (hD : D ≤ 4) {s : Nat} (hs : s < S) (hr : sReg s = -1) (d : Nat) : (Ls d).length < 8 := by
  have h1 := nd_len S (s :: Ls d) (List.nodup_cons.mpr ⟨h.free hD hr, h.2.2.1 d⟩) (fun x hx => by
    rcases List.mem_cons.mp hx with e | e
    · rw [e]; exact hs
    · exact (h.2.2.2.1 d x e).1)
  rw [List.length_cons] at h1
  omega
theorem b_list17 {s d : Nat} {l : List Nat} {f0 : Int32} {rec4 : Int32 → Int32 → Prop} (hd : d < 4) (hs : s < 2 ^ 31) (h8 : l.length ≤ 8) (hl : ∀ x ∈ l, x < 2 ^ 31) (h57 : nw (57 + d) = nI l.length) (he : ents (fun k => nw (61 + 8 * d + k)) l) (h : rec4 (nI (d + 1)) (if s ∈ l then nI d else f0)) : ∃ fu, wp_X5_listOf_L17 (nI d) nw rec4 (nI s) fu 0 f0 := by
  have main : ∀ n i f, n + i = l.length → f = (if s ∈ l.take i then nI d else f0) → wp_X5_listOf_L17 (nI d) nw rec4 (nI s) (n + 1) (nI i) f := by
    intro n
    induction n with
    | zero =>
      intro i f hi hf
      have e : i = l.length := by omega
      subst e
      rw [List.take_length] at hf
      refine ⟨i57 (by omega), fun _ x8 e8 => ?_, fun q => absurd (by rw [q57 (by omega), h57]; exact nI_le (Nat.le_refl _) (by omega)) q⟩
      rw [nI_1] at e8
      rw [e8, hf]
      exact h
    | succ n ih =>
      intro i f hi hf
      have hlt : i < l.length := by omega
      have hg : l[i]? = some l[i] := List.getElem?_eq_some_iff.mpr ⟨hlt, rfl⟩
      have hv : nw (61 + 8 * d + i) = nI l[i] := he i _ hg
      have ht : l.take (i + 1) = l.take i ++ [l[i]] := by rw [List.take_succ, hg]; rfl
      refine ⟨i57 (by omega), fun q => absurd q (by rw [q57 (by omega), h57]; exact nI_ge hlt (by omega)), fun _ => ⟨i61 (by omega), fun q x e => ?_, fun q x e => ?_⟩⟩
      · rw [nI_1] at e
        rw [q61 (by omega), hv] at q
        have e2 := (nI_eq (hl _ (List.getElem_mem hlt)) hs).mp q
        rw [e]
        refine ih (i + 1) _ (by omega) ?_
        rw [ht, e2, if_pos (List.mem_append_right _ List.mem_cons_self)]
      · rw [nI_1] at e
        rw [q61 (by omega), hv] at q
        have e2 : ¬ l[i] = s := fun z => q (by rw [z])
        rw [e]
        refine ih (i + 1) _ (by omega) ?_
        rw [hf, ht]
        have e3 : (s ∈ l.take i ++ [l[i]]) ↔ s ∈ l.take i := by
          rw [List.mem_append, List.mem_singleton]
          exact ⟨fun z => z.elim id (fun z => absurd z.symm e2), Or.inl⟩
        by_cases hm : s ∈ l.take i
        · rw [if_pos hm, if_pos (e3.mpr hm)]
        · rw [if_neg hm, if_neg (fun z => hm (e3.mp z))]
  exact ⟨l.length + 1, main l.length 0 f0 (by omega) (by rw [List.take_zero, if_neg List.not_mem_nil])⟩
theorem b_listOf (h : RI nw sUp sLen sReg dCnt dIdl S D Ls) (hS : S ≤ 8) (hD : D ≤ 4) (h5 : nw 5 = nI D) {s : Nat} (hs : s < S) {k : Int32 → Prop} (hk : k (sReg s)) : wp_X5_listOf nw (nI s) k := by
  have main : ∀ n i f, n + i = D → ((f = -1 ∧ ∀ d, d < i → ¬ s ∈ Ls d) ∨ (f = sReg s ∧ ∃ d, d < i ∧ s ∈ Ls d)) → wp_X5_listOf_L4 nw k (nI s) (n + 1) (nI i) f := by
    intro n
    induction n with
    | zero =>
      intro i f hi hf
      have e : i = D := by omega
      subst e
      refine ⟨fun _ => ?_, fun q => absurd (by rw [h5]; exact nI_le (Nat.le_refl _) (by omega)) q⟩
      rcases hf with ⟨hf, h9⟩ | ⟨hf, -⟩
      · rcases h.2.2.2.2 s hs with q | ⟨d, q1, q2⟩
        · rw [hf, ← q]; exact hk
        · exact absurd q2 (h9 d q1)
      · rw [hf]; exact hk
    | succ n ih =>
      intro i f hi hf
      have hi4 : i < 4 := by omega
      obtain ⟨-, h57, -, he⟩ := h.1 i hi4
      refine ⟨fun q => absurd q (by rw [h5]; exact nI_ge (by omega) (by omega)), fun _ => b_list17 hi4 (by omega) (h.len hS i) (fun x hx => by have := (h.2.2.2.1 i x hx).1; omega) h57 he (ih (i + 1) _ (by omega) ?_)⟩
      by_cases hm : s ∈ Ls i
      · rw [if_pos hm]
        exact Or.inr ⟨(h.2.2.2.1 i s hm).2.1.symm, i, by omega, hm⟩
      · rw [if_neg hm]
        rcases hf with ⟨hf, h9⟩ | ⟨hf, d, q1, q2⟩
        · refine Or.inl ⟨hf, fun d hd => ?_⟩
          by_cases e : d = i
          · rw [e]; exact hm
          · exact h9 d (by omega)
        · exact Or.inr ⟨hf, d, by omega, q2⟩
  exact ⟨D + 1, main D 0 (-1) (by omega) (Or.inl ⟨rfl, fun d hd => absurd hd (by omega)⟩)⟩
end IDL
