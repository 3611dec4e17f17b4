theorem upd_same {f : Nat → Int32} {i : Nat} {x : Int32} (h : f i = x) : upd f i x = f := by
  funext j
  by_cases e : j = i
  · subst e; rw [us, h]
  · rw [un e]
section LEA
variable {nw sUp sLen sReg dCnt : Nat → Int32} {dIdl : Nat → Nat → Int32} {S D r md : Nat} {Ls : Nat → List Nat}
theorem RI.cong (h : RI nw sUp sLen sReg dCnt dIdl S D Ls) (hS : S ≤ 8) {nw1 : Nat → Int32} (h1 : ∀ i, 57 ≤ i → i < 93 → nw1 i = nw i) : RI nw1 sUp sLen sReg dCnt dIdl S D Ls := by
  refine ⟨fun d hd => ?_, h.2⟩
  obtain ⟨e1, e2, e3, e4⟩ := h.1 d hd
  have g8 := h.len hS d
  exact ⟨e1, by rw [h1 _ (by omega) (by omega)]; exact e2, e3, ents_cong e4 (fun k hk => h1 _ (by omega) (by omega))⟩
/-- both register the server s -/
theorem b_register (h : RI nw sUp sLen sReg dCnt dIdl S D Ls) (hS : S ≤ 8) (hD : D ≤ 4) (h5 : nw 5 = nI D) (h0 : nw 0 = nI r) (hr : r < 2147483648) (h2 : nw 2 = nI md) (hmd : md ≤ 2) {s : Nat} (hs : s < S) (hn : sReg s = -1) (hu : sUp s = 1) (hz : sLen s = 0) :
    ∃ (r1 : Nat) (nw1 sReg1 dCnt1 : Nat → Int32) (dIdl1 : Nat → Nat → Int32) (Ls1 : Nat → List Nat), RI nw1 sUp sLen sReg1 dCnt1 dIdl1 S D Ls1 ∧ r1 < 2147483648 ∧ nw1 0 = nI r1 ∧ (∀ i, i ≠ 0 → (i < 57 ∨ 93 ≤ i) → nw1 i = nw i) ∧ (∀ i, i ≠ s → sReg1 i = sReg i) ∧ (∀ k : Int64 → (Nat → Int32) → (Nat → Int32) → (Nat → Nat → Int32) → Prop, k (lN r1) sReg1 dCnt1 dIdl1 → wp_X3_register (lN r) (nI md) (nI D) sReg dCnt dIdl (nI s) k) ∧ (∀ k : (Nat → Int32) → Prop, k nw1 → wp_X5_register nw (nI s) k) := by
  by_cases hD0 : D = 0
  · subst hD0
    refine ⟨r, nw, sReg, dCnt, dIdl, Ls, h, hr, h0, fun _ _ _ => rfl, fun _ _ => rfl, fun k hk => ⟨fun q => absurd q (by decide), fun _ => hk⟩, fun k hk x1 e1 => ⟨fun _ => hk, fun q => absurd (e1.trans h5) q⟩⟩
  · obtain ⟨d, r1, nw1, hd, hr1, e0, en, hx, hm⟩ := b_choose h hS hD (by omega) h5 h0 hr h2 hmd hs hn
    have g7 := h.len7 hS hD hs hn d
    refine ⟨r1, _, _, _, _, _, h.join hS hD en hs hd hn hu hz, hr1, by rw [un (by omega), un (by omega)]; exact e0, fun i hi h9 => by rw [un (by omega), un (by omega)]; exact en i hi, fun i hi => un hi, fun k hk => ?_, hm⟩
    refine ⟨fun _ => hx _ ⟨vp_in_nI (by omega) (by decide), ?_⟩, fun q => absurd (nI_le (a := 1) (by omega) (by omega)) q⟩
    rw [nI_clamp (by omega)]
    have ec := (h.1 d (by omega)).1
    refine ⟨fun q => absurd q (by rw [ec]; exact nI_ge g7 (by decide)), fun _ => ?_⟩
    rw [ec]
    refine ⟨vp_in_nI g7 (by decide), fun f3 e3 x4 e4 f5 e5 => ⟨vp_in_nI (by omega) (by decide), fun f8 e8 => ?_⟩⟩
    rw [nI_clamp (by omega)] at e3 e8
    rw [nI_1] at e4
    subst e3 e4 e5 e8
    exact hk
def lsx (Ls : Nat → List Nat) (s : Nat) : Nat → List Nat := fun q => (Ls q).filter (fun x => decide (x ≠ s))
theorem lsx_none {s q : Nat} (h : ¬ s ∈ Ls q) : lsx Ls s q = Ls q := by
  apply List.filter_eq_self.mpr
  intro x hx
  exact decide_eq_true (fun e => h (e ▸ hx))
theorem take_y {l : List Nat} {s i : Nat} (hi : i < l.length) (h : l[i] ≠ s) : (l.take (i + 1)).filter (fun x => decide (x ≠ s)) = (l.take i).filter (fun x => decide (x ≠ s)) ++ [l[i]] := by
  rw [List.take_succ, List.getElem?_eq_some_iff.mpr ⟨hi, rfl⟩, List.filter_append]
  congr 1
  exact List.filter_cons_of_pos (decide_eq_true h)
theorem take_n {l : List Nat} {s i : Nat} (hi : i < l.length) (h : l[i] = s) : (l.take (i + 1)).filter (fun x => decide (x ≠ s)) = (l.take i).filter (fun x => decide (x ≠ s)) := by
  rw [List.take_succ, List.getElem?_eq_some_iff.mpr ⟨hi, rfl⟩, List.filter_append]
  have e : ([l[i]] : List Nat).filter (fun x => decide (x ≠ s)) = [] := List.filter_cons_of_neg (by rw [h]; simp)
  show _ ++ ([l[i]] : List Nat).filter _ = _
  rw [e, List.append_nil]
theorem take_le (l : List Nat) (s i : Nat) : ((l.take i).filter (fun x => decide (x ≠ s))).length ≤ i := Nat.le_trans (List.length_filter_le _ _) (by rw [List.length_take]; exact Nat.min_le_left _ _)
theorem b_removeIdle {s d : Nat} {l : List Nat} (hs : s < 2 ^ 31) (h8 : l.length ≤ 8) (hl : ∀ x ∈ l, x < 2 ^ 31) (hc : dCnt d = nI l.length) (he : ents (dIdl d) l) {k : (Nat → Int32) → (Nat → Nat → Int32) → Prop}
    (h : ∀ f : Nat → Nat → Int32, ents (f d) (l.filter (fun x => decide (x ≠ s))) → (∀ q, q ≠ d → f q = dIdl q) → k (upd dCnt d (nI (l.filter (fun x => decide (x ≠ s))).length)) f) : wp_X0_removeIdle dCnt dIdl d (nI s) k := by
  have main : ∀ n i f, n + i = l.length → ents (f d) ((l.take i).filter (fun x => decide (x ≠ s))) → (∀ q x, i ≤ q → l[q]? = some x → f d q = nI x) → (∀ q, q ≠ d → f q = dIdl q) → wp_X0_removeIdle_L4 dCnt d k (nI s) (n + 1) (nI i) (nI ((l.take i).filter (fun x => decide (x ≠ s))).length) f := by
    intro n
    induction n with
    | zero =>
      intro i f hi h1 h2 h3
      have e : i = l.length := by omega
      subst e
      rw [List.take_length] at h1 ⊢
      exact ⟨fun _ f5 e5 => by rw [e5]; exact h f h1 h3, fun q => absurd (by rw [hc]; exact nI_le (Nat.le_refl _) (by omega)) q⟩
    | succ n ih =>
      intro i f hi h1 h2 h3
      have hlt : i < l.length := by omega
      have hv : f d i = nI l[i] := h2 i _ (Nat.le_refl _) (List.getElem?_eq_some_iff.mpr ⟨hlt, rfl⟩)
      have hk := take_le l s i
      refine ⟨fun q => absurd q (by rw [hc]; exact nI_ge hlt (by omega)), fun _ => ⟨vp_in_nI (by omega) (by decide), fun q x8 e8 => ?_, fun q => ⟨vp_in_nI (by omega) (by decide), fun f10 e10 x11 e11 x12 e12 => ?_⟩⟩⟩
      · rw [nI_clamp (by omega), hv] at q
        have e2 := (nI_eq (hl _ (List.getElem_mem hlt)) hs).mp q
        rw [nI_1] at e8
        rw [e8, ← take_n hlt e2]
        exact ih (i + 1) f (by omega) (by rw [take_n hlt e2]; exact h1) (fun q x hq hx => h2 q x (by omega) hx) h3
      · rw [nI_clamp (by omega), hv] at q
        have e2 : l[i] ≠ s := fun z => q (by rw [z])
        rw [nI_1] at e11 e12
        rw [nI_clamp (by omega), nI_clamp (by omega), hv] at e10
        have e3 : ((l.take i).filter (fun x => decide (x ≠ s))).length + 1 = ((l.take (i + 1)).filter (fun x => decide (x ≠ s))).length := by rw [take_y hlt e2, List.length_append]; rfl
        rw [e3] at e11
        rw [e11, e12, e10]
        refine ih (i + 1) _ (by omega) ?_ (fun q x hq hx => ?_) (fun q hq => by rw [vn hq]; exact h3 q hq)
        · rw [vs, take_y hlt e2]
          exact ents_snoc h1 _
        · rw [vs, un (by omega)]
          exact h2 q x (by omega) hx
  exact ⟨l.length + 1, main l.length 0 dIdl (by omega) (fun q x hq => by simp at hq) (fun q x _ hx => he q x hx) (fun _ _ => rfl)⟩
theorem b_leave17 {s d : Nat} {l : List Nat} (hd : d < 4) (hs : s < 2 ^ 31) (h8 : l.length ≤ 8) (hl : ∀ x ∈ l, x < 2 ^ 31) (hc : nw (57 + d) = nI l.length) (he : ents (fun k => nw (61 + 8 * d + k)) l) {k : (Nat → Int32) → Prop}
    (h : ∀ f : Nat → Int32, f (57 + d) = nI (l.filter (fun x => decide (x ≠ s))).length → ents (fun k => f (61 + 8 * d + k)) (l.filter (fun x => decide (x ≠ s))) → (∀ i, i ≠ 57 + d → (i < 61 + 8 * d ∨ 69 + 8 * d ≤ i) → f i = nw i) → k f) : ∃ fu, wp_X5_leave_L17 (nI d) k (nI s) fu 0 0 nw := by
  have main : ∀ n i (f : Nat → Int32), n + i = l.length → ents (fun k => f (61 + 8 * d + k)) ((l.take i).filter (fun x => decide (x ≠ s))) → (∀ q x, i ≤ q → l[q]? = some x → f (61 + 8 * d + q) = nI x) → (∀ i, (i < 61 + 8 * d ∨ 69 + 8 * d ≤ i) → f i = nw i) → wp_X5_leave_L17 (nI d) k (nI s) (n + 1) (nI i) (nI ((l.take i).filter (fun x => decide (x ≠ s))).length) f := by
    intro n
    induction n with
    | zero =>
      intro i f hi h1 h2 h3
      have e : i = l.length := by omega
      subst e
      rw [List.take_length] at h1 ⊢
      refine ⟨i57 (by omega), fun _ f5 e5 => ?_, fun q => absurd (by rw [q57 (by omega), h3 _ (by omega), hc]; exact nI_le (Nat.le_refl _) (by omega)) q⟩
      rw [q57 (by omega)] at e5
      rw [e5]
      refine h _ us (ents_cong h1 (fun q hq => un (by omega))) (fun i hi h9 => ?_)
      rw [un hi]
      exact h3 i h9
    | succ n ih =>
      intro i f hi h1 h2 h3
      have hlt : i < l.length := by omega
      have hv : f (61 + 8 * d + i) = nI l[i] := h2 i _ (Nat.le_refl _) (List.getElem?_eq_some_iff.mpr ⟨hlt, rfl⟩)
      have hk := take_le l s i
      have hent : ents (fun k => (upd f (61 + 8 * d + ((l.take i).filter (fun x => decide (x ≠ s))).length) (nI l[i])) (61 + 8 * d + k)) ((l.take i).filter (fun x => decide (x ≠ s)) ++ [l[i]]) := by
        refine ents_cong (ents_snoc h1 l[i]) (fun q hq => ?_)
        by_cases e : q = ((l.take i).filter (fun x => decide (x ≠ s))).length
        · rw [e, us, us]
        · rw [un e, un (by omega)]
      refine ⟨i57 (by omega), fun q => absurd q (by rw [q57 (by omega), h3 _ (by omega), hc]; exact nI_ge hlt (by omega)), fun _ => ⟨i61 (by omega), fun x10 e10 => ⟨i61 (by omega), fun f12 e12 => ⟨fun q x16 e16 x17 e17 => ?_, fun q x14 e14 x15 e15 => ?_⟩⟩⟩⟩
      · rw [q61 (by omega), hv] at e10
        rw [e10] at q
        have e2 := (nI_eq (hl _ (List.getElem_mem hlt)) hs).mp q
        rw [nI_1] at e17
        rw [q61 (by omega), e10] at e12
        rw [Int32.add_zero, ← take_n hlt e2] at e16
        rw [e16, e17, e12]
        refine ih (i + 1) _ (by omega) ?_ (fun q x hq hx => ?_) (fun i9 h9 => ?_)
        · rw [take_n hlt e2]
          intro q x hq
          have hq9 := (List.getElem?_eq_some_iff.mp hq).1
          exact hent q x (by rw [List.getElem?_append_left hq9]; exact hq)
        · rw [un (by omega)]
          exact h2 q x (by omega) hx
        · rw [un (by omega)]
          exact h3 i9 h9
      · rw [q61 (by omega), hv] at e10
        rw [e10] at q
        have e2 : l[i] ≠ s := fun z => q (by rw [z])
        rw [nI_1] at e14 e15
        rw [q61 (by omega), e10] at e12
        have e3 : ((l.take i).filter (fun x => decide (x ≠ s))).length + 1 = ((l.take (i + 1)).filter (fun x => decide (x ≠ s))).length := by rw [take_y hlt e2, List.length_append]; rfl
        rw [e3] at e14
        rw [e14, e15, e12]
        refine ih (i + 1) _ (by omega) ?_ (fun q x hq hx => ?_) (fun i9 h9 => ?_)
        · rw [take_y hlt e2]
          exact hent
        · rw [un (by omega)]
          exact h2 q x (by omega) hx
        · rw [un (by omega)]
          exact h3 i9 h9
  exact ⟨l.length + 1, main l.length 0 nw (by omega) (fun q x hq => by simp at hq) (fun q x _ hx => he q x hx) (fun _ _ => rfl)⟩
end LEA
