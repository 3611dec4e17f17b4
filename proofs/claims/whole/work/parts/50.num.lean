/-! PHASE B: pure. Numbers, draws. -/
theorem ii (n : Nat) : (OfNat.ofNat n : Int32) = nI n := rfl
theorem us {f : Nat → Int32} {k : Nat} {x : Int32} : upd f k x k = x := if_pos rfl
theorem un {f : Nat → Int32} {k j : Nat} {x : Int32} (h : j ≠ k) : upd f k x j = f j := if_neg h
theorem vs {α : Type} {f : Nat → α} {k : Nat} {x : α} : va_up f k x k = x := if_pos rfl
theorem vn {α : Type} {f : Nat → α} {k j : Nat} {x : α} (h : j ≠ k) : va_up f k x j = f j := if_neg h
theorem ad (a b : Nat) : (OfNat.ofNat a : Int32) + nI b = nI (a + b) := nI_add a b
theorem cl2 {a b : Nat} (h : a + b < 2 ^ 31) : ((OfNat.ofNat a : Int32) + nI b).toNatClampNeg = a + b := by rw [ad, nI_clamp h]
theorem cl3 {a d k : Nat} (h : a + 8 * d + k < 2 ^ 31) : (((OfNat.ofNat a : Int32) + (8 : Int32) * nI d) + nI k).toNatClampNeg = a + 8 * d + k := by
  rw [show (8 : Int32) = nI 8 from rfl, pk_mul, ad, nI_add, nI_clamp h]
theorem cl3a {a d : Nat} (h : a + 8 * d < 2 ^ 31) : ((OfNat.ofNat a : Int32) + (8 : Int32) * nI d).toNatClampNeg = a + 8 * d := by
  rw [show (8 : Int32) = nI 8 from rfl, pk_mul, ad, nI_clamp h]
theorem in2 {a b N : Nat} (h : a + b < N) (hN : N < 2 ^ 31) : vp_in ((OfNat.ofNat a : Int32) + nI b) N := by rw [ad]; exact vp_in_nI h hN
theorem in3 {a d k N : Nat} (h : a + 8 * d + k < N) (hN : N < 2 ^ 31) : vp_in (((OfNat.ofNat a : Int32) + (8 : Int32) * nI d) + nI k) N := by
  rw [show (8 : Int32) = nI 8 from rfl, pk_mul, ad, nI_add]; exact vp_in_nI h hN
theorem in3a {a d N : Nat} (h : a + 8 * d < N) (hN : N < 2 ^ 31) : vp_in ((OfNat.ofNat a : Int32) + (8 : Int32) * nI d) N := by
  rw [show (8 : Int32) = nI 8 from rfl, pk_mul, ad]; exact vp_in_nI h hN
theorem m1_ne {n : Nat} (h : n < 2 ^ 31) : ¬ nI n = -1 := fun q => by
  have h1 := congrArg Int32.toInt q
  rw [nI_toInt h] at h1
  have h2 : (-1 : Int32).toInt = -1 := by decide
  rw [h2] at h1
  omega
def rN (r : Nat) : Nat := (r * 1103515245 + 12345) % 2147483648
theorem rN_lt (r : Nat) : rN r < 2147483648 := Nat.mod_lt _ (by decide)
theorem d_next {r : Nat} (hr : r < 2147483648) : ((lN r * (1103515245 : Int64)) + (12345 : Int64)) - ((lN r * (1103515245 : Int64)) + (12345 : Int64)) / (2147483648 : Int64) * (2147483648 : Int64) = lN (rN r) := by
  rw [show (1103515245 : Int64) = lN 1103515245 from rfl, show (12345 : Int64) = lN 12345 from rfl, show (2147483648 : Int64) = lN 2147483648 from rfl, lN_mul, lN_add]
  exact pk_lRem (by omega) (by decide) (by decide)
/-- a draw of the component -/
theorem b_draw3 {r n : Nat} (hr : r < 2147483648) (h0 : 0 < n) (hn : n < 1000) {k : Int32 → Int64 → Prop} (h : k (nI (rN r / 65536 % n)) (lN (rN r))) : wp_X3_draw (lN r) (nI n) k := by
  intro x1 e1
  rw [d_next hr] at e1
  subst e1
  have hl := rN_lt r
  refine ⟨fun _ => ⟨?_, ?_⟩, fun q => absurd (nI_le (a := 1) (by omega) (by omega)) q⟩
  · rw [nI_l (by omega)]
    intro q
    have := (lN_eq (a := n) (b := 0) (by omega) (by decide)).mp q
    omega
  · rw [nI_l (by omega), show (65536 : Int64) = lN 65536 from rfl, pk_lDiv (by omega) (by decide) (by decide), pk_lRem (by omega) h0 (by omega), lN_i]
    exact h
/-- a draw of the reference -/
theorem b_draw5 {nw : Nat → Int32} {r n : Nat} (h1 : nw 0 = nI r) (hr : r < 2147483648) (h0 : 0 < n) (hn : n < 1000) {k : Int32 → (Nat → Int32) → Prop} (h : k (nI (rN r / 65536 % n)) (upd nw 0 (nI (rN r)))) : wp_X5_draw nw (nI n) k := by
  intro nw1 e1
  rw [h1, nI_l (by omega), d_next hr, lN_i] at e1
  subst e1
  have hl := rN_lt r
  refine ⟨nI_ne0 h0 (by omega), ?_⟩
  rw [us, show (65536 : Int32) = nI 65536 from rfl, pk_div (by omega) (by decide) (by decide), pk_rem (by omega) h0 (by omega)]
  exact h
theorem bool01 {r : Int32} (h : r = 0 ∨ r = 1) : narrow .boolean (.int r) = .int r ∧ fits .boolean (.int r) = true := by
  rcases h with rfl | rfl <;> exact ⟨rfl, rfl⟩
theorem b_in {v a b : Int32} {k : Int32 → Prop} (h1 : ¬ v < a → ¬ b < v → k 1) (h0 : (v < a ∨ b < v) → k 0) : wp_X5_in v a b k := ⟨fun q => h0 (Or.inl q), fun q => ⟨fun q2 => h0 (Or.inr q2), fun q2 => h1 q q2⟩⟩
