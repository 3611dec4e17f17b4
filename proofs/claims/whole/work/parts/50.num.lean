/-! PHASE B: pure. Numbers, draws. -/
theorem ii (n : Nat) : (OfNat.ofNat n : Int32) = nI n := rfl
theorem us {f : Nat → Int32} {k : Nat} {x : Int32} : upd f k x k = x := if_pos rfl
theorem un {f : Nat → Int32} {k j : Nat} {x : Int32} (h : j ≠ k) : upd f k x j = f j := if_neg h
theorem vs {α : Type} {f : Nat → α} {k : Nat} {x : α} : va_up f k x k = x := if_pos rfl
theorem vn {α : Type} {f : Nat → α} {k j : Nat} {x : α} (h : j ≠ k) : va_up f k x j = f j := if_neg h
theorem q9 {b : Nat} (h : 9 + b < 893) : (((9 : Int32) + nI b).toNatClampNeg) = 9 + b := by rw [show (9 : Int32) = nI 9 from rfl, nI_add, nI_clamp (by omega)]
theorem i9 {b : Nat} (h : 9 + b < 893) : vp_in ((9 : Int32) + nI b) 893 := by rw [show (9 : Int32) = nI 9 from rfl, nI_add]; exact vp_in_nI h (by decide)
theorem q17 {b : Nat} (h : 17 + b < 893) : (((17 : Int32) + nI b).toNatClampNeg) = 17 + b := by rw [show (17 : Int32) = nI 17 from rfl, nI_add, nI_clamp (by omega)]
theorem i17 {b : Nat} (h : 17 + b < 893) : vp_in ((17 : Int32) + nI b) 893 := by rw [show (17 : Int32) = nI 17 from rfl, nI_add]; exact vp_in_nI h (by decide)
theorem q21 {b : Nat} (h : 21 + b < 893) : (((21 : Int32) + nI b).toNatClampNeg) = 21 + b := by rw [show (21 : Int32) = nI 21 from rfl, nI_add, nI_clamp (by omega)]
theorem i21 {b : Nat} (h : 21 + b < 893) : vp_in ((21 : Int32) + nI b) 893 := by rw [show (21 : Int32) = nI 21 from rfl, nI_add]; exact vp_in_nI h (by decide)
theorem q57 {b : Nat} (h : 57 + b < 893) : (((57 : Int32) + nI b).toNatClampNeg) = 57 + b := by rw [show (57 : Int32) = nI 57 from rfl, nI_add, nI_clamp (by omega)]
theorem i57 {b : Nat} (h : 57 + b < 893) : vp_in ((57 : Int32) + nI b) 893 := by rw [show (57 : Int32) = nI 57 from rfl, nI_add]; exact vp_in_nI h (by decide)
theorem q93 {b : Nat} (h : 93 + b < 893) : (((93 : Int32) + nI b).toNatClampNeg) = 93 + b := by rw [show (93 : Int32) = nI 93 from rfl, nI_add, nI_clamp (by omega)]
theorem i93 {b : Nat} (h : 93 + b < 893) : vp_in ((93 : Int32) + nI b) 893 := by rw [show (93 : Int32) = nI 93 from rfl, nI_add]; exact vp_in_nI h (by decide)
theorem q293 {b : Nat} (h : 293 + b < 893) : (((293 : Int32) + nI b).toNatClampNeg) = 293 + b := by rw [show (293 : Int32) = nI 293 from rfl, nI_add, nI_clamp (by omega)]
theorem i293 {b : Nat} (h : 293 + b < 893) : vp_in ((293 : Int32) + nI b) 893 := by rw [show (293 : Int32) = nI 293 from rfl, nI_add]; exact vp_in_nI h (by decide)
theorem q493 {b : Nat} (h : 493 + b < 893) : (((493 : Int32) + nI b).toNatClampNeg) = 493 + b := by rw [show (493 : Int32) = nI 493 from rfl, nI_add, nI_clamp (by omega)]
theorem i493 {b : Nat} (h : 493 + b < 893) : vp_in ((493 : Int32) + nI b) 893 := by rw [show (493 : Int32) = nI 493 from rfl, nI_add]; exact vp_in_nI h (by decide)
theorem q693 {b : Nat} (h : 693 + b < 893) : (((693 : Int32) + nI b).toNatClampNeg) = 693 + b := by rw [show (693 : Int32) = nI 693 from rfl, nI_add, nI_clamp (by omega)]
theorem i693 {b : Nat} (h : 693 + b < 893) : vp_in ((693 : Int32) + nI b) 893 := by rw [show (693 : Int32) = nI 693 from rfl, nI_add]; exact vp_in_nI h (by decide)
theorem q25 {d k : Nat} (h : 25 + 8 * d + k < 893) : ((((25 : Int32) + ((8 : Int32) * nI d)) + nI k).toNatClampNeg) = 25 + 8 * d + k := by rw [show (25 : Int32) = nI 25 from rfl, show (8 : Int32) = nI 8 from rfl, pk_mul, nI_add, nI_add, nI_clamp (by omega)]
theorem i25 {d k : Nat} (h : 25 + 8 * d + k < 893) : vp_in (((25 : Int32) + ((8 : Int32) * nI d)) + nI k) 893 := by rw [show (25 : Int32) = nI 25 from rfl, show (8 : Int32) = nI 8 from rfl, pk_mul, nI_add, nI_add]; exact vp_in_nI h (by decide)
theorem q25a {d : Nat} (h : 25 + 8 * d < 893) : (((25 : Int32) + ((8 : Int32) * nI d)).toNatClampNeg) = 25 + 8 * d := by rw [show (25 : Int32) = nI 25 from rfl, show (8 : Int32) = nI 8 from rfl, pk_mul, nI_add, nI_clamp (by omega)]
theorem i25a {d : Nat} (h : 25 + 8 * d < 893) : vp_in ((25 : Int32) + ((8 : Int32) * nI d)) 893 := by rw [show (25 : Int32) = nI 25 from rfl, show (8 : Int32) = nI 8 from rfl, pk_mul, nI_add]; exact vp_in_nI h (by decide)
theorem q61 {d k : Nat} (h : 61 + 8 * d + k < 893) : ((((61 : Int32) + ((8 : Int32) * nI d)) + nI k).toNatClampNeg) = 61 + 8 * d + k := by rw [show (61 : Int32) = nI 61 from rfl, show (8 : Int32) = nI 8 from rfl, pk_mul, nI_add, nI_add, nI_clamp (by omega)]
theorem i61 {d k : Nat} (h : 61 + 8 * d + k < 893) : vp_in (((61 : Int32) + ((8 : Int32) * nI d)) + nI k) 893 := by rw [show (61 : Int32) = nI 61 from rfl, show (8 : Int32) = nI 8 from rfl, pk_mul, nI_add, nI_add]; exact vp_in_nI h (by decide)
theorem q61a {d : Nat} (h : 61 + 8 * d < 893) : (((61 : Int32) + ((8 : Int32) * nI d)).toNatClampNeg) = 61 + 8 * d := by rw [show (61 : Int32) = nI 61 from rfl, show (8 : Int32) = nI 8 from rfl, pk_mul, nI_add, nI_clamp (by omega)]
theorem i61a {d : Nat} (h : 61 + 8 * d < 893) : vp_in ((61 : Int32) + ((8 : Int32) * nI d)) 893 := by rw [show (61 : Int32) = nI 61 from rfl, show (8 : Int32) = nI 8 from rfl, pk_mul, nI_add]; exact vp_in_nI h (by decide)
theorem m1_ne {n : Nat} (h : n < 2 ^ 31) : ¬ nI n = -1 := fun q => by
  have h1 := congrArg Int32.toInt q
  rw [nI_toInt h] at h1
  have h2 : (-1 : Int32).toInt = -1 := by decide
  rw [h2] at h1
  omega
def rN (r : Nat) : Nat := (r * 1103515245 + 12345) % 2147483648
theorem rN_lt (r : Nat) : rN r < 2147483648 := Nat.mod_lt _ (by decide)
theorem d_next {r : Nat} (hr : r < 2147483648) : ((lN r * (1103515245 : Int64)) + (12345 : Int64)) - ((lN r * (1103515245 : Int64)) + (12345 : Int64)) / (2147483648 : Int64) * (2147483648 : Int64) = lN (rN r) := by
  rw [show (1103515245 : Int64) = lN 1103515245 from rfl, show (12345 : Int64) = lN 12345 from rfl, show (2147483648 : Int64) = lN 2147483648 from rfl, lN_mul, lN_add]
  exact pk_lRem (by omega) (by decide) (by decide)
/-- a draw of the component -/
theorem b_draw3 {r n : Nat} (hr : r < 2147483648) (h0 : 0 < n) (hn : n < 1000) {k : Int32 → Int64 → Prop} (h : k (nI (rN r / 65536 % n)) (lN (rN r))) : wp_X3_draw (lN r) (nI n) k := by
  intro x1 e1
  rw [d_next hr] at e1
  subst e1
  have hl := rN_lt r
  refine ⟨fun _ => ⟨?_, ?_⟩, fun q => absurd (nI_le (a := 1) (by omega) (by omega)) q⟩
  · rw [nI_l (by omega)]
    intro q
    have := (lN_eq (a := n) (b := 0) (by omega) (by decide)).mp q
    omega
  · rw [nI_l (by omega), show (65536 : Int64) = lN 65536 from rfl, pk_lDiv (by omega) (by decide) (by decide), pk_lRem (by omega) h0 (by omega), lN_i]
    exact h
/-- a draw of the reference -/
theorem b_draw5 {nw : Nat → Int32} {r n : Nat} (h1 : nw 0 = nI r) (hr : r < 2147483648) (h0 : 0 < n) (hn : n < 1000) {k : Int32 → (Nat → Int32) → Prop} (h : k (nI (rN r / 65536 % n)) (upd nw 0 (nI (rN r)))) : wp_X5_draw nw (nI n) k := by
  intro nw1 e1
  rw [h1, nI_l (by omega), d_next hr, lN_i] at e1
  subst e1
  have hl := rN_lt r
  refine ⟨nI_ne0 h0 (by omega), ?_⟩
  rw [us, show (65536 : Int32) = nI 65536 from rfl, pk_div (by omega) (by decide) (by decide), pk_rem (by omega) h0 (by omega)]
  exact h
theorem bool01 {r : Int32} (h : r = 0 ∨ r = 1) : narrow .boolean (.int r) = .int r ∧ fits .boolean (.int r) = true := by
  rcases h with rfl | rfl <;> exact ⟨rfl, rfl⟩
theorem b_in {v a b : Int32} {k : Int32 → Prop} (h1 : ¬ v < a → ¬ b < v → k 1) (h0 : (v < a ∨ b < v) → k 0) : wp_X5_in v a b k := ⟨fun q => h0 (Or.inl q), fun q => ⟨fun q2 => h0 (Or.inr q2), fun q2 => h1 q q2⟩⟩
