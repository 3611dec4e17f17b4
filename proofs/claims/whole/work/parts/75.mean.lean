/-! The mean of the waits is a number. -/
def fOK : FP.Core.Datum → Prop
  | .nan => False
  | .inf _ => True
  | .fin _ c q => c < 9007199254740992 ∧ q ≤ 971
theorem f_qmax : FP.Core.b64.qmax = 971 := by decide
theorem f_qmin : FP.Core.b64.qmin = -1074 := by decide
theorem f_tails : FP.Core.b64.tails = 4503599627370496 := by decide
theorem f_exps : FP.Core.b64.exps = 2048 := by decide
theorem f_2p : 2 ^ FP.Core.b64.p = 9007199254740992 := by decide
theorem fOK_bound (s : Bool) {c : Nat} (q : Int) (hc : c < 9007199254740992) : fOK (FP.Core.bound FP.Core.b64 s c q) := by
  unfold FP.Core.bound
  rw [f_qmax]
  split
  · rename_i h
    exact ⟨hc, h⟩
  · exact trivial
theorem fOK_rr (s : Bool) (num den : Nat) (e : Int) : fOK (FP.Core.roundRatio FP.Core.b64 s num den e) := by
  unfold FP.Core.roundRatio
  split
  · rw [f_qmin]
    exact ⟨by decide, by decide⟩
  · unfold FP.Core.roundAt FP.Core.settle
    rw [f_2p, f_tails]
    split
    · rename_i h
      exact fOK_bound s _ h
    · exact fOK_bound s _ (by decide)
theorem f_bool (s : Bool) : s.toNat ≤ 1 := by cases s <;> decide
theorem enc_ok {d : FP.Core.Datum} (h : fOK d) : ∃ s e t : Nat, FP.Core.encode FP.Core.b64 d = (s * 2048 + e) * 4503599627370496 + t ∧ s ≤ 1 ∧ ((e ≤ 2046 ∧ t < 4503599627370496) ∨ (e = 2047 ∧ t = 0)) := by
  cases d with
  | nan => exact absurd h id
  | inf s =>
    refine ⟨s.toNat, 2047, 0, ?_, f_bool s, Or.inr ⟨rfl, rfl⟩⟩
    show FP.Core.assemble FP.Core.b64 s (FP.Core.b64.exps - 1) 0 = _
    unfold FP.Core.assemble
    rw [f_exps, f_tails]
  | fin s c q =>
    obtain ⟨h1, h2⟩ := h
    show ∃ s1 e t : Nat, (if c < FP.Core.b64.tails then FP.Core.assemble FP.Core.b64 s 0 c else FP.Core.assemble FP.Core.b64 s ((q - FP.Core.b64.qmin).toNat + 1) (c - FP.Core.b64.tails)) = (s1 * 2048 + e) * 4503599627370496 + t ∧ _
    unfold FP.Core.assemble
    rw [f_exps, f_tails, f_qmin]
    by_cases q1 : c < 4503599627370496
    · rw [if_pos q1]
      exact ⟨s.toNat, 0, c, rfl, f_bool s, Or.inl ⟨by omega, q1⟩⟩
    · rw [if_neg q1]
      exact ⟨s.toNat, (q - -1074).toNat + 1, c - 4503599627370496, rfl, f_bool s, Or.inl ⟨by omega, by omega⟩⟩
theorem f_dec {n s e t : Nat} (h : n = (s * 2048 + e) * 4503599627370496 + t) (hs : s ≤ 1) (h1 : (e ≤ 2046 ∧ t < 4503599627370496) ∨ (e = 2047 ∧ t = 0)) : FP.Core.decode FP.Core.b64 n ≠ .nan := by
  have e1 : FP.Core.fieldE FP.Core.b64 n = e := by
    unfold FP.Core.fieldE
    rw [f_tails, f_exps]
    omega
  have e2 : FP.Core.fieldT FP.Core.b64 n = t := by
    unfold FP.Core.fieldT
    rw [f_tails]
    omega
  unfold FP.Core.decode
  rw [e1, e2, f_exps]
  rcases h1 with ⟨a, b⟩ | ⟨a, b⟩
  · rw [if_neg (by omega)]
    split <;> exact fun q => by cases q
  · rw [if_pos (by omega), if_pos b]
    exact fun q => by cases q
theorem f_u64 {n : Nat} (h : n < 18446744073709551616) : (UInt64.ofNat n).toNat = n := by
  rw [UInt64.toNat_ofNat']
  exact Nat.mod_eq_of_lt h
theorem f_n64 {n s e t : Nat} (h : n = (s * 2048 + e) * 4503599627370496 + t) (hs : s ≤ 1) (h1 : (e ≤ 2046 ∧ t < 4503599627370496) ∨ (e = 2047 ∧ t = 0)) : vf_n64 (UInt64.ofNat n) := by
  unfold vf_n64
  rw [UInt64.le_iff_toNat_le, UInt64.toNat_and, f_u64 (by omega)]
  show n &&& (2 ^ 63 - 1) ≤ 9218868437227405312
  rw [Nat.and_two_pow_sub_one_eq_mod]
  omega
theorem f_i2d (a : Int32) : FP.Core.decode FP.Core.b64 (FP.i2d a).toNat ≠ .nan := by
  have hok : fOK (FP.Core.round FP.Core.b64 (FP.Core.ofInt a.toInt)) := fOK_rr _ _ _ _
  obtain ⟨s, e, t, h, hs, h1⟩ := enc_ok hok
  show FP.Core.decode FP.Core.b64 (UInt64.ofNat (FP.Core.encode FP.Core.b64 (FP.Core.round FP.Core.b64 (FP.Core.ofInt a.toInt)))).toNat ≠ .nan
  rw [f_u64 (by omega)]
  exact f_dec h hs h1
def fNZ : FP.Core.Datum → Bool
  | .fin _ c _ => decide (c ≠ 0)
  | _ => false
theorem f_den : ∀ n : Nat, n < 201 → 0 < n → fNZ (FP.Core.decode FP.Core.b64 (FP.i2d (nI n)).toNat) = true := by decide +kernel
theorem f_quo {x y : FP.Core.Datum} (hx : x ≠ .nan) (hy : fNZ y = true) : fOK (FP.Core.quotient FP.Core.b64 x y) := by
  cases y with
  | nan => cases hy
  | inf t => cases hy
  | fin t d r =>
    have hd : d ≠ 0 := of_decide_eq_true hy
    cases x with
    | nan => exact absurd rfl hx
    | inf s => exact trivial
    | fin s c q =>
      show fOK (if d = 0 then (if c = 0 then .nan else .inf (s != t)) else FP.Core.roundRatio FP.Core.b64 (s != t) c d (q - r))
      rw [if_neg hd]
      exact fOK_rr _ _ _ _
theorem f_ord {x : FP.Core.Datum} (hx : x ≠ .nan) : FP.Core.order x x = some .eq := by
  have hc : ∀ a : Int, compare a a = .eq := fun a => by simp [compare, compareOfLessAndEq]
  cases x with
  | nan => exact absurd rfl hx
  | inf s => exact congrArg some (hc _)
  | fin s c q => exact congrArg some (hc _)
theorem b_mean (a : Int32) {n : Nat} (hn : n < 201) (h0 : 0 < n) : vf_n64 (FP.ddiv (FP.i2d a) (FP.i2d (nI n))) ∧ Op.cmpValue (FP.dcmp (FP.ddiv (FP.i2d a) (FP.i2d (nI n))) (FP.ddiv (FP.i2d a) (FP.i2d (nI n)))) .l = 0 := by
  obtain ⟨s, e, t, h, hs, h1⟩ := enc_ok (f_quo (f_i2d a) (f_den n hn h0))
  have hv : FP.ddiv (FP.i2d a) (FP.i2d (nI n)) = UInt64.ofNat (FP.Core.encode FP.Core.b64 (FP.Core.quotient FP.Core.b64 (FP.Core.decode FP.Core.b64 (FP.i2d a).toNat) (FP.Core.decode FP.Core.b64 (FP.i2d (nI n)).toNat))) := rfl
  rw [hv]
  refine ⟨f_n64 h hs h1, ?_⟩
  have ho : FP.dcmp (UInt64.ofNat (FP.Core.encode FP.Core.b64 (FP.Core.quotient FP.Core.b64 (FP.Core.decode FP.Core.b64 (FP.i2d a).toNat) (FP.Core.decode FP.Core.b64 (FP.i2d (nI n)).toNat)))) (UInt64.ofNat (FP.Core.encode FP.Core.b64 (FP.Core.quotient FP.Core.b64 (FP.Core.decode FP.Core.b64 (FP.i2d a).toNat) (FP.Core.decode FP.Core.b64 (FP.i2d (nI n)).toNat)))) = some .eq := by
    show FP.Core.order (FP.Core.decode FP.Core.b64 (UInt64.ofNat _).toNat) (FP.Core.decode FP.Core.b64 (UInt64.ofNat _).toNat) = _
    rw [f_u64 (by omega)]
    exact f_ord (f_dec h hs h1)
  rw [ho]
  rfl
