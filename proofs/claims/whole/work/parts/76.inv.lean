/-! What the cases of the law share. -/
theorem in_out {v : Int32} {n : Nat} (hn : n < 2 ^ 30) (h : nI n ≤ v) : nI n - 1 < v := by
  have h1 := Int32.le_iff_toInt_le.mp h
  rw [nI_toInt (by omega)] at h1
  rw [Int32.lt_iff_toInt_lt, show (1 : Int32) = nI 1 from rfl, pk_sub_toInt hn (by decide)]
  omega
theorem in_in {j n : Nat} (hn : n < 2 ^ 30) (h : j < n) : ¬ nI n - 1 < nI j := by
  rw [Int32.lt_iff_toInt_lt, show (1 : Int32) = nI 1 from rfl, pk_sub_toInt hn (by decide), nI_toInt (by omega)]
  omega
section REQ
variable {v : Int32} {n j : Nat} {nw : Nat → Int32} {K : Int32 → Prop} {k : Prop} {kx : String → Prop}
theorem r_in0 (hn : n < 2 ^ 30) (h : v < 0 ∨ nI n ≤ v) (hk : K 0) : wp_X5_in v 0 (nI n - 1) K := ⟨fun _ => hk, fun q => ⟨fun _ => hk, fun q2 => absurd (in_out hn (h.resolve_left q)) q2⟩⟩
theorem r_in1 (hn : n < 2 ^ 30) (h : j < n) (hk : K 1) : wp_X5_in (nI j) 0 (nI n - 1) K := ⟨fun q => absurd q (nI_pos (by omega)), fun _ => ⟨fun q => absurd q (in_in hn h), fun _ => hk⟩⟩
theorem r_srv0 (h4 : nw 4 = nI n) (hn : n < 2 ^ 30) (h : v < 0 ∨ nI n ≤ v) (hk : K 0) : wp_X5_isServer nw v K := by
  unfold wp_X5_isServer
  rw [h4]
  exact r_in0 hn h ⟨rfl, hk⟩
theorem r_srv1 (h4 : nw 4 = nI n) (hn : n < 2 ^ 30) (h : j < n) (hk : K 1) : wp_X5_isServer nw (nI j) K := by
  unfold wp_X5_isServer
  rw [h4]
  exact r_in1 hn h ⟨rfl, hk⟩
theorem r_dsp0 (h5 : nw 5 = nI n) (hn : n < 2 ^ 30) (h : v < 0 ∨ nI n ≤ v) (hk : K 0) : wp_X5_isDispatcher nw v K := by
  unfold wp_X5_isDispatcher
  rw [h5]
  exact r_in0 hn h ⟨rfl, hk⟩
theorem r_dsp1 (h5 : nw 5 = nI n) (hn : n < 2 ^ 30) (h : j < n) (hk : K 1) : wp_X5_isDispatcher nw (nI j) K := by
  unfold wp_X5_isDispatcher
  rw [h5]
  exact r_in1 hn h ⟨rfl, hk⟩
theorem r_job0 (h6 : nw 6 = nI n) (hn : n < 2 ^ 30) (h : v < 0 ∨ nI n ≤ v) (hk : K 0) : wp_X5_isJob nw v K := by
  unfold wp_X5_isJob
  rw [h6]
  exact r_in0 hn h ⟨rfl, hk⟩
theorem r_job1 (h6 : nw 6 = nI n) (hn : n < 2 ^ 30) (h : j < n) (hk : K 1) : wp_X5_isJob nw (nI j) K := by
  unfold wp_X5_isJob
  rw [h6]
  exact r_in1 hn h ⟨rfl, hk⟩
theorem x_nlt (h : nI n ≤ v) : ¬ v < nI n := Int32.not_lt.mpr h
theorem x_srv0 (h : v < 0 ∨ nI n ≤ v) (hk : kx "java/lang/IllegalArgumentException") : wp_X4_requireServer (nI n) v k kx := ⟨fun _ => hk, fun q => ⟨fun q2 => absurd q2 (x_nlt (h.resolve_left q)), fun _ => hk⟩⟩
theorem x_srv1 (hn : n < 2 ^ 30) (h : j < n) (hk : k) : wp_X4_requireServer (nI n) (nI j) k kx := ⟨fun q => absurd q (nI_pos (by omega)), fun _ => ⟨fun _ => hk, fun q => absurd (nI_lt h (by omega)) q⟩⟩
theorem x_dsp0 (h : v < 0 ∨ nI n ≤ v) (hk : kx "java/lang/IllegalArgumentException") : wp_X4_requireDispatcher (nI n) v k kx := ⟨fun _ => hk, fun q => ⟨fun q2 => absurd q2 (x_nlt (h.resolve_left q)), fun _ => hk⟩⟩
theorem x_dsp1 (hn : n < 2 ^ 30) (h : j < n) (hk : k) : wp_X4_requireDispatcher (nI n) (nI j) k kx := ⟨fun q => absurd q (nI_pos (by omega)), fun _ => ⟨fun _ => hk, fun q => absurd (nI_lt h (by omega)) q⟩⟩
theorem x_idx0 (h : v < 0 ∨ nI n ≤ v) (hk : kx "java/lang/IndexOutOfBoundsException") : wp_X4_requireIndex v (nI n) k kx := ⟨fun _ => hk, fun q => ⟨fun q2 => absurd q2 (x_nlt (h.resolve_left q)), fun _ => hk⟩⟩
theorem x_idx1 (hn : n < 2 ^ 30) (h : j < n) (hk : k) : wp_X4_requireIndex (nI j) (nI n) k kx := ⟨fun q => absurd q (nI_pos (by omega)), fun _ => ⟨fun _ => hk, fun q => absurd (nI_lt h (by omega)) q⟩⟩
variable {a b : Int32}
theorem r_rng0 (h : v < a ∨ ¬ v ≤ b) (hk : K 0) : wp_X5_in v a b K := ⟨fun _ => hk, fun q => ⟨fun _ => hk, fun q2 => absurd (Int32.not_lt.mp q2) (h.resolve_left q)⟩⟩
theorem r_rng1 (h1 : ¬ v < a) (h2 : v ≤ b) (hk : K 1) : wp_X5_in v a b K := ⟨fun q => absurd q h1, fun _ => ⟨fun q => absurd h2 (Int32.not_le.mpr q), fun _ => hk⟩⟩
theorem x_rng0 (h : v < a ∨ ¬ v ≤ b) (hk : kx "java/lang/IllegalArgumentException") : wp_X4_requireRange v a b k kx := ⟨fun _ => hk, fun q => ⟨fun q2 => absurd q2 (h.resolve_left q), fun _ => hk⟩⟩
theorem x_rng1 (h1 : ¬ v < a) (h2 : v ≤ b) (hk : k) : wp_X4_requireRange v a b k kx := ⟨fun q => absurd q h1, fun _ => ⟨fun _ => hk, fun q => absurd h2 q⟩⟩
theorem rng_split (v a b : Int32) : (v < a ∨ ¬ v ≤ b) ∨ (¬ v < a ∧ v ≤ b) := by
  by_cases h1 : v < a
  · exact Or.inl (Or.inl h1)
  · by_cases h2 : v ≤ b
    · exact Or.inr ⟨h1, h2⟩
    · exact Or.inl (Or.inr h2)
/-- a value in the range from a to b, as a number -/
theorem rng_nat {x y : Nat} (hx : x < 2 ^ 31) (hy : y < 2 ^ 31) (h1 : ¬ v < nI x) (h2 : v ≤ nI y) : ∃ m, x ≤ m ∧ m ≤ y ∧ v = nI m := by
  have g1 := Int32.not_lt.mp h1
  have g2 := Int32.le_iff_toInt_le.mp g1
  have g3 := Int32.le_iff_toInt_le.mp h2
  rw [nI_toInt hx] at g2
  rw [nI_toInt hy] at g3
  refine ⟨v.toInt.toNat, by omega, by omega, Int32.toInt_inj.mp ?_⟩
  rw [nI_toInt (by omega)]
  omega
end REQ
theorem e_lg (x : Int64) : lg_cmp x x = 0 := (lg_cmp_eq x x).mpr rfl
theorem e_ok {P Q : Prop} {v : Int32} (hP : P) : ((0 : Int32) = 0 → (((0 : Int32) = 0 → (((lg_cmp v.toInt64 v.toInt64) = 0 → P) ∧ (¬ ((lg_cmp v.toInt64 v.toInt64) = 0) → False))) ∧ (¬ (0 : Int32) = 0 → Q))) ∧ (¬ ((0 : Int32) = 0) → False) := ⟨fun _ => ⟨fun _ => ⟨fun _ => hP, fun q => absurd (e_lg _) q⟩, fun q => absurd rfl q⟩, fun q => absurd rfl q⟩
theorem e_th {P Q : Prop} {r : Int32} (h : ¬ r = 0) (hQ : Q) : (r = r → ((r = 0 → P) ∧ (¬ r = 0 → Q))) ∧ (¬ (r = r) → False) := ⟨fun _ => ⟨fun q => absurd q h, fun _ => hQ⟩, fun q => absurd rfl q⟩
theorem e_okB {P P2 Q : Prop} {v : Int32} (hv : v = 0 ∨ v = 1) (hP : P) (hP2 : P2) : ((0 : Int32) = 0 → (((0 : Int32) = 0 → ((v = 0 → (((lg_cmp v.toInt64 (0 : Int64)) = 0 → P) ∧ (¬ ((lg_cmp v.toInt64 (0 : Int64)) = 0) → False))) ∧ (¬ (v = 0) → (((lg_cmp v.toInt64 (1 : Int64)) = 0 → P2) ∧ (¬ ((lg_cmp v.toInt64 (1 : Int64)) = 0) → False))))) ∧ (¬ (0 : Int32) = 0 → Q))) ∧ (¬ ((0 : Int32) = 0) → False) := by
  rcases hv with rfl | rfl
  · exact ⟨fun _ => ⟨fun _ => ⟨fun _ => ⟨fun _ => hP, fun q => absurd (by decide) q⟩, fun q => absurd rfl q⟩, fun q => absurd rfl q⟩, fun q => absurd rfl q⟩
  · exact ⟨fun _ => ⟨fun _ => ⟨fun q => absurd q (by decide), fun _ => ⟨fun _ => hP2, fun q => absurd (by decide) q⟩⟩, fun q => absurd rfl q⟩, fun q => absurd rfl q⟩
def INV (M : Nat) (cur : Nat) (sav : Nat → Nat) (cnt : Int32) (ST : Nat → TT) (now : Int32) (rnd : Int64) (jm : Int32) (rp : Int32) (sc : Int32) (dc : Int32) (cn : Int32) (sUp : Nat → Int32) (sLen : Nat → Int32) (sWrk : Nat → Int32) (sReg : Nat → Int32) (sFst : Nat → Int32) (sLst : Nat → Int32) (dPol : Nat → Int32) (dPtr : Nat → Int32) (dCnt : Nat → Int32) (dIdl : Nat → Nat → Int32) (dKnw : Nat → Nat → Int32) (jCnt : Int32) (jFin : Int32) (jBeg : Int32) (jWs : Int32) (jMis : Int32) (jSrv : Nat → Int32) (jLft : Nat → Int32) (jSub : Nat → Int32) (jWai : Nat → Int32) (jNxt : Nat → Int32) (cnd : Nat → Int32) (nw hi : Nat → Int32) (sv : Int32) : Prop := RA M nw now rnd jm rp sc dc cn sUp sLen sWrk sReg sFst sLst dPol dPtr dCnt dIdl dKnw jCnt jFin jBeg jWs jMis jSrv jLft jSub jWai jNxt cnd ∧ ∃ c, cnt = nI c ∧ sv = nI c ∧ SV M cur sav c ST hi
def HREC (M : Nat) (i : Int32) (rec23 : Int32 → Nat → (Nat → Nat) → Int32 → (Nat → TT) → Int32 → Int64 → Int32 → Int32 → Int32 → Int32 → Int32 → (Nat → Int32) → (Nat → Int32) → (Nat → Int32) → (Nat → Int32) → (Nat → Int32) → (Nat → Int32) → (Nat → Int32) → (Nat → Int32) → (Nat → Int32) → (Nat → Nat → Int32) → (Nat → Nat → Int32) → Int32 → Int32 → Int32 → Int32 → Int32 → (Nat → Int32) → (Nat → Int32) → (Nat → Int32) → (Nat → Int32) → (Nat → Int32) → (Nat → Int32) → (Nat → Int32) → (Nat → Int32) → Int32 → Int32 → (Nat → Int32) → Int64 → Int64 → Prop) : Prop := ∀ (cur : Nat) (sav : Nat → Nat) (cnt : Int32) (ST : Nat → TT) (now : Int32) (rnd : Int64) (jm : Int32) (rp : Int32) (sc : Int32) (dc : Int32) (cn : Int32) (sUp : Nat → Int32) (sLen : Nat → Int32) (sWrk : Nat → Int32) (sReg : Nat → Int32) (sFst : Nat → Int32) (sLst : Nat → Int32) (dPol : Nat → Int32) (dPtr : Nat → Int32) (dCnt : Nat → Int32) (dIdl : Nat → Nat → Int32) (dKnw : Nat → Nat → Int32) (jCnt : Int32) (jFin : Int32) (jBeg : Int32) (jWs : Int32) (jMis : Int32) (jSrv : Nat → Int32) (jLft : Nat → Int32) (jSub : Nat → Int32) (jWai : Nat → Int32) (jNxt : Nat → Int32) (cnd : Nat → Int32) (nw hi : Nat → Int32) (sv : Int32) (th : Int32) (cd : Nat → Int32) (ha ov : Int64), INV M cur sav cnt ST now rnd jm rp sc dc cn sUp sLen sWrk sReg sFst sLst dPol dPtr dCnt dIdl dKnw jCnt jFin jBeg jWs jMis jSrv jLft jSub jWai jNxt cnd nw hi sv → rec23 (i + 3) cur sav cnt ST now rnd jm rp sc dc cn sUp sLen sWrk sReg sFst sLst dPol dPtr dCnt dIdl dKnw jCnt jFin jBeg jWs jMis jSrv jLft jSub jWai jNxt cnd nw hi sv th cd ha ov
section INVS
variable {M M1 : Nat} {cur : Nat} {sav : Nat → Nat} {cnt : Int32} {ST : Nat → TT} {now : Int32} {rnd : Int64} {jm : Int32} {rp : Int32} {sc : Int32} {dc : Int32} {cn : Int32} {sUp : Nat → Int32} {sLen : Nat → Int32} {sWrk : Nat → Int32} {sReg : Nat → Int32} {sFst : Nat → Int32} {sLst : Nat → Int32} {dPol : Nat → Int32} {dPtr : Nat → Int32} {dCnt : Nat → Int32} {dIdl : Nat → Nat → Int32} {dKnw : Nat → Nat → Int32} {jCnt : Int32} {jFin : Int32} {jBeg : Int32} {jWs : Int32} {jMis : Int32} {jSrv : Nat → Int32} {jLft : Nat → Int32} {jSub : Nat → Int32} {jWai : Nat → Int32} {jNxt : Nat → Int32} {cnd : Nat → Int32} {nw hi : Nat → Int32} {sv : Int32} {S D J T r md pd : Nat} {Ls : Nat → List Nat} {nw1 : Nat → Int32}
theorem INV.mono (h : INV M cur sav cnt ST now rnd jm rp sc dc cn sUp sLen sWrk sReg sFst sLst dPol dPtr dCnt dIdl dKnw jCnt jFin jBeg jWs jMis jSrv jLft jSub jWai jNxt cnd nw hi sv) (hM : M ≤ M1) : INV M1 cur sav cnt ST now rnd jm rp sc dc cn sUp sLen sWrk sReg sFst sLst dPol dPtr dCnt dIdl dKnw jCnt jFin jBeg jWs jMis jSrv jLft jSub jWai jNxt cnd nw hi sv := by
  obtain ⟨h1, c, h2, h3, h4⟩ := h
  exact ⟨h1.mono hM, c, h2, h3, h4.mono hM⟩
theorem HREC.go {i : Int32} {rec23 : Int32 → Nat → (Nat → Nat) → Int32 → (Nat → TT) → Int32 → Int64 → Int32 → Int32 → Int32 → Int32 → Int32 → (Nat → Int32) → (Nat → Int32) → (Nat → Int32) → (Nat → Int32) → (Nat → Int32) → (Nat → Int32) → (Nat → Int32) → (Nat → Int32) → (Nat → Int32) → (Nat → Nat → Int32) → (Nat → Nat → Int32) → Int32 → Int32 → Int32 → Int32 → Int32 → (Nat → Int32) → (Nat → Int32) → (Nat → Int32) → (Nat → Int32) → (Nat → Int32) → (Nat → Int32) → (Nat → Int32) → (Nat → Int32) → Int32 → Int32 → (Nat → Int32) → Int64 → Int64 → Prop} (hr : HREC M i rec23) (h : INV M cur sav cnt ST now rnd jm rp sc dc cn sUp sLen sWrk sReg sFst sLst dPol dPtr dCnt dIdl dKnw jCnt jFin jBeg jWs jMis jSrv jLft jSub jWai jNxt cnd nw hi sv) {th : Int32} {cd : Nat → Int32} {ha ov : Int64} : ∀ x : Int32, x = i + 3 → rec23 x cur sav cnt ST now rnd jm rp sc dc cn sUp sLen sWrk sReg sFst sLst dPol dPtr dCnt dIdl dKnw jCnt jFin jBeg jWs jMis jSrv jLft jSub jWai jNxt cnd nw hi sv th cd ha ov := fun x e => by
  subst e
  exact hr _ _ _ _ _ _ _ _ _ _ _ _ _ _ _ _ _ _ _ _ _ _ _ _ _ _ _ _ _ _ _ _ _ _ _ _ _ _ _ _ h
theorem RT.mode (H : RT nw sUp sLen sWrk sReg sFst sLst dCnt dIdl jFin jBeg jWs jSrv jLft jSub jWai jNxt S D J T r md Ls) {m : Nat} (hm : m ≤ 2) : RT (upd nw 2 (nI m)) sUp sLen sWrk sReg sFst sLst dCnt dIdl jFin jBeg jWs jSrv jLft jSub jWai jNxt S D J T r m Ls := by
  obtain ⟨hI, hQ, hJb, hW, ⟨h0, hr⟩, h7, ⟨h6, hJ⟩, ⟨h5, hD⟩, ⟨h4, hS⟩, ⟨h2, hmd⟩, ⟨h1, hT⟩, hU⟩ := id H
  exact ⟨hI.cong hS (fun i _ _ => un (by omega)), hQ.cong hJ (fun i _ _ => un (by omega)), hJb.cong hJ (fun i _ _ => un (by omega)), hW.cong hJ (fun i _ _ => un (by omega)), ⟨by rw [un (by omega)]; exact h0, hr⟩, by rw [un (by omega)]; exact h7, ⟨by rw [un (by omega)]; exact h6, hJ⟩, ⟨by rw [un (by omega)]; exact h5, hD⟩, ⟨by rw [un (by omega)]; exact h4, hS⟩, ⟨us, hm⟩, ⟨by rw [un (by omega)]; exact h1, hT⟩, fun x hx => by rw [un (by omega)]; exact hU x hx⟩
/-- one more dispatcher -/
theorem RT.dsp (H : RT nw sUp sLen sWrk sReg sFst sLst dCnt dIdl jFin jBeg jWs jSrv jLft jSub jWai jNxt S D J T r md Ls) (hD4 : D < 4) (g5 : nw1 5 = nI (D + 1)) (g : ∀ i, i ≠ 5 → (i < 17 ∨ 57 ≤ i) → nw1 i = nw i) : RT nw1 sUp sLen sWrk sReg sFst sLst dCnt dIdl jFin jBeg jWs jSrv jLft jSub jWai jNxt S (D + 1) J T r md Ls := by
  obtain ⟨hI, hQ, hJb, hW, ⟨h0, hr⟩, h7, ⟨h6, hJ⟩, ⟨h5, hD⟩, ⟨h4, hS⟩, ⟨h2, hmd⟩, ⟨h1, hT⟩, hU⟩ := id H
  refine ⟨?_, hQ.cong hJ (fun i _ _ => g i (by omega) (by omega)), hJb.cong hJ (fun i _ _ => g i (by omega) (by omega)), hW.cong hJ (fun i _ _ => g i (by omega) (by omega)), ⟨(g 0 (by omega) (by omega)).trans h0, hr⟩, (g 7 (by omega) (by omega)).trans h7, ⟨(g 6 (by omega) (by omega)).trans h6, hJ⟩, ⟨g5, hD4⟩, ⟨(g 4 (by omega) (by omega)).trans h4, hS⟩, ⟨(g 2 (by omega) (by omega)).trans h2, hmd⟩, ⟨(g 1 (by omega) (by omega)).trans h1, hT⟩, fun x hx => by rw [g _ (by omega) (by omega)]; exact hU x hx⟩
  have hI2 := hI.cong hS (nw1 := nw1) (fun i _ _ => g i (by omega) (by omega))
  refine ⟨hI2.1, fun d hd => hI2.2.1 d (by omega), hI2.2.2.1, hI2.2.2.2.1, fun s hs => ?_⟩
  rcases hI2.2.2.2.2 s hs with z | ⟨d, z1, z2⟩
  · exact Or.inl z
  · exact Or.inr ⟨d, by omega, z2⟩
/-- one more server, as new -/
theorem RT.srv (H : RT nw sUp sLen sWrk sReg sFst sLst dCnt dIdl jFin jBeg jWs jSrv jLft jSub jWai jNxt S D J T r md Ls) (hS8 : S < 8) (hN : sUp S = 1 ∧ sLen S = 0 ∧ sWrk S = 0 ∧ sReg S = -1 ∧ sFst S = -1 ∧ sLst S = -1) (hjs : ∀ j, j < J → ∃ x, x < S ∧ jSrv j = nI x) (g4 : nw1 4 = nI (S + 1)) (g9 : nw1 (9 + S) = 1) (g : ∀ i, i ≠ 4 → i ≠ 9 + S → (i < 25 ∨ 57 ≤ i) → nw1 i = nw i) : RT nw1 sUp sLen sWrk sReg sFst sLst dCnt dIdl jFin jBeg jWs jSrv jLft jSub jWai jNxt (S + 1) D J T r md Ls := by
  obtain ⟨hI, hQ, hJb, hW, ⟨h0, hr⟩, h7, ⟨h6, hJ⟩, ⟨h5, hD⟩, ⟨h4, hS⟩, ⟨h2, hmd⟩, ⟨h1, hT⟩, hU⟩ := id H
  obtain ⟨n1, n2, n3, n4, n5, n6⟩ := hN
  have hqe : que nw1 (nI S) J = [] := by
    apply List.filter_eq_nil_iff.mpr
    intro j hj
    have hj2 := List.mem_range.mp hj
    obtain ⟨x, hx, ex⟩ := hjs j hj2
    have e : ¬ nw1 (93 + j) = nI S := by
      rw [g _ (by omega) (by omega) (by omega), (hJb j hj2).1, ex]
      exact fun q => absurd ((nI_eq (by omega) (by omega)).mp q) (by omega)
    unfold isQ
    rw [decide_eq_false e]
    simp
  have hI2 := hI.cong hS (nw1 := nw1) (fun i _ _ => g i (by omega) (by omega) (by omega))
  have hQ2 := hQ.cong hJ (nw1 := nw1) (fun i _ _ => g i (by omega) (by omega) (by omega))
  refine ⟨⟨hI2.1, hI2.2.1, hI2.2.2.1, fun d s hs => ?_, fun s hs => ?_⟩, fun s hs => ?_, hJb.cong hJ (fun i _ _ => g i (by omega) (by omega) (by omega)), hW.cong hJ (fun i _ _ => g i (by omega) (by omega) (by omega)), ⟨(g 0 (by omega) (by omega) (by omega)).trans h0, hr⟩, (g 7 (by omega) (by omega) (by omega)).trans h7, ⟨(g 6 (by omega) (by omega) (by omega)).trans h6, hJ⟩, ⟨(g 5 (by omega) (by omega) (by omega)).trans h5, hD⟩, ⟨g4, hS8⟩, ⟨(g 2 (by omega) (by omega) (by omega)).trans h2, hmd⟩, ⟨(g 1 (by omega) (by omega) (by omega)).trans h1, hT⟩, fun x hx => ?_⟩
  · obtain ⟨a1, a2⟩ := hI2.2.2.2.1 d s hs
    exact ⟨by omega, a2⟩
  · by_cases e : s = S
    · subst e
      exact Or.inl n4
    · exact hI2.2.2.2.2 s (by omega)
  · by_cases e : s = S
    · subst e
      rw [hqe]
      exact ⟨n2, n3, n5, n6, trivial, fun j hj => absurd hj List.not_mem_nil⟩
    · exact hQ2 s (by omega)
  · by_cases e : x = S
    · subst e
      exact ⟨g9.trans n1.symm, Or.inr n1⟩
    · rw [g _ (by omega) (by omega) (by omega)]
      exact hU x (by omega)
/-- a server goes up that is in no list -/
theorem RT.up (H : RT nw sUp sLen sWrk sReg sFst sLst dCnt dIdl jFin jBeg jWs jSrv jLft jSub jWai jNxt S D J T r md Ls) {s : Nat} (hs : s < S) (hn : sReg s = -1) : RT (upd nw (9 + s) 1) (upd sUp s 1) sLen sWrk sReg sFst sLst dCnt dIdl jFin jBeg jWs jSrv jLft jSub jWai jNxt S D J T r md Ls := by
  obtain ⟨hI, hQ, hJb, hW, ⟨h0, hr⟩, h7, ⟨h6, hJ⟩, ⟨h5, hD⟩, ⟨h4, hS⟩, ⟨h2, hmd⟩, ⟨h1, hT⟩, hU⟩ := id H
  refine ⟨(hI.off hD hn (fun x hx => un hx) (fun _ _ => rfl)).cong hS (fun i _ _ => un (by omega)), hQ.cong hJ (fun i _ _ => un (by omega)), hJb.cong hJ (fun i _ _ => un (by omega)), hW.cong hJ (fun i _ _ => un (by omega)), ⟨by rw [un (by omega)]; exact h0, hr⟩, by rw [un (by omega)]; exact h7, ⟨by rw [un (by omega)]; exact h6, hJ⟩, ⟨by rw [un (by omega)]; exact h5, hD⟩, ⟨by rw [un (by omega)]; exact h4, hS⟩, ⟨by rw [un (by omega)]; exact h2, hmd⟩, ⟨by rw [un (by omega)]; exact h1, hT⟩, fun x hx => ?_⟩
  by_cases e : x = s
  · subst e
    rw [us, us]
    exact ⟨rfl, Or.inr rfl⟩
  · rw [un (by omega), un e]
    exact hU x hx
/-- a server goes down, and leaves its list -/
theorem RT.down (H : RT nw sUp sLen sWrk sReg sFst sLst dCnt dIdl jFin jBeg jWs jSrv jLft jSub jWai jNxt S D J T r md Ls) {s : Nat} (hs : s < S) {dCnt1 : Nat → Int32} {dIdl1 : Nat → Nat → Int32} (hX : ∀ d, d < 4 → dCnt1 d = nI (lsx Ls s d).length ∧ ents (dIdl1 d) (lsx Ls s d)) (hM : ∀ d, d < 4 → nw1 (57 + d) = nI (lsx Ls s d).length ∧ ents (fun k => nw1 (61 + 8 * d + k)) (lsx Ls s d)) (g : ∀ i, i ≠ 9 + s → (i < 57 ∨ 93 ≤ i) → nw1 i = nw i) (g9 : nw1 (9 + s) = 0) : RT nw1 (upd sUp s 0) sLen sWrk (upd sReg s (-1)) sFst sLst dCnt1 dIdl1 jFin jBeg jWs jSrv jLft jSub jWai jNxt S D J T r md (lsx Ls s) := by
  obtain ⟨hI, hQ, hJb, hW, ⟨h0, hr⟩, h7, ⟨h6, hJ⟩, ⟨h5, hD⟩, ⟨h4, hS⟩, ⟨h2, hmd⟩, ⟨h1, hT⟩, hU⟩ := id H
  refine ⟨hI.leave hX hM (fun x hx => un hx) (fun _ _ => rfl), hQ.cong hJ (fun i _ _ => g i (by omega) (by omega)), hJb.cong hJ (fun i _ _ => g i (by omega) (by omega)), hW.cong hJ (fun i _ _ => g i (by omega) (by omega)), ⟨(g 0 (by omega) (by omega)).trans h0, hr⟩, (g 7 (by omega) (by omega)).trans h7, ⟨(g 6 (by omega) (by omega)).trans h6, hJ⟩, ⟨(g 5 (by omega) (by omega)).trans h5, hD⟩, ⟨(g 4 (by omega) (by omega)).trans h4, hS⟩, ⟨(g 2 (by omega) (by omega)).trans h2, hmd⟩, ⟨(g 1 (by omega) (by omega)).trans h1, hT⟩, fun x hx => ?_⟩
  by_cases e : x = s
  · subst e
    rw [us]
    exact ⟨g9, Or.inl rfl⟩
  · rw [un e, g _ (by omega) (by omega)]
    exact hU x hx
end INVS
