/-! The common divisor, and whether some server is idle. -/
theorem b_common {k : Int32 → Prop} : ∀ (fu b a : Nat), b < fu → b < 2 ^ 31 → a < 2 ^ 31 → k (nI (Nat.gcd b a)) → wp_X5_common_L4 k fu (nI b) (nI a) := by
  intro fu
  induction fu with
  | zero => intro b a h; exact absurd h (by omega)
  | succ fu ih =>
    intro b a h hb ha hk
    by_cases e : b = 0
    · subst e
      rw [Nat.gcd_zero_left] at hk
      exact ⟨fun _ => hk, fun q => absurd rfl q⟩
    · refine ⟨fun q => absurd q (nI_ne0 (by omega) hb), fun q => ⟨q, fun x5 e5 => ?_⟩⟩
      have hm : a % b < b := Nat.mod_lt _ (by omega)
      rw [pk_rem ha (by omega) hb] at e5
      rw [e5]
      refine ih (a % b) b (by omega) (by omega) hb ?_
      rw [← Nat.gcd_rec]
      exact hk
theorem b_gcd5 {k : Int32 → Prop} {a b : Nat} (ha : a < 2 ^ 31) (hb : b < 2 ^ 31) (hk : k (nI (Nat.gcd b a))) : wp_X5_common (nI a) (nI b) k := ⟨b + 1, b_common (b + 1) b a (by omega) hb ha hk⟩
theorem b_gcd4 {k : Int32 → Prop} {a b : Nat} (ha : a < 2 ^ 31) (hb : b < 2 ^ 31) (h0 : 0 < b) (hk : k (nI (Nat.gcd b a))) : wp_X4_commonDivisor (nI a) (nI b) k := by
  have hg : 0 < Nat.gcd b a := Nat.gcd_pos_of_pos_left _ h0
  have hgb : Nat.gcd b a ∣ b := Nat.gcd_dvd_left b a
  have hga : Nat.gcd b a ∣ a := Nat.gcd_dvd_right b a
  have main : ∀ x, x < 2 ^ 31 → Nat.gcd b a ≤ x → wp_X4_commonDivisor_L2 k (nI a) (nI b) (x + 1) (nI x) := by
    intro x
    induction x with
    | zero => intro _ h; exact absurd h (by omega)
    | succ x ih =>
      intro hx h
      by_cases e : x + 1 ≤ 1
      · have e2 : Nat.gcd b a = 1 := by omega
        rw [e2] at hk
        exact ⟨fun _ => hk, fun q => absurd (nI_le (b := 1) e (by decide)) q⟩
      · have hm1 : nI (x + 1) + (-1) = nI x := pk_m1 x
        have hstep : ¬ (x + 1 = Nat.gcd b a) → ∀ x5 : Int32, x5 = nI (x + 1) + (-1) → wp_X4_commonDivisor_L2 k (nI a) (nI b) (x + 1) x5 := fun hne x5 e5 => by
          rw [hm1] at e5
          rw [e5]
          exact ih (by omega) (by omega)
        refine ⟨fun q => absurd ((nI_leI (b := 1) (by omega) (by decide)).mp q) e, fun _ => ⟨nI_ne0 (by omega) hx, ?_⟩⟩
        rw [pk_rem ha (by omega) hx, pk_rem hb (by omega) hx]
        by_cases q1 : a % (x + 1) = 0
        · by_cases q2 : b % (x + 1) = 0
          · have e3 : x + 1 = Nat.gcd b a := by
              have h9 := Nat.le_of_dvd hg (Nat.dvd_gcd (Nat.dvd_of_mod_eq_zero q2) (Nat.dvd_of_mod_eq_zero q1))
              omega
            rw [← e3] at hk
            exact ⟨fun _ => ⟨fun _ => hk, fun q => absurd (by rw [q2]; rfl) q⟩, fun q => absurd (by rw [q1]; rfl) q⟩
          · have hne : ¬ (x + 1 = Nat.gcd b a) := fun e3 => q2 (Nat.mod_eq_zero_of_dvd (e3 ▸ hgb))
            have hb2 : b % (x + 1) < x + 1 := Nat.mod_lt _ (by omega)
            exact ⟨fun _ => ⟨fun q => absurd q (nI_ne0 (by omega) (by omega)), fun _ => hstep hne⟩, fun q => absurd (by rw [q1]; rfl) q⟩
        · have hne : ¬ (x + 1 = Nat.gcd b a) := fun e3 => q1 (Nat.mod_eq_zero_of_dvd (e3 ▸ hga))
          have ha2 : a % (x + 1) < x + 1 := Nat.mod_lt _ (by omega)
          exact ⟨fun q => absurd q (nI_ne0 (by omega) (by omega)), fun _ => hstep hne⟩
  exact ⟨b + 1, main b hb (Nat.le_of_dvd h0 hgb)⟩
section ANY
variable {nw sUp sLen cd : Nat → Int32} {S J : Nat}
theorem b_anyIdle (hK : LK nw sLen S J) (hS : S ≤ 8) (hc2 : ents cd (ups sUp S)) :
    ∃ r : Int32, (r = 0 ∨ r = 1) ∧ (∀ k : Int32 → Prop, k r → wp_X3_anyIdle (nI S) sUp sLen k) ∧ (∀ k : Int32 → Prop, k r → wp_X5_isSomeIdle nw cd (nI (ups sUp S).length) k) := by
  have h8 := ups_len (sUp := sUp) S
  have hX : ∀ (r : Int32), ((r = 1 ∧ ∃ s, s ∈ ups sUp S ∧ sLen s = 0) ∨ (r = 0 ∧ ∀ s, s ∈ ups sUp S → ¬ sLen s = 0)) → ∀ k : Int32 → Prop, k r → ∀ n i, n + i = S → (∀ s, s < i → ¬ sUp s = 0 → ¬ sLen s = 0) → wp_X3_anyIdle_L2 (nI S) k sUp sLen (n + 1) (nI i) := by
    intro r hr k hk n
    induction n with
    | zero =>
      intro i hi hno
      have e : i = S := by omega
      subst e
      refine ⟨fun _ => ?_, fun q => absurd (nI_le (Nat.le_refl _) (by omega)) q⟩
      rcases hr with ⟨-, s, hs, hz⟩ | ⟨e, -⟩
      · exact absurd hz (hno s (ups_lt hs).1 (ups_lt hs).2)
      · rw [e] at hk; exact hk
    | succ n ih =>
      intro i hi hno
      have hstep : (¬ sUp i = 0 → ¬ sLen i = 0) → ∀ x6 : Int32, x6 = nI i + 1 → wp_X3_anyIdle_L2 (nI S) k sUp sLen (n + 1) x6 := fun h9 x6 e6 => by
        rw [nI_1] at e6
        rw [e6]
        refine ih (i + 1) (by omega) (fun s hs => ?_)
        by_cases e : s = i
        · subst e; exact h9
        · exact hno s (by omega)
      refine ⟨fun q => absurd q (nI_ge (by omega) (by omega)), fun _ => ⟨vp_in_nI (by omega) (by decide), ?_⟩⟩
      rw [nI_clamp (n := i) (by omega)]
      refine ⟨fun q => ⟨fun _ => hstep (fun z => absurd q z), fun z => absurd rfl z⟩, fun q => ⟨fun q2 => ⟨fun z => absurd z (by decide), fun _ => ?_⟩, fun q2 => ⟨fun _ => hstep (fun _ => q2), fun z => absurd rfl z⟩⟩⟩
      rcases hr with ⟨e, -⟩ | ⟨-, h9⟩
      · rw [e] at hk; exact hk
      · exact absurd q2 (h9 i (List.mem_filter.mpr ⟨List.mem_range.mpr (by omega), decide_eq_true q⟩))
  have hM : ∀ (r : Int32), ((r = 1 ∧ ∃ s, s ∈ ups sUp S ∧ sLen s = 0) ∨ (r = 0 ∧ ∀ s, s ∈ ups sUp S → ¬ sLen s = 0)) → ∀ k : Int32 → Prop, k r → ∀ n i (x : Int32), n + i = (ups sUp S).length → ((x = 1 ∧ ∃ s, s ∈ (ups sUp S).take i ∧ sLen s = 0) ∨ (x = 0 ∧ ∀ s, s ∈ (ups sUp S).take i → ¬ sLen s = 0)) → wp_X5_isSomeIdle_L4 (nI (ups sUp S).length) k nw cd (n + 1) (nI i) x := by
    intro r hr k hk n
    induction n with
    | zero =>
      intro i x hi hx
      have e : i = (ups sUp S).length := by omega
      subst e
      rw [List.take_length] at hx
      have e9 : x = r := by
        rcases hx with ⟨e, s, hs, hz⟩ | ⟨e, h9⟩
        · rcases hr with ⟨e1, -⟩ | ⟨-, h9⟩
          · rw [e, e1]
          · exact absurd hz (h9 s hs)
        · rcases hr with ⟨-, s, hs, hz⟩ | ⟨e1, -⟩
          · exact absurd hz (h9 s hs)
          · rw [e, e1]
      rw [e9]
      refine ⟨fun _ => ⟨(bool01 (hr.elim (fun z => Or.inr z.1) (fun z => Or.inl z.1))).1, hk⟩, fun q => absurd (nI_le (Nat.le_refl _) (by omega)) q⟩
    | succ n ih =>
      intro i x hi hx
      have hlt : i < (ups sUp S).length := by omega
      have ht : (ups sUp S).take (i + 1) = (ups sUp S).take i ++ [(ups sUp S)[i]] := by rw [List.take_succ, List.getElem?_eq_some_iff.mpr ⟨hlt, rfl⟩]; rfl
      have hm : (ups sUp S)[i] ∈ (ups sUp S) := List.getElem_mem hlt
      refine ⟨fun q => absurd q (nI_ge hlt (by omega)), fun _ => ?_⟩
      rcases hx with ⟨e, s, hs, hz⟩ | ⟨e, h9⟩
      · rw [e]
        refine ⟨fun z => absurd z (by decide), fun _ x6 e6 => ?_⟩
        rw [nI_1] at e6
        rw [e6]
        exact ih (i + 1) 1 (by omega) (Or.inl ⟨rfl, s, by rw [ht]; exact List.mem_append_left _ hs, hz⟩)
      · rw [e]
        refine ⟨fun _ => ⟨vp_in_nI (by omega) (by decide), hK.lenx (by rw [nI_clamp (n := i) (by omega), ents_at hc2 hlt]) (ups_lt hm).1 ⟨fun q x6 e6 => ?_, fun q x6 e6 => ?_⟩⟩, fun z => absurd rfl z⟩
        · rw [nI_1] at e6
          rw [e6]
          exact ih (i + 1) 1 (by omega) (Or.inl ⟨rfl, _, by rw [ht]; exact List.mem_append_right _ List.mem_cons_self, q⟩)
        · rw [nI_1] at e6
          rw [e6]
          refine ih (i + 1) 0 (by omega) (Or.inr ⟨rfl, fun s hs => ?_⟩)
          rw [ht] at hs
          rcases List.mem_append.mp hs with z | z
          · exact h9 s z
          · rw [List.mem_singleton.mp z]; exact q
  by_cases hP : ∃ s, s ∈ ups sUp S ∧ sLen s = 0
  · exact ⟨1, Or.inr rfl, fun k hk => ⟨S + 1, hX 1 (Or.inl ⟨rfl, hP⟩) k hk S 0 (by omega) (fun s hs => absurd hs (by omega))⟩, fun k hk => ⟨(ups sUp S).length + 1, hM 1 (Or.inl ⟨rfl, hP⟩) k hk _ 0 0 (by omega) (Or.inr ⟨rfl, fun s hs => by simp at hs⟩)⟩⟩
  · have hP2 : ∀ s, s ∈ ups sUp S → ¬ sLen s = 0 := fun s hs hz => hP ⟨s, hs, hz⟩
    exact ⟨0, Or.inl rfl, fun k hk => ⟨S + 1, hX 0 (Or.inr ⟨rfl, hP2⟩) k hk S 0 (by omega) (fun s hs => absurd hs (by omega))⟩, fun k hk => ⟨(ups sUp S).length + 1, hM 0 (Or.inr ⟨rfl, hP2⟩) k hk _ 0 0 (by omega) (Or.inr ⟨rfl, fun s hs => by simp at hs⟩)⟩⟩
end ANY
