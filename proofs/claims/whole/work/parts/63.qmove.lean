/-! How the queues move. -/
theorem i_pred {m : Nat} (hm : 1 ≤ m) (X : Int32) : nI m + X - 1 = nI (m - 1) + X := by
  have e : nI m = nI (m - 1) + 1 := by rw [nI_1, Nat.sub_add_cancel hm]
  rw [e, Int32.sub_eq_add_neg, Int32.add_assoc (nI (m - 1)) 1 X, Int32.add_comm 1 X, ← Int32.add_assoc, Int32.add_assoc _ 1 (-1), show (1 : Int32) + (-1) = 0 by decide, Int32.add_zero]
section QM
variable {nw nw1 sLen sWrk sFst sLst jNxt : Nat → Int32} {S J : Nat} {s h m : Nat} {t : List Nat}
theorem isQ_oth {v : Int32} {s1 : Nat} (hJ : J ≤ 200) (hh : h < J) (e93 : nw (93 + h) = nI s) (hs : s < 2 ^ 31) (hs1 : s1 < 2 ^ 31) (hne : s1 ≠ s) : que (upd nw (293 + h) v) (nI s1) J = que nw (nI s1) J := fil_cong (fun j hj => by
  unfold isQ
  rw [un (by omega)]
  by_cases e : j = h
  · subst e
    have e2 : ¬ nI s = nI s1 := fun z => hne ((nI_eq hs hs1).mp z).symm
    rw [e93, decide_eq_false e2]
    simp
  · rw [un (by omega)])
theorem que_work (hJ : J ≤ 200) (hq : que nw (nI s) J = h :: t) (em : nw (293 + h) = nI m) (hm : 2 ≤ m) (hm2 : m ≤ 20) : que (upd nw (293 + h) (nI (m - 1))) (nI s) J = h :: t := by
  rw [← hq]
  refine fil_cong (fun j hj => ?_)
  have hh : h < J := (que_in (nw := nw) (s := nI s) (by rw [hq]; exact List.mem_cons_self)).1
  unfold isQ
  rw [un (by omega)]
  by_cases e : j = h
  · subst e
    rw [us, em, decide_eq_true (nI_nle (by omega) (by omega)), decide_eq_true (nI_nle (by omega) (by omega))]
  · rw [un (by omega)]
theorem que_done (hJ : J ≤ 200) (hq : que nw (nI s) J = h :: t) : que (upd nw (293 + h) (nI 0)) (nI s) J = t := by
  have hh : h < J := (que_in (nw := nw) (s := nI s) (by rw [hq]; exact List.mem_cons_self)).1
  refine fil_drop hq ?_ (fun j hj hne => ?_)
  · unfold isQ
    rw [us, decide_eq_false (p := ¬ nI 0 ≤ 0) (by decide)]
    simp
  · unfold isQ
    rw [un (by omega), un (by omega)]
theorem RQ.oth (hR : RQ nw sLen sWrk sFst sLst jNxt S J) (hJ : J ≤ 200) (hS : S ≤ 8) (hs : s < S) (hq : que nw (nI s) J = h :: t) {v : Int32} {s1 : Nat} (hs1 : s1 < S) (hne : s1 ≠ s) : que (upd nw (293 + h) v) (nI s1) J = que nw (nI s1) J ∧ sWrk s1 = sumI (fun j => upd nw (293 + h) v (293 + j)) (que nw (nI s1) J) ∧ ∀ j ∈ (que nw (nI s1) J).tail, upd nw (293 + h) v (493 + j) = -1 := by
  obtain ⟨hh, e93, -⟩ := que_in (nw := nw) (s := nI s) (j := h) (J := J) (by rw [hq]; exact List.mem_cons_self)
  obtain ⟨-, a2, -, -, -, a6⟩ := hR s1 hs1
  refine ⟨isQ_oth hJ hh e93 (by omega) (by omega) hne, ?_, fun j hj => ?_⟩
  · rw [a2]
    refine sumI_cong (fun j hj => ?_)
    obtain ⟨-, f93, -⟩ := que_in hj
    have e : j ≠ h := fun z => by
      subst z
      rw [e93] at f93
      exact hne ((nI_eq (by omega) (by omega)).mp f93).symm
    rw [un (by omega)]
  · rw [un (by omega)]
    exact a6 j hj
theorem RQ.work (hR : RQ nw sLen sWrk sFst sLst jNxt S J) (hJ : J ≤ 200) (hS : S ≤ 8) (hs : s < S) (hq : que nw (nI s) J = h :: t) (em : nw (293 + h) = nI m) (hm : 2 ≤ m) (hm2 : m ≤ 20) : RQ (upd nw (293 + h) (nI (m - 1))) sLen (upd sWrk s (sWrk s - 1)) sFst sLst jNxt S J := by
  intro s1 hs1
  obtain ⟨hh, e93, -⟩ := que_in (nw := nw) (s := nI s) (j := h) (J := J) (by rw [hq]; exact List.mem_cons_self)
  obtain ⟨a1, a2, a3, a4, a5, a6⟩ := hR s1 hs1
  by_cases e : s1 = s
  · subst e
    rw [que_work hJ hq em hm hm2]
    rw [hq] at a1 a2 a3 a4 a5 a6
    have hn : (h :: t).Nodup := hq ▸ fil_nodup _ J
    refine ⟨a1, ?_, a3, a4, a5, fun j hj => by rw [un (by omega)]; exact a6 j hj⟩
    rw [us, a2, sumI_head (f := fun j => nw (293 + j)) hn (fun j hj => un (by omega))]
    show nw (293 + h) + sumI _ t - 1 = _
    rw [em, us, i_pred (by omega)]
  · obtain ⟨b1, b2, b3⟩ := hR.oth hJ hS hs hq (v := nI (m - 1)) hs1 e
    rw [b1, un e]
    exact ⟨a1, b2, a3, a4, a5, b3⟩
theorem RQ.done (hR : RQ nw sLen sWrk sFst sLst jNxt S J) (hJ : J ≤ 200) (hS : S ≤ 8) (hs : s < S) (hq : que nw (nI s) J = h :: t) (em : nw (293 + h) = nI 1) {sLst1 : Nat → Int32} (hl : sLst1 s = lastI t) (hl2 : ∀ x, x ≠ s → sLst1 x = sLst x) : RQ (upd nw (293 + h) (nI 0)) (upd sLen s (sLen s - 1)) (upd sWrk s (sWrk s - 1)) (upd sFst s (jNxt h)) sLst1 jNxt S J := by
  intro s1 hs1
  obtain ⟨hh, e93, -⟩ := que_in (nw := nw) (s := nI s) (j := h) (J := J) (by rw [hq]; exact List.mem_cons_self)
  obtain ⟨a1, a2, a3, a4, a5, a6⟩ := hR s1 hs1
  by_cases e : s1 = s
  · subst e
    rw [que_done hJ hq]
    rw [hq] at a1 a2 a3 a4 a5 a6
    have hn : (h :: t).Nodup := hq ▸ fil_nodup _ J
    refine ⟨?_, ?_, ?_, hl, (lnk_tail a5).2, fun j hj => by rw [un (by omega)]; exact a6 j (List.mem_of_mem_tail hj)⟩
    · rw [us, a1, List.length_cons, nI_pred]
    · rw [us, a2]
      show nw (293 + h) + sumI _ t - 1 = _
      rw [em, i_pred (by omega), show nI (1 - 1) = 0 from rfl, Int32.zero_add]
      refine sumI_cong (fun j hj => ?_)
      have hjne : j ≠ h := fun e9 => (List.nodup_cons.mp hn).1 (e9 ▸ hj)
      rw [un (by omega)]
    · rw [us]
      exact (lnk_tail a5).1
  · obtain ⟨b1, b2, b3⟩ := hR.oth hJ hS hs hq (v := nI 0) hs1 e
    rw [b1, un e, un e, un e, hl2 s1 e]
    exact ⟨a1, b2, a3, a4, a5, b3⟩
end QM
