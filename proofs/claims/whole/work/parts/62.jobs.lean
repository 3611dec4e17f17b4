/-! What holds of the jobs and of the queues. -/
def RJ (nw jSrv jLft jSub jWai : Nat → Int32) (J T : Nat) : Prop := ∀ j, j < J → nw (93 + j) = jSrv j ∧ nw (293 + j) = jLft j ∧ nw (493 + j) = jWai j ∧ nw (693 + j) = jSub j ∧ (∃ m, m ≤ 20 ∧ jLft j = nI m) ∧ (∃ b, b ≤ T ∧ jSub j = nI b)
def RQ (nw sLen sWrk sFst sLst jNxt : Nat → Int32) (S J : Nat) : Prop := ∀ s, s < S → sLen s = nI (que nw (nI s) J).length ∧ sWrk s = sumI (fun j => nw (293 + j)) (que nw (nI s) J) ∧ sFst s = hdI (que nw (nI s) J) ∧ sLst s = lastI (que nw (nI s) J) ∧ lnk jNxt (que nw (nI s) J) ∧ ∀ j ∈ (que nw (nI s) J).tail, nw (493 + j) = -1
def RW (nw : Nat → Int32) (jBeg jWs : Int32) (J : Nat) : Prop := jBeg = nI (wts nw J).length ∧ jWs = sumI (fun j => nw (493 + j)) (wts nw J)
section JOB
variable {nw nw1 sUp sLen sWrk sReg sFst sLst dCnt jSrv jLft jSub jWai jNxt : Nat → Int32} {jBeg jWs : Int32} {S J T : Nat}
theorem que_in {s : Int32} {j : Nat} (h : j ∈ que nw s J) : j < J ∧ nw (93 + j) = s ∧ ¬ nw (293 + j) ≤ 0 := by
  obtain ⟨h1, h2⟩ := fil_lt h
  have h3 := Bool.and_eq_true_iff.mp h2
  exact ⟨h1, of_decide_eq_true h3.1, of_decide_eq_true h3.2⟩
theorem RJ.cong (h : RJ nw jSrv jLft jSub jWai J T) (hJ : J ≤ 200) (h1 : ∀ i, 93 ≤ i → i < 893 → nw1 i = nw i) : RJ nw1 jSrv jLft jSub jWai J T := fun j hj => by
  rw [h1 _ (by omega) (by omega), h1 _ (by omega) (by omega), h1 _ (by omega) (by omega), h1 _ (by omega) (by omega)]
  exact h j hj
theorem RQ.cong (h : RQ nw sLen sWrk sFst sLst jNxt S J) (hJ : J ≤ 200) (h1 : ∀ i, 93 ≤ i → i < 893 → nw1 i = nw i) : RQ nw1 sLen sWrk sFst sLst jNxt S J := fun s hs => by
  have e : que nw1 (nI s) J = que nw (nI s) J := que_cong hJ (fun i a b => h1 i a (by omega))
  obtain ⟨a1, a2, a3, a4, a5, a6⟩ := h s hs
  rw [e]
  refine ⟨a1, ?_, a3, a4, a5, fun j hj => ?_⟩
  · rw [a2]
    exact sumI_cong (fun j hj => by have := (que_in hj).1; exact (h1 _ (by omega) (by omega)).symm)
  · have := (que_in (List.mem_of_mem_tail hj)).1
    rw [h1 _ (by omega) (by omega)]
    exact a6 j hj
theorem wts_cong (hJ : J ≤ 200) (h1 : ∀ i, 493 ≤ i → i < 693 → nw1 i = nw i) : wts nw1 J = wts nw J := fil_cong (fun j hj => by unfold isW; rw [h1 _ (by omega) (by omega)])
theorem RW.cong (h : RW nw jBeg jWs J) (hJ : J ≤ 200) (h1 : ∀ i, 493 ≤ i → i < 693 → nw1 i = nw i) : RW nw1 jBeg jWs J := by
  unfold RW
  rw [wts_cong hJ h1]
  refine ⟨h.1, ?_⟩
  rw [h.2]
  exact sumI_cong (fun j hj => by have := (fil_lt hj).1; exact (h1 _ (by omega) (by omega)).symm)
theorem RQ.lk (h : RQ nw sLen sWrk sFst sLst jNxt S J) (hJ : J ≤ 200) (h6 : nw 6 = nI J) : LK nw sLen S J := ⟨h6, hJ, fun s hs => (h s hs).1⟩
end JOB
