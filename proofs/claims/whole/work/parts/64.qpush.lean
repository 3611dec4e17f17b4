section QP
variable {nw nw1 sLen sWrk sFst sLst jNxt jSrv jLft jSub jWai : Nat → Int32} {jBeg jWs : Int32} {S J T : Nat} {s b h z : Nat} {t : List Nat}
theorem RQ.wait (hR : RQ nw sLen sWrk sFst sLst jNxt S J) (hJ : J ≤ 200) (hS : S ≤ 8) (hs : s < S) (hq : que nw (nI s) J = b :: t) (v : Int32) : RQ (upd nw (493 + b) v) sLen sWrk sFst sLst jNxt S J := by
  intro s1 hs1
  obtain ⟨hh, e93, -⟩ := que_in (nw := nw) (s := nI s) (j := b) (J := J) (by rw [hq]; exact List.mem_cons_self)
  obtain ⟨a1, a2, a3, a4, a5, a6⟩ := hR s1 hs1
  have e : que (upd nw (493 + b) v) (nI s1) J = que nw (nI s1) J := que_cong hJ (fun i _ _ => un (by omega))
  rw [e]
  refine ⟨a1, ?_, a3, a4, a5, fun j hj => ?_⟩
  · rw [a2]
    refine sumI_cong (fun j hj => ?_)
    have := (que_in hj).1
    rw [un (by omega)]
  · have hne : j ≠ b := by
      intro e9
      subst e9
      by_cases e8 : s1 = s
      · subst e8
        rw [hq] at hj
        have hn : (j :: t).Nodup := hq ▸ fil_nodup _ J
        exact (List.nodup_cons.mp hn).1 hj
      · have f93 := (que_in (List.mem_of_mem_tail hj)).2.1
        rw [e93] at f93
        exact e8 ((nI_eq (by omega) (by omega)).mp f93).symm
    rw [un (by omega)]
    exact a6 j hj
theorem RW.add (hR : RW nw jBeg jWs J) (hb : b < J) (h0 : nw (493 + b) = -1) {v : Int32} (hv : ¬ v = -1) : RW (upd nw (493 + b) v) (jBeg + 1) (jWs + v) J := by
  have h9 := fil_add (p := isW nw) (p1 := isW (upd nw (493 + b) v)) (h := b) hb (by unfold isW; rw [h0]; decide) (by unfold isW; rw [us]; exact decide_eq_true hv) (fun j hj => by unfold isW; rw [un (by omega)]) (fun j => nw (493 + j)) (fun j => upd nw (493 + b) v (493 + j)) (fun j hj => un (by omega))
  refine ⟨?_, ?_⟩
  · show jBeg + 1 = nI ((List.range J).filter _).length
    rw [h9.2, hR.1, nI_1]
    rfl
  · show jWs + v = sumI _ ((List.range J).filter _)
    rw [h9.1, hR.2]
    show _ = _ + upd nw (493 + b) v (493 + b)
    rw [us]
    rfl
theorem RJ.left (hR : RJ nw jSrv jLft jSub jWai J T) (hJ : J ≤ 200) (hh : h < J) {m : Nat} (hm : m ≤ 20) : RJ (upd nw (293 + h) (nI m)) jSrv (upd jLft h (nI m)) jSub jWai J T := by
  intro j hj
  obtain ⟨a1, a2, a3, a4, a5, a6⟩ := hR j hj
  rw [un (by omega), un (j := 493 + j) (by omega), un (j := 693 + j) (by omega)]
  by_cases e : j = h
  · subst e
    rw [us, us]
    exact ⟨a1, rfl, a3, a4, ⟨m, hm, rfl⟩, a6⟩
  · rw [un (by omega), un e]
    exact ⟨a1, a2, a3, a4, a5, a6⟩
theorem RJ.wait (hR : RJ nw jSrv jLft jSub jWai J T) (hJ : J ≤ 200) (hb : b < J) (v : Int32) : RJ (upd nw (493 + b) v) jSrv jLft jSub (upd jWai b v) J T := by
  intro j hj
  obtain ⟨a1, a2, a3, a4, a5, a6⟩ := hR j hj
  rw [un (by omega), un (j := 293 + j) (by omega), un (j := 693 + j) (by omega)]
  by_cases e : j = b
  · subst e
    rw [us, us]
    exact ⟨a1, a2, rfl, a4, a5, a6⟩
  · rw [un (by omega), un e]
    exact ⟨a1, a2, a3, a4, a5, a6⟩
theorem RJ.mono (hR : RJ nw jSrv jLft jSub jWai J T) {T1 : Nat} (hT : T ≤ T1) : RJ nw jSrv jLft jSub jWai J T1 := fun j hj => by
  obtain ⟨a1, a2, a3, a4, a5, b, hb, eb⟩ := hR j hj
  exact ⟨a1, a2, a3, a4, a5, b, Nat.le_trans hb hT, eb⟩
theorem que_push {s1 : Nat} (hJ : J < 200) (hs : s < 2 ^ 31) (hs1 : s1 < 2 ^ 31) (h1 : ∀ j, j < J → nw1 (93 + j) = nw (93 + j) ∧ nw1 (293 + j) = nw (293 + j)) (e93 : nw1 (93 + J) = nI s) (e293 : nw1 (293 + J) = nI z) (hz : 1 ≤ z) (hz2 : z ≤ 20) : que nw1 (nI s1) (J + 1) = if s1 = s then que nw (nI s1) J ++ [J] else que nw (nI s1) J := by
  have e0 : (List.range J).filter (isQ nw1 (nI s1)) = que nw (nI s1) J := fil_cong (fun j hj => by unfold isQ; rw [(h1 j hj).1, (h1 j hj).2])
  by_cases e : s1 = s
  · subst e
    rw [if_pos rfl]
    unfold que
    rw [fil_y (by unfold isQ; rw [e93, e293, decide_eq_true rfl, decide_eq_true (nI_nle (by omega) (by omega))]; rfl), e0]
    rfl
  · rw [if_neg e]
    unfold que
    rw [fil_n (by unfold isQ; rw [e93, decide_eq_false (fun q => e ((nI_eq hs hs1).mp q).symm)]; simp), e0]
    rfl
theorem RQ.push (hR : RQ nw sLen sWrk sFst sLst jNxt S J) (hJ : J < 200) (hS : S ≤ 8) (hs : s < S) (h1 : ∀ j, j < J → nw1 (93 + j) = nw (93 + j) ∧ nw1 (293 + j) = nw (293 + j) ∧ nw1 (493 + j) = nw (493 + j)) (e93 : nw1 (93 + J) = nI s) (e293 : nw1 (293 + J) = nI z) (hz : 1 ≤ z) (hz2 : z ≤ 20) {sFst1 jNxt1 : Nat → Int32} (hf : sFst1 s = hdI (que nw (nI s) J ++ [J])) (hf2 : ∀ x, x ≠ s → sFst1 x = sFst x) (hn : jNxt1 J = -1) (hn2 : ∀ y, (que nw (nI s) J).getLast? = some y → jNxt1 y = nI J ∧ nw1 (493 + J) = -1) (hn3 : ∀ y, y < J → (que nw (nI s) J).getLast? ≠ some y → jNxt1 y = jNxt y) :
    RQ nw1 (upd sLen s (sLen s + 1)) (upd sWrk s (sWrk s + nI z)) sFst1 (upd sLst s (nI J)) jNxt1 S (J + 1) := by
  intro s1 hs1
  obtain ⟨a1, a2, a3, a4, a5, a6⟩ := hR s1 hs1
  have hqe := que_push (nw := nw) (nw1 := nw1) (s := s) (s1 := s1) hJ (by omega) (by omega) (fun j hj => ⟨(h1 j hj).1, (h1 j hj).2.1⟩) e93 e293 hz hz2
  have hsum : sumI (fun j => nw1 (293 + j)) (que nw (nI s1) J) = sumI (fun j => nw (293 + j)) (que nw (nI s1) J) := sumI_cong (fun j hj => (h1 j (que_in hj).1).2.1)
  by_cases e : s1 = s
  · subst e
    rw [if_pos rfl] at hqe
    rw [hqe, us, us, us, lastI_snoc, sumI_snoc, hsum, e293, List.length_append, a1, a2]
    refine ⟨by rw [nI_1]; rfl, rfl, hf, rfl, ?_, fun j hj => ?_⟩
    · by_cases hne : que nw (nI s1) J = []
      · rw [hne]
        exact hn
      · obtain ⟨y, y1, y2, -⟩ := last_of hne
        exact lnk_snoc _ (fil_nodup _ J) y1 a5 hn (hn2 y y1).1 (fun x hx hxy => hn3 x (que_in hx).1 (fun q => hxy (Option.some.inj (q.symm.trans y1))))
    · by_cases hne : que nw (nI s1) J = []
      · rw [hne] at hj
        exact absurd hj List.not_mem_nil
      · obtain ⟨y, y1, y2, -⟩ := last_of hne
        rw [List.tail_append_of_ne_nil hne] at hj
        rcases List.mem_append.mp hj with q | q
        · rw [(h1 j (que_in (List.mem_of_mem_tail q)).1).2.2]
          exact a6 j q
        · rw [List.mem_singleton.mp q]
          exact (hn2 y y1).2
  · rw [if_neg e] at hqe
    rw [hqe, un e, un e, un e, hsum, hf2 s1 e]
    refine ⟨a1, a2, a3, a4, ?_, fun j hj => by rw [(h1 j (que_in (List.mem_of_mem_tail hj)).1).2.2]; exact a6 j hj⟩
    refine lnk_cong (fun y hy => hn3 y (que_in hy).1 (fun q => ?_)) a5
    have f1 := (que_in hy).2.1
    have f2 := (que_in (List.mem_of_getLast? q)).2.1
    rw [f1] at f2
    exact e ((nI_eq (by omega) (by omega)).mp f2)
end QP
