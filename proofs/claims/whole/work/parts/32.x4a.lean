noncomputable def wp_X4_requireRange (v : Int32) (least : Int32) (most : Int32) (k : Prop) (kx : String → Prop) : Prop := (v < least → (kx "java/lang/IllegalArgumentException")) ∧ (¬ (v < least) → ((v ≤ most → (k)) ∧ (¬ (v ≤ most) → (kx "java/lang/IllegalArgumentException"))))
set_option maxRecDepth 100000 in
set_option maxHeartbeats 4000000 in
theorem c_X4_requireRange (l : Launch) (hlt : l.stackTraces = false) {E : EV} {P : Heap → Prop} {A : Nat → Prop} (hgr : ∀ H H1 : Heap, P H → H.size ≤ H1.size → (∀ q : Nat, q < H.size → H1[q]? = H[q]?) → P H1) (v : Int32) (least : Int32) (most : Int32)  (k : Prop) (kx : String → Prop) (h : wp_X4_requireRange  v least most k kx) : vx_Met l yX4_requireRange wsX4_requireRange { frames := 6, cells := 1, slots := 6, locals := 90 } (va_Pc [.int v, .int least, .int most] (fun U => P U.heap ∧ XT E A U)) (kQv (fun H => k ∧ P H) A) (kXC (fun X9 H => kx X9 ∧ P H) A) 1 6 A := by
  refine kx_body (cc := cX4_requireRange) (own := RX4) (maxL := 3) (ret := none) (lv0 := [(0, .int v), (1, .int least), (2, .int most)]) (by decide) rfl rfl (Nat.le_of_ble_eq_true rfl) rfl (fun p e s m below meth c C hr hlk htab hP hX => ?_)
  have hE := hX.1
  have lk0 := C.2.2.2.2 (.classLink RX4 184 "java/lang/IllegalArgumentException") (by decide +kernel)
  have lk1 := C.2.2.2.2 (.initialized "java/lang/IllegalArgumentException") (by decide +kernel)
  refine k_iload_n C dX4_requireRange_0 0 rfl ?_
  refine k_iload_n C dX4_requireRange_1 1 rfl ?_
  refine k_icmp_lt (tgt := 10) C dX4_requireRange_2 (by decide) (fun c1 => ?_) (fun c1 => ?_)
  · replace h := h.1 c1
    exact kx_throw C hlt hX hX.2.1.2.1 (by decide) lk0 lk1 (hat_188 (fun w hw => C.2.2.2.2 w (List.mem_cons_of_mem _ (List.mem_append_right _ hw))) hX.2.2.1) hgood_188 dX4_requireRange_10 dX4_requireRange_13 dX4_requireRange_14 dX4_requireRange_16 dX4_requireRange_19 htab (Nat.le_of_ble_eq_true rfl) (Nat.le_of_ble_eq_true rfl) (Nat.le_of_ble_eq_true rfl) (Nat.le_of_ble_eq_true rfl) hlk (Nat.le_of_ble_eq_true rfl) (Nat.le_of_ble_eq_true rfl) (fun H H1 hP hz hk => ⟨h, hgr H H1 hP hz hk⟩)
  · replace h := h.2 c1
    refine k_iload_n C dX4_requireRange_5 0 rfl ?_
    refine k_iload_n C dX4_requireRange_6 2 rfl ?_
    refine k_icmp_le (tgt := 20) C dX4_requireRange_7 (by decide) (fun c2 => ?_) (fun c2 => ?_)
    · replace h := h.1 c2
      exact kx_ret (Nat.le_of_ble_eq_true rfl) (Nat.le_of_ble_eq_true rfl) (k_vret C hr hlk dX4_requireRange_20 (fun H hP => ⟨h, hP⟩))
    · replace h := h.2 c2
      exact kx_throw C hlt hX hX.2.1.2.1 (by decide) lk0 lk1 (hat_188 (fun w hw => C.2.2.2.2 w (List.mem_cons_of_mem _ (List.mem_append_right _ hw))) hX.2.2.1) hgood_188 dX4_requireRange_10 dX4_requireRange_13 dX4_requireRange_14 dX4_requireRange_16 dX4_requireRange_19 htab (Nat.le_of_ble_eq_true rfl) (Nat.le_of_ble_eq_true rfl) (Nat.le_of_ble_eq_true rfl) (Nat.le_of_ble_eq_true rfl) hlk (Nat.le_of_ble_eq_true rfl) (Nat.le_of_ble_eq_true rfl) (fun H H1 hP hz hk => ⟨h, hgr H H1 hP hz hk⟩)
noncomputable def wp_X4_requireIndex (index : Int32) (count : Int32) (k : Prop) (kx : String → Prop) : Prop := (index < 0 → (kx "java/lang/IndexOutOfBoundsException")) ∧ (¬ (index < 0) → ((index < count → (k)) ∧ (¬ (index < count) → (kx "java/lang/IndexOutOfBoundsException"))))
set_option maxRecDepth 100000 in
set_option maxHeartbeats 4000000 in
theorem c_X4_requireIndex (l : Launch) (hlt : l.stackTraces = false) {E : EV} {P : Heap → Prop} {A : Nat → Prop} (hgr : ∀ H H1 : Heap, P H → H.size ≤ H1.size → (∀ q : Nat, q < H.size → H1[q]? = H[q]?) → P H1) (index : Int32) (count : Int32)  (k : Prop) (kx : String → Prop) (h : wp_X4_requireIndex  index count k kx) : vx_Met l yX4_requireIndex wsX4_requireIndex { frames := 6, cells := 1, slots := 6, locals := 90 } (va_Pc [.int index, .int count] (fun U => P U.heap ∧ XT E A U)) (kQv (fun H => k ∧ P H) A) (kXC (fun X9 H => kx X9 ∧ P H) A) 1 6 A := by
  refine kx_body (cc := cX4_requireIndex) (own := RX4) (maxL := 2) (ret := none) (lv0 := [(0, .int index), (1, .int count)]) (by decide) rfl rfl (Nat.le_of_ble_eq_true rfl) rfl (fun p e s m below meth c C hr hlk htab hP hX => ?_)
  have hE := hX.1
  have lk0 := C.2.2.2.2 (.classLink RX4 198 "java/lang/IndexOutOfBoundsException") (by decide +kernel)
  have lk1 := C.2.2.2.2 (.initialized "java/lang/IndexOutOfBoundsException") (by decide +kernel)
  refine k_iload_n C dX4_requireIndex_0 0 rfl ?_
  refine k_if_lt (tgt := 9) C dX4_requireIndex_1 (by decide) (fun c1 => ?_) (fun c1 => ?_)
  · replace h := h.1 c1
    exact kx_throw C hlt hX hX.2.1.2.2.2.2.2.2.2.1 (by decide) lk0 lk1 (hat_202 (fun w hw => C.2.2.2.2 w (List.mem_cons_of_mem _ (List.mem_append_right _ hw))) hX.2.2.1) hgood_202 dX4_requireIndex_9 dX4_requireIndex_12 dX4_requireIndex_13 dX4_requireIndex_15 dX4_requireIndex_18 htab (Nat.le_of_ble_eq_true rfl) (Nat.le_of_ble_eq_true rfl) (Nat.le_of_ble_eq_true rfl) (Nat.le_of_ble_eq_true rfl) hlk (Nat.le_of_ble_eq_true rfl) (Nat.le_of_ble_eq_true rfl) (fun H H1 hP hz hk => ⟨h, hgr H H1 hP hz hk⟩)
  · replace h := h.2 c1
    refine k_iload_n C dX4_requireIndex_4 0 rfl ?_
    refine k_iload_n C dX4_requireIndex_5 1 rfl ?_
    refine k_icmp_lt (tgt := 19) C dX4_requireIndex_6 (by decide) (fun c2 => ?_) (fun c2 => ?_)
    · replace h := h.1 c2
      exact kx_ret (Nat.le_of_ble_eq_true rfl) (Nat.le_of_ble_eq_true rfl) (k_vret C hr hlk dX4_requireIndex_19 (fun H hP => ⟨h, hP⟩))
    · replace h := h.2 c2
      exact kx_throw C hlt hX hX.2.1.2.2.2.2.2.2.2.1 (by decide) lk0 lk1 (hat_202 (fun w hw => C.2.2.2.2 w (List.mem_cons_of_mem _ (List.mem_append_right _ hw))) hX.2.2.1) hgood_202 dX4_requireIndex_9 dX4_requireIndex_12 dX4_requireIndex_13 dX4_requireIndex_15 dX4_requireIndex_18 htab (Nat.le_of_ble_eq_true rfl) (Nat.le_of_ble_eq_true rfl) (Nat.le_of_ble_eq_true rfl) (Nat.le_of_ble_eq_true rfl) hlk (Nat.le_of_ble_eq_true rfl) (Nat.le_of_ble_eq_true rfl) (fun H H1 hP hz hk => ⟨h, hgr H H1 hP hz hk⟩)
noncomputable def wp_X4_dropOldest_L9 (sav : Nat → Nat) (k : (Nat → Nat) → Int32 → Prop) (fu : Nat) : Int32 → (Nat → Nat) → Prop := Nat.rec (motive := fun _ => Int32 → (Nat → Nat) → Prop) (fun _ _ => False) (fun _ rec9 x1 sav_2 => (3 ≤ x1 → (((sav 0) < 4) ∧ (∀ sav_5 : Nat → Nat, sav_5 = va_up sav_2 2 (sav 0) → (k sav_5 2)))) ∧ (¬ (3 ≤ x1) → ((vp_in x1 3) ∧ ((vp_in (x1 - 1) 3) ∧ (((sav_2 x1.toNatClampNeg) < 4) ∧ (∀ sav_9 : Nat → Nat, sav_9 = va_up sav_2 (x1 - 1).toNatClampNeg (sav_2 x1.toNatClampNeg) → (∀ x10 : Int32, x10 = x1 + 1 → (rec9 x10 sav_9)))))))) fu
noncomputable def wp_X4_dropOldest (sav : Nat → Nat) (k : (Nat → Nat) → Int32 → Prop) : Prop := ∃ fu, wp_X4_dropOldest_L9 sav k fu 1 sav
set_option maxRecDepth 100000 in
set_option maxHeartbeats 4000000 in
theorem c_X4_dropOldest (l : Launch) {E : EV} {b : Nat} {P : XW} {A : Nat → Prop} (FX : FocX E b P) (hA : ∀ q, inX b q → A q) (cur : Nat) (sav : Nat → Nat) (cnt : Int32) (ST : Nat → TT)   (k : (Nat → Nat) → Int32 → Prop) (h : wp_X4_dropOldest sav  k) : Met l yX4_dropOldest wsX4_dropOldest { frames := 0, cells := 0, slots := 0, locals := 0 } (va_Pc [.ref b] (fun U => P cur sav cnt ST U.heap ∧ XE E U)) (kQv (fun H => ∃ sav9 : Nat → Nat, ∃ cnt9 : Int32, k sav9 cnt9 ∧ P cur sav9 cnt9 ST H) A) 0 0 A := by
  refine k_body (cc := cX4_dropOldest) (own := RX4) (maxL := 3) (ret := none) (lv0 := [(0, .ref b)]) (by decide) rfl rfl (Nat.le_of_ble_eq_true rfl) rfl (fun p e s m below meth c C hr hlk hP hE => ?_)
  have hi4 : ∀ w ∈ u_ws RX4 TX4 3, w ∈ wsX4_dropOldest := by decide +kernel
  have lk0 := C.2.2.2.2 (.fieldLink RX4 16 "IdleDispatcher" "saved" "[LIdleDispatcher$State;") (by decide +kernel)
  have lk1 := C.2.2.2.2 (.fieldLink RX4 20 "IdleDispatcher" "savedCount" "I") (by decide +kernel)
  refine k_aload_n C dX4_dropOldest_0 0 rfl ?_
  refine xg_saved C (x_g FX) hE.1 hi4 lk0 dX4_dropOldest_1 ?_
  refine k_iconst (v := 0) C dX4_dropOldest_4 (by decide) ?_
  refine x_aald C (x_g FX) hE.1 (vp_lit (i := 0) (n := 3) (by decide)) dX4_dropOldest_5 ?_
  refine k_astore_n (lv' := [(1, .ref (sa b (sav 0))), (0, .ref b)]) C dX4_dropOldest_6 rfl (by decide) rfl ?_
  refine k_iconst (v := 1) C dX4_dropOldest_7 (by decide) ?_
  refine k_istore_n (lv' := [(2, .int 1), (1, .ref (sa b (sav 0))), (0, .ref b)]) C dX4_dropOldest_8 rfl (by decide) rfl ?_
  obtain ⟨n9, h⟩ := h
  refine k_pc (pc2 := 9) rfl ?_
  refine k_loop2 (wp_X4_dropOldest_L9 sav k) (fun x1 sav_2 => P cur sav_2 cnt ST) (fun x1 sav_2 => [(2, .int x1), (1, .ref (sa b (sav 0))), (0, .ref b)]) (fun _ _ h => h) (fun n9 ih9 x1 sav_2 h => ?_) n9 _ _ h
  refine k_iload_n C dX4_dropOldest_9 0 rfl ?_
  refine k_iconst (v := 3) C dX4_dropOldest_10 (by decide) ?_
  refine k_icmp_ge (tgt := 34) C dX4_dropOldest_11 (by decide) (fun c3 => ?_) (fun c3 => ?_)
  · replace h := h.1 c3
    refine k_aload_n C dX4_dropOldest_34 2 rfl ?_
    refine xg_saved C (x_g FX) hE.1 hi4 lk0 dX4_dropOldest_35 ?_
    refine k_iconst (v := 2) C dX4_dropOldest_38 (by decide) ?_
    refine k_aload_n C dX4_dropOldest_39 1 rfl ?_
    obtain ⟨q4, h⟩ := h
    obtain ⟨sav_5, esav_5⟩ : ∃ z : Nat → Nat, z = va_up sav_2 2 (sav 0) := ⟨_, rfl⟩
    replace h := h sav_5 esav_5
    refine x_aast C FX hA hE.1 (vp_lit (i := 2) (n := 3) (by decide)) q4 esav_5 dX4_dropOldest_40 ?_
    refine k_aload_n C dX4_dropOldest_41 2 rfl ?_
    refine k_iconst (v := 2) C dX4_dropOldest_42 (by decide) ?_
    refine xp_cnt C FX hA hE.1 hi4 lk1 dX4_dropOldest_43 ?_
    exact k_vret C hr hlk dX4_dropOldest_46 (fun H hP => ⟨sav_5, 2, h, hP⟩)
  · replace h := h.2 c3
    refine k_aload_n C dX4_dropOldest_14 2 rfl ?_
    refine xg_saved C (x_g FX) hE.1 hi4 lk0 dX4_dropOldest_15 ?_
    refine k_iload_n C dX4_dropOldest_18 0 rfl ?_
    refine k_iconst (v := 1) C dX4_dropOldest_19 (by decide) ?_
    refine k_isub C dX4_dropOldest_20 ?_
    refine k_aload_n C dX4_dropOldest_21 2 rfl ?_
    refine xg_saved C (x_g FX) hE.1 hi4 lk0 dX4_dropOldest_22 ?_
    refine k_iload_n C dX4_dropOldest_25 0 rfl ?_
    obtain ⟨q6, h⟩ := h
    refine x_aald C (x_g FX) hE.1 q6 dX4_dropOldest_26 ?_
    obtain ⟨q7, h⟩ := h
    obtain ⟨q8, h⟩ := h
    obtain ⟨sav_9, esav_9⟩ : ∃ z : Nat → Nat, z = va_up sav_2 (x1 - 1).toNatClampNeg (sav_2 x1.toNatClampNeg) := ⟨_, rfl⟩
    replace h := h sav_9 esav_9
    refine x_aast C FX hA hE.1 q7 q8 esav_9 dX4_dropOldest_27 ?_
    obtain ⟨x10, ex10⟩ : ∃ z : Int32, z = x1 + 1 := ⟨_, rfl⟩
    replace h := h x10 ex10
    refine k_iinc (v := x10) (lv' := [(2, .int x10), (1, .ref (sa b (sav 0))), (0, .ref b)]) (j := 0) C dX4_dropOldest_28 rfl (by rw [ex10]; rfl) (by decide) rfl ?_
    refine k_goto (tgt := 9) C dX4_dropOldest_31 (by decide) ?_
    refine k_pc (pc2 := 9) rfl ?_
    refine k_sub [0, 1, 2] rfl ?_
    exact ih9 _ _ h
noncomputable def wp_X4_save (cur : Nat) (sav : Nat → Nat) (cnt : Int32) (ST : Nat → TT) (k : (Nat → Nat) → Int32 → (Nat → TT) → Prop) : Prop := (cnt < 3 → ((vp_in cnt 3) ∧ (((sav cnt.toNatClampNeg) < 4 ∧ cur < 4 ∧ (sav cnt.toNatClampNeg) ≠ cur) ∧ (wp_X3_copyFrom (ST (sav cnt.toNatClampNeg)).2.2.2.2.2.2.2.1 (ST (sav cnt.toNatClampNeg)).2.2.2.2.2.2.2.2.1 (ST (sav cnt.toNatClampNeg)).2.2.2.2.2.2.2.2.2.1 (ST (sav cnt.toNatClampNeg)).2.2.2.2.2.2.2.2.2.2.1 (ST (sav cnt.toNatClampNeg)).2.2.2.2.2.2.2.2.2.2.2.1 (ST (sav cnt.toNatClampNeg)).2.2.2.2.2.2.2.2.2.2.2.2.1 (ST (sav cnt.toNatClampNeg)).2.2.2.2.2.2.2.2.2.2.2.2.2.1 (ST (sav cnt.toNatClampNeg)).2.2.2.2.2.2.2.2.2.2.2.2.2.2.1 (ST (sav cnt.toNatClampNeg)).2.2.2.2.2.2.2.2.2.2.2.2.2.2.2.1 (ST (sav cnt.toNatClampNeg)).2.2.2.2.2.2.2.2.2.2.2.2.2.2.2.2.1 (ST (sav cnt.toNatClampNeg)).2.2.2.2.2.2.2.2.2.2.2.2.2.2.2.2.2.1 (ST (sav cnt.toNatClampNeg)).2.2.2.2.2.2.2.2.2.2.2.2.2.2.2.2.2.2.2.2.2.2.2.1 (ST (sav cnt.toNatClampNeg)).2.2.2.2.2.2.2.2.2.2.2.2.2.2.2.2.2.2.2.2.2.2.2.2.1 (ST (sav cnt.toNatClampNeg)).2.2.2.2.2.2.2.2.2.2.2.2.2.2.2.2.2.2.2.2.2.2.2.2.2.1 (ST (sav cnt.toNatClampNeg)).2.2.2.2.2.2.2.2.2.2.2.2.2.2.2.2.2.2.2.2.2.2.2.2.2.2.1 (ST (sav cnt.toNatClampNeg)).2.2.2.2.2.2.2.2.2.2.2.2.2.2.2.2.2.2.2.2.2.2.2.2.2.2.2.1 (ST (sav cnt.toNatClampNeg)).2.2.2.2.2.2.2.2.2.2.2.2.2.2.2.2.2.2.2.2.2.2.2.2.2.2.2.2 (ST cur).1 (ST cur).2.1 (ST cur).2.2.1 (ST cur).2.2.2.1 (ST cur).2.2.2.2.1 (ST cur).2.2.2.2.2.1 (ST cur).2.2.2.2.2.2.2.1 (ST cur).2.2.2.2.2.2.2.2.1 (ST cur).2.2.2.2.2.2.2.2.2.1 (ST cur).2.2.2.2.2.2.2.2.2.2.1 (ST cur).2.2.2.2.2.2.2.2.2.2.2.1 (ST cur).2.2.2.2.2.2.2.2.2.2.2.2.1 (ST cur).2.2.2.2.2.2.2.2.2.2.2.2.2.1 (ST cur).2.2.2.2.2.2.2.2.2.2.2.2.2.2.1 (ST cur).2.2.2.2.2.2.2.2.2.2.2.2.2.2.2.1 (ST cur).2.2.2.2.2.2.2.2.2.2.2.2.2.2.2.2.1 (ST cur).2.2.2.2.2.2.2.2.2.2.2.2.2.2.2.2.2.1 (ST cur).2.2.2.2.2.2.2.2.2.2.2.2.2.2.2.2.2.2.1 (ST cur).2.2.2.2.2.2.2.2.2.2.2.2.2.2.2.2.2.2.2.1 (ST cur).2.2.2.2.2.2.2.2.2.2.2.2.2.2.2.2.2.2.2.2.1 (ST cur).2.2.2.2.2.2.2.2.2.2.2.2.2.2.2.2.2.2.2.2.2.1 (ST cur).2.2.2.2.2.2.2.2.2.2.2.2.2.2.2.2.2.2.2.2.2.2.1 (ST cur).2.2.2.2.2.2.2.2.2.2.2.2.2.2.2.2.2.2.2.2.2.2.2.1 (ST cur).2.2.2.2.2.2.2.2.2.2.2.2.2.2.2.2.2.2.2.2.2.2.2.2.1 (ST cur).2.2.2.2.2.2.2.2.2.2.2.2.2.2.2.2.2.2.2.2.2.2.2.2.2.1 (ST cur).2.2.2.2.2.2.2.2.2.2.2.2.2.2.2.2.2.2.2.2.2.2.2.2.2.2.1 (ST cur).2.2.2.2.2.2.2.2.2.2.2.2.2.2.2.2.2.2.2.2.2.2.2.2.2.2.2.1 (fun now_4 rnd_5 jm_6 rp_7 sc_8 dc_9 cn_10 sUp_11 sLen_12 sWrk_13 sReg_14 sFst_15 sLst_16 dPol_17 dPtr_18 dCnt_19 dIdl_20 dKnw_21 jCnt_22 jFin_23 jBeg_24 jWs_25 jMis_26 jSrv_27 jLft_28 jSub_29 jWai_30 jNxt_31 cnd_32 => ∀ ST_33 : Nat → TT, ST_33 = va_up ST (sav cnt.toNatClampNeg) (now_4, rnd_5, jm_6, rp_7, sc_8, dc_9, cn_10, sUp_11, sLen_12, sWrk_13, sReg_14, sFst_15, sLst_16, dPol_17, dPtr_18, dCnt_19, dIdl_20, dKnw_21, jCnt_22, jFin_23, jBeg_24, jWs_25, jMis_26, jSrv_27, jLft_28, jSub_29, jWai_30, jNxt_31, cnd_32) → (∀ x34 : Int32, x34 = (cnt + 1) → (k sav x34 ST_33))))))) ∧ (¬ (cnt < 3) → (wp_X4_dropOldest sav (fun sav_35 cnt_36 => (vp_in cnt_36 3) ∧ (((sav_35 cnt_36.toNatClampNeg) < 4 ∧ cur < 4 ∧ (sav_35 cnt_36.toNatClampNeg) ≠ cur) ∧ (wp_X3_copyFrom (ST (sav_35 cnt_36.toNatClampNeg)).2.2.2.2.2.2.2.1 (ST (sav_35 cnt_36.toNatClampNeg)).2.2.2.2.2.2.2.2.1 (ST (sav_35 cnt_36.toNatClampNeg)).2.2.2.2.2.2.2.2.2.1 (ST (sav_35 cnt_36.toNatClampNeg)).2.2.2.2.2.2.2.2.2.2.1 (ST (sav_35 cnt_36.toNatClampNeg)).2.2.2.2.2.2.2.2.2.2.2.1 (ST (sav_35 cnt_36.toNatClampNeg)).2.2.2.2.2.2.2.2.2.2.2.2.1 (ST (sav_35 cnt_36.toNatClampNeg)).2.2.2.2.2.2.2.2.2.2.2.2.2.1 (ST (sav_35 cnt_36.toNatClampNeg)).2.2.2.2.2.2.2.2.2.2.2.2.2.2.1 (ST (sav_35 cnt_36.toNatClampNeg)).2.2.2.2.2.2.2.2.2.2.2.2.2.2.2.1 (ST (sav_35 cnt_36.toNatClampNeg)).2.2.2.2.2.2.2.2.2.2.2.2.2.2.2.2.1 (ST (sav_35 cnt_36.toNatClampNeg)).2.2.2.2.2.2.2.2.2.2.2.2.2.2.2.2.2.1 (ST (sav_35 cnt_36.toNatClampNeg)).2.2.2.2.2.2.2.2.2.2.2.2.2.2.2.2.2.2.2.2.2.2.2.1 (ST (sav_35 cnt_36.toNatClampNeg)).2.2.2.2.2.2.2.2.2.2.2.2.2.2.2.2.2.2.2.2.2.2.2.2.1 (ST (sav_35 cnt_36.toNatClampNeg)).2.2.2.2.2.2.2.2.2.2.2.2.2.2.2.2.2.2.2.2.2.2.2.2.2.1 (ST (sav_35 cnt_36.toNatClampNeg)).2.2.2.2.2.2.2.2.2.2.2.2.2.2.2.2.2.2.2.2.2.2.2.2.2.2.1 (ST (sav_35 cnt_36.toNatClampNeg)).2.2.2.2.2.2.2.2.2.2.2.2.2.2.2.2.2.2.2.2.2.2.2.2.2.2.2.1 (ST (sav_35 cnt_36.toNatClampNeg)).2.2.2.2.2.2.2.2.2.2.2.2.2.2.2.2.2.2.2.2.2.2.2.2.2.2.2.2 (ST cur).1 (ST cur).2.1 (ST cur).2.2.1 (ST cur).2.2.2.1 (ST cur).2.2.2.2.1 (ST cur).2.2.2.2.2.1 (ST cur).2.2.2.2.2.2.2.1 (ST cur).2.2.2.2.2.2.2.2.1 (ST cur).2.2.2.2.2.2.2.2.2.1 (ST cur).2.2.2.2.2.2.2.2.2.2.1 (ST cur).2.2.2.2.2.2.2.2.2.2.2.1 (ST cur).2.2.2.2.2.2.2.2.2.2.2.2.1 (ST cur).2.2.2.2.2.2.2.2.2.2.2.2.2.1 (ST cur).2.2.2.2.2.2.2.2.2.2.2.2.2.2.1 (ST cur).2.2.2.2.2.2.2.2.2.2.2.2.2.2.2.1 (ST cur).2.2.2.2.2.2.2.2.2.2.2.2.2.2.2.2.1 (ST cur).2.2.2.2.2.2.2.2.2.2.2.2.2.2.2.2.2.1 (ST cur).2.2.2.2.2.2.2.2.2.2.2.2.2.2.2.2.2.2.1 (ST cur).2.2.2.2.2.2.2.2.2.2.2.2.2.2.2.2.2.2.2.1 (ST cur).2.2.2.2.2.2.2.2.2.2.2.2.2.2.2.2.2.2.2.2.1 (ST cur).2.2.2.2.2.2.2.2.2.2.2.2.2.2.2.2.2.2.2.2.2.1 (ST cur).2.2.2.2.2.2.2.2.2.2.2.2.2.2.2.2.2.2.2.2.2.2.1 (ST cur).2.2.2.2.2.2.2.2.2.2.2.2.2.2.2.2.2.2.2.2.2.2.2.1 (ST cur).2.2.2.2.2.2.2.2.2.2.2.2.2.2.2.2.2.2.2.2.2.2.2.2.1 (ST cur).2.2.2.2.2.2.2.2.2.2.2.2.2.2.2.2.2.2.2.2.2.2.2.2.2.1 (ST cur).2.2.2.2.2.2.2.2.2.2.2.2.2.2.2.2.2.2.2.2.2.2.2.2.2.2.1 (ST cur).2.2.2.2.2.2.2.2.2.2.2.2.2.2.2.2.2.2.2.2.2.2.2.2.2.2.2.1 (fun now_39 rnd_40 jm_41 rp_42 sc_43 dc_44 cn_45 sUp_46 sLen_47 sWrk_48 sReg_49 sFst_50 sLst_51 dPol_52 dPtr_53 dCnt_54 dIdl_55 dKnw_56 jCnt_57 jFin_58 jBeg_59 jWs_60 jMis_61 jSrv_62 jLft_63 jSub_64 jWai_65 jNxt_66 cnd_67 => ∀ ST_68 : Nat → TT, ST_68 = va_up ST (sav_35 cnt_36.toNatClampNeg) (now_39, rnd_40, jm_41, rp_42, sc_43, dc_44, cn_45, sUp_46, sLen_47, sWrk_48, sReg_49, sFst_50, sLst_51, dPol_52, dPtr_53, dCnt_54, dIdl_55, dKnw_56, jCnt_57, jFin_58, jBeg_59, jWs_60, jMis_61, jSrv_62, jLft_63, jSub_64, jWai_65, jNxt_66, cnd_67) → (∀ x69 : Int32, x69 = (cnt_36 + 1) → (k sav_35 x69 ST_68))))))))
set_option maxRecDepth 100000 in
set_option maxHeartbeats 4000000 in
theorem c_X4_save (l : Launch) {E : EV} {b : Nat} {P : XW} {A : Nat → Prop} (FX : FocX E b P) (hA : ∀ q, inX b q → A q) (cur : Nat) (sav : Nat → Nat) (cnt : Int32) (ST : Nat → TT)   (k : (Nat → Nat) → Int32 → (Nat → TT) → Prop) (h : wp_X4_save cur sav cnt ST  k) : Met l yX4_save wsX4_save { frames := 3, cells := 0, slots := 0, locals := 69 } (va_Pc [.ref b] (fun U => P cur sav cnt ST U.heap ∧ XE E U)) (kQv (fun H => ∃ sav9 : Nat → Nat, ∃ cnt9 : Int32, ∃ ST9 : Nat → TT, k sav9 cnt9 ST9 ∧ P cur sav9 cnt9 ST9 H) A) 0 0 A := by
  refine k_body (cc := cX4_save) (own := RX4) (maxL := 1) (ret := none) (lv0 := [(0, .ref b)]) (by decide) rfl rfl (Nat.le_of_ble_eq_true rfl) rfl (fun p e s m below meth c C hr hlk hP hE => ?_)
  have hi4 : ∀ w ∈ u_ws RX4 TX4 3, w ∈ wsX4_save := by decide +kernel
  have lk0 := C.2.2.2.2 (.fieldLink RX4 20 "IdleDispatcher" "savedCount" "I") (by decide +kernel)
  have lk1 := C.2.2.2.2 (.fieldLink RX4 16 "IdleDispatcher" "saved" "[LIdleDispatcher$State;") (by decide +kernel)
  have lk2 := C.2.2.2.2 (.fieldLink RX4 10 "IdleDispatcher" "state" "LIdleDispatcher$State;") (by decide +kernel)
  refine k_aload_n C dX4_save_0 0 rfl ?_
  refine xg_cnt C (x_g FX) hE.1 hi4 lk0 dX4_save_1 ?_
  refine k_iconst (v := 3) C dX4_save_4 (by decide) ?_
  refine k_icmp_lt (tgt := 12) C dX4_save_5 (by decide) (fun c1 => ?_) (fun c1 => ?_)
  · replace h := h.1 c1
    refine k_aload_n C dX4_save_12 0 rfl ?_
    refine xg_saved C (x_g FX) hE.1 hi4 lk1 dX4_save_13 ?_
    refine k_aload_n C dX4_save_16 0 rfl ?_
    refine xg_cnt C (x_g FX) hE.1 hi4 lk0 dX4_save_17 ?_
    obtain ⟨q2, h⟩ := h
    refine x_aald C (x_g FX) hE.1 q2 dX4_save_20 ?_
    refine k_aload_n C dX4_save_21 0 rfl ?_
    refine xg_state C (x_g FX) hE.1 hi4 rfl lk2 dX4_save_22 ?_
    obtain ⟨q3, h⟩ := h
    refine k_pre (xg_in (k := (sav cnt.toNatClampNeg))) ?_
    refine k_callVv (st := []) C hE (c_X3_copyFrom l (foc_xg FX q3.1) (fun z hz => hA z (sao_in q3.1 hz)) (ST (sav cnt.toNatClampNeg)).1 (ST (sav cnt.toNatClampNeg)).2.1 (ST (sav cnt.toNatClampNeg)).2.2.1 (ST (sav cnt.toNatClampNeg)).2.2.2.1 (ST (sav cnt.toNatClampNeg)).2.2.2.2.1 (ST (sav cnt.toNatClampNeg)).2.2.2.2.2.1 (ST (sav cnt.toNatClampNeg)).2.2.2.2.2.2.1 (ST (sav cnt.toNatClampNeg)).2.2.2.2.2.2.2.1 (ST (sav cnt.toNatClampNeg)).2.2.2.2.2.2.2.2.1 (ST (sav cnt.toNatClampNeg)).2.2.2.2.2.2.2.2.2.1 (ST (sav cnt.toNatClampNeg)).2.2.2.2.2.2.2.2.2.2.1 (ST (sav cnt.toNatClampNeg)).2.2.2.2.2.2.2.2.2.2.2.1 (ST (sav cnt.toNatClampNeg)).2.2.2.2.2.2.2.2.2.2.2.2.1 (ST (sav cnt.toNatClampNeg)).2.2.2.2.2.2.2.2.2.2.2.2.2.1 (ST (sav cnt.toNatClampNeg)).2.2.2.2.2.2.2.2.2.2.2.2.2.2.1 (ST (sav cnt.toNatClampNeg)).2.2.2.2.2.2.2.2.2.2.2.2.2.2.2.1 (ST (sav cnt.toNatClampNeg)).2.2.2.2.2.2.2.2.2.2.2.2.2.2.2.2.1 (ST (sav cnt.toNatClampNeg)).2.2.2.2.2.2.2.2.2.2.2.2.2.2.2.2.2.1 (ST (sav cnt.toNatClampNeg)).2.2.2.2.2.2.2.2.2.2.2.2.2.2.2.2.2.2.1 (ST (sav cnt.toNatClampNeg)).2.2.2.2.2.2.2.2.2.2.2.2.2.2.2.2.2.2.2.1 (ST (sav cnt.toNatClampNeg)).2.2.2.2.2.2.2.2.2.2.2.2.2.2.2.2.2.2.2.2.1 (ST (sav cnt.toNatClampNeg)).2.2.2.2.2.2.2.2.2.2.2.2.2.2.2.2.2.2.2.2.2.1 (ST (sav cnt.toNatClampNeg)).2.2.2.2.2.2.2.2.2.2.2.2.2.2.2.2.2.2.2.2.2.2.1 (ST (sav cnt.toNatClampNeg)).2.2.2.2.2.2.2.2.2.2.2.2.2.2.2.2.2.2.2.2.2.2.2.1 (ST (sav cnt.toNatClampNeg)).2.2.2.2.2.2.2.2.2.2.2.2.2.2.2.2.2.2.2.2.2.2.2.2.1 (ST (sav cnt.toNatClampNeg)).2.2.2.2.2.2.2.2.2.2.2.2.2.2.2.2.2.2.2.2.2.2.2.2.2.1 (ST (sav cnt.toNatClampNeg)).2.2.2.2.2.2.2.2.2.2.2.2.2.2.2.2.2.2.2.2.2.2.2.2.2.2.1 (ST (sav cnt.toNatClampNeg)).2.2.2.2.2.2.2.2.2.2.2.2.2.2.2.2.2.2.2.2.2.2.2.2.2.2.2.1 (ST (sav cnt.toNatClampNeg)).2.2.2.2.2.2.2.2.2.2.2.2.2.2.2.2.2.2.2.2.2.2.2.2.2.2.2.2 (ST cur).1 (ST cur).2.1 (ST cur).2.2.1 (ST cur).2.2.2.1 (ST cur).2.2.2.2.1 (ST cur).2.2.2.2.2.1 (ST cur).2.2.2.2.2.2.1 (ST cur).2.2.2.2.2.2.2.1 (ST cur).2.2.2.2.2.2.2.2.1 (ST cur).2.2.2.2.2.2.2.2.2.1 (ST cur).2.2.2.2.2.2.2.2.2.2.1 (ST cur).2.2.2.2.2.2.2.2.2.2.2.1 (ST cur).2.2.2.2.2.2.2.2.2.2.2.2.1 (ST cur).2.2.2.2.2.2.2.2.2.2.2.2.2.1 (ST cur).2.2.2.2.2.2.2.2.2.2.2.2.2.2.1 (ST cur).2.2.2.2.2.2.2.2.2.2.2.2.2.2.2.1 (ST cur).2.2.2.2.2.2.2.2.2.2.2.2.2.2.2.2.1 (ST cur).2.2.2.2.2.2.2.2.2.2.2.2.2.2.2.2.2.1 (ST cur).2.2.2.2.2.2.2.2.2.2.2.2.2.2.2.2.2.2.1 (ST cur).2.2.2.2.2.2.2.2.2.2.2.2.2.2.2.2.2.2.2.1 (ST cur).2.2.2.2.2.2.2.2.2.2.2.2.2.2.2.2.2.2.2.2.1 (ST cur).2.2.2.2.2.2.2.2.2.2.2.2.2.2.2.2.2.2.2.2.2.1 (ST cur).2.2.2.2.2.2.2.2.2.2.2.2.2.2.2.2.2.2.2.2.2.2.1 (ST cur).2.2.2.2.2.2.2.2.2.2.2.2.2.2.2.2.2.2.2.2.2.2.2.1 (ST cur).2.2.2.2.2.2.2.2.2.2.2.2.2.2.2.2.2.2.2.2.2.2.2.2.1 (ST cur).2.2.2.2.2.2.2.2.2.2.2.2.2.2.2.2.2.2.2.2.2.2.2.2.2.1 (ST cur).2.2.2.2.2.2.2.2.2.2.2.2.2.2.2.2.2.2.2.2.2.2.2.2.2.2.1 (ST cur).2.2.2.2.2.2.2.2.2.2.2.2.2.2.2.2.2.2.2.2.2.2.2.2.2.2.2.1 (ST cur).2.2.2.2.2.2.2.2.2.2.2.2.2.2.2.2.2.2.2.2.2.2.2.2.2.2.2.2 (fun H hP => xg_o FX q3.2.1 q3.2.2 H hP) _ h) (cwV 1 C.2.2.2.2 gX4_save_X3_copyFrom rfl rfl rfl (by decide +kernel) ⟨Nat.le_of_ble_eq_true rfl, Nat.le_of_ble_eq_true rfl⟩) (fun H hP => va_recv hE.1 (k_one (st_St (foc_g (foc_xg FX q3.1) H hP))) rfl (q0 := 0) rfl) rfl rfl (Nat.le_of_ble_eq_true rfl) dX4_save_25 ⟨Nat.le_of_ble_eq_true rfl, Nat.le_of_ble_eq_true rfl⟩ (fun _ => ?_)
    refine k_ex (fun now_4 => k_ex (fun rnd_5 => k_ex (fun jm_6 => k_ex (fun rp_7 => k_ex (fun sc_8 => k_ex (fun dc_9 => k_ex (fun cn_10 => k_ex (fun sUp_11 => k_ex (fun sLen_12 => k_ex (fun sWrk_13 => k_ex (fun sReg_14 => k_ex (fun sFst_15 => k_ex (fun sLst_16 => k_ex (fun dPol_17 => k_ex (fun dPtr_18 => k_ex (fun dCnt_19 => k_ex (fun dIdl_20 => k_ex (fun dKnw_21 => k_ex (fun jCnt_22 => k_ex (fun jFin_23 => k_ex (fun jBeg_24 => k_ex (fun jWs_25 => k_ex (fun jMis_26 => k_ex (fun jSrv_27 => k_ex (fun jLft_28 => k_ex (fun jSub_29 => k_ex (fun jWai_30 => k_ex (fun jNxt_31 => k_ex (fun cnd_32 => k_and (fun h => ?_))))))))))))))))))))))))))))))
    obtain ⟨ST_33, eST_33⟩ : ∃ z : Nat → TT, z = va_up ST (sav cnt.toNatClampNeg) (now_4, rnd_5, jm_6, rp_7, sc_8, dc_9, cn_10, sUp_11, sLen_12, sWrk_13, sReg_14, sFst_15, sLst_16, dPol_17, dPtr_18, dCnt_19, dIdl_20, dKnw_21, jCnt_22, jFin_23, jBeg_24, jWs_25, jMis_26, jSrv_27, jLft_28, jSub_29, jWai_30, jNxt_31, cnd_32) := ⟨_, rfl⟩
    replace h := h ST_33 eST_33
    refine k_pre (P2 := P cur sav cnt ST_33) (fun H hP => by rw [eST_33]; exact hP) ?_
    refine k_aload_n C dX4_save_28 0 rfl ?_
    refine k_dup C dX4_save_29 rfl ?_
    refine xg_cnt C (x_g FX) hE.1 hi4 lk0 dX4_save_30 ?_
    refine k_iconst (v := 1) C dX4_save_33 (by decide) ?_
    refine k_iadd C dX4_save_34 ?_
    refine k_topi (fun x34 ex34 => ?_)
    replace h := h x34 ex34
    refine xp_cnt C FX hA hE.1 hi4 lk0 dX4_save_35 ?_
    exact k_vret C hr hlk dX4_save_38 (fun H hP => ⟨sav, x34, ST_33, h, hP⟩)
  · replace h := h.2 c1
    refine k_aload_n C dX4_save_8 0 rfl ?_
    refine k_callVv (st := []) C hE (c_X4_dropOldest l FX hA cur sav cnt ST  _ h) (cwV 0 C.2.2.2.2 gX4_save_X4_dropOldest rfl rfl rfl (by decide +kernel) ⟨Nat.le_of_ble_eq_true rfl, Nat.le_of_ble_eq_true rfl⟩) (fun H hP => va_recv hE.1 (k_one (x_g FX H hP).1) rfl (q0 := 0) rfl) rfl rfl (Nat.le_of_ble_eq_true rfl) dX4_save_9 ⟨Nat.le_of_ble_eq_true rfl, Nat.le_of_ble_eq_true rfl⟩ (fun _ => ?_)
    refine k_ex (fun sav_35 => k_ex (fun cnt_36 => k_and (fun h => ?_)))
    refine k_aload_n C dX4_save_12 0 rfl ?_
    refine xg_saved C (x_g FX) hE.1 hi4 lk1 dX4_save_13 ?_
    refine k_aload_n C dX4_save_16 0 rfl ?_
    refine xg_cnt C (x_g FX) hE.1 hi4 lk0 dX4_save_17 ?_
    obtain ⟨q37, h⟩ := h
    refine x_aald C (x_g FX) hE.1 q37 dX4_save_20 ?_
    refine k_aload_n C dX4_save_21 0 rfl ?_
    refine xg_state C (x_g FX) hE.1 hi4 rfl lk2 dX4_save_22 ?_
    obtain ⟨q38, h⟩ := h
    refine k_pre (xg_in (k := (sav_35 cnt_36.toNatClampNeg))) ?_
    refine k_callVv (st := []) C hE (c_X3_copyFrom l (foc_xg FX q38.1) (fun z hz => hA z (sao_in q38.1 hz)) (ST (sav_35 cnt_36.toNatClampNeg)).1 (ST (sav_35 cnt_36.toNatClampNeg)).2.1 (ST (sav_35 cnt_36.toNatClampNeg)).2.2.1 (ST (sav_35 cnt_36.toNatClampNeg)).2.2.2.1 (ST (sav_35 cnt_36.toNatClampNeg)).2.2.2.2.1 (ST (sav_35 cnt_36.toNatClampNeg)).2.2.2.2.2.1 (ST (sav_35 cnt_36.toNatClampNeg)).2.2.2.2.2.2.1 (ST (sav_35 cnt_36.toNatClampNeg)).2.2.2.2.2.2.2.1 (ST (sav_35 cnt_36.toNatClampNeg)).2.2.2.2.2.2.2.2.1 (ST (sav_35 cnt_36.toNatClampNeg)).2.2.2.2.2.2.2.2.2.1 (ST (sav_35 cnt_36.toNatClampNeg)).2.2.2.2.2.2.2.2.2.2.1 (ST (sav_35 cnt_36.toNatClampNeg)).2.2.2.2.2.2.2.2.2.2.2.1 (ST (sav_35 cnt_36.toNatClampNeg)).2.2.2.2.2.2.2.2.2.2.2.2.1 (ST (sav_35 cnt_36.toNatClampNeg)).2.2.2.2.2.2.2.2.2.2.2.2.2.1 (ST (sav_35 cnt_36.toNatClampNeg)).2.2.2.2.2.2.2.2.2.2.2.2.2.2.1 (ST (sav_35 cnt_36.toNatClampNeg)).2.2.2.2.2.2.2.2.2.2.2.2.2.2.2.1 (ST (sav_35 cnt_36.toNatClampNeg)).2.2.2.2.2.2.2.2.2.2.2.2.2.2.2.2.1 (ST (sav_35 cnt_36.toNatClampNeg)).2.2.2.2.2.2.2.2.2.2.2.2.2.2.2.2.2.1 (ST (sav_35 cnt_36.toNatClampNeg)).2.2.2.2.2.2.2.2.2.2.2.2.2.2.2.2.2.2.1 (ST (sav_35 cnt_36.toNatClampNeg)).2.2.2.2.2.2.2.2.2.2.2.2.2.2.2.2.2.2.2.1 (ST (sav_35 cnt_36.toNatClampNeg)).2.2.2.2.2.2.2.2.2.2.2.2.2.2.2.2.2.2.2.2.1 (ST (sav_35 cnt_36.toNatClampNeg)).2.2.2.2.2.2.2.2.2.2.2.2.2.2.2.2.2.2.2.2.2.1 (ST (sav_35 cnt_36.toNatClampNeg)).2.2.2.2.2.2.2.2.2.2.2.2.2.2.2.2.2.2.2.2.2.2.1 (ST (sav_35 cnt_36.toNatClampNeg)).2.2.2.2.2.2.2.2.2.2.2.2.2.2.2.2.2.2.2.2.2.2.2.1 (ST (sav_35 cnt_36.toNatClampNeg)).2.2.2.2.2.2.2.2.2.2.2.2.2.2.2.2.2.2.2.2.2.2.2.2.1 (ST (sav_35 cnt_36.toNatClampNeg)).2.2.2.2.2.2.2.2.2.2.2.2.2.2.2.2.2.2.2.2.2.2.2.2.2.1 (ST (sav_35 cnt_36.toNatClampNeg)).2.2.2.2.2.2.2.2.2.2.2.2.2.2.2.2.2.2.2.2.2.2.2.2.2.2.1 (ST (sav_35 cnt_36.toNatClampNeg)).2.2.2.2.2.2.2.2.2.2.2.2.2.2.2.2.2.2.2.2.2.2.2.2.2.2.2.1 (ST (sav_35 cnt_36.toNatClampNeg)).2.2.2.2.2.2.2.2.2.2.2.2.2.2.2.2.2.2.2.2.2.2.2.2.2.2.2.2 (ST cur).1 (ST cur).2.1 (ST cur).2.2.1 (ST cur).2.2.2.1 (ST cur).2.2.2.2.1 (ST cur).2.2.2.2.2.1 (ST cur).2.2.2.2.2.2.1 (ST cur).2.2.2.2.2.2.2.1 (ST cur).2.2.2.2.2.2.2.2.1 (ST cur).2.2.2.2.2.2.2.2.2.1 (ST cur).2.2.2.2.2.2.2.2.2.2.1 (ST cur).2.2.2.2.2.2.2.2.2.2.2.1 (ST cur).2.2.2.2.2.2.2.2.2.2.2.2.1 (ST cur).2.2.2.2.2.2.2.2.2.2.2.2.2.1 (ST cur).2.2.2.2.2.2.2.2.2.2.2.2.2.2.1 (ST cur).2.2.2.2.2.2.2.2.2.2.2.2.2.2.2.1 (ST cur).2.2.2.2.2.2.2.2.2.2.2.2.2.2.2.2.1 (ST cur).2.2.2.2.2.2.2.2.2.2.2.2.2.2.2.2.2.1 (ST cur).2.2.2.2.2.2.2.2.2.2.2.2.2.2.2.2.2.2.1 (ST cur).2.2.2.2.2.2.2.2.2.2.2.2.2.2.2.2.2.2.2.1 (ST cur).2.2.2.2.2.2.2.2.2.2.2.2.2.2.2.2.2.2.2.2.1 (ST cur).2.2.2.2.2.2.2.2.2.2.2.2.2.2.2.2.2.2.2.2.2.1 (ST cur).2.2.2.2.2.2.2.2.2.2.2.2.2.2.2.2.2.2.2.2.2.2.1 (ST cur).2.2.2.2.2.2.2.2.2.2.2.2.2.2.2.2.2.2.2.2.2.2.2.1 (ST cur).2.2.2.2.2.2.2.2.2.2.2.2.2.2.2.2.2.2.2.2.2.2.2.2.1 (ST cur).2.2.2.2.2.2.2.2.2.2.2.2.2.2.2.2.2.2.2.2.2.2.2.2.2.1 (ST cur).2.2.2.2.2.2.2.2.2.2.2.2.2.2.2.2.2.2.2.2.2.2.2.2.2.2.1 (ST cur).2.2.2.2.2.2.2.2.2.2.2.2.2.2.2.2.2.2.2.2.2.2.2.2.2.2.2.1 (ST cur).2.2.2.2.2.2.2.2.2.2.2.2.2.2.2.2.2.2.2.2.2.2.2.2.2.2.2.2 (fun H hP => xg_o FX q38.2.1 q38.2.2 H hP) _ h) (cwV 1 C.2.2.2.2 gX4_save_X3_copyFrom rfl rfl rfl (by decide +kernel) ⟨Nat.le_of_ble_eq_true rfl, Nat.le_of_ble_eq_true rfl⟩) (fun H hP => va_recv hE.1 (k_one (st_St (foc_g (foc_xg FX q38.1) H hP))) rfl (q0 := 0) rfl) rfl rfl (Nat.le_of_ble_eq_true rfl) dX4_save_25 ⟨Nat.le_of_ble_eq_true rfl, Nat.le_of_ble_eq_true rfl⟩ (fun _ => ?_)
    refine k_ex (fun now_39 => k_ex (fun rnd_40 => k_ex (fun jm_41 => k_ex (fun rp_42 => k_ex (fun sc_43 => k_ex (fun dc_44 => k_ex (fun cn_45 => k_ex (fun sUp_46 => k_ex (fun sLen_47 => k_ex (fun sWrk_48 => k_ex (fun sReg_49 => k_ex (fun sFst_50 => k_ex (fun sLst_51 => k_ex (fun dPol_52 => k_ex (fun dPtr_53 => k_ex (fun dCnt_54 => k_ex (fun dIdl_55 => k_ex (fun dKnw_56 => k_ex (fun jCnt_57 => k_ex (fun jFin_58 => k_ex (fun jBeg_59 => k_ex (fun jWs_60 => k_ex (fun jMis_61 => k_ex (fun jSrv_62 => k_ex (fun jLft_63 => k_ex (fun jSub_64 => k_ex (fun jWai_65 => k_ex (fun jNxt_66 => k_ex (fun cnd_67 => k_and (fun h => ?_))))))))))))))))))))))))))))))
    obtain ⟨ST_68, eST_68⟩ : ∃ z : Nat → TT, z = va_up ST (sav_35 cnt_36.toNatClampNeg) (now_39, rnd_40, jm_41, rp_42, sc_43, dc_44, cn_45, sUp_46, sLen_47, sWrk_48, sReg_49, sFst_50, sLst_51, dPol_52, dPtr_53, dCnt_54, dIdl_55, dKnw_56, jCnt_57, jFin_58, jBeg_59, jWs_60, jMis_61, jSrv_62, jLft_63, jSub_64, jWai_65, jNxt_66, cnd_67) := ⟨_, rfl⟩
    replace h := h ST_68 eST_68
    refine k_pre (P2 := P cur sav_35 cnt_36 ST_68) (fun H hP => by rw [eST_68]; exact hP) ?_
    refine k_aload_n C dX4_save_28 0 rfl ?_
    refine k_dup C dX4_save_29 rfl ?_
    refine xg_cnt C (x_g FX) hE.1 hi4 lk0 dX4_save_30 ?_
    refine k_iconst (v := 1) C dX4_save_33 (by decide) ?_
    refine k_iadd C dX4_save_34 ?_
    refine k_topi (fun x69 ex69 => ?_)
    replace h := h x69 ex69
    refine xp_cnt C FX hA hE.1 hi4 lk0 dX4_save_35 ?_
    exact k_vret C hr hlk dX4_save_38 (fun H hP => ⟨sav_35, x69, ST_68, h, hP⟩)
noncomputable def wp_X4_undo (cur : Nat) (sav : Nat → Nat) (cnt : Int32) (k : Int32 → Nat → (Nat → Nat) → Int32 → Prop) (kx : String → Prop) : Prop := (0 < cnt → (∀ x2 : Int32, x2 = (cnt - 1) → ((vp_in x2 3) ∧ ((cur < 4) ∧ (∀ sav_5 : Nat → Nat, sav_5 = va_up sav x2.toNatClampNeg cur → (k x2 (sav x2.toNatClampNeg) sav_5 x2)))))) ∧ (¬ (0 < cnt) → (kx "java/lang/IllegalStateException"))
set_option maxRecDepth 100000 in
set_option maxHeartbeats 4000000 in
theorem c_X4_undo (l : Launch) (hlt : l.stackTraces = false) {E : EV} {b : Nat} {P : XW} {A : Nat → Prop} (FX : FocX E b P) (hA : ∀ q, inX b q → A q) (cur : Nat) (sav : Nat → Nat) (cnt : Int32) (ST : Nat → TT)   (k : Int32 → Nat → (Nat → Nat) → Int32 → Prop) (kx : String → Prop) (h : wp_X4_undo cur sav cnt  k kx) : vx_Met l yX4_undo wsX4_undo { frames := 6, cells := 1, slots := 6, locals := 90 } (va_Pc [.ref b] (fun U => P cur sav cnt ST U.heap ∧ XT E A U)) (kQi (fun r H => ∃ cur9 : Nat, ∃ sav9 : Nat → Nat, ∃ cnt9 : Int32, k r cur9 sav9 cnt9 ∧ P cur9 sav9 cnt9 ST H) A) (kXC (fun X9 H => kx X9 ∧ P cur sav cnt ST H) A) 1 6 A := by
  refine kx_body (cc := cX4_undo) (own := RX4) (maxL := 2) (ret := (some .int)) (lv0 := [(0, .ref b)]) (by decide) rfl rfl (Nat.le_of_ble_eq_true rfl) rfl (fun p e s m below meth c C hr hlk htab hP hX => ?_)
  have hE := hX.1
  have hi4 : ∀ w ∈ u_ws RX4 TX4 3, w ∈ wsX4_undo := by decide +kernel
  have lk0 := C.2.2.2.2 (.fieldLink RX4 20 "IdleDispatcher" "savedCount" "I") (by decide +kernel)
  have lk1 := C.2.2.2.2 (.fieldLink RX4 10 "IdleDispatcher" "state" "LIdleDispatcher$State;") (by decide +kernel)
  have lk2 := C.2.2.2.2 (.fieldLink RX4 16 "IdleDispatcher" "saved" "[LIdleDispatcher$State;") (by decide +kernel)
  have lk3 := C.2.2.2.2 (.classLink RX4 27 "java/lang/IllegalStateException") (by decide +kernel)
  have lk4 := C.2.2.2.2 (.initialized "java/lang/IllegalStateException") (by decide +kernel)
  refine k_aload_n C dX4_undo_0 0 rfl ?_
  refine xg_cnt C (x_g FX) hE.1 hi4 lk0 dX4_undo_1 ?_
  refine k_if_gt (tgt := 17) C dX4_undo_4 (by decide) (fun c1 => ?_) (fun c1 => ?_)
  · replace h := h.1 c1
    refine k_aload_n C dX4_undo_17 0 rfl ?_
    refine k_dup C dX4_undo_18 rfl ?_
    refine xg_cnt C (x_g FX) hE.1 hi4 lk0 dX4_undo_19 ?_
    refine k_iconst (v := 1) C dX4_undo_22 (by decide) ?_
    refine k_isub C dX4_undo_23 ?_
    refine k_topi (fun x2 ex2 => ?_)
    replace h := h x2 ex2
    refine xp_cnt C FX hA hE.1 hi4 lk0 dX4_undo_24 ?_
    refine k_aload_n C dX4_undo_27 0 rfl ?_
    refine xg_state C (x_g FX) hE.1 hi4 rfl lk1 dX4_undo_28 ?_
    refine k_astore_n (lv' := [(1, .ref (sa b cur)), (0, .ref b)]) C dX4_undo_31 rfl (by decide) rfl ?_
    refine k_aload_n C dX4_undo_32 1 rfl ?_
    refine k_aload_n C dX4_undo_33 1 rfl ?_
    refine xg_saved C (x_g FX) hE.1 hi4 lk2 dX4_undo_34 ?_
    refine k_aload_n C dX4_undo_37 1 rfl ?_
    refine xg_cnt C (x_g FX) hE.1 hi4 lk0 dX4_undo_38 ?_
    obtain ⟨q3, h⟩ := h
    refine x_aald C (x_g FX) hE.1 q3 dX4_undo_41 ?_
    refine xp_cur C FX hA hE.1 hi4 lk1 dX4_undo_42 ?_
    refine k_aload_n C dX4_undo_45 1 rfl ?_
    refine xg_saved C (x_g FX) hE.1 hi4 lk2 dX4_undo_46 ?_
    refine k_aload_n C dX4_undo_49 1 rfl ?_
    refine xg_cnt C (x_g FX) hE.1 hi4 lk0 dX4_undo_50 ?_
    refine k_aload_n C dX4_undo_53 0 rfl ?_
    obtain ⟨q4, h⟩ := h
    obtain ⟨sav_5, esav_5⟩ : ∃ z : Nat → Nat, z = va_up sav x2.toNatClampNeg cur := ⟨_, rfl⟩
    replace h := h sav_5 esav_5
    refine x_aast C FX hA hE.1 q3 q4 esav_5 dX4_undo_54 ?_
    refine k_aload_n C dX4_undo_55 1 rfl ?_
    refine xg_cnt C (x_g FX) hE.1 hi4 lk0 dX4_undo_56 ?_
    exact kx_ret (Nat.le_of_ble_eq_true rfl) (Nat.le_of_ble_eq_true rfl) (k_iret C hr hlk dX4_undo_59 (fun H hP => ⟨(sav x2.toNatClampNeg), sav_5, x2, h, hP⟩))
  · replace h := h.2 c1
    exact kx_throw C hlt hX hX.2.1.2.2.2.2.2.2.2.2 (by decide) lk3 lk4 (hat_31 (fun w hw => C.2.2.2.2 w (List.mem_cons_of_mem _ (List.mem_append_right _ hw))) hX.2.2.1) hgood_31 dX4_undo_7 dX4_undo_10 dX4_undo_11 dX4_undo_13 dX4_undo_16 htab (Nat.le_of_ble_eq_true rfl) (Nat.le_of_ble_eq_true rfl) (Nat.le_of_ble_eq_true rfl) (Nat.le_of_ble_eq_true rfl) hlk (Nat.le_of_ble_eq_true rfl) (Nat.le_of_ble_eq_true rfl) (fun H H1 hP hz hk => ⟨h, x_grow FX hP hz hk⟩)
noncomputable def wp_X4_requireServer (sc : Int32) (srv : Int32) (k : Prop) (kx : String → Prop) : Prop := (srv < 0 → (kx "java/lang/IllegalArgumentException")) ∧ (¬ (srv < 0) → ((srv < sc → (k)) ∧ (¬ (srv < sc) → (kx "java/lang/IllegalArgumentException"))))
set_option maxRecDepth 100000 in
set_option maxHeartbeats 4000000 in
theorem c_X4_requireServer (l : Launch) (hlt : l.stackTraces = false) {E : EV} {b : Nat} {P : XW} {A : Nat → Prop} (FX : FocX E b P) (hA : ∀ q, inX b q → A q) (cur : Nat) (sav : Nat → Nat) (cnt : Int32) (ST : Nat → TT) (now : Int32) (rnd : Int64) (jm : Int32) (rp : Int32) (sc : Int32) (dc : Int32) (cn : Int32) (sUp : Nat → Int32) (sLen : Nat → Int32) (sWrk : Nat → Int32) (sReg : Nat → Int32) (sFst : Nat → Int32) (sLst : Nat → Int32) (dPol : Nat → Int32) (dPtr : Nat → Int32) (dCnt : Nat → Int32) (dIdl : Nat → Nat → Int32) (dKnw : Nat → Nat → Int32) (jCnt : Int32) (jFin : Int32) (jBeg : Int32) (jWs : Int32) (jMis : Int32) (jSrv : Nat → Int32) (jLft : Nat → Int32) (jSub : Nat → Int32) (jWai : Nat → Int32) (jNxt : Nat → Int32) (cnd : Nat → Int32) (hcur : cur < 4) (srv : Int32)  (k : Prop) (kx : String → Prop) (h : wp_X4_requireServer sc srv k kx) : vx_Met l yX4_requireServer wsX4_requireServer { frames := 6, cells := 1, slots := 6, locals := 90 } (va_Pc [.ref b, .int srv] (fun U => XF P cur sav cnt ST now rnd jm rp sc dc cn sUp sLen sWrk sReg sFst sLst dPol dPtr dCnt dIdl dKnw jCnt jFin jBeg jWs jMis jSrv jLft jSub jWai jNxt cnd U.heap ∧ XT E A U)) (kQv (fun H => k ∧ XF P cur sav cnt ST now rnd jm rp sc dc cn sUp sLen sWrk sReg sFst sLst dPol dPtr dCnt dIdl dKnw jCnt jFin jBeg jWs jMis jSrv jLft jSub jWai jNxt cnd H) A) (kXC (fun X9 H => kx X9 ∧ XF P cur sav cnt ST now rnd jm rp sc dc cn sUp sLen sWrk sReg sFst sLst dPol dPtr dCnt dIdl dKnw jCnt jFin jBeg jWs jMis jSrv jLft jSub jWai jNxt cnd H) A) 1 6 A := by
  refine kx_body (cc := cX4_requireServer) (own := RX4) (maxL := 2) (ret := none) (lv0 := [(0, .ref b), (1, .int srv)]) (by decide) rfl rfl (Nat.le_of_ble_eq_true rfl) rfl (fun p e s m below meth c C hr hlk htab hP hX => ?_)
  have hE := hX.1
  obtain ⟨a, ea⟩ : ∃ z, z = sa b cur := ⟨_, rfl⟩
  have hAs := in_x hA hcur ea
  have hi4 : ∀ w ∈ u_ws RX4 TX4 3, w ∈ wsX4_requireServer := by decide +kernel
  have hi3 : ∀ w ∈ u_ws RX3 TX3 11, w ∈ wsX4_requireServer := by decide +kernel
  have lk0 := C.2.2.2.2 (.classLink RX4 184 "java/lang/IllegalArgumentException") (by decide +kernel)
  have lk1 := C.2.2.2.2 (.initialized "java/lang/IllegalArgumentException") (by decide +kernel)
  have lk2 := C.2.2.2.2 (.fieldLink RX4 10 "IdleDispatcher" "state" "LIdleDispatcher$State;") (by decide +kernel)
  have lk3 := C.2.2.2.2 (.fieldLink RX4 24 "IdleDispatcher$State" "serverCount" "I") (by decide +kernel)
  refine k_iload_n C dX4_requireServer_0 1 rfl ?_
  refine k_if_lt (tgt := 15) C dX4_requireServer_1 (by decide) (fun c1 => ?_) (fun c1 => ?_)
  · replace h := h.1 c1
    exact kx_throw C hlt hX hX.2.1.2.2.2.2.1 (by decide) lk0 lk1 (hat_188 (fun w hw => C.2.2.2.2 w (List.mem_cons_of_mem _ (List.mem_append_right _ hw))) hX.2.2.1) hgood_188 dX4_requireServer_15 dX4_requireServer_18 dX4_requireServer_19 dX4_requireServer_21 dX4_requireServer_24 htab (Nat.le_of_ble_eq_true rfl) (Nat.le_of_ble_eq_true rfl) (Nat.le_of_ble_eq_true rfl) (Nat.le_of_ble_eq_true rfl) hlk (Nat.le_of_ble_eq_true rfl) (Nat.le_of_ble_eq_true rfl) (fun H H1 hP hz hk => ⟨h, x_grow FX hP hz hk⟩)
  · replace h := h.2 c1
    refine k_iload_n C dX4_requireServer_4 1 rfl ?_
    refine k_aload_n C dX4_requireServer_5 0 rfl ?_
    refine xg_state C (xf_g FX) hE.1 hi4 ea lk2 dX4_requireServer_6 ?_
    refine g_sc C (foc_g (foc_x FX hcur ea)) hE.1 hi3 lk3 dX4_requireServer_9 ?_
    refine k_icmp_lt (tgt := 25) C dX4_requireServer_12 (by decide) (fun c2 => ?_) (fun c2 => ?_)
    · replace h := h.1 c2
      exact kx_ret (Nat.le_of_ble_eq_true rfl) (Nat.le_of_ble_eq_true rfl) (k_vret C hr hlk dX4_requireServer_25 (fun H hP => ⟨h, hP⟩))
    · replace h := h.2 c2
      exact kx_throw C hlt hX hX.2.1.2.2.2.2.1 (by decide) lk0 lk1 (hat_188 (fun w hw => C.2.2.2.2 w (List.mem_cons_of_mem _ (List.mem_append_right _ hw))) hX.2.2.1) hgood_188 dX4_requireServer_15 dX4_requireServer_18 dX4_requireServer_19 dX4_requireServer_21 dX4_requireServer_24 htab (Nat.le_of_ble_eq_true rfl) (Nat.le_of_ble_eq_true rfl) (Nat.le_of_ble_eq_true rfl) (Nat.le_of_ble_eq_true rfl) hlk (Nat.le_of_ble_eq_true rfl) (Nat.le_of_ble_eq_true rfl) (fun H H1 hP hz hk => ⟨h, x_grow FX hP hz hk⟩)
noncomputable def wp_X4_requireDispatcher (dc : Int32) (dsp : Int32) (k : Prop) (kx : String → Prop) : Prop := (dsp < 0 → (kx "java/lang/IllegalArgumentException")) ∧ (¬ (dsp < 0) → ((dsp < dc → (k)) ∧ (¬ (dsp < dc) → (kx "java/lang/IllegalArgumentException"))))
set_option maxRecDepth 100000 in
set_option maxHeartbeats 4000000 in
theorem c_X4_requireDispatcher (l : Launch) (hlt : l.stackTraces = false) {E : EV} {b : Nat} {P : XW} {A : Nat → Prop} (FX : FocX E b P) (hA : ∀ q, inX b q → A q) (cur : Nat) (sav : Nat → Nat) (cnt : Int32) (ST : Nat → TT) (now : Int32) (rnd : Int64) (jm : Int32) (rp : Int32) (sc : Int32) (dc : Int32) (cn : Int32) (sUp : Nat → Int32) (sLen : Nat → Int32) (sWrk : Nat → Int32) (sReg : Nat → Int32) (sFst : Nat → Int32) (sLst : Nat → Int32) (dPol : Nat → Int32) (dPtr : Nat → Int32) (dCnt : Nat → Int32) (dIdl : Nat → Nat → Int32) (dKnw : Nat → Nat → Int32) (jCnt : Int32) (jFin : Int32) (jBeg : Int32) (jWs : Int32) (jMis : Int32) (jSrv : Nat → Int32) (jLft : Nat → Int32) (jSub : Nat → Int32) (jWai : Nat → Int32) (jNxt : Nat → Int32) (cnd : Nat → Int32) (hcur : cur < 4) (dsp : Int32)  (k : Prop) (kx : String → Prop) (h : wp_X4_requireDispatcher dc dsp k kx) : vx_Met l yX4_requireDispatcher wsX4_requireDispatcher { frames := 6, cells := 1, slots := 6, locals := 90 } (va_Pc [.ref b, .int dsp] (fun U => XF P cur sav cnt ST now rnd jm rp sc dc cn sUp sLen sWrk sReg sFst sLst dPol dPtr dCnt dIdl dKnw jCnt jFin jBeg jWs jMis jSrv jLft jSub jWai jNxt cnd U.heap ∧ XT E A U)) (kQv (fun H => k ∧ XF P cur sav cnt ST now rnd jm rp sc dc cn sUp sLen sWrk sReg sFst sLst dPol dPtr dCnt dIdl dKnw jCnt jFin jBeg jWs jMis jSrv jLft jSub jWai jNxt cnd H) A) (kXC (fun X9 H => kx X9 ∧ XF P cur sav cnt ST now rnd jm rp sc dc cn sUp sLen sWrk sReg sFst sLst dPol dPtr dCnt dIdl dKnw jCnt jFin jBeg jWs jMis jSrv jLft jSub jWai jNxt cnd H) A) 1 6 A := by
  refine kx_body (cc := cX4_requireDispatcher) (own := RX4) (maxL := 2) (ret := none) (lv0 := [(0, .ref b), (1, .int dsp)]) (by decide) rfl rfl (Nat.le_of_ble_eq_true rfl) rfl (fun p e s m below meth c C hr hlk htab hP hX => ?_)
  have hE := hX.1
  obtain ⟨a, ea⟩ : ∃ z, z = sa b cur := ⟨_, rfl⟩
  have hAs := in_x hA hcur ea
  have hi4 : ∀ w ∈ u_ws RX4 TX4 3, w ∈ wsX4_requireDispatcher := by decide +kernel
  have hi3 : ∀ w ∈ u_ws RX3 TX3 11, w ∈ wsX4_requireDispatcher := by decide +kernel
  have lk0 := C.2.2.2.2 (.classLink RX4 184 "java/lang/IllegalArgumentException") (by decide +kernel)
  have lk1 := C.2.2.2.2 (.initialized "java/lang/IllegalArgumentException") (by decide +kernel)
  have lk2 := C.2.2.2.2 (.fieldLink RX4 10 "IdleDispatcher" "state" "LIdleDispatcher$State;") (by decide +kernel)
  have lk3 := C.2.2.2.2 (.fieldLink RX4 45 "IdleDispatcher$State" "dispatcherCount" "I") (by decide +kernel)
  refine k_iload_n C dX4_requireDispatcher_0 1 rfl ?_
  refine k_if_lt (tgt := 15) C dX4_requireDispatcher_1 (by decide) (fun c1 => ?_) (fun c1 => ?_)
  · replace h := h.1 c1
    exact kx_throw C hlt hX hX.2.1.2.2.2.1 (by decide) lk0 lk1 (hat_188 (fun w hw => C.2.2.2.2 w (List.mem_cons_of_mem _ (List.mem_append_right _ hw))) hX.2.2.1) hgood_188 dX4_requireDispatcher_15 dX4_requireDispatcher_18 dX4_requireDispatcher_19 dX4_requireDispatcher_21 dX4_requireDispatcher_24 htab (Nat.le_of_ble_eq_true rfl) (Nat.le_of_ble_eq_true rfl) (Nat.le_of_ble_eq_true rfl) (Nat.le_of_ble_eq_true rfl) hlk (Nat.le_of_ble_eq_true rfl) (Nat.le_of_ble_eq_true rfl) (fun H H1 hP hz hk => ⟨h, x_grow FX hP hz hk⟩)
  · replace h := h.2 c1
    refine k_iload_n C dX4_requireDispatcher_4 1 rfl ?_
    refine k_aload_n C dX4_requireDispatcher_5 0 rfl ?_
    refine xg_state C (xf_g FX) hE.1 hi4 ea lk2 dX4_requireDispatcher_6 ?_
    refine g_dc C (foc_g (foc_x FX hcur ea)) hE.1 hi3 lk3 dX4_requireDispatcher_9 ?_
    refine k_icmp_lt (tgt := 25) C dX4_requireDispatcher_12 (by decide) (fun c2 => ?_) (fun c2 => ?_)
    · replace h := h.1 c2
      exact kx_ret (Nat.le_of_ble_eq_true rfl) (Nat.le_of_ble_eq_true rfl) (k_vret C hr hlk dX4_requireDispatcher_25 (fun H hP => ⟨h, hP⟩))
    · replace h := h.2 c2
      exact kx_throw C hlt hX hX.2.1.2.2.2.1 (by decide) lk0 lk1 (hat_188 (fun w hw => C.2.2.2.2 w (List.mem_cons_of_mem _ (List.mem_append_right _ hw))) hX.2.2.1) hgood_188 dX4_requireDispatcher_15 dX4_requireDispatcher_18 dX4_requireDispatcher_19 dX4_requireDispatcher_21 dX4_requireDispatcher_24 htab (Nat.le_of_ble_eq_true rfl) (Nat.le_of_ble_eq_true rfl) (Nat.le_of_ble_eq_true rfl) (Nat.le_of_ble_eq_true rfl) hlk (Nat.le_of_ble_eq_true rfl) (Nat.le_of_ble_eq_true rfl) (fun H H1 hP hz hk => ⟨h, x_grow FX hP hz hk⟩)
noncomputable def wp_X4_requireServerUp (cn : Int32) (k : Prop) (kx : String → Prop) : Prop := (0 < cn → (k)) ∧ (¬ (0 < cn) → (kx "java/lang/IllegalStateException"))
set_option maxRecDepth 100000 in
set_option maxHeartbeats 4000000 in
theorem c_X4_requireServerUp (l : Launch) (hlt : l.stackTraces = false) {E : EV} {b : Nat} {P : XW} {A : Nat → Prop} (FX : FocX E b P) (hA : ∀ q, inX b q → A q) (cur : Nat) (sav : Nat → Nat) (cnt : Int32) (ST : Nat → TT) (now : Int32) (rnd : Int64) (jm : Int32) (rp : Int32) (sc : Int32) (dc : Int32) (cn : Int32) (sUp : Nat → Int32) (sLen : Nat → Int32) (sWrk : Nat → Int32) (sReg : Nat → Int32) (sFst : Nat → Int32) (sLst : Nat → Int32) (dPol : Nat → Int32) (dPtr : Nat → Int32) (dCnt : Nat → Int32) (dIdl : Nat → Nat → Int32) (dKnw : Nat → Nat → Int32) (jCnt : Int32) (jFin : Int32) (jBeg : Int32) (jWs : Int32) (jMis : Int32) (jSrv : Nat → Int32) (jLft : Nat → Int32) (jSub : Nat → Int32) (jWai : Nat → Int32) (jNxt : Nat → Int32) (cnd : Nat → Int32) (hcur : cur < 4)   (k : Prop) (kx : String → Prop) (h : wp_X4_requireServerUp cn  k kx) : vx_Met l yX4_requireServerUp wsX4_requireServerUp { frames := 6, cells := 1, slots := 6, locals := 90 } (va_Pc [.ref b] (fun U => XF P cur sav cnt ST now rnd jm rp sc dc cn sUp sLen sWrk sReg sFst sLst dPol dPtr dCnt dIdl dKnw jCnt jFin jBeg jWs jMis jSrv jLft jSub jWai jNxt cnd U.heap ∧ XT E A U)) (kQv (fun H => k ∧ XF P cur sav cnt ST now rnd jm rp sc dc cn sUp sLen sWrk sReg sFst sLst dPol dPtr dCnt dIdl dKnw jCnt jFin jBeg jWs jMis jSrv jLft jSub jWai jNxt cnd H) A) (kXC (fun X9 H => kx X9 ∧ XF P cur sav cnt ST now rnd jm rp sc dc cn sUp sLen sWrk sReg sFst sLst dPol dPtr dCnt dIdl dKnw jCnt jFin jBeg jWs jMis jSrv jLft jSub jWai jNxt cnd H) A) 1 6 A := by
  refine kx_body (cc := cX4_requireServerUp) (own := RX4) (maxL := 1) (ret := none) (lv0 := [(0, .ref b)]) (by decide) rfl rfl (Nat.le_of_ble_eq_true rfl) rfl (fun p e s m below meth c C hr hlk htab hP hX => ?_)
  have hE := hX.1
  obtain ⟨a, ea⟩ : ∃ z, z = sa b cur := ⟨_, rfl⟩
  have hAs := in_x hA hcur ea
  have hi4 : ∀ w ∈ u_ws RX4 TX4 3, w ∈ wsX4_requireServerUp := by decide +kernel
  have hi3 : ∀ w ∈ u_ws RX3 TX3 11, w ∈ wsX4_requireServerUp := by decide +kernel
  have lk0 := C.2.2.2.2 (.fieldLink RX4 10 "IdleDispatcher" "state" "LIdleDispatcher$State;") (by decide +kernel)
  have lk1 := C.2.2.2.2 (.fieldLink RX4 191 "IdleDispatcher$State" "candidateCount" "I") (by decide +kernel)
  have lk2 := C.2.2.2.2 (.classLink RX4 27 "java/lang/IllegalStateException") (by decide +kernel)
  have lk3 := C.2.2.2.2 (.initialized "java/lang/IllegalStateException") (by decide +kernel)
  refine k_aload_n C dX4_requireServerUp_0 0 rfl ?_
  refine xg_state C (xf_g FX) hE.1 hi4 ea lk0 dX4_requireServerUp_1 ?_
  refine g_cn C (foc_g (foc_x FX hcur ea)) hE.1 hi3 lk1 dX4_requireServerUp_4 ?_
  refine k_if_gt (tgt := 20) C dX4_requireServerUp_7 (by decide) (fun c1 => ?_) (fun c1 => ?_)
  · replace h := h.1 c1
    exact kx_ret (Nat.le_of_ble_eq_true rfl) (Nat.le_of_ble_eq_true rfl) (k_vret C hr hlk dX4_requireServerUp_20 (fun H hP => ⟨h, hP⟩))
  · replace h := h.2 c1
    exact kx_throw C hlt hX hX.2.1.2.2.2.2.2.1 (by decide) lk2 lk3 (hat_31 (fun w hw => C.2.2.2.2 w (List.mem_cons_of_mem _ (List.mem_append_right _ hw))) hX.2.2.1) hgood_31 dX4_requireServerUp_10 dX4_requireServerUp_13 dX4_requireServerUp_14 dX4_requireServerUp_16 dX4_requireServerUp_19 htab (Nat.le_of_ble_eq_true rfl) (Nat.le_of_ble_eq_true rfl) (Nat.le_of_ble_eq_true rfl) (Nat.le_of_ble_eq_true rfl) hlk (Nat.le_of_ble_eq_true rfl) (Nat.le_of_ble_eq_true rfl) (fun H H1 hP hz hk => ⟨h, x_grow FX hP hz hk⟩)
