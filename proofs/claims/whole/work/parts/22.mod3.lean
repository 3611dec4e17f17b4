noncomputable def wp_X5_serve (nw : Nat → Int32) (srv : Int32) (k : (Nat → Int32) → Prop) : Prop := wp_X5_firstJob nw srv (fun r1 => (r1 = (-1) → (k nw)) ∧ (¬ r1 = (-1) → ((vp_in (293 + r1) 893) ∧ (∀ nw_4 : Nat → Int32, nw_4 = upd nw (293 + r1).toNatClampNeg ((nw (293 + r1).toNatClampNeg) - 1) → (((nw_4 (293 + r1).toNatClampNeg) ≤ 0 → (∀ nw_6 : Nat → Int32, nw_6 = upd nw_4 7 ((nw_4 7) + 1) → (wp_X5_firstJob nw_6 srv (fun r7 => (r7 = (-1) → (wp_X5_isUp nw_6 srv (fun r9 => (r9 = 0 → (k nw_6)) ∧ (¬ (r9 = 0) → (wp_X5_register nw_6 srv (fun nw_11 => k nw_11)))))) ∧ (¬ (r7 = (-1)) → ((vp_in (693 + r7) 893) ∧ ((vp_in (493 + r7) 893) ∧ (∀ nw_14 : Nat → Int32, nw_14 = upd nw_6 (493 + r7).toNatClampNeg ((nw_6 1) - (nw_6 (693 + r7).toNatClampNeg)) → (k nw_14))))))))) ∧ (¬ ((nw_4 (293 + r1).toNatClampNeg) ≤ 0) → (k nw_4)))))))
set_option maxRecDepth 100000 in
set_option maxHeartbeats 4000000 in
theorem c_X5_serve (l : Launch) {E : EV} {o : Nat} {P : PM} {A : Nat → Prop} (F : FocM E o P) (hA : ∀ q, inMo o q → A q) (nw : Nat → Int32) (hi : Nat → Int32) (sv : Int32) (th : Int32) (cd : Nat → Int32) (ha : Int64) (srv : Int32)  (k : (Nat → Int32) → Prop) (h : wp_X5_serve nw srv k) : Met l yX5_serve wsX5_serve { frames := 2, cells := 0, slots := 0, locals := 46 } (va_Pc [.ref o, .int srv] (fun U => P nw hi sv th cd ha U.heap ∧ XE E U)) (kQv (fun H => ∃ nw9 : Nat → Int32, k nw9 ∧ P nw9 hi sv th cd ha H) A) 0 0 A := by
  refine k_body (cc := cX5_serve) (own := RX5) (maxL := 4) (ret := none) (lv0 := [(0, .ref o), (1, .int srv)]) (by decide) rfl rfl (Nat.le_of_ble_eq_true rfl) rfl (fun p e s m below meth c C hr hlk hP hE => ?_)
  have hi5 : ∀ w ∈ u_ws RX5 TX5 6, w ∈ wsX5_serve := by decide +kernel
  have lk0 := C.2.2.2.2 (.fieldLink RX5 7 "IdleDispatcherModel" "now" "[I") (by decide +kernel)
  refine k_aload_n C dX5_serve_0 0 rfl ?_
  refine k_iload_n C dX5_serve_1 1 rfl ?_
  refine k_callVi (st := []) C hE (c_X5_firstJob l F hA nw hi sv th cd ha srv  _ h) (cwV 1 C.2.2.2.2 gX5_serve_X5_firstJob rfl rfl rfl (by decide +kernel) ⟨Nat.le_of_ble_eq_true rfl, Nat.le_of_ble_eq_true rfl⟩) (fun H hP => va_recv hE.1 (k_one (mst_Mo ((focM_g F) H hP))) rfl (q0 := 0) rfl) rfl rfl (Nat.le_of_ble_eq_true rfl) dX5_serve_2 ⟨Nat.zero_le _, Nat.zero_le _⟩ (fun r1 => ?_)
  refine k_and (fun h => ?_)
  refine k_istore_n (lv' := [(2, .int r1), (0, .ref o), (1, .int srv)]) C dX5_serve_5 rfl (by decide) rfl ?_
  refine k_iload_n C dX5_serve_6 0 rfl ?_
  refine k_iconst (v := (-1)) C dX5_serve_7 (by decide) ?_
  refine k_icmp_ne (tgt := 12) C dX5_serve_8 (by decide) (fun c2 => ?_) (fun c2 => ?_)
  · replace h := h.2 c2
    refine k_aload_n C dX5_serve_12 1 rfl ?_
    refine mg_Mo_now C (focM_g F) hE.1 hi5 lk0 dX5_serve_13 ?_
    refine k_sipush (v := 293) C dX5_serve_16 (by decide) ?_
    refine k_iload_n C dX5_serve_19 0 rfl ?_
    refine k_iadd C dX5_serve_20 ?_
    refine k_dup2_11 C dX5_serve_21 rfl rfl ?_
    obtain ⟨q3, h⟩ := h
    refine mg_nw C (focM_g F) hE.1 q3 dX5_serve_22 ?_
    refine k_iconst (v := 1) C dX5_serve_23 (by decide) ?_
    refine k_isub C dX5_serve_24 ?_
    obtain ⟨nw_4, enw_4⟩ : ∃ z : Nat → Int32, z = upd nw (293 + r1).toNatClampNeg ((nw (293 + r1).toNatClampNeg) - 1) := ⟨_, rfl⟩
    replace h := h nw_4 enw_4
    refine mp_nw C F hA hE.1 q3 enw_4 dX5_serve_25 ?_
    refine k_aload_n C dX5_serve_26 1 rfl ?_
    refine mg_Mo_now C (focM_g F) hE.1 hi5 lk0 dX5_serve_27 ?_
    refine k_sipush (v := 293) C dX5_serve_30 (by decide) ?_
    refine k_iload_n C dX5_serve_33 0 rfl ?_
    refine k_iadd C dX5_serve_34 ?_
    refine mg_nw C (focM_g F) hE.1 q3 dX5_serve_35 ?_
    refine k_if_le (tgt := 40) C dX5_serve_36 (by decide) (fun c5 => ?_) (fun c5 => ?_)
    · replace h := h.1 c5
      refine k_aload_n C dX5_serve_40 1 rfl ?_
      refine mg_Mo_now C (focM_g F) hE.1 hi5 lk0 dX5_serve_41 ?_
      refine k_bipush (v := 7) C dX5_serve_44 (by decide) ?_
      refine k_dup2_11 C dX5_serve_46 rfl rfl ?_
      refine mg_nw C (focM_g F) hE.1 (vp_lit (i := 7) (n := 893) (by decide)) dX5_serve_47 ?_
      refine k_iconst (v := 1) C dX5_serve_48 (by decide) ?_
      refine k_iadd C dX5_serve_49 ?_
      obtain ⟨nw_6, enw_6⟩ : ∃ z : Nat → Int32, z = upd nw_4 7 ((nw_4 7) + 1) := ⟨_, rfl⟩
      replace h := h nw_6 enw_6
      refine mp_nw C F hA hE.1 (vp_lit (i := 7) (n := 893) (by decide)) enw_6 dX5_serve_50 ?_
      refine k_aload_n C dX5_serve_51 1 rfl ?_
      refine k_iload_n C dX5_serve_52 2 rfl ?_
      refine k_callVi (st := []) C hE (c_X5_firstJob l F hA nw_6 hi sv th cd ha srv  _ h) (cwV 1 C.2.2.2.2 gX5_serve_X5_firstJob rfl rfl rfl (by decide +kernel) ⟨Nat.le_of_ble_eq_true rfl, Nat.le_of_ble_eq_true rfl⟩) (fun H hP => va_recv hE.1 (k_one (mst_Mo ((focM_g F) H hP))) rfl (q0 := 0) rfl) rfl rfl (Nat.le_of_ble_eq_true rfl) dX5_serve_53 ⟨Nat.zero_le _, Nat.zero_le _⟩ (fun r7 => ?_)
      refine k_and (fun h => ?_)
      refine k_istore_n (lv' := [(3, .int r7), (2, .int r1), (0, .ref o), (1, .int srv)]) C dX5_serve_56 rfl (by decide) rfl ?_
      refine k_iload_n C dX5_serve_57 0 rfl ?_
      refine k_iconst (v := (-1)) C dX5_serve_58 (by decide) ?_
      refine k_icmp_eq (tgt := 92) C dX5_serve_59 (by decide) (fun c8 => ?_) (fun c8 => ?_)
      · replace h := h.1 c8
        refine k_aload_n C dX5_serve_92 2 rfl ?_
        refine k_iload_n C dX5_serve_93 3 rfl ?_
        refine k_callVi (st := []) C hE (c_X5_isUp l F hA nw_6 hi sv th cd ha srv  _ h) (cwV 1 C.2.2.2.2 gX5_serve_X5_isUp rfl rfl rfl (by decide +kernel) ⟨Nat.le_of_ble_eq_true rfl, Nat.le_of_ble_eq_true rfl⟩) (fun H hP => va_recv hE.1 (k_one (mst_Mo ((focM_g F) H hP))) rfl (q0 := 0) rfl) rfl rfl (Nat.le_of_ble_eq_true rfl) dX5_serve_94 ⟨Nat.zero_le _, Nat.zero_le _⟩ (fun r9 => ?_)
        refine k_and (fun h => ?_)
        refine k_if_eq (tgt := 105) C dX5_serve_97 (by decide) (fun c10 => ?_) (fun c10 => ?_)
        · replace h := h.1 c10
          exact k_vret C hr hlk dX5_serve_105 (fun H hP => ⟨nw_6, h, hP⟩)
        · replace h := h.2 c10
          refine k_aload_n C dX5_serve_100 2 rfl ?_
          refine k_iload_n C dX5_serve_101 3 rfl ?_
          refine k_callVv (st := []) C hE (c_X5_register l F hA nw_6 hi sv th cd ha srv  _ h) (cwV 1 C.2.2.2.2 gX5_serve_X5_register rfl rfl rfl (by decide +kernel) ⟨Nat.le_of_ble_eq_true rfl, Nat.le_of_ble_eq_true rfl⟩) (fun H hP => va_recv hE.1 (k_one (mst_Mo ((focM_g F) H hP))) rfl (q0 := 0) rfl) rfl rfl (Nat.le_of_ble_eq_true rfl) dX5_serve_102 ⟨Nat.zero_le _, Nat.zero_le _⟩ (fun _ => ?_)
          refine k_ex (fun nw_11 => k_and (fun h => ?_))
          exact k_vret C hr hlk dX5_serve_105 (fun H hP => ⟨nw_11, h, hP⟩)
      · replace h := h.2 c8
        refine k_aload_n C dX5_serve_62 2 rfl ?_
        refine mg_Mo_now C (focM_g F) hE.1 hi5 lk0 dX5_serve_63 ?_
        refine k_sipush (v := 493) C dX5_serve_66 (by decide) ?_
        refine k_iload_n C dX5_serve_69 0 rfl ?_
        refine k_iadd C dX5_serve_70 ?_
        refine k_aload_n C dX5_serve_71 2 rfl ?_
        refine mg_Mo_now C (focM_g F) hE.1 hi5 lk0 dX5_serve_72 ?_
        refine k_iconst (v := 1) C dX5_serve_75 (by decide) ?_
        refine mg_nw C (focM_g F) hE.1 (vp_lit (i := 1) (n := 893) (by decide)) dX5_serve_76 ?_
        refine k_aload_n C dX5_serve_77 2 rfl ?_
        refine mg_Mo_now C (focM_g F) hE.1 hi5 lk0 dX5_serve_78 ?_
        refine k_sipush (v := 693) C dX5_serve_81 (by decide) ?_
        refine k_iload_n C dX5_serve_84 0 rfl ?_
        refine k_iadd C dX5_serve_85 ?_
        obtain ⟨q12, h⟩ := h
        refine mg_nw C (focM_g F) hE.1 q12 dX5_serve_86 ?_
        refine k_isub C dX5_serve_87 ?_
        obtain ⟨q13, h⟩ := h
        obtain ⟨nw_14, enw_14⟩ : ∃ z : Nat → Int32, z = upd nw_6 (493 + r7).toNatClampNeg ((nw_6 1) - (nw_6 (693 + r7).toNatClampNeg)) := ⟨_, rfl⟩
        replace h := h nw_14 enw_14
        refine mp_nw C F hA hE.1 q13 enw_14 dX5_serve_88 ?_
        refine k_goto (tgt := 105) C dX5_serve_89 (by decide) ?_
        exact k_vret C hr hlk dX5_serve_105 (fun H hP => ⟨nw_14, h, hP⟩)
    · replace h := h.2 c5
      exact k_vret C hr hlk dX5_serve_39 (fun H hP => ⟨nw_4, h, hP⟩)
  · replace h := h.1 c2
    exact k_vret C hr hlk dX5_serve_11 (fun H hP => ⟨nw, h, hP⟩)
noncomputable def wp_X5_report_L20 (x1 : Int32) (rec2 : Int32 → (Nat → Int32) → Prop) (r4 : Int32) (fu : Nat) : Int32 → (Nat → Int32) → Prop := Nat.rec (motive := fun _ => Int32 → (Nat → Int32) → Prop) (fun _ _ => False) (fun _ rec20 x5 nw_6 => ((nw_6 5) ≤ x5 → (∀ x8 : Int32, x8 = x1 + 1 → (rec2 x8 nw_6))) ∧ (¬ ((nw_6 5) ≤ x5) → ((vp_in ((25 + (8 * x5)) + x1) 893) ∧ (∀ nw_10 : Nat → Int32, nw_10 = upd nw_6 ((25 + (8 * x5)) + x1).toNatClampNeg r4 → (∀ x11 : Int32, x11 = x5 + 1 → (rec20 x11 nw_10)))))) fu
noncomputable def wp_X5_report_L2 (k : (Nat → Int32) → Prop) (fu : Nat) : Int32 → (Nat → Int32) → Prop := Nat.rec (motive := fun _ => Int32 → (Nat → Int32) → Prop) (fun _ _ => False) (fun _ rec2 x1 nw_2 => ((nw_2 4) ≤ x1 → (k nw_2)) ∧ (¬ ((nw_2 4) ≤ x1) → (wp_X5_lengthOf nw_2 x1 (fun r4 => ∃ fu, wp_X5_report_L20 x1 rec2 r4 fu 0 nw_2)))) fu
noncomputable def wp_X5_report (nw : Nat → Int32) (k : (Nat → Int32) → Prop) : Prop := ∃ fu, wp_X5_report_L2 k fu 0 nw
set_option maxRecDepth 100000 in
set_option maxHeartbeats 4000000 in
theorem c_X5_report (l : Launch) {E : EV} {o : Nat} {P : PM} {A : Nat → Prop} (F : FocM E o P) (hA : ∀ q, inMo o q → A q) (nw : Nat → Int32) (hi : Nat → Int32) (sv : Int32) (th : Int32) (cd : Nat → Int32) (ha : Int64)   (k : (Nat → Int32) → Prop) (h : wp_X5_report nw  k) : Met l yX5_report wsX5_report { frames := 2, cells := 0, slots := 0, locals := 45 } (va_Pc [.ref o] (fun U => P nw hi sv th cd ha U.heap ∧ XE E U)) (kQv (fun H => ∃ nw9 : Nat → Int32, k nw9 ∧ P nw9 hi sv th cd ha H) A) 0 0 A := by
  refine k_body (cc := cX5_report) (own := RX5) (maxL := 4) (ret := none) (lv0 := [(0, .ref o)]) (by decide) rfl rfl (Nat.le_of_ble_eq_true rfl) rfl (fun p e s m below meth c C hr hlk hP hE => ?_)
  have hi5 : ∀ w ∈ u_ws RX5 TX5 6, w ∈ wsX5_report := by decide +kernel
  have lk0 := C.2.2.2.2 (.fieldLink RX5 7 "IdleDispatcherModel" "now" "[I") (by decide +kernel)
  refine k_iconst (v := 0) C dX5_report_0 (by decide) ?_
  refine k_istore_n (lv' := [(1, .int 0), (0, .ref o)]) C dX5_report_1 rfl (by decide) rfl ?_
  obtain ⟨n2, h⟩ := h
  refine k_pc (pc2 := 2) rfl ?_
  refine k_loop2 (wp_X5_report_L2 k) (fun x1 nw_2 => P nw_2 hi sv th cd ha) (fun x1 nw_2 => [(1, .int x1), (0, .ref o)]) (fun _ _ h => h) (fun n2 ih2 x1 nw_2 h => ?_) n2 _ _ h
  refine k_iload_n C dX5_report_2 0 rfl ?_
  refine k_aload_n C dX5_report_3 1 rfl ?_
  refine mg_Mo_now C (focM_g F) hE.1 hi5 lk0 dX5_report_4 ?_
  refine k_iconst (v := 4) C dX5_report_7 (by decide) ?_
  refine mg_nw C (focM_g F) hE.1 (vp_lit (i := 4) (n := 893) (by decide)) dX5_report_8 ?_
  refine k_icmp_ge (tgt := 57) C dX5_report_9 (by decide) (fun c3 => ?_) (fun c3 => ?_)
  · replace h := h.1 c3
    exact k_vret C hr hlk dX5_report_57 (fun H hP => ⟨nw_2, h, hP⟩)
  · replace h := h.2 c3
    refine k_aload_n C dX5_report_12 1 rfl ?_
    refine k_iload_n C dX5_report_13 0 rfl ?_
    refine k_callVi (st := []) C hE (c_X5_lengthOf l F hA nw_2 hi sv th cd ha x1  _ h) (cwV 1 C.2.2.2.2 gX5_report_X5_lengthOf rfl rfl rfl (by decide +kernel) ⟨Nat.le_of_ble_eq_true rfl, Nat.le_of_ble_eq_true rfl⟩) (fun H hP => va_recv hE.1 (k_one (mst_Mo ((focM_g F) H hP))) rfl (q0 := 0) rfl) rfl rfl (Nat.le_of_ble_eq_true rfl) dX5_report_14 ⟨Nat.zero_le _, Nat.zero_le _⟩ (fun r4 => ?_)
    refine k_and (fun h => ?_)
    refine k_istore_n (lv' := [(2, .int r4), (1, .int x1), (0, .ref o)]) C dX5_report_17 rfl (by decide) rfl ?_
    refine k_iconst (v := 0) C dX5_report_18 (by decide) ?_
    refine k_istore_n (lv' := [(3, .int 0), (2, .int r4), (1, .int x1), (0, .ref o)]) C dX5_report_19 rfl (by decide) rfl ?_
    obtain ⟨n20, h⟩ := h
    refine k_pc (pc2 := 20) rfl ?_
    refine k_loop2 (wp_X5_report_L20 x1 (wp_X5_report_L2 k n2) r4) (fun x5 nw_6 => P nw_6 hi sv th cd ha) (fun x5 nw_6 => [(3, .int x5), (2, .int r4), (1, .int x1), (0, .ref o)]) (fun _ _ h => h) (fun n20 ih20 x5 nw_6 h => ?_) n20 _ _ h
    refine k_iload_n C dX5_report_20 0 rfl ?_
    refine k_aload_n C dX5_report_21 3 rfl ?_
    refine mg_Mo_now C (focM_g F) hE.1 hi5 lk0 dX5_report_22 ?_
    refine k_iconst (v := 5) C dX5_report_25 (by decide) ?_
    refine mg_nw C (focM_g F) hE.1 (vp_lit (i := 5) (n := 893) (by decide)) dX5_report_26 ?_
    refine k_icmp_ge (tgt := 51) C dX5_report_27 (by decide) (fun c7 => ?_) (fun c7 => ?_)
    · replace h := h.1 c7
      obtain ⟨x8, ex8⟩ : ∃ z : Int32, z = x1 + 1 := ⟨_, rfl⟩
      replace h := h x8 ex8
      refine k_iinc (v := x8) (lv' := [(1, .int x8), (3, .int x5), (2, .int r4), (0, .ref o)]) (j := 2) C dX5_report_51 rfl (by rw [ex8]; rfl) (by decide) rfl ?_
      refine k_goto (tgt := 2) C dX5_report_54 (by decide) ?_
      refine k_pc (pc2 := 2) rfl ?_
      refine k_sub [0, 3] rfl ?_
      exact ih2 _ _ h
    · replace h := h.2 c7
      refine k_aload_n C dX5_report_30 3 rfl ?_
      refine mg_Mo_now C (focM_g F) hE.1 hi5 lk0 dX5_report_31 ?_
      refine k_bipush (v := 25) C dX5_report_34 (by decide) ?_
      refine k_bipush (v := 8) C dX5_report_36 (by decide) ?_
      refine k_iload_n C dX5_report_38 0 rfl ?_
      refine k_imul C dX5_report_39 ?_
      refine k_iadd C dX5_report_40 ?_
      refine k_iload_n C dX5_report_41 2 rfl ?_
      refine k_iadd C dX5_report_42 ?_
      refine k_iload_n C dX5_report_43 1 rfl ?_
      obtain ⟨q9, h⟩ := h
      obtain ⟨nw_10, enw_10⟩ : ∃ z : Nat → Int32, z = upd nw_6 ((25 + (8 * x5)) + x1).toNatClampNeg r4 := ⟨_, rfl⟩
      replace h := h nw_10 enw_10
      refine mp_nw C F hA hE.1 q9 enw_10 dX5_report_44 ?_
      obtain ⟨x11, ex11⟩ : ∃ z : Int32, z = x5 + 1 := ⟨_, rfl⟩
      replace h := h x11 ex11
      refine k_iinc (v := x11) (lv' := [(3, .int x11), (2, .int r4), (1, .int x1), (0, .ref o)]) (j := 0) C dX5_report_45 rfl (by rw [ex11]; rfl) (by decide) rfl ?_
      refine k_goto (tgt := 20) C dX5_report_48 (by decide) ?_
      refine k_pc (pc2 := 20) rfl ?_
      refine k_sub [0, 1, 2, 3] rfl ?_
      exact ih20 _ _ h
noncomputable def wp_X5_tick_L54 (x6 : Int32) (rec36 : Int32 → (Nat → Int32) → Prop) (fu : Nat) : Int32 → (Nat → Int32) → Prop := Nat.rec (motive := fun _ => Int32 → (Nat → Int32) → Prop) (fun _ _ => False) (fun _ rec54 x10 nw_11 => ((nw_11 4) ≤ x10 → ((¬ (nw_11 3) = 0) ∧ ((((nw_11 1) - (nw_11 1) / (nw_11 3) * (nw_11 3)) = 0 → (wp_X5_report nw_11 (fun nw_16 => ∀ x17 : Int32, x17 = x6 + 1 → (rec36 x17 nw_16)))) ∧ (¬ ((nw_11 1) - (nw_11 1) / (nw_11 3) * (nw_11 3)) = 0 → (∀ x15 : Int32, x15 = x6 + 1 → (rec36 x15 nw_11)))))) ∧ (¬ ((nw_11 4) ≤ x10) → (wp_X5_serve nw_11 x10 (fun nw_18 => ∀ x19 : Int32, x19 = x10 + 1 → (rec54 x19 nw_18))))) fu
noncomputable def wp_X5_tick_L36 (n : Int32) (k : Int32 → (Nat → Int32) → (Nat → Int32) → Int32 → Int32 → Prop) (x5 : Int32) (hi_3 : Nat → Int32) (sv_4 : Int32) (fu : Nat) : Int32 → (Nat → Int32) → Prop := Nat.rec (motive := fun _ => Int32 → (Nat → Int32) → Prop) (fun _ _ => False) (fun _ rec36 x6 nw_7 => (n ≤ x6 → (k ((nw_7 7) - x5) nw_7 hi_3 sv_4 0)) ∧ (¬ (n ≤ x6) → (∀ nw_9 : Nat → Int32, nw_9 = upd nw_7 1 ((nw_7 1) + 1) → (∃ fu, wp_X5_tick_L54 x6 rec36 fu 0 nw_9)))) fu
noncomputable def wp_X5_tick (nw : Nat → Int32) (hi : Nat → Int32) (sv : Int32) (n : Int32) (k : Int32 → (Nat → Int32) → (Nat → Int32) → Int32 → Int32 → Prop) : Prop := wp_X5_in n 0 500 (fun r1 => (r1 = 0 → (wp_X5_refuse 1 (fun r20 th_21 => k r20 nw hi sv th_21))) ∧ (¬ r1 = 0 → (wp_X5_save nw hi sv (fun hi_3 sv_4 => ∀ x5 : Int32, x5 = (nw 7) → (∃ fu, wp_X5_tick_L36 n k x5 hi_3 sv_4 fu 0 nw)))))
set_option maxRecDepth 100000 in
set_option maxHeartbeats 4000000 in
theorem c_X5_tick (l : Launch) {E : EV} {o : Nat} {P : PM} {A : Nat → Prop} (F : FocM E o P) (hA : ∀ q, inMo o q → A q) (nw : Nat → Int32) (hi : Nat → Int32) (sv : Int32) (th : Int32) (cd : Nat → Int32) (ha : Int64) (n : Int32)  (k : Int32 → (Nat → Int32) → (Nat → Int32) → Int32 → Int32 → Prop) (h : wp_X5_tick nw hi sv n k) : Met l yX5_tick wsX5_tick { frames := 3, cells := 0, slots := 0, locals := 69 } (va_Pc [.ref o, .int n] (fun U => P nw hi sv th cd ha U.heap ∧ XE E U)) (kQi (fun r H => ∃ nw9 : Nat → Int32, ∃ hi9 : Nat → Int32, ∃ sv9 : Int32, ∃ th9 : Int32, k r nw9 hi9 sv9 th9 ∧ P nw9 hi9 sv9 th9 cd ha H) A) 0 0 A := by
  refine k_body (cc := cX5_tick) (own := RX5) (maxL := 5) (ret := (some .int)) (lv0 := [(0, .ref o), (1, .int n)]) (by decide) rfl rfl (Nat.le_of_ble_eq_true rfl) rfl (fun p e s m below meth c C hr hlk hP hE => ?_)
  have hi5 : ∀ w ∈ u_ws RX5 TX5 6, w ∈ wsX5_tick := by decide +kernel
  have lk0 := C.2.2.2.2 (.fieldLink RX5 19 "IdleDispatcherModel" "thrown" "I") (by decide +kernel)
  have lk1 := C.2.2.2.2 (.fieldLink RX5 7 "IdleDispatcherModel" "now" "[I") (by decide +kernel)
  refine k_aload_n C dX5_tick_0 0 rfl ?_
  refine k_iconst (v := 0) C dX5_tick_1 (by decide) ?_
  refine mp_th C F hA hE.1 hi5 lk0 dX5_tick_2 ?_
  refine k_iload_n C dX5_tick_5 1 rfl ?_
  refine k_iconst (v := 0) C dX5_tick_6 (by decide) ?_
  refine k_sipush (v := 500) C dX5_tick_7 (by decide) ?_
  refine k_callSi (st := []) C hE (c_X5_in l (P := P nw hi sv 0 cd ha) (A := A) (E := E) n 0 500 _ h) (va_cwS 3 C.2.2.2.2 gX5_tick_X5_in rfl rfl rfl (by decide +kernel) ⟨Nat.le_of_ble_eq_true rfl, Nat.le_of_ble_eq_true rfl⟩) rfl rfl (Nat.le_of_ble_eq_true rfl) dX5_tick_10 ⟨Nat.zero_le _, Nat.zero_le _⟩ (fun r1 => ?_)
  refine k_and (fun h => ?_)
  refine k_if_ne (tgt := 22) C dX5_tick_13 (by decide) (fun c2 => ?_) (fun c2 => ?_)
  · replace h := h.2 c2
    refine k_aload_n C dX5_tick_22 0 rfl ?_
    refine k_callVv (st := []) C hE (c_X5_save l F hA nw hi sv 0 cd ha   _ h) (cwV 0 C.2.2.2.2 gX5_tick_X5_save rfl rfl rfl (by decide +kernel) ⟨Nat.le_of_ble_eq_true rfl, Nat.le_of_ble_eq_true rfl⟩) (fun H hP => va_recv hE.1 (k_one (mst_Mo ((focM_g F) H hP))) rfl (q0 := 0) rfl) rfl rfl (Nat.le_of_ble_eq_true rfl) dX5_tick_23 ⟨Nat.zero_le _, Nat.zero_le _⟩ (fun _ => ?_)
    refine k_ex (fun hi_3 => k_ex (fun sv_4 => k_and (fun h => ?_)))
    refine k_aload_n C dX5_tick_26 0 rfl ?_
    refine mg_Mo_now C (focM_g F) hE.1 hi5 lk1 dX5_tick_27 ?_
    refine k_bipush (v := 7) C dX5_tick_30 (by decide) ?_
    refine mg_nw C (focM_g F) hE.1 (vp_lit (i := 7) (n := 893) (by decide)) dX5_tick_32 ?_
    refine k_topi (fun x5 ex5 => ?_)
    replace h := h x5 ex5
    refine k_istore_n (lv' := [(2, .int x5), (0, .ref o), (1, .int n)]) C dX5_tick_33 rfl (by decide) rfl ?_
    refine k_iconst (v := 0) C dX5_tick_34 (by decide) ?_
    refine k_istore_n (lv' := [(3, .int 0), (2, .int x5), (0, .ref o), (1, .int n)]) C dX5_tick_35 rfl (by decide) rfl ?_
    obtain ⟨n36, h⟩ := h
    refine k_pc (pc2 := 36) rfl ?_
    refine k_loop2 (wp_X5_tick_L36 n k x5 hi_3 sv_4) (fun x6 nw_7 => P nw_7 hi_3 sv_4 0 cd ha) (fun x6 nw_7 => [(3, .int x6), (2, .int x5), (0, .ref o), (1, .int n)]) (fun _ _ h => h) (fun n36 ih36 x6 nw_7 h => ?_) n36 _ _ h
    refine k_iload_n C dX5_tick_36 0 rfl ?_
    refine k_iload_n C dX5_tick_37 3 rfl ?_
    refine k_icmp_ge (tgt := 103) C dX5_tick_38 (by decide) (fun c8 => ?_) (fun c8 => ?_)
    · replace h := h.1 c8
      refine k_aload_n C dX5_tick_103 2 rfl ?_
      refine mg_Mo_now C (focM_g F) hE.1 hi5 lk1 dX5_tick_104 ?_
      refine k_bipush (v := 7) C dX5_tick_107 (by decide) ?_
      refine mg_nw C (focM_g F) hE.1 (vp_lit (i := 7) (n := 893) (by decide)) dX5_tick_109 ?_
      refine k_iload_n C dX5_tick_110 1 rfl ?_
      refine k_isub C dX5_tick_111 ?_
      exact k_iret C hr hlk dX5_tick_112 (fun H hP => ⟨nw_7, hi_3, sv_4, 0, h, hP⟩)
    · replace h := h.2 c8
      refine k_aload_n C dX5_tick_41 2 rfl ?_
      refine mg_Mo_now C (focM_g F) hE.1 hi5 lk1 dX5_tick_42 ?_
      refine k_iconst (v := 1) C dX5_tick_45 (by decide) ?_
      refine k_dup2_11 C dX5_tick_46 rfl rfl ?_
      refine mg_nw C (focM_g F) hE.1 (vp_lit (i := 1) (n := 893) (by decide)) dX5_tick_47 ?_
      refine k_iconst (v := 1) C dX5_tick_48 (by decide) ?_
      refine k_iadd C dX5_tick_49 ?_
      obtain ⟨nw_9, enw_9⟩ : ∃ z : Nat → Int32, z = upd nw_7 1 ((nw_7 1) + 1) := ⟨_, rfl⟩
      replace h := h nw_9 enw_9
      refine mp_nw C F hA hE.1 (vp_lit (i := 1) (n := 893) (by decide)) enw_9 dX5_tick_50 ?_
      refine k_iconst (v := 0) C dX5_tick_51 (by decide) ?_
      refine k_istore (lv' := [(4, .int 0), (3, .int x6), (2, .int x5), (0, .ref o), (1, .int n)]) C dX5_tick_52 (by decide) rfl ?_
      obtain ⟨n54, h⟩ := h
      refine k_pc (pc2 := 54) rfl ?_
      refine k_loop2 (wp_X5_tick_L54 x6 (wp_X5_tick_L36 n k x5 hi_3 sv_4 n36)) (fun x10 nw_11 => P nw_11 hi_3 sv_4 0 cd ha) (fun x10 nw_11 => [(4, .int x10), (3, .int x6), (2, .int x5), (0, .ref o), (1, .int n)]) (fun _ _ h => h) (fun n54 ih54 x10 nw_11 h => ?_) n54 _ _ h
      refine k_iload C dX5_tick_54 0 rfl ?_
      refine k_aload_n C dX5_tick_56 3 rfl ?_
      refine mg_Mo_now C (focM_g F) hE.1 hi5 lk1 dX5_tick_57 ?_
      refine k_iconst (v := 4) C dX5_tick_60 (by decide) ?_
      refine mg_nw C (focM_g F) hE.1 (vp_lit (i := 4) (n := 893) (by decide)) dX5_tick_61 ?_
      refine k_icmp_ge (tgt := 77) C dX5_tick_62 (by decide) (fun c12 => ?_) (fun c12 => ?_)
      · replace h := h.1 c12
        refine k_aload_n C dX5_tick_77 3 rfl ?_
        refine mg_Mo_now C (focM_g F) hE.1 hi5 lk1 dX5_tick_78 ?_
        refine k_iconst (v := 1) C dX5_tick_81 (by decide) ?_
        refine mg_nw C (focM_g F) hE.1 (vp_lit (i := 1) (n := 893) (by decide)) dX5_tick_82 ?_
        refine k_aload_n C dX5_tick_83 3 rfl ?_
        refine mg_Mo_now C (focM_g F) hE.1 hi5 lk1 dX5_tick_84 ?_
        refine k_iconst (v := 3) C dX5_tick_87 (by decide) ?_
        refine mg_nw C (focM_g F) hE.1 (vp_lit (i := 3) (n := 893) (by decide)) dX5_tick_88 ?_
        obtain ⟨q13, h⟩ := h
        refine k_irem C dX5_tick_89 q13 ?_
        refine k_if_ne (tgt := 97) C dX5_tick_90 (by decide) (fun c14 => ?_) (fun c14 => ?_)
        · replace h := h.2 c14
          obtain ⟨x15, ex15⟩ : ∃ z : Int32, z = x6 + 1 := ⟨_, rfl⟩
          replace h := h x15 ex15
          refine k_iinc (v := x15) (lv' := [(3, .int x15), (4, .int x10), (2, .int x5), (0, .ref o), (1, .int n)]) (j := 1) C dX5_tick_97 rfl (by rw [ex15]; rfl) (by decide) rfl ?_
          refine k_goto (tgt := 36) C dX5_tick_100 (by decide) ?_
          refine k_pc (pc2 := 36) rfl ?_
          refine k_sub [0, 2, 3, 4] rfl ?_
          exact ih36 _ _ h
        · replace h := h.1 c14
          refine k_aload_n C dX5_tick_93 3 rfl ?_
          refine k_callVv (st := []) C hE (c_X5_report l F hA nw_11 hi_3 sv_4 0 cd ha   _ h) (cwV 0 C.2.2.2.2 gX5_tick_X5_report rfl rfl rfl (by decide +kernel) ⟨Nat.le_of_ble_eq_true rfl, Nat.le_of_ble_eq_true rfl⟩) (fun H hP => va_recv hE.1 (k_one (mst_Mo ((focM_g F) H hP))) rfl (q0 := 0) rfl) rfl rfl (Nat.le_of_ble_eq_true rfl) dX5_tick_94 ⟨Nat.zero_le _, Nat.zero_le _⟩ (fun _ => ?_)
          refine k_ex (fun nw_16 => k_and (fun h => ?_))
          obtain ⟨x17, ex17⟩ : ∃ z : Int32, z = x6 + 1 := ⟨_, rfl⟩
          replace h := h x17 ex17
          refine k_iinc (v := x17) (lv' := [(3, .int x17), (4, .int x10), (2, .int x5), (0, .ref o), (1, .int n)]) (j := 1) C dX5_tick_97 rfl (by rw [ex17]; rfl) (by decide) rfl ?_
          refine k_goto (tgt := 36) C dX5_tick_100 (by decide) ?_
          refine k_pc (pc2 := 36) rfl ?_
          refine k_sub [0, 2, 3, 4] rfl ?_
          exact ih36 _ _ h
      · replace h := h.2 c12
        refine k_aload_n C dX5_tick_65 3 rfl ?_
        refine k_iload C dX5_tick_66 0 rfl ?_
        refine k_callVv (st := []) C hE (c_X5_serve l F hA nw_11 hi_3 sv_4 0 cd ha x10  _ h) (cwV 1 C.2.2.2.2 gX5_tick_X5_serve rfl rfl rfl (by decide +kernel) ⟨Nat.le_of_ble_eq_true rfl, Nat.le_of_ble_eq_true rfl⟩) (fun H hP => va_recv hE.1 (k_one (mst_Mo ((focM_g F) H hP))) rfl (q0 := 0) rfl) rfl rfl (Nat.le_of_ble_eq_true rfl) dX5_tick_68 ⟨Nat.zero_le _, Nat.zero_le _⟩ (fun _ => ?_)
        refine k_ex (fun nw_18 => k_and (fun h => ?_))
        obtain ⟨x19, ex19⟩ : ∃ z : Int32, z = x10 + 1 := ⟨_, rfl⟩
        replace h := h x19 ex19
        refine k_iinc (v := x19) (lv' := [(4, .int x19), (3, .int x6), (2, .int x5), (0, .ref o), (1, .int n)]) (j := 0) C dX5_tick_71 rfl (by rw [ex19]; rfl) (by decide) rfl ?_
        refine k_goto (tgt := 54) C dX5_tick_74 (by decide) ?_
        refine k_pc (pc2 := 54) rfl ?_
        refine k_sub [0, 1, 2, 3, 4] rfl ?_
        exact ih54 _ _ h
  · replace h := h.1 c2
    refine k_aload_n C dX5_tick_16 0 rfl ?_
    refine k_iconst (v := 1) C dX5_tick_17 (by decide) ?_
    refine k_callVi (st := []) C hE (c_X5_refuse l F hA nw hi sv 0 cd ha 1  _ h) (cwV 1 C.2.2.2.2 gX5_tick_X5_refuse rfl rfl rfl (by decide +kernel) ⟨Nat.le_of_ble_eq_true rfl, Nat.le_of_ble_eq_true rfl⟩) (fun H hP => va_recv hE.1 (k_one (mst_Mo ((focM_g F) H hP))) rfl (q0 := 0) rfl) rfl rfl (Nat.le_of_ble_eq_true rfl) dX5_tick_18 ⟨Nat.zero_le _, Nat.zero_le _⟩ (fun r20 => ?_)
    refine k_ex (fun th_21 => k_and (fun h => ?_))
    exact k_iret C hr hlk dX5_tick_21 (fun H hP => ⟨nw, hi, sv, th_21, h, hP⟩)
noncomputable def wp_X5_length (nw : Nat → Int32) (srv : Int32) (k : Int32 → Int32 → Prop) : Prop := wp_X5_isServer nw srv (fun r1 => (r1 = 0 → (wp_X5_refuse 1 (fun r3 th_4 => k r3 th_4))) ∧ (¬ (r1 = 0) → (wp_X5_lengthOf nw srv (fun r5 => k r5 0))))
set_option maxRecDepth 100000 in
set_option maxHeartbeats 4000000 in
theorem c_X5_length (l : Launch) {E : EV} {o : Nat} {P : PM} {A : Nat → Prop} (F : FocM E o P) (hA : ∀ q, inMo o q → A q) (nw : Nat → Int32) (hi : Nat → Int32) (sv : Int32) (th : Int32) (cd : Nat → Int32) (ha : Int64) (srv : Int32)  (k : Int32 → Int32 → Prop) (h : wp_X5_length nw srv k) : Met l yX5_length wsX5_length { frames := 2, cells := 0, slots := 0, locals := 45 } (va_Pc [.ref o, .int srv] (fun U => P nw hi sv th cd ha U.heap ∧ XE E U)) (kQi (fun r H => ∃ th9 : Int32, k r th9 ∧ P nw hi sv th9 cd ha H) A) 0 0 A := by
  refine k_body (cc := cX5_length) (own := RX5) (maxL := 2) (ret := (some .int)) (lv0 := [(0, .ref o), (1, .int srv)]) (by decide) rfl rfl (Nat.le_of_ble_eq_true rfl) rfl (fun p e s m below meth c C hr hlk hP hE => ?_)
  have hi5 : ∀ w ∈ u_ws RX5 TX5 6, w ∈ wsX5_length := by decide +kernel
  have lk0 := C.2.2.2.2 (.fieldLink RX5 19 "IdleDispatcherModel" "thrown" "I") (by decide +kernel)
  refine k_aload_n C dX5_length_0 0 rfl ?_
  refine k_iconst (v := 0) C dX5_length_1 (by decide) ?_
  refine mp_th C F hA hE.1 hi5 lk0 dX5_length_2 ?_
  refine k_aload_n C dX5_length_5 0 rfl ?_
  refine k_iload_n C dX5_length_6 1 rfl ?_
  refine k_callVi (st := []) C hE (c_X5_isServer l F hA nw hi sv 0 cd ha srv  _ h) (cwV 1 C.2.2.2.2 gX5_length_X5_isServer rfl rfl rfl (by decide +kernel) ⟨Nat.le_of_ble_eq_true rfl, Nat.le_of_ble_eq_true rfl⟩) (fun H hP => va_recv hE.1 (k_one (mst_Mo ((focM_g F) H hP))) rfl (q0 := 0) rfl) rfl rfl (Nat.le_of_ble_eq_true rfl) dX5_length_7 ⟨Nat.zero_le _, Nat.zero_le _⟩ (fun r1 => ?_)
  refine k_and (fun h => ?_)
  refine k_if_eq (tgt := 21) C dX5_length_10 (by decide) (fun c2 => ?_) (fun c2 => ?_)
  · replace h := h.1 c2
    refine k_aload_n C dX5_length_21 0 rfl ?_
    refine k_iconst (v := 1) C dX5_length_22 (by decide) ?_
    refine k_callVi (st := []) C hE (c_X5_refuse l F hA nw hi sv 0 cd ha 1  _ h) (cwV 1 C.2.2.2.2 gX5_length_X5_refuse rfl rfl rfl (by decide +kernel) ⟨Nat.le_of_ble_eq_true rfl, Nat.le_of_ble_eq_true rfl⟩) (fun H hP => va_recv hE.1 (k_one (mst_Mo ((focM_g F) H hP))) rfl (q0 := 0) rfl) rfl rfl (Nat.le_of_ble_eq_true rfl) dX5_length_23 ⟨Nat.zero_le _, Nat.zero_le _⟩ (fun r3 => ?_)
    refine k_ex (fun th_4 => k_and (fun h => ?_))
    exact k_iret C hr hlk dX5_length_26 (fun H hP => ⟨th_4, h, hP⟩)
  · replace h := h.2 c2
    refine k_aload_n C dX5_length_13 0 rfl ?_
    refine k_iload_n C dX5_length_14 1 rfl ?_
    refine k_callVi (st := []) C hE (c_X5_lengthOf l F hA nw hi sv 0 cd ha srv  _ h) (cwV 1 C.2.2.2.2 gX5_length_X5_lengthOf rfl rfl rfl (by decide +kernel) ⟨Nat.le_of_ble_eq_true rfl, Nat.le_of_ble_eq_true rfl⟩) (fun H hP => va_recv hE.1 (k_one (mst_Mo ((focM_g F) H hP))) rfl (q0 := 0) rfl) rfl rfl (Nat.le_of_ble_eq_true rfl) dX5_length_15 ⟨Nat.zero_le _, Nat.zero_le _⟩ (fun r5 => ?_)
    refine k_and (fun h => ?_)
    refine k_goto (tgt := 26) C dX5_length_18 (by decide) ?_
    exact k_iret C hr hlk dX5_length_26 (fun H hP => ⟨0, h, hP⟩)
noncomputable def wp_X5_work (nw : Nat → Int32) (srv : Int32) (k : Int32 → Int32 → Prop) : Prop := wp_X5_isServer nw srv (fun r1 => (r1 = 0 → (wp_X5_refuse 1 (fun r3 th_4 => k r3 th_4))) ∧ (¬ (r1 = 0) → (wp_X5_workOf nw srv (fun r5 => k r5 0))))
set_option maxRecDepth 100000 in
set_option maxHeartbeats 4000000 in
theorem c_X5_work (l : Launch) {E : EV} {o : Nat} {P : PM} {A : Nat → Prop} (F : FocM E o P) (hA : ∀ q, inMo o q → A q) (nw : Nat → Int32) (hi : Nat → Int32) (sv : Int32) (th : Int32) (cd : Nat → Int32) (ha : Int64) (srv : Int32)  (k : Int32 → Int32 → Prop) (h : wp_X5_work nw srv k) : Met l yX5_work wsX5_work { frames := 2, cells := 0, slots := 0, locals := 45 } (va_Pc [.ref o, .int srv] (fun U => P nw hi sv th cd ha U.heap ∧ XE E U)) (kQi (fun r H => ∃ th9 : Int32, k r th9 ∧ P nw hi sv th9 cd ha H) A) 0 0 A := by
  refine k_body (cc := cX5_work) (own := RX5) (maxL := 2) (ret := (some .int)) (lv0 := [(0, .ref o), (1, .int srv)]) (by decide) rfl rfl (Nat.le_of_ble_eq_true rfl) rfl (fun p e s m below meth c C hr hlk hP hE => ?_)
  have hi5 : ∀ w ∈ u_ws RX5 TX5 6, w ∈ wsX5_work := by decide +kernel
  have lk0 := C.2.2.2.2 (.fieldLink RX5 19 "IdleDispatcherModel" "thrown" "I") (by decide +kernel)
  refine k_aload_n C dX5_work_0 0 rfl ?_
  refine k_iconst (v := 0) C dX5_work_1 (by decide) ?_
  refine mp_th C F hA hE.1 hi5 lk0 dX5_work_2 ?_
  refine k_aload_n C dX5_work_5 0 rfl ?_
  refine k_iload_n C dX5_work_6 1 rfl ?_
  refine k_callVi (st := []) C hE (c_X5_isServer l F hA nw hi sv 0 cd ha srv  _ h) (cwV 1 C.2.2.2.2 gX5_work_X5_isServer rfl rfl rfl (by decide +kernel) ⟨Nat.le_of_ble_eq_true rfl, Nat.le_of_ble_eq_true rfl⟩) (fun H hP => va_recv hE.1 (k_one (mst_Mo ((focM_g F) H hP))) rfl (q0 := 0) rfl) rfl rfl (Nat.le_of_ble_eq_true rfl) dX5_work_7 ⟨Nat.zero_le _, Nat.zero_le _⟩ (fun r1 => ?_)
  refine k_and (fun h => ?_)
  refine k_if_eq (tgt := 21) C dX5_work_10 (by decide) (fun c2 => ?_) (fun c2 => ?_)
  · replace h := h.1 c2
    refine k_aload_n C dX5_work_21 0 rfl ?_
    refine k_iconst (v := 1) C dX5_work_22 (by decide) ?_
    refine k_callVi (st := []) C hE (c_X5_refuse l F hA nw hi sv 0 cd ha 1  _ h) (cwV 1 C.2.2.2.2 gX5_work_X5_refuse rfl rfl rfl (by decide +kernel) ⟨Nat.le_of_ble_eq_true rfl, Nat.le_of_ble_eq_true rfl⟩) (fun H hP => va_recv hE.1 (k_one (mst_Mo ((focM_g F) H hP))) rfl (q0 := 0) rfl) rfl rfl (Nat.le_of_ble_eq_true rfl) dX5_work_23 ⟨Nat.zero_le _, Nat.zero_le _⟩ (fun r3 => ?_)
    refine k_ex (fun th_4 => k_and (fun h => ?_))
    exact k_iret C hr hlk dX5_work_26 (fun H hP => ⟨th_4, h, hP⟩)
  · replace h := h.2 c2
    refine k_aload_n C dX5_work_13 0 rfl ?_
    refine k_iload_n C dX5_work_14 1 rfl ?_
    refine k_callVi (st := []) C hE (c_X5_workOf l F hA nw hi sv 0 cd ha srv  _ h) (cwV 1 C.2.2.2.2 gX5_work_X5_workOf rfl rfl rfl (by decide +kernel) ⟨Nat.le_of_ble_eq_true rfl, Nat.le_of_ble_eq_true rfl⟩) (fun H hP => va_recv hE.1 (k_one (mst_Mo ((focM_g F) H hP))) rfl (q0 := 0) rfl) rfl rfl (Nat.le_of_ble_eq_true rfl) dX5_work_15 ⟨Nat.zero_le _, Nat.zero_le _⟩ (fun r5 => ?_)
    refine k_and (fun h => ?_)
    refine k_goto (tgt := 26) C dX5_work_18 (by decide) ?_
    exact k_iret C hr hlk dX5_work_26 (fun H hP => ⟨0, h, hP⟩)
noncomputable def wp_X5_registeredAt (nw : Nat → Int32) (srv : Int32) (k : Int32 → Int32 → Prop) : Prop := wp_X5_isServer nw srv (fun r1 => (r1 = 0 → (wp_X5_refuse 1 (fun r3 th_4 => k r3 th_4))) ∧ (¬ (r1 = 0) → (wp_X5_listOf nw srv (fun r5 => k r5 0))))
set_option maxRecDepth 100000 in
set_option maxHeartbeats 4000000 in
theorem c_X5_registeredAt (l : Launch) {E : EV} {o : Nat} {P : PM} {A : Nat → Prop} (F : FocM E o P) (hA : ∀ q, inMo o q → A q) (nw : Nat → Int32) (hi : Nat → Int32) (sv : Int32) (th : Int32) (cd : Nat → Int32) (ha : Int64) (srv : Int32)  (k : Int32 → Int32 → Prop) (h : wp_X5_registeredAt nw srv k) : Met l yX5_registeredAt wsX5_registeredAt { frames := 2, cells := 0, slots := 0, locals := 43 } (va_Pc [.ref o, .int srv] (fun U => P nw hi sv th cd ha U.heap ∧ XE E U)) (kQi (fun r H => ∃ th9 : Int32, k r th9 ∧ P nw hi sv th9 cd ha H) A) 0 0 A := by
  refine k_body (cc := cX5_registeredAt) (own := RX5) (maxL := 2) (ret := (some .int)) (lv0 := [(0, .ref o), (1, .int srv)]) (by decide) rfl rfl (Nat.le_of_ble_eq_true rfl) rfl (fun p e s m below meth c C hr hlk hP hE => ?_)
  have hi5 : ∀ w ∈ u_ws RX5 TX5 6, w ∈ wsX5_registeredAt := by decide +kernel
  have lk0 := C.2.2.2.2 (.fieldLink RX5 19 "IdleDispatcherModel" "thrown" "I") (by decide +kernel)
  refine k_aload_n C dX5_registeredAt_0 0 rfl ?_
  refine k_iconst (v := 0) C dX5_registeredAt_1 (by decide) ?_
  refine mp_th C F hA hE.1 hi5 lk0 dX5_registeredAt_2 ?_
  refine k_aload_n C dX5_registeredAt_5 0 rfl ?_
  refine k_iload_n C dX5_registeredAt_6 1 rfl ?_
  refine k_callVi (st := []) C hE (c_X5_isServer l F hA nw hi sv 0 cd ha srv  _ h) (cwV 1 C.2.2.2.2 gX5_registeredAt_X5_isServer rfl rfl rfl (by decide +kernel) ⟨Nat.le_of_ble_eq_true rfl, Nat.le_of_ble_eq_true rfl⟩) (fun H hP => va_recv hE.1 (k_one (mst_Mo ((focM_g F) H hP))) rfl (q0 := 0) rfl) rfl rfl (Nat.le_of_ble_eq_true rfl) dX5_registeredAt_7 ⟨Nat.zero_le _, Nat.zero_le _⟩ (fun r1 => ?_)
  refine k_and (fun h => ?_)
  refine k_if_eq (tgt := 21) C dX5_registeredAt_10 (by decide) (fun c2 => ?_) (fun c2 => ?_)
  · replace h := h.1 c2
    refine k_aload_n C dX5_registeredAt_21 0 rfl ?_
    refine k_iconst (v := 1) C dX5_registeredAt_22 (by decide) ?_
    refine k_callVi (st := []) C hE (c_X5_refuse l F hA nw hi sv 0 cd ha 1  _ h) (cwV 1 C.2.2.2.2 gX5_registeredAt_X5_refuse rfl rfl rfl (by decide +kernel) ⟨Nat.le_of_ble_eq_true rfl, Nat.le_of_ble_eq_true rfl⟩) (fun H hP => va_recv hE.1 (k_one (mst_Mo ((focM_g F) H hP))) rfl (q0 := 0) rfl) rfl rfl (Nat.le_of_ble_eq_true rfl) dX5_registeredAt_23 ⟨Nat.zero_le _, Nat.zero_le _⟩ (fun r3 => ?_)
    refine k_ex (fun th_4 => k_and (fun h => ?_))
    exact k_iret C hr hlk dX5_registeredAt_26 (fun H hP => ⟨th_4, h, hP⟩)
  · replace h := h.2 c2
    refine k_aload_n C dX5_registeredAt_13 0 rfl ?_
    refine k_iload_n C dX5_registeredAt_14 1 rfl ?_
    refine k_callVi (st := []) C hE (c_X5_listOf l F hA nw hi sv 0 cd ha srv  _ h) (cwV 1 C.2.2.2.2 gX5_registeredAt_X5_listOf rfl rfl rfl (by decide +kernel) ⟨Nat.le_of_ble_eq_true rfl, Nat.le_of_ble_eq_true rfl⟩) (fun H hP => va_recv hE.1 (k_one (mst_Mo ((focM_g F) H hP))) rfl (q0 := 0) rfl) rfl rfl (Nat.le_of_ble_eq_true rfl) dX5_registeredAt_15 ⟨Nat.zero_le _, Nat.zero_le _⟩ (fun r5 => ?_)
    refine k_and (fun h => ?_)
    refine k_goto (tgt := 26) C dX5_registeredAt_18 (by decide) ?_
    exact k_iret C hr hlk dX5_registeredAt_26 (fun H hP => ⟨0, h, hP⟩)
noncomputable def wp_X5_idleCount (nw : Nat → Int32) (dsp : Int32) (k : Int32 → Int32 → Prop) : Prop := wp_X5_isDispatcher nw dsp (fun r1 => (r1 = 0 → (wp_X5_refuse 1 (fun r3 th_4 => k r3 th_4))) ∧ (¬ (r1 = 0) → ((vp_in (57 + dsp) 893) ∧ (k (nw (57 + dsp).toNatClampNeg) 0))))
set_option maxRecDepth 100000 in
set_option maxHeartbeats 4000000 in
theorem c_X5_idleCount (l : Launch) {E : EV} {o : Nat} {P : PM} {A : Nat → Prop} (F : FocM E o P) (hA : ∀ q, inMo o q → A q) (nw : Nat → Int32) (hi : Nat → Int32) (sv : Int32) (th : Int32) (cd : Nat → Int32) (ha : Int64) (dsp : Int32)  (k : Int32 → Int32 → Prop) (h : wp_X5_idleCount nw dsp k) : Met l yX5_idleCount wsX5_idleCount { frames := 2, cells := 0, slots := 0, locals := 43 } (va_Pc [.ref o, .int dsp] (fun U => P nw hi sv th cd ha U.heap ∧ XE E U)) (kQi (fun r H => ∃ th9 : Int32, k r th9 ∧ P nw hi sv th9 cd ha H) A) 0 0 A := by
  refine k_body (cc := cX5_idleCount) (own := RX5) (maxL := 2) (ret := (some .int)) (lv0 := [(0, .ref o), (1, .int dsp)]) (by decide) rfl rfl (Nat.le_of_ble_eq_true rfl) rfl (fun p e s m below meth c C hr hlk hP hE => ?_)
  have hi5 : ∀ w ∈ u_ws RX5 TX5 6, w ∈ wsX5_idleCount := by decide +kernel
  have lk0 := C.2.2.2.2 (.fieldLink RX5 19 "IdleDispatcherModel" "thrown" "I") (by decide +kernel)
  have lk1 := C.2.2.2.2 (.fieldLink RX5 7 "IdleDispatcherModel" "now" "[I") (by decide +kernel)
  refine k_aload_n C dX5_idleCount_0 0 rfl ?_
  refine k_iconst (v := 0) C dX5_idleCount_1 (by decide) ?_
  refine mp_th C F hA hE.1 hi5 lk0 dX5_idleCount_2 ?_
  refine k_aload_n C dX5_idleCount_5 0 rfl ?_
  refine k_iload_n C dX5_idleCount_6 1 rfl ?_
  refine k_callVi (st := []) C hE (c_X5_isDispatcher l F hA nw hi sv 0 cd ha dsp  _ h) (cwV 1 C.2.2.2.2 gX5_idleCount_X5_isDispatcher rfl rfl rfl (by decide +kernel) ⟨Nat.le_of_ble_eq_true rfl, Nat.le_of_ble_eq_true rfl⟩) (fun H hP => va_recv hE.1 (k_one (mst_Mo ((focM_g F) H hP))) rfl (q0 := 0) rfl) rfl rfl (Nat.le_of_ble_eq_true rfl) dX5_idleCount_7 ⟨Nat.zero_le _, Nat.zero_le _⟩ (fun r1 => ?_)
  refine k_and (fun h => ?_)
  refine k_if_eq (tgt := 25) C dX5_idleCount_10 (by decide) (fun c2 => ?_) (fun c2 => ?_)
  · replace h := h.1 c2
    refine k_aload_n C dX5_idleCount_25 0 rfl ?_
    refine k_iconst (v := 1) C dX5_idleCount_26 (by decide) ?_
    refine k_callVi (st := []) C hE (c_X5_refuse l F hA nw hi sv 0 cd ha 1  _ h) (cwV 1 C.2.2.2.2 gX5_idleCount_X5_refuse rfl rfl rfl (by decide +kernel) ⟨Nat.le_of_ble_eq_true rfl, Nat.le_of_ble_eq_true rfl⟩) (fun H hP => va_recv hE.1 (k_one (mst_Mo ((focM_g F) H hP))) rfl (q0 := 0) rfl) rfl rfl (Nat.le_of_ble_eq_true rfl) dX5_idleCount_27 ⟨Nat.zero_le _, Nat.zero_le _⟩ (fun r3 => ?_)
    refine k_ex (fun th_4 => k_and (fun h => ?_))
    exact k_iret C hr hlk dX5_idleCount_30 (fun H hP => ⟨th_4, h, hP⟩)
  · replace h := h.2 c2
    refine k_aload_n C dX5_idleCount_13 0 rfl ?_
    refine mg_Mo_now C (focM_g F) hE.1 hi5 lk1 dX5_idleCount_14 ?_
    refine k_bipush (v := 57) C dX5_idleCount_17 (by decide) ?_
    refine k_iload_n C dX5_idleCount_19 1 rfl ?_
    refine k_iadd C dX5_idleCount_20 ?_
    obtain ⟨q5, h⟩ := h
    refine mg_nw C (focM_g F) hE.1 q5 dX5_idleCount_21 ?_
    refine k_goto (tgt := 30) C dX5_idleCount_22 (by decide) ?_
    exact k_iret C hr hlk dX5_idleCount_30 (fun H hP => ⟨0, h, hP⟩)
noncomputable def wp_X5_idleAt (nw : Nat → Int32) (dsp : Int32) (index : Int32) (k : Int32 → Int32 → Prop) : Prop := wp_X5_isDispatcher nw dsp (fun r1 => (r1 = 0 → (wp_X5_refuse 1 (fun r9 th_10 => k r9 th_10))) ∧ (¬ r1 = 0 → ((vp_in (57 + dsp) 893) ∧ (wp_X5_in index 0 ((nw (57 + dsp).toNatClampNeg) - 1) (fun r4 => (r4 = 0 → (wp_X5_refuse 2 (fun r6 th_7 => k r6 th_7))) ∧ (¬ (r4 = 0) → ((vp_in ((61 + (8 * dsp)) + index) 893) ∧ (k (nw ((61 + (8 * dsp)) + index).toNatClampNeg) 0))))))))
set_option maxRecDepth 100000 in
set_option maxHeartbeats 4000000 in
theorem c_X5_idleAt (l : Launch) {E : EV} {o : Nat} {P : PM} {A : Nat → Prop} (F : FocM E o P) (hA : ∀ q, inMo o q → A q) (nw : Nat → Int32) (hi : Nat → Int32) (sv : Int32) (th : Int32) (cd : Nat → Int32) (ha : Int64) (dsp : Int32) (index : Int32)  (k : Int32 → Int32 → Prop) (h : wp_X5_idleAt nw dsp index k) : Met l yX5_idleAt wsX5_idleAt { frames := 2, cells := 0, slots := 0, locals := 43 } (va_Pc [.ref o, .int dsp, .int index] (fun U => P nw hi sv th cd ha U.heap ∧ XE E U)) (kQi (fun r H => ∃ th9 : Int32, k r th9 ∧ P nw hi sv th9 cd ha H) A) 0 0 A := by
  refine k_body (cc := cX5_idleAt) (own := RX5) (maxL := 3) (ret := (some .int)) (lv0 := [(0, .ref o), (1, .int dsp), (2, .int index)]) (by decide) rfl rfl (Nat.le_of_ble_eq_true rfl) rfl (fun p e s m below meth c C hr hlk hP hE => ?_)
  have hi5 : ∀ w ∈ u_ws RX5 TX5 6, w ∈ wsX5_idleAt := by decide +kernel
  have lk0 := C.2.2.2.2 (.fieldLink RX5 19 "IdleDispatcherModel" "thrown" "I") (by decide +kernel)
  have lk1 := C.2.2.2.2 (.fieldLink RX5 7 "IdleDispatcherModel" "now" "[I") (by decide +kernel)
  refine k_aload_n C dX5_idleAt_0 0 rfl ?_
  refine k_iconst (v := 0) C dX5_idleAt_1 (by decide) ?_
  refine mp_th C F hA hE.1 hi5 lk0 dX5_idleAt_2 ?_
  refine k_aload_n C dX5_idleAt_5 0 rfl ?_
  refine k_iload_n C dX5_idleAt_6 1 rfl ?_
  refine k_callVi (st := []) C hE (c_X5_isDispatcher l F hA nw hi sv 0 cd ha dsp  _ h) (cwV 1 C.2.2.2.2 gX5_idleAt_X5_isDispatcher rfl rfl rfl (by decide +kernel) ⟨Nat.le_of_ble_eq_true rfl, Nat.le_of_ble_eq_true rfl⟩) (fun H hP => va_recv hE.1 (k_one (mst_Mo ((focM_g F) H hP))) rfl (q0 := 0) rfl) rfl rfl (Nat.le_of_ble_eq_true rfl) dX5_idleAt_7 ⟨Nat.zero_le _, Nat.zero_le _⟩ (fun r1 => ?_)
  refine k_and (fun h => ?_)
  refine k_if_ne (tgt := 19) C dX5_idleAt_10 (by decide) (fun c2 => ?_) (fun c2 => ?_)
  · replace h := h.2 c2
    refine k_iload_n C dX5_idleAt_19 2 rfl ?_
    refine k_iconst (v := 0) C dX5_idleAt_20 (by decide) ?_
    refine k_aload_n C dX5_idleAt_21 0 rfl ?_
    refine mg_Mo_now C (focM_g F) hE.1 hi5 lk1 dX5_idleAt_22 ?_
    refine k_bipush (v := 57) C dX5_idleAt_25 (by decide) ?_
    refine k_iload_n C dX5_idleAt_27 1 rfl ?_
    refine k_iadd C dX5_idleAt_28 ?_
    obtain ⟨q3, h⟩ := h
    refine mg_nw C (focM_g F) hE.1 q3 dX5_idleAt_29 ?_
    refine k_iconst (v := 1) C dX5_idleAt_30 (by decide) ?_
    refine k_isub C dX5_idleAt_31 ?_
    refine k_callSi (st := []) C hE (c_X5_in l (P := P nw hi sv 0 cd ha) (A := A) (E := E) index 0 ((nw (57 + dsp).toNatClampNeg) - 1) _ h) (va_cwS 3 C.2.2.2.2 gX5_idleAt_X5_in rfl rfl rfl (by decide +kernel) ⟨Nat.le_of_ble_eq_true rfl, Nat.le_of_ble_eq_true rfl⟩) rfl rfl (Nat.le_of_ble_eq_true rfl) dX5_idleAt_32 ⟨Nat.zero_le _, Nat.zero_le _⟩ (fun r4 => ?_)
    refine k_and (fun h => ?_)
    refine k_if_eq (tgt := 55) C dX5_idleAt_35 (by decide) (fun c5 => ?_) (fun c5 => ?_)
    · replace h := h.1 c5
      refine k_aload_n C dX5_idleAt_55 0 rfl ?_
      refine k_iconst (v := 2) C dX5_idleAt_56 (by decide) ?_
      refine k_callVi (st := []) C hE (c_X5_refuse l F hA nw hi sv 0 cd ha 2  _ h) (cwV 1 C.2.2.2.2 gX5_idleAt_X5_refuse rfl rfl rfl (by decide +kernel) ⟨Nat.le_of_ble_eq_true rfl, Nat.le_of_ble_eq_true rfl⟩) (fun H hP => va_recv hE.1 (k_one (mst_Mo ((focM_g F) H hP))) rfl (q0 := 0) rfl) rfl rfl (Nat.le_of_ble_eq_true rfl) dX5_idleAt_57 ⟨Nat.zero_le _, Nat.zero_le _⟩ (fun r6 => ?_)
      refine k_ex (fun th_7 => k_and (fun h => ?_))
      exact k_iret C hr hlk dX5_idleAt_60 (fun H hP => ⟨th_7, h, hP⟩)
    · replace h := h.2 c5
      refine k_aload_n C dX5_idleAt_38 0 rfl ?_
      refine mg_Mo_now C (focM_g F) hE.1 hi5 lk1 dX5_idleAt_39 ?_
      refine k_bipush (v := 61) C dX5_idleAt_42 (by decide) ?_
      refine k_bipush (v := 8) C dX5_idleAt_44 (by decide) ?_
      refine k_iload_n C dX5_idleAt_46 1 rfl ?_
      refine k_imul C dX5_idleAt_47 ?_
      refine k_iadd C dX5_idleAt_48 ?_
      refine k_iload_n C dX5_idleAt_49 2 rfl ?_
      refine k_iadd C dX5_idleAt_50 ?_
      obtain ⟨q8, h⟩ := h
      refine mg_nw C (focM_g F) hE.1 q8 dX5_idleAt_51 ?_
      refine k_goto (tgt := 60) C dX5_idleAt_52 (by decide) ?_
      exact k_iret C hr hlk dX5_idleAt_60 (fun H hP => ⟨0, h, hP⟩)
  · replace h := h.1 c2
    refine k_aload_n C dX5_idleAt_13 0 rfl ?_
    refine k_iconst (v := 1) C dX5_idleAt_14 (by decide) ?_
    refine k_callVi (st := []) C hE (c_X5_refuse l F hA nw hi sv 0 cd ha 1  _ h) (cwV 1 C.2.2.2.2 gX5_idleAt_X5_refuse rfl rfl rfl (by decide +kernel) ⟨Nat.le_of_ble_eq_true rfl, Nat.le_of_ble_eq_true rfl⟩) (fun H hP => va_recv hE.1 (k_one (mst_Mo ((focM_g F) H hP))) rfl (q0 := 0) rfl) rfl rfl (Nat.le_of_ble_eq_true rfl) dX5_idleAt_15 ⟨Nat.zero_le _, Nat.zero_le _⟩ (fun r9 => ?_)
    refine k_ex (fun th_10 => k_and (fun h => ?_))
    exact k_iret C hr hlk dX5_idleAt_18 (fun H hP => ⟨th_10, h, hP⟩)
noncomputable def wp_X5_knownLength (nw : Nat → Int32) (dsp : Int32) (srv : Int32) (k : Int32 → Int32 → Prop) : Prop := wp_X5_isDispatcher nw dsp (fun r1 => (r1 = 0 → (wp_X5_refuse 1 (fun r3 th_4 => k r3 th_4))) ∧ (¬ (r1 = 0) → (wp_X5_isServer nw srv (fun r5 => (r5 = 0 → (wp_X5_refuse 1 (fun r7 th_8 => k r7 th_8))) ∧ (¬ (r5 = 0) → ((vp_in ((25 + (8 * dsp)) + srv) 893) ∧ (k (nw ((25 + (8 * dsp)) + srv).toNatClampNeg) 0)))))))
set_option maxRecDepth 100000 in
set_option maxHeartbeats 4000000 in
theorem c_X5_knownLength (l : Launch) {E : EV} {o : Nat} {P : PM} {A : Nat → Prop} (F : FocM E o P) (hA : ∀ q, inMo o q → A q) (nw : Nat → Int32) (hi : Nat → Int32) (sv : Int32) (th : Int32) (cd : Nat → Int32) (ha : Int64) (dsp : Int32) (srv : Int32)  (k : Int32 → Int32 → Prop) (h : wp_X5_knownLength nw dsp srv k) : Met l yX5_knownLength wsX5_knownLength { frames := 2, cells := 0, slots := 0, locals := 43 } (va_Pc [.ref o, .int dsp, .int srv] (fun U => P nw hi sv th cd ha U.heap ∧ XE E U)) (kQi (fun r H => ∃ th9 : Int32, k r th9 ∧ P nw hi sv th9 cd ha H) A) 0 0 A := by
  refine k_body (cc := cX5_knownLength) (own := RX5) (maxL := 3) (ret := (some .int)) (lv0 := [(0, .ref o), (1, .int dsp), (2, .int srv)]) (by decide) rfl rfl (Nat.le_of_ble_eq_true rfl) rfl (fun p e s m below meth c C hr hlk hP hE => ?_)
  have hi5 : ∀ w ∈ u_ws RX5 TX5 6, w ∈ wsX5_knownLength := by decide +kernel
  have lk0 := C.2.2.2.2 (.fieldLink RX5 19 "IdleDispatcherModel" "thrown" "I") (by decide +kernel)
  have lk1 := C.2.2.2.2 (.fieldLink RX5 7 "IdleDispatcherModel" "now" "[I") (by decide +kernel)
  refine k_aload_n C dX5_knownLength_0 0 rfl ?_
  refine k_iconst (v := 0) C dX5_knownLength_1 (by decide) ?_
  refine mp_th C F hA hE.1 hi5 lk0 dX5_knownLength_2 ?_
  refine k_aload_n C dX5_knownLength_5 0 rfl ?_
  refine k_iload_n C dX5_knownLength_6 1 rfl ?_
  refine k_callVi (st := []) C hE (c_X5_isDispatcher l F hA nw hi sv 0 cd ha dsp  _ h) (cwV 1 C.2.2.2.2 gX5_knownLength_X5_isDispatcher rfl rfl rfl (by decide +kernel) ⟨Nat.le_of_ble_eq_true rfl, Nat.le_of_ble_eq_true rfl⟩) (fun H hP => va_recv hE.1 (k_one (mst_Mo ((focM_g F) H hP))) rfl (q0 := 0) rfl) rfl rfl (Nat.le_of_ble_eq_true rfl) dX5_knownLength_7 ⟨Nat.zero_le _, Nat.zero_le _⟩ (fun r1 => ?_)
  refine k_and (fun h => ?_)
  refine k_if_eq (tgt := 38) C dX5_knownLength_10 (by decide) (fun c2 => ?_) (fun c2 => ?_)
  · replace h := h.1 c2
    refine k_aload_n C dX5_knownLength_38 0 rfl ?_
    refine k_iconst (v := 1) C dX5_knownLength_39 (by decide) ?_
    refine k_callVi (st := []) C hE (c_X5_refuse l F hA nw hi sv 0 cd ha 1  _ h) (cwV 1 C.2.2.2.2 gX5_knownLength_X5_refuse rfl rfl rfl (by decide +kernel) ⟨Nat.le_of_ble_eq_true rfl, Nat.le_of_ble_eq_true rfl⟩) (fun H hP => va_recv hE.1 (k_one (mst_Mo ((focM_g F) H hP))) rfl (q0 := 0) rfl) rfl rfl (Nat.le_of_ble_eq_true rfl) dX5_knownLength_40 ⟨Nat.zero_le _, Nat.zero_le _⟩ (fun r3 => ?_)
    refine k_ex (fun th_4 => k_and (fun h => ?_))
    exact k_iret C hr hlk dX5_knownLength_43 (fun H hP => ⟨th_4, h, hP⟩)
  · replace h := h.2 c2
    refine k_aload_n C dX5_knownLength_13 0 rfl ?_
    refine k_iload_n C dX5_knownLength_14 2 rfl ?_
    refine k_callVi (st := []) C hE (c_X5_isServer l F hA nw hi sv 0 cd ha srv  _ h) (cwV 1 C.2.2.2.2 gX5_knownLength_X5_isServer rfl rfl rfl (by decide +kernel) ⟨Nat.le_of_ble_eq_true rfl, Nat.le_of_ble_eq_true rfl⟩) (fun H hP => va_recv hE.1 (k_one (mst_Mo ((focM_g F) H hP))) rfl (q0 := 0) rfl) rfl rfl (Nat.le_of_ble_eq_true rfl) dX5_knownLength_15 ⟨Nat.zero_le _, Nat.zero_le _⟩ (fun r5 => ?_)
    refine k_and (fun h => ?_)
    refine k_if_eq (tgt := 38) C dX5_knownLength_18 (by decide) (fun c6 => ?_) (fun c6 => ?_)
    · replace h := h.1 c6
      refine k_aload_n C dX5_knownLength_38 0 rfl ?_
      refine k_iconst (v := 1) C dX5_knownLength_39 (by decide) ?_
      refine k_callVi (st := []) C hE (c_X5_refuse l F hA nw hi sv 0 cd ha 1  _ h) (cwV 1 C.2.2.2.2 gX5_knownLength_X5_refuse rfl rfl rfl (by decide +kernel) ⟨Nat.le_of_ble_eq_true rfl, Nat.le_of_ble_eq_true rfl⟩) (fun H hP => va_recv hE.1 (k_one (mst_Mo ((focM_g F) H hP))) rfl (q0 := 0) rfl) rfl rfl (Nat.le_of_ble_eq_true rfl) dX5_knownLength_40 ⟨Nat.zero_le _, Nat.zero_le _⟩ (fun r7 => ?_)
      refine k_ex (fun th_8 => k_and (fun h => ?_))
      exact k_iret C hr hlk dX5_knownLength_43 (fun H hP => ⟨th_8, h, hP⟩)
    · replace h := h.2 c6
      refine k_aload_n C dX5_knownLength_21 0 rfl ?_
      refine mg_Mo_now C (focM_g F) hE.1 hi5 lk1 dX5_knownLength_22 ?_
      refine k_bipush (v := 25) C dX5_knownLength_25 (by decide) ?_
      refine k_bipush (v := 8) C dX5_knownLength_27 (by decide) ?_
      refine k_iload_n C dX5_knownLength_29 1 rfl ?_
      refine k_imul C dX5_knownLength_30 ?_
      refine k_iadd C dX5_knownLength_31 ?_
      refine k_iload_n C dX5_knownLength_32 2 rfl ?_
      refine k_iadd C dX5_knownLength_33 ?_
      obtain ⟨q9, h⟩ := h
      refine mg_nw C (focM_g F) hE.1 q9 dX5_knownLength_34 ?_
      refine k_goto (tgt := 43) C dX5_knownLength_35 (by decide) ?_
      exact k_iret C hr hlk dX5_knownLength_43 (fun H hP => ⟨0, h, hP⟩)
noncomputable def wp_X5_sumOfLengths_L4 (n : Int32) (k : Int32 → Prop) (nw : Nat → Int32) (cd : Nat → Int32) (fu : Nat) : Int32 → Int32 → Prop := Nat.rec (motive := fun _ => Int32 → Int32 → Prop) (fun _ _ => False) (fun _ rec4 x1 x2 => (n ≤ x1 → (k x2)) ∧ (¬ (n ≤ x1) → ((vp_in x1 8) ∧ (wp_X5_lengthOf nw (cd x1.toNatClampNeg) (fun r5 => ∀ x6 : Int32, x6 = (x2 + r5) → (∀ x7 : Int32, x7 = x1 + 1 → (rec4 x7 x6))))))) fu
noncomputable def wp_X5_sumOfLengths (nw : Nat → Int32) (cd : Nat → Int32) (n : Int32) (k : Int32 → Prop) : Prop := ∃ fu, wp_X5_sumOfLengths_L4 n k nw cd fu 0 0
set_option maxRecDepth 100000 in
set_option maxHeartbeats 4000000 in
theorem c_X5_sumOfLengths (l : Launch) {E : EV} {o : Nat} {P : PM} {A : Nat → Prop} (F : FocM E o P) (hA : ∀ q, inMo o q → A q) (nw : Nat → Int32) (hi : Nat → Int32) (sv : Int32) (th : Int32) (cd : Nat → Int32) (ha : Int64) (n : Int32)  (k : Int32 → Prop) (h : wp_X5_sumOfLengths nw cd n k) : Met l yX5_sumOfLengths wsX5_sumOfLengths { frames := 2, cells := 0, slots := 0, locals := 45 } (va_Pc [.ref o, .int n] (fun U => P nw hi sv th cd ha U.heap ∧ XE E U)) (kQi (fun r H => k r ∧ P nw hi sv th cd ha H) A) 0 0 A := by
  refine k_body (cc := cX5_sumOfLengths) (own := RX5) (maxL := 4) (ret := (some .int)) (lv0 := [(0, .ref o), (1, .int n)]) (by decide) rfl rfl (Nat.le_of_ble_eq_true rfl) rfl (fun p e s m below meth c C hr hlk hP hE => ?_)
  have hi5 : ∀ w ∈ u_ws RX5 TX5 6, w ∈ wsX5_sumOfLengths := by decide +kernel
  have lk0 := C.2.2.2.2 (.fieldLink RX5 16 "IdleDispatcherModel" "candidates" "[I") (by decide +kernel)
  refine k_iconst (v := 0) C dX5_sumOfLengths_0 (by decide) ?_
  refine k_istore_n (lv' := [(2, .int 0), (0, .ref o), (1, .int n)]) C dX5_sumOfLengths_1 rfl (by decide) rfl ?_
  refine k_iconst (v := 0) C dX5_sumOfLengths_2 (by decide) ?_
  refine k_istore_n (lv' := [(3, .int 0), (2, .int 0), (0, .ref o), (1, .int n)]) C dX5_sumOfLengths_3 rfl (by decide) rfl ?_
  obtain ⟨n4, h⟩ := h
  refine k_pc (pc2 := 4) rfl ?_
  refine k_loop2 (wp_X5_sumOfLengths_L4 n k nw cd) (fun x1 x2 => P nw hi sv th cd ha) (fun x1 x2 => [(3, .int x1), (2, .int x2), (0, .ref o), (1, .int n)]) (fun _ _ h => h) (fun n4 ih4 x1 x2 h => ?_) n4 _ _ h
  refine k_iload_n C dX5_sumOfLengths_4 0 rfl ?_
  refine k_iload_n C dX5_sumOfLengths_5 3 rfl ?_
  refine k_icmp_ge (tgt := 28) C dX5_sumOfLengths_6 (by decide) (fun c3 => ?_) (fun c3 => ?_)
  · replace h := h.1 c3
    refine k_iload_n C dX5_sumOfLengths_28 1 rfl ?_
    exact k_iret C hr hlk dX5_sumOfLengths_29 (fun H hP => ⟨h, hP⟩)
  · replace h := h.2 c3
    refine k_iload_n C dX5_sumOfLengths_9 1 rfl ?_
    refine k_aload_n C dX5_sumOfLengths_10 2 rfl ?_
    refine k_aload_n C dX5_sumOfLengths_11 2 rfl ?_
    refine mg_Mo_candidates C (focM_g F) hE.1 hi5 lk0 dX5_sumOfLengths_12 ?_
    refine k_iload_n C dX5_sumOfLengths_15 0 rfl ?_
    obtain ⟨q4, h⟩ := h
    refine mg_cd C (focM_g F) hE.1 q4 dX5_sumOfLengths_16 ?_
    refine k_callVi (st := [.int x2]) C hE (c_X5_lengthOf l F hA nw hi sv th cd ha (cd x1.toNatClampNeg)  _ h) (cwV 1 C.2.2.2.2 gX5_sumOfLengths_X5_lengthOf rfl rfl rfl (by decide +kernel) ⟨Nat.le_of_ble_eq_true rfl, Nat.le_of_ble_eq_true rfl⟩) (fun H hP => va_recv hE.1 (k_one (mst_Mo ((focM_g F) H hP))) rfl (q0 := 0) rfl) rfl rfl (Nat.le_of_ble_eq_true rfl) dX5_sumOfLengths_17 ⟨Nat.zero_le _, Nat.zero_le _⟩ (fun r5 => ?_)
    refine k_and (fun h => ?_)
    refine k_iadd C dX5_sumOfLengths_20 ?_
    refine k_topi (fun x6 ex6 => ?_)
    replace h := h x6 ex6
    refine k_istore_n (lv' := [(2, .int x6), (3, .int x1), (0, .ref o), (1, .int n)]) C dX5_sumOfLengths_21 rfl (by decide) rfl ?_
    obtain ⟨x7, ex7⟩ : ∃ z : Int32, z = x1 + 1 := ⟨_, rfl⟩
    replace h := h x7 ex7
    refine k_iinc (v := x7) (lv' := [(3, .int x7), (2, .int x6), (0, .ref o), (1, .int n)]) (j := 1) C dX5_sumOfLengths_22 rfl (by rw [ex7]; rfl) (by decide) rfl ?_
    refine k_goto (tgt := 4) C dX5_sumOfLengths_25 (by decide) ?_
    refine k_pc (pc2 := 4) rfl ?_
    refine k_sub [0, 1, 2, 3] rfl ?_
    exact ih4 _ _ h
noncomputable def wp_X5_sumOfLesser_L12 (n : Int32) (x1 : Int32) (rec4 : Int32 → Int32 → Prop) (nw : Nat → Int32) (cd : Nat → Int32) (fu : Nat) : Int32 → Int32 → Prop := Nat.rec (motive := fun _ => Int32 → Int32 → Prop) (fun _ _ => False) (fun _ rec12 x4 x5 => (n ≤ x4 → (∀ x7 : Int32, x7 = x1 + 1 → (rec4 x7 x5))) ∧ (¬ (n ≤ x4) → ((vp_in x1 8) ∧ (wp_X5_lengthOf nw (cd x1.toNatClampNeg) (fun r9 => (vp_in x4 8) ∧ (wp_X5_lengthOf nw (cd x4.toNatClampNeg) (fun r11 => (r9 ≤ r11 → (∀ x13 : Int32, x13 = (x5 + r9) → (∀ x14 : Int32, x14 = x4 + 1 → (rec12 x14 x13)))) ∧ (¬ (r9 ≤ r11) → (∀ x15 : Int32, x15 = (x5 + r11) → (∀ x16 : Int32, x16 = x4 + 1 → (rec12 x16 x15))))))))))) fu
noncomputable def wp_X5_sumOfLesser_L4 (n : Int32) (k : Int32 → Prop) (nw : Nat → Int32) (cd : Nat → Int32) (fu : Nat) : Int32 → Int32 → Prop := Nat.rec (motive := fun _ => Int32 → Int32 → Prop) (fun _ _ => False) (fun _ rec4 x1 x2 => (n ≤ x1 → (k x2)) ∧ (¬ (n ≤ x1) → (∃ fu, wp_X5_sumOfLesser_L12 n x1 rec4 nw cd fu 0 x2))) fu
noncomputable def wp_X5_sumOfLesser (nw : Nat → Int32) (cd : Nat → Int32) (n : Int32) (k : Int32 → Prop) : Prop := ∃ fu, wp_X5_sumOfLesser_L4 n k nw cd fu 0 0
set_option maxRecDepth 100000 in
set_option maxHeartbeats 4000000 in
theorem c_X5_sumOfLesser (l : Launch) {E : EV} {o : Nat} {P : PM} {A : Nat → Prop} (F : FocM E o P) (hA : ∀ q, inMo o q → A q) (nw : Nat → Int32) (hi : Nat → Int32) (sv : Int32) (th : Int32) (cd : Nat → Int32) (ha : Int64) (n : Int32)  (k : Int32 → Prop) (h : wp_X5_sumOfLesser nw cd n k) : Met l yX5_sumOfLesser wsX5_sumOfLesser { frames := 2, cells := 0, slots := 0, locals := 45 } (va_Pc [.ref o, .int n] (fun U => P nw hi sv th cd ha U.heap ∧ XE E U)) (kQi (fun r H => k r ∧ P nw hi sv th cd ha H) A) 0 0 A := by
  refine k_body (cc := cX5_sumOfLesser) (own := RX5) (maxL := 7) (ret := (some .int)) (lv0 := [(0, .ref o), (1, .int n)]) (by decide) rfl rfl (Nat.le_of_ble_eq_true rfl) rfl (fun p e s m below meth c C hr hlk hP hE => ?_)
  have hi5 : ∀ w ∈ u_ws RX5 TX5 6, w ∈ wsX5_sumOfLesser := by decide +kernel
  have lk0 := C.2.2.2.2 (.fieldLink RX5 16 "IdleDispatcherModel" "candidates" "[I") (by decide +kernel)
  refine k_iconst (v := 0) C dX5_sumOfLesser_0 (by decide) ?_
  refine k_istore_n (lv' := [(2, .int 0), (0, .ref o), (1, .int n)]) C dX5_sumOfLesser_1 rfl (by decide) rfl ?_
  refine k_iconst (v := 0) C dX5_sumOfLesser_2 (by decide) ?_
  refine k_istore_n (lv' := [(3, .int 0), (2, .int 0), (0, .ref o), (1, .int n)]) C dX5_sumOfLesser_3 rfl (by decide) rfl ?_
  obtain ⟨n4, h⟩ := h
  refine k_pc (pc2 := 4) rfl ?_
  refine k_loop2 (wp_X5_sumOfLesser_L4 n k nw cd) (fun x1 x2 => P nw hi sv th cd ha) (fun x1 x2 => [(3, .int x1), (2, .int x2), (0, .ref o), (1, .int n)]) (fun _ _ h => h) (fun n4 ih4 x1 x2 h => ?_) n4 _ _ h
  refine k_iload_n C dX5_sumOfLesser_4 0 rfl ?_
  refine k_iload_n C dX5_sumOfLesser_5 3 rfl ?_
  refine k_icmp_ge (tgt := 72) C dX5_sumOfLesser_6 (by decide) (fun c3 => ?_) (fun c3 => ?_)
  · replace h := h.1 c3
    refine k_iload_n C dX5_sumOfLesser_72 1 rfl ?_
    exact k_iret C hr hlk dX5_sumOfLesser_73 (fun H hP => ⟨h, hP⟩)
  · replace h := h.2 c3
    refine k_iconst (v := 0) C dX5_sumOfLesser_9 (by decide) ?_
    refine k_istore (lv' := [(4, .int 0), (3, .int x1), (2, .int x2), (0, .ref o), (1, .int n)]) C dX5_sumOfLesser_10 (by decide) rfl ?_
    obtain ⟨n12, h⟩ := h
    refine k_pc (pc2 := 12) rfl ?_
    refine k_loop2 (wp_X5_sumOfLesser_L12 n x1 (wp_X5_sumOfLesser_L4 n k nw cd n4) nw cd) (fun x4 x5 => P nw hi sv th cd ha) (fun x4 x5 => [(4, .int x4), (3, .int x1), (2, .int x5), (0, .ref o), (1, .int n)]) (fun _ _ h => h) (fun n12 ih12 x4 x5 h => ?_) n12 _ _ h
    refine k_iload C dX5_sumOfLesser_12 0 rfl ?_
    refine k_iload_n C dX5_sumOfLesser_14 4 rfl ?_
    refine k_icmp_ge (tgt := 66) C dX5_sumOfLesser_15 (by decide) (fun c6 => ?_) (fun c6 => ?_)
    · replace h := h.1 c6
      obtain ⟨x7, ex7⟩ : ∃ z : Int32, z = x1 + 1 := ⟨_, rfl⟩
      replace h := h x7 ex7
      refine k_iinc (v := x7) (lv' := [(3, .int x7), (4, .int x4), (2, .int x5), (0, .ref o), (1, .int n)]) (j := 1) C dX5_sumOfLesser_66 rfl (by rw [ex7]; rfl) (by decide) rfl ?_
      refine k_goto (tgt := 4) C dX5_sumOfLesser_69 (by decide) ?_
      refine k_pc (pc2 := 4) rfl ?_
      refine k_sub [0, 2, 3, 4] rfl ?_
      exact ih4 _ _ h
    · replace h := h.2 c6
      refine k_aload_n C dX5_sumOfLesser_18 3 rfl ?_
      refine k_aload_n C dX5_sumOfLesser_19 3 rfl ?_
      refine mg_Mo_candidates C (focM_g F) hE.1 hi5 lk0 dX5_sumOfLesser_20 ?_
      refine k_iload_n C dX5_sumOfLesser_23 1 rfl ?_
      obtain ⟨q8, h⟩ := h
      refine mg_cd C (focM_g F) hE.1 q8 dX5_sumOfLesser_24 ?_
      refine k_callVi (st := []) C hE (c_X5_lengthOf l F hA nw hi sv th cd ha (cd x1.toNatClampNeg)  _ h) (cwV 1 C.2.2.2.2 gX5_sumOfLesser_X5_lengthOf rfl rfl rfl (by decide +kernel) ⟨Nat.le_of_ble_eq_true rfl, Nat.le_of_ble_eq_true rfl⟩) (fun H hP => va_recv hE.1 (k_one (mst_Mo ((focM_g F) H hP))) rfl (q0 := 0) rfl) rfl rfl (Nat.le_of_ble_eq_true rfl) dX5_sumOfLesser_25 ⟨Nat.zero_le _, Nat.zero_le _⟩ (fun r9 => ?_)
      refine k_and (fun h => ?_)
      refine k_istore (lv' := [(5, .int r9), (4, .int x4), (3, .int x1), (2, .int x5), (0, .ref o), (1, .int n)]) C dX5_sumOfLesser_28 (by decide) rfl ?_
      refine k_aload_n C dX5_sumOfLesser_30 4 rfl ?_
      refine k_aload_n C dX5_sumOfLesser_31 4 rfl ?_
      refine mg_Mo_candidates C (focM_g F) hE.1 hi5 lk0 dX5_sumOfLesser_32 ?_
      refine k_iload C dX5_sumOfLesser_35 1 rfl ?_
      obtain ⟨q10, h⟩ := h
      refine mg_cd C (focM_g F) hE.1 q10 dX5_sumOfLesser_37 ?_
      refine k_callVi (st := []) C hE (c_X5_lengthOf l F hA nw hi sv th cd ha (cd x4.toNatClampNeg)  _ h) (cwV 1 C.2.2.2.2 gX5_sumOfLesser_X5_lengthOf rfl rfl rfl (by decide +kernel) ⟨Nat.le_of_ble_eq_true rfl, Nat.le_of_ble_eq_true rfl⟩) (fun H hP => va_recv hE.1 (k_one (mst_Mo ((focM_g F) H hP))) rfl (q0 := 0) rfl) rfl rfl (Nat.le_of_ble_eq_true rfl) dX5_sumOfLesser_38 ⟨Nat.zero_le _, Nat.zero_le _⟩ (fun r11 => ?_)
      refine k_and (fun h => ?_)
      refine k_istore (lv' := [(6, .int r11), (5, .int r9), (4, .int x4), (3, .int x1), (2, .int x5), (0, .ref o), (1, .int n)]) C dX5_sumOfLesser_41 (by decide) rfl ?_
      refine k_iload_n C dX5_sumOfLesser_43 4 rfl ?_
      refine k_iload C dX5_sumOfLesser_44 0 rfl ?_
      refine k_iload C dX5_sumOfLesser_46 1 rfl ?_
      refine k_icmp_ge (tgt := 56) C dX5_sumOfLesser_48 (by decide) (fun c12 => ?_) (fun c12 => ?_)
      · replace h := h.1 c12
        refine k_iload C dX5_sumOfLesser_56 1 rfl ?_
        refine k_iadd C dX5_sumOfLesser_58 ?_
        refine k_topi (fun x13 ex13 => ?_)
        replace h := h x13 ex13
        refine k_istore_n (lv' := [(2, .int x13), (6, .int r11), (5, .int r9), (4, .int x4), (3, .int x1), (0, .ref o), (1, .int n)]) C dX5_sumOfLesser_59 rfl (by decide) rfl ?_
        obtain ⟨x14, ex14⟩ : ∃ z : Int32, z = x4 + 1 := ⟨_, rfl⟩
        replace h := h x14 ex14
        refine k_iinc (v := x14) (lv' := [(4, .int x14), (2, .int x13), (6, .int r11), (5, .int r9), (3, .int x1), (0, .ref o), (1, .int n)]) (j := 3) C dX5_sumOfLesser_60 rfl (by rw [ex14]; rfl) (by decide) rfl ?_
        refine k_goto (tgt := 12) C dX5_sumOfLesser_63 (by decide) ?_
        refine k_pc (pc2 := 12) rfl ?_
        refine k_sub [0, 4, 1, 5, 6] rfl ?_
        exact ih12 _ _ h
      · replace h := h.2 c12
        refine k_iload C dX5_sumOfLesser_51 0 rfl ?_
        refine k_goto (tgt := 58) C dX5_sumOfLesser_53 (by decide) ?_
        refine k_iadd C dX5_sumOfLesser_58 ?_
        refine k_topi (fun x15 ex15 => ?_)
        replace h := h x15 ex15
        refine k_istore_n (lv' := [(2, .int x15), (6, .int r11), (5, .int r9), (4, .int x4), (3, .int x1), (0, .ref o), (1, .int n)]) C dX5_sumOfLesser_59 rfl (by decide) rfl ?_
        obtain ⟨x16, ex16⟩ : ∃ z : Int32, z = x4 + 1 := ⟨_, rfl⟩
        replace h := h x16 ex16
        refine k_iinc (v := x16) (lv' := [(4, .int x16), (2, .int x15), (6, .int r11), (5, .int r9), (3, .int x1), (0, .ref o), (1, .int n)]) (j := 3) C dX5_sumOfLesser_60 rfl (by rw [ex16]; rfl) (by decide) rfl ?_
        refine k_goto (tgt := 12) C dX5_sumOfLesser_63 (by decide) ?_
        refine k_pc (pc2 := 12) rfl ?_
        refine k_sub [0, 4, 1, 5, 6] rfl ?_
        exact ih12 _ _ h
noncomputable def wp_X5_common_L4 (k : Int32 → Prop) (fu : Nat) : Int32 → Int32 → Prop := Nat.rec (motive := fun _ => Int32 → Int32 → Prop) (fun _ _ => False) (fun _ rec4 x1 x2 => (x1 = 0 → (k x2)) ∧ (¬ (x1 = 0) → ((¬ x1 = 0) ∧ (∀ x5 : Int32, x5 = (x2 - x2 / x1 * x1) → (rec4 x5 x1))))) fu
noncomputable def wp_X5_common (a : Int32) (b : Int32) (k : Int32 → Prop) : Prop := ∃ fu, wp_X5_common_L4 k fu b a
set_option maxRecDepth 100000 in
set_option maxHeartbeats 4000000 in
theorem c_X5_common (l : Launch) {E : EV} {P : Heap → Prop} {A : Nat → Prop} (a : Int32) (b : Int32)  (k : Int32 → Prop) (h : wp_X5_common  a b k) : Met l yX5_common wsX5_common { frames := 0, cells := 0, slots := 0, locals := 0 } (va_Pc [.int a, .int b] (fun U => P U.heap ∧ XE E U)) (kQi (fun r H => k r ∧ P H) A) 0 0 A := by
  refine k_body (cc := cX5_common) (own := RX5) (maxL := 5) (ret := (some .int)) (lv0 := [(0, .int a), (1, .int b)]) (by decide) rfl rfl (Nat.le_of_ble_eq_true rfl) rfl (fun p e s m below meth c C hr hlk hP hE => ?_)
  refine k_iload_n C dX5_common_0 0 rfl ?_
  refine k_istore_n (lv' := [(2, .int a), (0, .int a), (1, .int b)]) C dX5_common_1 rfl (by decide) rfl ?_
  refine k_iload_n C dX5_common_2 2 rfl ?_
  refine k_istore_n (lv' := [(3, .int b), (2, .int a), (0, .int a), (1, .int b)]) C dX5_common_3 rfl (by decide) rfl ?_
  obtain ⟨n4, h⟩ := h
  refine k_pc (pc2 := 4) rfl ?_
  refine k_loop2 (wp_X5_common_L4 k) (fun x1 x2 => P ) (fun x1 x2 => [(3, .int x1), (2, .int x2), (0, .int a), (1, .int b)]) (fun _ _ h => h) (fun n4 ih4 x1 x2 h => ?_) n4 _ _ h
  refine k_iload_n C dX5_common_4 0 rfl ?_
  refine k_if_eq (tgt := 21) C dX5_common_5 (by decide) (fun c3 => ?_) (fun c3 => ?_)
  · replace h := h.1 c3
    refine k_iload_n C dX5_common_21 1 rfl ?_
    exact k_iret C hr hlk dX5_common_22 (fun H hP => ⟨h, hP⟩)
  · replace h := h.2 c3
    refine k_iload_n C dX5_common_8 1 rfl ?_
    refine k_iload_n C dX5_common_9 0 rfl ?_
    obtain ⟨q4, h⟩ := h
    refine k_irem C dX5_common_10 q4 ?_
    refine k_topi (fun x5 ex5 => ?_)
    replace h := h x5 ex5
    refine k_istore (lv' := [(4, .int x5), (3, .int x1), (2, .int x2), (0, .int a), (1, .int b)]) C dX5_common_11 (by decide) rfl ?_
    refine k_iload_n C dX5_common_13 1 rfl ?_
    refine k_istore_n (lv' := [(2, .int x1), (4, .int x5), (3, .int x1), (0, .int a), (1, .int b)]) C dX5_common_14 rfl (by decide) rfl ?_
    refine k_iload C dX5_common_15 1 rfl ?_
    refine k_istore_n (lv' := [(3, .int x5), (2, .int x1), (4, .int x5), (0, .int a), (1, .int b)]) C dX5_common_17 rfl (by decide) rfl ?_
    refine k_goto (tgt := 4) C dX5_common_18 (by decide) ?_
    refine k_pc (pc2 := 4) rfl ?_
    refine k_sub [0, 1, 3, 4] rfl ?_
    exact ih4 _ _ h
noncomputable def wp_X5_expected (nw : Nat → Int32) (cd : Nat → Int32) (dsp : Int32) (n : Int32) (part : Int32) (k : Int32 → Prop) : Prop := (vp_in (17 + dsp) 893) ∧ (∀ x2 : Int32, x2 = (nw (17 + dsp).toNatClampNeg) → ((x2 = 0 → (wp_X5_sumOfLengths nw cd n (fun r4 => wp_X5_common r4 n (fun r5 => (part = 0 → ((¬ r5 = 0) ∧ (k (r4 / r5)))) ∧ (¬ part = 0 → ((¬ r5 = 0) ∧ (k (n / r5)))))))) ∧ (¬ (x2 = 0) → ((x2 = 3 → ((vp_in (57 + dsp) 893) ∧ (((nw (57 + dsp).toNatClampNeg) = 0 → (wp_X5_sumOfLengths nw cd n (fun r66 => wp_X5_common r66 n (fun r67 => (part = 0 → ((¬ r67 = 0) ∧ (k (r66 / r67)))) ∧ (¬ part = 0 → ((¬ r67 = 0) ∧ (k (n / r67)))))))) ∧ (¬ (nw (57 + dsp).toNatClampNeg) = 0 → ((x2 = 2 → (wp_X5_sumOfLesser nw cd n (fun r60 => ∀ x61 : Int32, x61 = (n * n) → (wp_X5_common r60 x61 (fun r62 => (part = 0 → ((¬ r62 = 0) ∧ (k (r60 / r62)))) ∧ (¬ part = 0 → ((¬ r62 = 0) ∧ (k (x61 / r62))))))))) ∧ (¬ x2 = 2 → ((x2 = 3 → ((vp_in (61 + (8 * dsp)) 893) ∧ (wp_X5_lengthOf nw (nw (61 + (8 * dsp)).toNatClampNeg) (fun r55 => wp_X5_common r55 1 (fun r56 => (part = 0 → ((¬ r56 = 0) ∧ (k (r55 / r56)))) ∧ (¬ part = 0 → ((¬ r56 = 0) ∧ (k (1 / r56))))))))) ∧ (¬ x2 = 3 → ((x2 = 1 → (wp_X5_nextInTurn nw cd dsp n (fun r48 => wp_X5_lengthOf nw r48 (fun r49 => wp_X5_common r49 1 (fun r50 => (part = 0 → ((¬ r50 = 0) ∧ (k (r49 / r50)))) ∧ (¬ part = 0 → ((¬ r50 = 0) ∧ (k (1 / r50))))))))) ∧ (¬ x2 = 1 → (wp_X5_leastKnown nw cd dsp n (fun r42 => wp_X5_lengthOf nw r42 (fun r43 => wp_X5_common r43 1 (fun r44 => (part = 0 → ((¬ r44 = 0) ∧ (k (r43 / r44)))) ∧ (¬ part = 0 → ((¬ r44 = 0) ∧ (k (1 / r44)))))))))))))))))) ∧ (¬ x2 = 3 → ((x2 = 2 → (wp_X5_sumOfLesser nw cd n (fun r31 => ∀ x32 : Int32, x32 = (n * n) → (wp_X5_common r31 x32 (fun r33 => (part = 0 → ((¬ r33 = 0) ∧ (k (r31 / r33)))) ∧ (¬ part = 0 → ((¬ r33 = 0) ∧ (k (x32 / r33))))))))) ∧ (¬ x2 = 2 → ((x2 = 3 → ((vp_in (61 + (8 * dsp)) 893) ∧ (wp_X5_lengthOf nw (nw (61 + (8 * dsp)).toNatClampNeg) (fun r26 => wp_X5_common r26 1 (fun r27 => (part = 0 → ((¬ r27 = 0) ∧ (k (r26 / r27)))) ∧ (¬ part = 0 → ((¬ r27 = 0) ∧ (k (1 / r27))))))))) ∧ (¬ x2 = 3 → ((x2 = 1 → (wp_X5_nextInTurn nw cd dsp n (fun r19 => wp_X5_lengthOf nw r19 (fun r20 => wp_X5_common r20 1 (fun r21 => (part = 0 → ((¬ r21 = 0) ∧ (k (r20 / r21)))) ∧ (¬ part = 0 → ((¬ r21 = 0) ∧ (k (1 / r21))))))))) ∧ (¬ x2 = 1 → (wp_X5_leastKnown nw cd dsp n (fun r13 => wp_X5_lengthOf nw r13 (fun r14 => wp_X5_common r14 1 (fun r15 => (part = 0 → ((¬ r15 = 0) ∧ (k (r14 / r15)))) ∧ (¬ part = 0 → ((¬ r15 = 0) ∧ (k (1 / r15)))))))))))))))))))
set_option maxRecDepth 100000 in
set_option maxHeartbeats 4000000 in
theorem c_X5_expected (l : Launch) {E : EV} {o : Nat} {P : PM} {A : Nat → Prop} (F : FocM E o P) (hA : ∀ q, inMo o q → A q) (nw : Nat → Int32) (hi : Nat → Int32) (sv : Int32) (th : Int32) (cd : Nat → Int32) (ha : Int64) (dsp : Int32) (n : Int32) (part : Int32)  (k : Int32 → Prop) (h : wp_X5_expected nw cd dsp n part k) : Met l yX5_expected wsX5_expected { frames := 3, cells := 0, slots := 0, locals := 71 } (va_Pc [.ref o, .int dsp, .int n, .int part] (fun U => P nw hi sv th cd ha U.heap ∧ XE E U)) (kQi (fun r H => k r ∧ P nw hi sv th cd ha H) A) 0 0 A := by
  refine k_body (cc := cX5_expected) (own := RX5) (maxL := 8) (ret := (some .int)) (lv0 := [(0, .ref o), (1, .int dsp), (2, .int n), (3, .int part)]) (by decide) rfl rfl (Nat.le_of_ble_eq_true rfl) rfl (fun p e s m below meth c C hr hlk hP hE => ?_)
  have hi5 : ∀ w ∈ u_ws RX5 TX5 6, w ∈ wsX5_expected := by decide +kernel
  have lk0 := C.2.2.2.2 (.fieldLink RX5 7 "IdleDispatcherModel" "now" "[I") (by decide +kernel)
  refine k_aload_n C dX5_expected_0 0 rfl ?_
  refine mg_Mo_now C (focM_g F) hE.1 hi5 lk0 dX5_expected_1 ?_
  refine k_bipush (v := 17) C dX5_expected_4 (by decide) ?_
  refine k_iload_n C dX5_expected_6 1 rfl ?_
  refine k_iadd C dX5_expected_7 ?_
  obtain ⟨q1, h⟩ := h
  refine mg_nw C (focM_g F) hE.1 q1 dX5_expected_8 ?_
  refine k_topi (fun x2 ex2 => ?_)
  replace h := h x2 ex2
  refine k_istore (lv' := [(4, .int x2), (0, .ref o), (1, .int dsp), (2, .int n), (3, .int part)]) C dX5_expected_9 (by decide) rfl ?_
  refine k_iconst (v := 0) C dX5_expected_11 (by decide) ?_
  refine k_istore (lv' := [(5, .int 0), (4, .int x2), (0, .ref o), (1, .int dsp), (2, .int n), (3, .int part)]) C dX5_expected_12 (by decide) rfl ?_
  refine k_iconst (v := 1) C dX5_expected_14 (by decide) ?_
  refine k_istore (lv' := [(6, .int 1), (5, .int 0), (4, .int x2), (0, .ref o), (1, .int dsp), (2, .int n), (3, .int part)]) C dX5_expected_15 (by decide) rfl ?_
  refine k_iload C dX5_expected_17 2 rfl ?_
  refine k_if_eq (tgt := 40) C dX5_expected_19 (by decide) (fun c3 => ?_) (fun c3 => ?_)
  · replace h := h.1 c3
    refine k_aload_n C dX5_expected_40 3 rfl ?_
    refine k_iload_n C dX5_expected_41 5 rfl ?_
    refine k_callVi (st := []) C hE (c_X5_sumOfLengths l F hA nw hi sv th cd ha n  _ h) (cwV 1 C.2.2.2.2 gX5_expected_X5_sumOfLengths rfl rfl rfl (by decide +kernel) ⟨Nat.le_of_ble_eq_true rfl, Nat.le_of_ble_eq_true rfl⟩) (fun H hP => va_recv hE.1 (k_one (mst_Mo ((focM_g F) H hP))) rfl (q0 := 0) rfl) rfl rfl (Nat.le_of_ble_eq_true rfl) dX5_expected_42 ⟨Nat.zero_le _, Nat.zero_le _⟩ (fun r4 => ?_)
    refine k_and (fun h => ?_)
    refine k_istore (lv' := [(5, .int r4), (6, .int 1), (4, .int x2), (0, .ref o), (1, .int dsp), (2, .int n), (3, .int part)]) C dX5_expected_45 (by decide) rfl ?_
    refine k_iload_n C dX5_expected_47 5 rfl ?_
    refine k_istore (lv' := [(6, .int n), (5, .int r4), (4, .int x2), (0, .ref o), (1, .int dsp), (2, .int n), (3, .int part)]) C dX5_expected_48 (by decide) rfl ?_
    refine k_goto (tgt := 128) C dX5_expected_50 (by decide) ?_
    refine k_iload C dX5_expected_128 1 rfl ?_
    refine k_iload C dX5_expected_130 0 rfl ?_
    refine k_callSi (st := []) C hE (c_X5_common l (P := P nw hi sv th cd ha) (A := A) (E := E) r4 n _ h) (va_cwS 2 C.2.2.2.2 gX5_expected_X5_common rfl rfl rfl (by decide +kernel) ⟨Nat.le_of_ble_eq_true rfl, Nat.le_of_ble_eq_true rfl⟩) rfl rfl (Nat.le_of_ble_eq_true rfl) dX5_expected_132 ⟨Nat.zero_le _, Nat.zero_le _⟩ (fun r5 => ?_)
    refine k_and (fun h => ?_)
    refine k_istore (lv' := [(7, .int r5), (6, .int n), (5, .int r4), (4, .int x2), (0, .ref o), (1, .int dsp), (2, .int n), (3, .int part)]) C dX5_expected_135 (by decide) rfl ?_
    refine k_iload_n C dX5_expected_137 7 rfl ?_
    refine k_if_ne (tgt := 149) C dX5_expected_138 (by decide) (fun c6 => ?_) (fun c6 => ?_)
    · replace h := h.2 c6
      refine k_iload C dX5_expected_149 1 rfl ?_
      refine k_iload C dX5_expected_151 0 rfl ?_
      obtain ⟨q7, h⟩ := h
      refine k_idiv C dX5_expected_153 q7 ?_
      exact k_iret C hr hlk dX5_expected_154 (fun H hP => ⟨h, hP⟩)
    · replace h := h.1 c6
      refine k_iload C dX5_expected_141 2 rfl ?_
      refine k_iload C dX5_expected_143 0 rfl ?_
      obtain ⟨q8, h⟩ := h
      refine k_idiv C dX5_expected_145 q8 ?_
      refine k_goto (tgt := 154) C dX5_expected_146 (by decide) ?_
      exact k_iret C hr hlk dX5_expected_154 (fun H hP => ⟨h, hP⟩)
  · replace h := h.2 c3
    refine k_iload C dX5_expected_22 2 rfl ?_
    refine k_iconst (v := 3) C dX5_expected_24 (by decide) ?_
    refine k_icmp_ne (tgt := 53) C dX5_expected_25 (by decide) (fun c9 => ?_) (fun c9 => ?_)
    · replace h := h.2 c9
      refine k_iload C dX5_expected_53 2 rfl ?_
      refine k_iconst (v := 2) C dX5_expected_55 (by decide) ?_
      refine k_icmp_ne (tgt := 74) C dX5_expected_56 (by decide) (fun c10 => ?_) (fun c10 => ?_)
      · replace h := h.2 c10
        refine k_iload C dX5_expected_74 2 rfl ?_
        refine k_iconst (v := 3) C dX5_expected_76 (by decide) ?_
        refine k_icmp_ne (tgt := 101) C dX5_expected_77 (by decide) (fun c11 => ?_) (fun c11 => ?_)
        · replace h := h.2 c11
          refine k_aload_n C dX5_expected_101 3 rfl ?_
          refine k_iload C dX5_expected_102 2 rfl ?_
          refine k_iconst (v := 1) C dX5_expected_104 (by decide) ?_
          refine k_icmp_ne (tgt := 117) C dX5_expected_105 (by decide) (fun c12 => ?_) (fun c12 => ?_)
          · replace h := h.2 c12
            refine k_aload_n C dX5_expected_117 3 rfl ?_
            refine k_iload_n C dX5_expected_118 4 rfl ?_
            refine k_iload_n C dX5_expected_119 5 rfl ?_
            refine k_callVi (st := [.ref o]) C hE (c_X5_leastKnown l F hA nw hi sv th cd ha dsp n  _ h) (cwV 2 C.2.2.2.2 gX5_expected_X5_leastKnown rfl rfl rfl (by decide +kernel) ⟨Nat.le_of_ble_eq_true rfl, Nat.le_of_ble_eq_true rfl⟩) (fun H hP => va_recv hE.1 (k_one (mst_Mo ((focM_g F) H hP))) rfl (q0 := 0) rfl) rfl rfl (Nat.le_of_ble_eq_true rfl) dX5_expected_120 ⟨Nat.zero_le _, Nat.zero_le _⟩ (fun r13 => ?_)
            refine k_and (fun h => ?_)
            refine k_callVi (st := []) C hE (c_X5_lengthOf l F hA nw hi sv th cd ha r13  _ h) (cwV 1 C.2.2.2.2 gX5_expected_X5_lengthOf rfl rfl rfl (by decide +kernel) ⟨Nat.le_of_ble_eq_true rfl, Nat.le_of_ble_eq_true rfl⟩) (fun H hP => va_recv hE.1 (k_one (mst_Mo ((focM_g F) H hP))) rfl (q0 := 0) rfl) rfl rfl (Nat.le_of_ble_eq_true rfl) dX5_expected_123 ⟨Nat.zero_le _, Nat.zero_le _⟩ (fun r14 => ?_)
            refine k_and (fun h => ?_)
            refine k_istore (lv' := [(5, .int r14), (6, .int 1), (4, .int x2), (0, .ref o), (1, .int dsp), (2, .int n), (3, .int part)]) C dX5_expected_126 (by decide) rfl ?_
            refine k_iload C dX5_expected_128 0 rfl ?_
            refine k_iload C dX5_expected_130 1 rfl ?_
            refine k_callSi (st := []) C hE (c_X5_common l (P := P nw hi sv th cd ha) (A := A) (E := E) r14 1 _ h) (va_cwS 2 C.2.2.2.2 gX5_expected_X5_common rfl rfl rfl (by decide +kernel) ⟨Nat.le_of_ble_eq_true rfl, Nat.le_of_ble_eq_true rfl⟩) rfl rfl (Nat.le_of_ble_eq_true rfl) dX5_expected_132 ⟨Nat.zero_le _, Nat.zero_le _⟩ (fun r15 => ?_)
            refine k_and (fun h => ?_)
            refine k_istore (lv' := [(7, .int r15), (5, .int r14), (6, .int 1), (4, .int x2), (0, .ref o), (1, .int dsp), (2, .int n), (3, .int part)]) C dX5_expected_135 (by decide) rfl ?_
            refine k_iload_n C dX5_expected_137 7 rfl ?_
            refine k_if_ne (tgt := 149) C dX5_expected_138 (by decide) (fun c16 => ?_) (fun c16 => ?_)
            · replace h := h.2 c16
              refine k_iload C dX5_expected_149 2 rfl ?_
              refine k_iload C dX5_expected_151 0 rfl ?_
              obtain ⟨q17, h⟩ := h
              refine k_idiv C dX5_expected_153 q17 ?_
              exact k_iret C hr hlk dX5_expected_154 (fun H hP => ⟨h, hP⟩)
            · replace h := h.1 c16
              refine k_iload C dX5_expected_141 1 rfl ?_
              refine k_iload C dX5_expected_143 0 rfl ?_
              obtain ⟨q18, h⟩ := h
              refine k_idiv C dX5_expected_145 q18 ?_
              refine k_goto (tgt := 154) C dX5_expected_146 (by decide) ?_
              exact k_iret C hr hlk dX5_expected_154 (fun H hP => ⟨h, hP⟩)
          · replace h := h.1 c12
            refine k_aload_n C dX5_expected_108 3 rfl ?_
            refine k_iload_n C dX5_expected_109 4 rfl ?_
            refine k_iload_n C dX5_expected_110 5 rfl ?_
            refine k_callVi (st := [.ref o]) C hE (c_X5_nextInTurn l F hA nw hi sv th cd ha dsp n  _ h) (cwV 2 C.2.2.2.2 gX5_expected_X5_nextInTurn rfl rfl rfl (by decide +kernel) ⟨Nat.le_of_ble_eq_true rfl, Nat.le_of_ble_eq_true rfl⟩) (fun H hP => va_recv hE.1 (k_one (mst_Mo ((focM_g F) H hP))) rfl (q0 := 0) rfl) rfl rfl (Nat.le_of_ble_eq_true rfl) dX5_expected_111 ⟨Nat.zero_le _, Nat.zero_le _⟩ (fun r19 => ?_)
            refine k_and (fun h => ?_)
            refine k_goto (tgt := 123) C dX5_expected_114 (by decide) ?_
            refine k_callVi (st := []) C hE (c_X5_lengthOf l F hA nw hi sv th cd ha r19  _ h) (cwV 1 C.2.2.2.2 gX5_expected_X5_lengthOf rfl rfl rfl (by decide +kernel) ⟨Nat.le_of_ble_eq_true rfl, Nat.le_of_ble_eq_true rfl⟩) (fun H hP => va_recv hE.1 (k_one (mst_Mo ((focM_g F) H hP))) rfl (q0 := 0) rfl) rfl rfl (Nat.le_of_ble_eq_true rfl) dX5_expected_123 ⟨Nat.zero_le _, Nat.zero_le _⟩ (fun r20 => ?_)
            refine k_and (fun h => ?_)
            refine k_istore (lv' := [(5, .int r20), (6, .int 1), (4, .int x2), (0, .ref o), (1, .int dsp), (2, .int n), (3, .int part)]) C dX5_expected_126 (by decide) rfl ?_
            refine k_iload C dX5_expected_128 0 rfl ?_
            refine k_iload C dX5_expected_130 1 rfl ?_
            refine k_callSi (st := []) C hE (c_X5_common l (P := P nw hi sv th cd ha) (A := A) (E := E) r20 1 _ h) (va_cwS 2 C.2.2.2.2 gX5_expected_X5_common rfl rfl rfl (by decide +kernel) ⟨Nat.le_of_ble_eq_true rfl, Nat.le_of_ble_eq_true rfl⟩) rfl rfl (Nat.le_of_ble_eq_true rfl) dX5_expected_132 ⟨Nat.zero_le _, Nat.zero_le _⟩ (fun r21 => ?_)
            refine k_and (fun h => ?_)
            refine k_istore (lv' := [(7, .int r21), (5, .int r20), (6, .int 1), (4, .int x2), (0, .ref o), (1, .int dsp), (2, .int n), (3, .int part)]) C dX5_expected_135 (by decide) rfl ?_
            refine k_iload_n C dX5_expected_137 7 rfl ?_
            refine k_if_ne (tgt := 149) C dX5_expected_138 (by decide) (fun c22 => ?_) (fun c22 => ?_)
            · replace h := h.2 c22
              refine k_iload C dX5_expected_149 2 rfl ?_
              refine k_iload C dX5_expected_151 0 rfl ?_
              obtain ⟨q23, h⟩ := h
              refine k_idiv C dX5_expected_153 q23 ?_
              exact k_iret C hr hlk dX5_expected_154 (fun H hP => ⟨h, hP⟩)
            · replace h := h.1 c22
              refine k_iload C dX5_expected_141 1 rfl ?_
              refine k_iload C dX5_expected_143 0 rfl ?_
              obtain ⟨q24, h⟩ := h
              refine k_idiv C dX5_expected_145 q24 ?_
              refine k_goto (tgt := 154) C dX5_expected_146 (by decide) ?_
              exact k_iret C hr hlk dX5_expected_154 (fun H hP => ⟨h, hP⟩)
        · replace h := h.1 c11
          refine k_aload_n C dX5_expected_80 3 rfl ?_
          refine k_aload_n C dX5_expected_81 3 rfl ?_
          refine mg_Mo_now C (focM_g F) hE.1 hi5 lk0 dX5_expected_82 ?_
          refine k_bipush (v := 61) C dX5_expected_85 (by decide) ?_
          refine k_bipush (v := 8) C dX5_expected_87 (by decide) ?_
          refine k_iload_n C dX5_expected_89 4 rfl ?_
          refine k_imul C dX5_expected_90 ?_
          refine k_iadd C dX5_expected_91 ?_
          obtain ⟨q25, h⟩ := h
          refine mg_nw C (focM_g F) hE.1 q25 dX5_expected_92 ?_
          refine k_callVi (st := []) C hE (c_X5_lengthOf l F hA nw hi sv th cd ha (nw (61 + (8 * dsp)).toNatClampNeg)  _ h) (cwV 1 C.2.2.2.2 gX5_expected_X5_lengthOf rfl rfl rfl (by decide +kernel) ⟨Nat.le_of_ble_eq_true rfl, Nat.le_of_ble_eq_true rfl⟩) (fun H hP => va_recv hE.1 (k_one (mst_Mo ((focM_g F) H hP))) rfl (q0 := 0) rfl) rfl rfl (Nat.le_of_ble_eq_true rfl) dX5_expected_93 ⟨Nat.zero_le _, Nat.zero_le _⟩ (fun r26 => ?_)
          refine k_and (fun h => ?_)
          refine k_istore (lv' := [(5, .int r26), (6, .int 1), (4, .int x2), (0, .ref o), (1, .int dsp), (2, .int n), (3, .int part)]) C dX5_expected_96 (by decide) rfl ?_
          refine k_goto (tgt := 128) C dX5_expected_98 (by decide) ?_
          refine k_iload C dX5_expected_128 0 rfl ?_
          refine k_iload C dX5_expected_130 1 rfl ?_
          refine k_callSi (st := []) C hE (c_X5_common l (P := P nw hi sv th cd ha) (A := A) (E := E) r26 1 _ h) (va_cwS 2 C.2.2.2.2 gX5_expected_X5_common rfl rfl rfl (by decide +kernel) ⟨Nat.le_of_ble_eq_true rfl, Nat.le_of_ble_eq_true rfl⟩) rfl rfl (Nat.le_of_ble_eq_true rfl) dX5_expected_132 ⟨Nat.zero_le _, Nat.zero_le _⟩ (fun r27 => ?_)
          refine k_and (fun h => ?_)
          refine k_istore (lv' := [(7, .int r27), (5, .int r26), (6, .int 1), (4, .int x2), (0, .ref o), (1, .int dsp), (2, .int n), (3, .int part)]) C dX5_expected_135 (by decide) rfl ?_
          refine k_iload_n C dX5_expected_137 7 rfl ?_
          refine k_if_ne (tgt := 149) C dX5_expected_138 (by decide) (fun c28 => ?_) (fun c28 => ?_)
          · replace h := h.2 c28
            refine k_iload C dX5_expected_149 2 rfl ?_
            refine k_iload C dX5_expected_151 0 rfl ?_
            obtain ⟨q29, h⟩ := h
            refine k_idiv C dX5_expected_153 q29 ?_
            exact k_iret C hr hlk dX5_expected_154 (fun H hP => ⟨h, hP⟩)
          · replace h := h.1 c28
            refine k_iload C dX5_expected_141 1 rfl ?_
            refine k_iload C dX5_expected_143 0 rfl ?_
            obtain ⟨q30, h⟩ := h
            refine k_idiv C dX5_expected_145 q30 ?_
            refine k_goto (tgt := 154) C dX5_expected_146 (by decide) ?_
            exact k_iret C hr hlk dX5_expected_154 (fun H hP => ⟨h, hP⟩)
      · replace h := h.1 c10
        refine k_aload_n C dX5_expected_59 3 rfl ?_
        refine k_iload_n C dX5_expected_60 5 rfl ?_
        refine k_callVi (st := []) C hE (c_X5_sumOfLesser l F hA nw hi sv th cd ha n  _ h) (cwV 1 C.2.2.2.2 gX5_expected_X5_sumOfLesser rfl rfl rfl (by decide +kernel) ⟨Nat.le_of_ble_eq_true rfl, Nat.le_of_ble_eq_true rfl⟩) (fun H hP => va_recv hE.1 (k_one (mst_Mo ((focM_g F) H hP))) rfl (q0 := 0) rfl) rfl rfl (Nat.le_of_ble_eq_true rfl) dX5_expected_61 ⟨Nat.zero_le _, Nat.zero_le _⟩ (fun r31 => ?_)
        refine k_and (fun h => ?_)
        refine k_istore (lv' := [(5, .int r31), (6, .int 1), (4, .int x2), (0, .ref o), (1, .int dsp), (2, .int n), (3, .int part)]) C dX5_expected_64 (by decide) rfl ?_
        refine k_iload_n C dX5_expected_66 5 rfl ?_
        refine k_iload_n C dX5_expected_67 5 rfl ?_
        refine k_imul C dX5_expected_68 ?_
        refine k_topi (fun x32 ex32 => ?_)
        replace h := h x32 ex32
        refine k_istore (lv' := [(6, .int x32), (5, .int r31), (4, .int x2), (0, .ref o), (1, .int dsp), (2, .int n), (3, .int part)]) C dX5_expected_69 (by decide) rfl ?_
        refine k_goto (tgt := 128) C dX5_expected_71 (by decide) ?_
        refine k_iload C dX5_expected_128 1 rfl ?_
        refine k_iload C dX5_expected_130 0 rfl ?_
        refine k_callSi (st := []) C hE (c_X5_common l (P := P nw hi sv th cd ha) (A := A) (E := E) r31 x32 _ h) (va_cwS 2 C.2.2.2.2 gX5_expected_X5_common rfl rfl rfl (by decide +kernel) ⟨Nat.le_of_ble_eq_true rfl, Nat.le_of_ble_eq_true rfl⟩) rfl rfl (Nat.le_of_ble_eq_true rfl) dX5_expected_132 ⟨Nat.zero_le _, Nat.zero_le _⟩ (fun r33 => ?_)
        refine k_and (fun h => ?_)
        refine k_istore (lv' := [(7, .int r33), (6, .int x32), (5, .int r31), (4, .int x2), (0, .ref o), (1, .int dsp), (2, .int n), (3, .int part)]) C dX5_expected_135 (by decide) rfl ?_
        refine k_iload_n C dX5_expected_137 7 rfl ?_
        refine k_if_ne (tgt := 149) C dX5_expected_138 (by decide) (fun c34 => ?_) (fun c34 => ?_)
        · replace h := h.2 c34
          refine k_iload C dX5_expected_149 1 rfl ?_
          refine k_iload C dX5_expected_151 0 rfl ?_
          obtain ⟨q35, h⟩ := h
          refine k_idiv C dX5_expected_153 q35 ?_
          exact k_iret C hr hlk dX5_expected_154 (fun H hP => ⟨h, hP⟩)
        · replace h := h.1 c34
          refine k_iload C dX5_expected_141 2 rfl ?_
          refine k_iload C dX5_expected_143 0 rfl ?_
          obtain ⟨q36, h⟩ := h
          refine k_idiv C dX5_expected_145 q36 ?_
          refine k_goto (tgt := 154) C dX5_expected_146 (by decide) ?_
          exact k_iret C hr hlk dX5_expected_154 (fun H hP => ⟨h, hP⟩)
    · replace h := h.1 c9
      refine k_aload_n C dX5_expected_28 3 rfl ?_
      refine mg_Mo_now C (focM_g F) hE.1 hi5 lk0 dX5_expected_29 ?_
      refine k_bipush (v := 57) C dX5_expected_32 (by decide) ?_
      refine k_iload_n C dX5_expected_34 4 rfl ?_
      refine k_iadd C dX5_expected_35 ?_
      obtain ⟨q37, h⟩ := h
      refine mg_nw C (focM_g F) hE.1 q37 dX5_expected_36 ?_
      refine k_if_ne (tgt := 53) C dX5_expected_37 (by decide) (fun c38 => ?_) (fun c38 => ?_)
      · replace h := h.2 c38
        refine k_iload C dX5_expected_53 2 rfl ?_
        refine k_iconst (v := 2) C dX5_expected_55 (by decide) ?_
        refine k_icmp_ne (tgt := 74) C dX5_expected_56 (by decide) (fun c39 => ?_) (fun c39 => ?_)
        · replace h := h.2 c39
          refine k_iload C dX5_expected_74 2 rfl ?_
          refine k_iconst (v := 3) C dX5_expected_76 (by decide) ?_
          refine k_icmp_ne (tgt := 101) C dX5_expected_77 (by decide) (fun c40 => ?_) (fun c40 => ?_)
          · replace h := h.2 c40
            refine k_aload_n C dX5_expected_101 3 rfl ?_
            refine k_iload C dX5_expected_102 2 rfl ?_
            refine k_iconst (v := 1) C dX5_expected_104 (by decide) ?_
            refine k_icmp_ne (tgt := 117) C dX5_expected_105 (by decide) (fun c41 => ?_) (fun c41 => ?_)
            · replace h := h.2 c41
              refine k_aload_n C dX5_expected_117 3 rfl ?_
              refine k_iload_n C dX5_expected_118 4 rfl ?_
              refine k_iload_n C dX5_expected_119 5 rfl ?_
              refine k_callVi (st := [.ref o]) C hE (c_X5_leastKnown l F hA nw hi sv th cd ha dsp n  _ h) (cwV 2 C.2.2.2.2 gX5_expected_X5_leastKnown rfl rfl rfl (by decide +kernel) ⟨Nat.le_of_ble_eq_true rfl, Nat.le_of_ble_eq_true rfl⟩) (fun H hP => va_recv hE.1 (k_one (mst_Mo ((focM_g F) H hP))) rfl (q0 := 0) rfl) rfl rfl (Nat.le_of_ble_eq_true rfl) dX5_expected_120 ⟨Nat.zero_le _, Nat.zero_le _⟩ (fun r42 => ?_)
              refine k_and (fun h => ?_)
              refine k_callVi (st := []) C hE (c_X5_lengthOf l F hA nw hi sv th cd ha r42  _ h) (cwV 1 C.2.2.2.2 gX5_expected_X5_lengthOf rfl rfl rfl (by decide +kernel) ⟨Nat.le_of_ble_eq_true rfl, Nat.le_of_ble_eq_true rfl⟩) (fun H hP => va_recv hE.1 (k_one (mst_Mo ((focM_g F) H hP))) rfl (q0 := 0) rfl) rfl rfl (Nat.le_of_ble_eq_true rfl) dX5_expected_123 ⟨Nat.zero_le _, Nat.zero_le _⟩ (fun r43 => ?_)
              refine k_and (fun h => ?_)
              refine k_istore (lv' := [(5, .int r43), (6, .int 1), (4, .int x2), (0, .ref o), (1, .int dsp), (2, .int n), (3, .int part)]) C dX5_expected_126 (by decide) rfl ?_
              refine k_iload C dX5_expected_128 0 rfl ?_
              refine k_iload C dX5_expected_130 1 rfl ?_
              refine k_callSi (st := []) C hE (c_X5_common l (P := P nw hi sv th cd ha) (A := A) (E := E) r43 1 _ h) (va_cwS 2 C.2.2.2.2 gX5_expected_X5_common rfl rfl rfl (by decide +kernel) ⟨Nat.le_of_ble_eq_true rfl, Nat.le_of_ble_eq_true rfl⟩) rfl rfl (Nat.le_of_ble_eq_true rfl) dX5_expected_132 ⟨Nat.zero_le _, Nat.zero_le _⟩ (fun r44 => ?_)
              refine k_and (fun h => ?_)
              refine k_istore (lv' := [(7, .int r44), (5, .int r43), (6, .int 1), (4, .int x2), (0, .ref o), (1, .int dsp), (2, .int n), (3, .int part)]) C dX5_expected_135 (by decide) rfl ?_
              refine k_iload_n C dX5_expected_137 7 rfl ?_
              refine k_if_ne (tgt := 149) C dX5_expected_138 (by decide) (fun c45 => ?_) (fun c45 => ?_)
              · replace h := h.2 c45
                refine k_iload C dX5_expected_149 2 rfl ?_
                refine k_iload C dX5_expected_151 0 rfl ?_
                obtain ⟨q46, h⟩ := h
                refine k_idiv C dX5_expected_153 q46 ?_
                exact k_iret C hr hlk dX5_expected_154 (fun H hP => ⟨h, hP⟩)
              · replace h := h.1 c45
                refine k_iload C dX5_expected_141 1 rfl ?_
                refine k_iload C dX5_expected_143 0 rfl ?_
                obtain ⟨q47, h⟩ := h
                refine k_idiv C dX5_expected_145 q47 ?_
                refine k_goto (tgt := 154) C dX5_expected_146 (by decide) ?_
                exact k_iret C hr hlk dX5_expected_154 (fun H hP => ⟨h, hP⟩)
            · replace h := h.1 c41
              refine k_aload_n C dX5_expected_108 3 rfl ?_
              refine k_iload_n C dX5_expected_109 4 rfl ?_
              refine k_iload_n C dX5_expected_110 5 rfl ?_
              refine k_callVi (st := [.ref o]) C hE (c_X5_nextInTurn l F hA nw hi sv th cd ha dsp n  _ h) (cwV 2 C.2.2.2.2 gX5_expected_X5_nextInTurn rfl rfl rfl (by decide +kernel) ⟨Nat.le_of_ble_eq_true rfl, Nat.le_of_ble_eq_true rfl⟩) (fun H hP => va_recv hE.1 (k_one (mst_Mo ((focM_g F) H hP))) rfl (q0 := 0) rfl) rfl rfl (Nat.le_of_ble_eq_true rfl) dX5_expected_111 ⟨Nat.zero_le _, Nat.zero_le _⟩ (fun r48 => ?_)
              refine k_and (fun h => ?_)
              refine k_goto (tgt := 123) C dX5_expected_114 (by decide) ?_
              refine k_callVi (st := []) C hE (c_X5_lengthOf l F hA nw hi sv th cd ha r48  _ h) (cwV 1 C.2.2.2.2 gX5_expected_X5_lengthOf rfl rfl rfl (by decide +kernel) ⟨Nat.le_of_ble_eq_true rfl, Nat.le_of_ble_eq_true rfl⟩) (fun H hP => va_recv hE.1 (k_one (mst_Mo ((focM_g F) H hP))) rfl (q0 := 0) rfl) rfl rfl (Nat.le_of_ble_eq_true rfl) dX5_expected_123 ⟨Nat.zero_le _, Nat.zero_le _⟩ (fun r49 => ?_)
              refine k_and (fun h => ?_)
              refine k_istore (lv' := [(5, .int r49), (6, .int 1), (4, .int x2), (0, .ref o), (1, .int dsp), (2, .int n), (3, .int part)]) C dX5_expected_126 (by decide) rfl ?_
              refine k_iload C dX5_expected_128 0 rfl ?_
              refine k_iload C dX5_expected_130 1 rfl ?_
              refine k_callSi (st := []) C hE (c_X5_common l (P := P nw hi sv th cd ha) (A := A) (E := E) r49 1 _ h) (va_cwS 2 C.2.2.2.2 gX5_expected_X5_common rfl rfl rfl (by decide +kernel) ⟨Nat.le_of_ble_eq_true rfl, Nat.le_of_ble_eq_true rfl⟩) rfl rfl (Nat.le_of_ble_eq_true rfl) dX5_expected_132 ⟨Nat.zero_le _, Nat.zero_le _⟩ (fun r50 => ?_)
              refine k_and (fun h => ?_)
              refine k_istore (lv' := [(7, .int r50), (5, .int r49), (6, .int 1), (4, .int x2), (0, .ref o), (1, .int dsp), (2, .int n), (3, .int part)]) C dX5_expected_135 (by decide) rfl ?_
              refine k_iload_n C dX5_expected_137 7 rfl ?_
              refine k_if_ne (tgt := 149) C dX5_expected_138 (by decide) (fun c51 => ?_) (fun c51 => ?_)
              · replace h := h.2 c51
                refine k_iload C dX5_expected_149 2 rfl ?_
                refine k_iload C dX5_expected_151 0 rfl ?_
                obtain ⟨q52, h⟩ := h
                refine k_idiv C dX5_expected_153 q52 ?_
                exact k_iret C hr hlk dX5_expected_154 (fun H hP => ⟨h, hP⟩)
              · replace h := h.1 c51
                refine k_iload C dX5_expected_141 1 rfl ?_
                refine k_iload C dX5_expected_143 0 rfl ?_
                obtain ⟨q53, h⟩ := h
                refine k_idiv C dX5_expected_145 q53 ?_
                refine k_goto (tgt := 154) C dX5_expected_146 (by decide) ?_
                exact k_iret C hr hlk dX5_expected_154 (fun H hP => ⟨h, hP⟩)
          · replace h := h.1 c40
            refine k_aload_n C dX5_expected_80 3 rfl ?_
            refine k_aload_n C dX5_expected_81 3 rfl ?_
            refine mg_Mo_now C (focM_g F) hE.1 hi5 lk0 dX5_expected_82 ?_
            refine k_bipush (v := 61) C dX5_expected_85 (by decide) ?_
            refine k_bipush (v := 8) C dX5_expected_87 (by decide) ?_
            refine k_iload_n C dX5_expected_89 4 rfl ?_
            refine k_imul C dX5_expected_90 ?_
            refine k_iadd C dX5_expected_91 ?_
            obtain ⟨q54, h⟩ := h
            refine mg_nw C (focM_g F) hE.1 q54 dX5_expected_92 ?_
            refine k_callVi (st := []) C hE (c_X5_lengthOf l F hA nw hi sv th cd ha (nw (61 + (8 * dsp)).toNatClampNeg)  _ h) (cwV 1 C.2.2.2.2 gX5_expected_X5_lengthOf rfl rfl rfl (by decide +kernel) ⟨Nat.le_of_ble_eq_true rfl, Nat.le_of_ble_eq_true rfl⟩) (fun H hP => va_recv hE.1 (k_one (mst_Mo ((focM_g F) H hP))) rfl (q0 := 0) rfl) rfl rfl (Nat.le_of_ble_eq_true rfl) dX5_expected_93 ⟨Nat.zero_le _, Nat.zero_le _⟩ (fun r55 => ?_)
            refine k_and (fun h => ?_)
            refine k_istore (lv' := [(5, .int r55), (6, .int 1), (4, .int x2), (0, .ref o), (1, .int dsp), (2, .int n), (3, .int part)]) C dX5_expected_96 (by decide) rfl ?_
            refine k_goto (tgt := 128) C dX5_expected_98 (by decide) ?_
            refine k_iload C dX5_expected_128 0 rfl ?_
            refine k_iload C dX5_expected_130 1 rfl ?_
            refine k_callSi (st := []) C hE (c_X5_common l (P := P nw hi sv th cd ha) (A := A) (E := E) r55 1 _ h) (va_cwS 2 C.2.2.2.2 gX5_expected_X5_common rfl rfl rfl (by decide +kernel) ⟨Nat.le_of_ble_eq_true rfl, Nat.le_of_ble_eq_true rfl⟩) rfl rfl (Nat.le_of_ble_eq_true rfl) dX5_expected_132 ⟨Nat.zero_le _, Nat.zero_le _⟩ (fun r56 => ?_)
            refine k_and (fun h => ?_)
            refine k_istore (lv' := [(7, .int r56), (5, .int r55), (6, .int 1), (4, .int x2), (0, .ref o), (1, .int dsp), (2, .int n), (3, .int part)]) C dX5_expected_135 (by decide) rfl ?_
            refine k_iload_n C dX5_expected_137 7 rfl ?_
            refine k_if_ne (tgt := 149) C dX5_expected_138 (by decide) (fun c57 => ?_) (fun c57 => ?_)
            · replace h := h.2 c57
              refine k_iload C dX5_expected_149 2 rfl ?_
              refine k_iload C dX5_expected_151 0 rfl ?_
              obtain ⟨q58, h⟩ := h
              refine k_idiv C dX5_expected_153 q58 ?_
              exact k_iret C hr hlk dX5_expected_154 (fun H hP => ⟨h, hP⟩)
            · replace h := h.1 c57
              refine k_iload C dX5_expected_141 1 rfl ?_
              refine k_iload C dX5_expected_143 0 rfl ?_
              obtain ⟨q59, h⟩ := h
              refine k_idiv C dX5_expected_145 q59 ?_
              refine k_goto (tgt := 154) C dX5_expected_146 (by decide) ?_
              exact k_iret C hr hlk dX5_expected_154 (fun H hP => ⟨h, hP⟩)
        · replace h := h.1 c39
          refine k_aload_n C dX5_expected_59 3 rfl ?_
          refine k_iload_n C dX5_expected_60 5 rfl ?_
          refine k_callVi (st := []) C hE (c_X5_sumOfLesser l F hA nw hi sv th cd ha n  _ h) (cwV 1 C.2.2.2.2 gX5_expected_X5_sumOfLesser rfl rfl rfl (by decide +kernel) ⟨Nat.le_of_ble_eq_true rfl, Nat.le_of_ble_eq_true rfl⟩) (fun H hP => va_recv hE.1 (k_one (mst_Mo ((focM_g F) H hP))) rfl (q0 := 0) rfl) rfl rfl (Nat.le_of_ble_eq_true rfl) dX5_expected_61 ⟨Nat.zero_le _, Nat.zero_le _⟩ (fun r60 => ?_)
          refine k_and (fun h => ?_)
          refine k_istore (lv' := [(5, .int r60), (6, .int 1), (4, .int x2), (0, .ref o), (1, .int dsp), (2, .int n), (3, .int part)]) C dX5_expected_64 (by decide) rfl ?_
          refine k_iload_n C dX5_expected_66 5 rfl ?_
          refine k_iload_n C dX5_expected_67 5 rfl ?_
          refine k_imul C dX5_expected_68 ?_
          refine k_topi (fun x61 ex61 => ?_)
          replace h := h x61 ex61
          refine k_istore (lv' := [(6, .int x61), (5, .int r60), (4, .int x2), (0, .ref o), (1, .int dsp), (2, .int n), (3, .int part)]) C dX5_expected_69 (by decide) rfl ?_
          refine k_goto (tgt := 128) C dX5_expected_71 (by decide) ?_
          refine k_iload C dX5_expected_128 1 rfl ?_
          refine k_iload C dX5_expected_130 0 rfl ?_
          refine k_callSi (st := []) C hE (c_X5_common l (P := P nw hi sv th cd ha) (A := A) (E := E) r60 x61 _ h) (va_cwS 2 C.2.2.2.2 gX5_expected_X5_common rfl rfl rfl (by decide +kernel) ⟨Nat.le_of_ble_eq_true rfl, Nat.le_of_ble_eq_true rfl⟩) rfl rfl (Nat.le_of_ble_eq_true rfl) dX5_expected_132 ⟨Nat.zero_le _, Nat.zero_le _⟩ (fun r62 => ?_)
          refine k_and (fun h => ?_)
          refine k_istore (lv' := [(7, .int r62), (6, .int x61), (5, .int r60), (4, .int x2), (0, .ref o), (1, .int dsp), (2, .int n), (3, .int part)]) C dX5_expected_135 (by decide) rfl ?_
          refine k_iload_n C dX5_expected_137 7 rfl ?_
          refine k_if_ne (tgt := 149) C dX5_expected_138 (by decide) (fun c63 => ?_) (fun c63 => ?_)
          · replace h := h.2 c63
            refine k_iload C dX5_expected_149 1 rfl ?_
            refine k_iload C dX5_expected_151 0 rfl ?_
            obtain ⟨q64, h⟩ := h
            refine k_idiv C dX5_expected_153 q64 ?_
            exact k_iret C hr hlk dX5_expected_154 (fun H hP => ⟨h, hP⟩)
          · replace h := h.1 c63
            refine k_iload C dX5_expected_141 2 rfl ?_
            refine k_iload C dX5_expected_143 0 rfl ?_
            obtain ⟨q65, h⟩ := h
            refine k_idiv C dX5_expected_145 q65 ?_
            refine k_goto (tgt := 154) C dX5_expected_146 (by decide) ?_
            exact k_iret C hr hlk dX5_expected_154 (fun H hP => ⟨h, hP⟩)
      · replace h := h.1 c38
        refine k_aload_n C dX5_expected_40 3 rfl ?_
        refine k_iload_n C dX5_expected_41 5 rfl ?_
        refine k_callVi (st := []) C hE (c_X5_sumOfLengths l F hA nw hi sv th cd ha n  _ h) (cwV 1 C.2.2.2.2 gX5_expected_X5_sumOfLengths rfl rfl rfl (by decide +kernel) ⟨Nat.le_of_ble_eq_true rfl, Nat.le_of_ble_eq_true rfl⟩) (fun H hP => va_recv hE.1 (k_one (mst_Mo ((focM_g F) H hP))) rfl (q0 := 0) rfl) rfl rfl (Nat.le_of_ble_eq_true rfl) dX5_expected_42 ⟨Nat.zero_le _, Nat.zero_le _⟩ (fun r66 => ?_)
        refine k_and (fun h => ?_)
        refine k_istore (lv' := [(5, .int r66), (6, .int 1), (4, .int x2), (0, .ref o), (1, .int dsp), (2, .int n), (3, .int part)]) C dX5_expected_45 (by decide) rfl ?_
        refine k_iload_n C dX5_expected_47 5 rfl ?_
        refine k_istore (lv' := [(6, .int n), (5, .int r66), (4, .int x2), (0, .ref o), (1, .int dsp), (2, .int n), (3, .int part)]) C dX5_expected_48 (by decide) rfl ?_
        refine k_goto (tgt := 128) C dX5_expected_50 (by decide) ?_
        refine k_iload C dX5_expected_128 1 rfl ?_
        refine k_iload C dX5_expected_130 0 rfl ?_
        refine k_callSi (st := []) C hE (c_X5_common l (P := P nw hi sv th cd ha) (A := A) (E := E) r66 n _ h) (va_cwS 2 C.2.2.2.2 gX5_expected_X5_common rfl rfl rfl (by decide +kernel) ⟨Nat.le_of_ble_eq_true rfl, Nat.le_of_ble_eq_true rfl⟩) rfl rfl (Nat.le_of_ble_eq_true rfl) dX5_expected_132 ⟨Nat.zero_le _, Nat.zero_le _⟩ (fun r67 => ?_)
        refine k_and (fun h => ?_)
        refine k_istore (lv' := [(7, .int r67), (6, .int n), (5, .int r66), (4, .int x2), (0, .ref o), (1, .int dsp), (2, .int n), (3, .int part)]) C dX5_expected_135 (by decide) rfl ?_
        refine k_iload_n C dX5_expected_137 7 rfl ?_
        refine k_if_ne (tgt := 149) C dX5_expected_138 (by decide) (fun c68 => ?_) (fun c68 => ?_)
        · replace h := h.2 c68
          refine k_iload C dX5_expected_149 1 rfl ?_
          refine k_iload C dX5_expected_151 0 rfl ?_
          obtain ⟨q69, h⟩ := h
          refine k_idiv C dX5_expected_153 q69 ?_
          exact k_iret C hr hlk dX5_expected_154 (fun H hP => ⟨h, hP⟩)
        · replace h := h.1 c68
          refine k_iload C dX5_expected_141 2 rfl ?_
          refine k_iload C dX5_expected_143 0 rfl ?_
          obtain ⟨q70, h⟩ := h
          refine k_idiv C dX5_expected_145 q70 ?_
          refine k_goto (tgt := 154) C dX5_expected_146 (by decide) ?_
          exact k_iret C hr hlk dX5_expected_154 (fun H hP => ⟨h, hP⟩)
noncomputable def wp_X5_expectedLength (nw : Nat → Int32) (cd : Nat → Int32) (dsp : Int32) (part : Int32) (k : Int32 → Int32 → (Nat → Int32) → Prop) : Prop := wp_X5_isDispatcher nw dsp (fun r1 => (r1 = 0 → (wp_X5_refuse 1 (fun r3 th_4 => k r3 th_4 cd))) ∧ (¬ (r1 = 0) → (wp_X5_in part 0 1 (fun r5 => (r5 = 0 → (wp_X5_refuse 1 (fun r13 th_14 => k r13 th_14 cd))) ∧ (¬ r5 = 0 → (wp_X5_findCandidates nw cd (fun r7 cd_8 => (r7 = 0 → (wp_X5_refuse 2 (fun r11 th_12 => k r11 th_12 cd_8))) ∧ (¬ r7 = 0 → (wp_X5_expected nw cd_8 dsp r7 part (fun r10 => k r10 0 cd_8))))))))))
set_option maxRecDepth 100000 in
set_option maxHeartbeats 4000000 in
theorem c_X5_expectedLength (l : Launch) {E : EV} {o : Nat} {P : PM} {A : Nat → Prop} (F : FocM E o P) (hA : ∀ q, inMo o q → A q) (nw : Nat → Int32) (hi : Nat → Int32) (sv : Int32) (th : Int32) (cd : Nat → Int32) (ha : Int64) (dsp : Int32) (part : Int32)  (k : Int32 → Int32 → (Nat → Int32) → Prop) (h : wp_X5_expectedLength nw cd dsp part k) : Met l yX5_expectedLength wsX5_expectedLength { frames := 4, cells := 0, slots := 0, locals := 98 } (va_Pc [.ref o, .int dsp, .int part] (fun U => P nw hi sv th cd ha U.heap ∧ XE E U)) (kQi (fun r H => ∃ th9 : Int32, ∃ cd9 : Nat → Int32, k r th9 cd9 ∧ P nw hi sv th9 cd9 ha H) A) 0 0 A := by
  refine k_body (cc := cX5_expectedLength) (own := RX5) (maxL := 4) (ret := (some .int)) (lv0 := [(0, .ref o), (1, .int dsp), (2, .int part)]) (by decide) rfl rfl (Nat.le_of_ble_eq_true rfl) rfl (fun p e s m below meth c C hr hlk hP hE => ?_)
  have hi5 : ∀ w ∈ u_ws RX5 TX5 6, w ∈ wsX5_expectedLength := by decide +kernel
  have lk0 := C.2.2.2.2 (.fieldLink RX5 19 "IdleDispatcherModel" "thrown" "I") (by decide +kernel)
  refine k_aload_n C dX5_expectedLength_0 0 rfl ?_
  refine k_iconst (v := 0) C dX5_expectedLength_1 (by decide) ?_
  refine mp_th C F hA hE.1 hi5 lk0 dX5_expectedLength_2 ?_
  refine k_aload_n C dX5_expectedLength_5 0 rfl ?_
  refine k_iload_n C dX5_expectedLength_6 1 rfl ?_
  refine k_callVi (st := []) C hE (c_X5_isDispatcher l F hA nw hi sv 0 cd ha dsp  _ h) (cwV 1 C.2.2.2.2 gX5_expectedLength_X5_isDispatcher rfl rfl rfl (by decide +kernel) ⟨Nat.le_of_ble_eq_true rfl, Nat.le_of_ble_eq_true rfl⟩) (fun H hP => va_recv hE.1 (k_one (mst_Mo ((focM_g F) H hP))) rfl (q0 := 0) rfl) rfl rfl (Nat.le_of_ble_eq_true rfl) dX5_expectedLength_7 ⟨Nat.zero_le _, Nat.zero_le _⟩ (fun r1 => ?_)
  refine k_and (fun h => ?_)
  refine k_if_eq (tgt := 22) C dX5_expectedLength_10 (by decide) (fun c2 => ?_) (fun c2 => ?_)
  · replace h := h.1 c2
    refine k_aload_n C dX5_expectedLength_22 0 rfl ?_
    refine k_iconst (v := 1) C dX5_expectedLength_23 (by decide) ?_
    refine k_callVi (st := []) C hE (c_X5_refuse l F hA nw hi sv 0 cd ha 1  _ h) (cwV 1 C.2.2.2.2 gX5_expectedLength_X5_refuse rfl rfl rfl (by decide +kernel) ⟨Nat.le_of_ble_eq_true rfl, Nat.le_of_ble_eq_true rfl⟩) (fun H hP => va_recv hE.1 (k_one (mst_Mo ((focM_g F) H hP))) rfl (q0 := 0) rfl) rfl rfl (Nat.le_of_ble_eq_true rfl) dX5_expectedLength_24 ⟨Nat.zero_le _, Nat.zero_le _⟩ (fun r3 => ?_)
    refine k_ex (fun th_4 => k_and (fun h => ?_))
    exact k_iret C hr hlk dX5_expectedLength_27 (fun H hP => ⟨th_4, cd, h, hP⟩)
  · replace h := h.2 c2
    refine k_iload_n C dX5_expectedLength_13 2 rfl ?_
    refine k_iconst (v := 0) C dX5_expectedLength_14 (by decide) ?_
    refine k_iconst (v := 1) C dX5_expectedLength_15 (by decide) ?_
    refine k_callSi (st := []) C hE (c_X5_in l (P := P nw hi sv 0 cd ha) (A := A) (E := E) part 0 1 _ h) (va_cwS 3 C.2.2.2.2 gX5_expectedLength_X5_in rfl rfl rfl (by decide +kernel) ⟨Nat.le_of_ble_eq_true rfl, Nat.le_of_ble_eq_true rfl⟩) rfl rfl (Nat.le_of_ble_eq_true rfl) dX5_expectedLength_16 ⟨Nat.zero_le _, Nat.zero_le _⟩ (fun r5 => ?_)
    refine k_and (fun h => ?_)
    refine k_if_ne (tgt := 28) C dX5_expectedLength_19 (by decide) (fun c6 => ?_) (fun c6 => ?_)
    · replace h := h.2 c6
      refine k_aload_n C dX5_expectedLength_28 0 rfl ?_
      refine k_callVi (st := []) C hE (c_X5_findCandidates l F hA nw hi sv 0 cd ha   _ h) (cwV 0 C.2.2.2.2 gX5_expectedLength_X5_findCandidates rfl rfl rfl (by decide +kernel) ⟨Nat.le_of_ble_eq_true rfl, Nat.le_of_ble_eq_true rfl⟩) (fun H hP => va_recv hE.1 (k_one (mst_Mo ((focM_g F) H hP))) rfl (q0 := 0) rfl) rfl rfl (Nat.le_of_ble_eq_true rfl) dX5_expectedLength_29 ⟨Nat.zero_le _, Nat.zero_le _⟩ (fun r7 => ?_)
      refine k_ex (fun cd_8 => k_and (fun h => ?_))
      refine k_istore_n (lv' := [(3, .int r7), (0, .ref o), (1, .int dsp), (2, .int part)]) C dX5_expectedLength_32 rfl (by decide) rfl ?_
      refine k_iload_n C dX5_expectedLength_33 0 rfl ?_
      refine k_if_ne (tgt := 45) C dX5_expectedLength_34 (by decide) (fun c9 => ?_) (fun c9 => ?_)
      · replace h := h.2 c9
        refine k_aload_n C dX5_expectedLength_45 1 rfl ?_
        refine k_iload_n C dX5_expectedLength_46 2 rfl ?_
        refine k_iload_n C dX5_expectedLength_47 0 rfl ?_
        refine k_iload_n C dX5_expectedLength_48 3 rfl ?_
        refine k_callVi (st := []) C hE (c_X5_expected l F hA nw hi sv 0 cd_8 ha dsp r7 part  _ h) (cwV 3 C.2.2.2.2 gX5_expectedLength_X5_expected rfl rfl rfl (by decide +kernel) ⟨Nat.le_of_ble_eq_true rfl, Nat.le_of_ble_eq_true rfl⟩) (fun H hP => va_recv hE.1 (k_one (mst_Mo ((focM_g F) H hP))) rfl (q0 := 0) rfl) rfl rfl (Nat.le_of_ble_eq_true rfl) dX5_expectedLength_49 ⟨Nat.zero_le _, Nat.zero_le _⟩ (fun r10 => ?_)
        refine k_and (fun h => ?_)
        exact k_iret C hr hlk dX5_expectedLength_52 (fun H hP => ⟨0, cd_8, h, hP⟩)
      · replace h := h.1 c9
        refine k_aload_n C dX5_expectedLength_37 1 rfl ?_
        refine k_iconst (v := 2) C dX5_expectedLength_38 (by decide) ?_
        refine k_callVi (st := []) C hE (c_X5_refuse l F hA nw hi sv 0 cd_8 ha 2  _ h) (cwV 1 C.2.2.2.2 gX5_expectedLength_X5_refuse rfl rfl rfl (by decide +kernel) ⟨Nat.le_of_ble_eq_true rfl, Nat.le_of_ble_eq_true rfl⟩) (fun H hP => va_recv hE.1 (k_one (mst_Mo ((focM_g F) H hP))) rfl (q0 := 0) rfl) rfl rfl (Nat.le_of_ble_eq_true rfl) dX5_expectedLength_39 ⟨Nat.zero_le _, Nat.zero_le _⟩ (fun r11 => ?_)
        refine k_ex (fun th_12 => k_and (fun h => ?_))
        refine k_goto (tgt := 52) C dX5_expectedLength_42 (by decide) ?_
        exact k_iret C hr hlk dX5_expectedLength_52 (fun H hP => ⟨th_12, cd_8, h, hP⟩)
    · replace h := h.1 c6
      refine k_aload_n C dX5_expectedLength_22 0 rfl ?_
      refine k_iconst (v := 1) C dX5_expectedLength_23 (by decide) ?_
      refine k_callVi (st := []) C hE (c_X5_refuse l F hA nw hi sv 0 cd ha 1  _ h) (cwV 1 C.2.2.2.2 gX5_expectedLength_X5_refuse rfl rfl rfl (by decide +kernel) ⟨Nat.le_of_ble_eq_true rfl, Nat.le_of_ble_eq_true rfl⟩) (fun H hP => va_recv hE.1 (k_one (mst_Mo ((focM_g F) H hP))) rfl (q0 := 0) rfl) rfl rfl (Nat.le_of_ble_eq_true rfl) dX5_expectedLength_24 ⟨Nat.zero_le _, Nat.zero_le _⟩ (fun r13 => ?_)
      refine k_ex (fun th_14 => k_and (fun h => ?_))
      exact k_iret C hr hlk dX5_expectedLength_27 (fun H hP => ⟨th_14, cd, h, hP⟩)
noncomputable def wp_X5_submitted (nw : Nat → Int32) (k : Int32 → Int32 → Prop) : Prop := k (nw 6) 0
set_option maxRecDepth 100000 in
set_option maxHeartbeats 4000000 in
theorem c_X5_submitted (l : Launch) {E : EV} {o : Nat} {P : PM} {A : Nat → Prop} (F : FocM E o P) (hA : ∀ q, inMo o q → A q) (nw : Nat → Int32) (hi : Nat → Int32) (sv : Int32) (th : Int32) (cd : Nat → Int32) (ha : Int64)   (k : Int32 → Int32 → Prop) (h : wp_X5_submitted nw  k) : Met l yX5_submitted wsX5_submitted { frames := 0, cells := 0, slots := 0, locals := 0 } (va_Pc [.ref o] (fun U => P nw hi sv th cd ha U.heap ∧ XE E U)) (kQi (fun r H => ∃ th9 : Int32, k r th9 ∧ P nw hi sv th9 cd ha H) A) 0 0 A := by
  refine k_body (cc := cX5_submitted) (own := RX5) (maxL := 1) (ret := (some .int)) (lv0 := [(0, .ref o)]) (by decide) rfl rfl (Nat.le_of_ble_eq_true rfl) rfl (fun p e s m below meth c C hr hlk hP hE => ?_)
  have hi5 : ∀ w ∈ u_ws RX5 TX5 6, w ∈ wsX5_submitted := by decide +kernel
  have lk0 := C.2.2.2.2 (.fieldLink RX5 19 "IdleDispatcherModel" "thrown" "I") (by decide +kernel)
  have lk1 := C.2.2.2.2 (.fieldLink RX5 7 "IdleDispatcherModel" "now" "[I") (by decide +kernel)
  refine k_aload_n C dX5_submitted_0 0 rfl ?_
  refine k_iconst (v := 0) C dX5_submitted_1 (by decide) ?_
  refine mp_th C F hA hE.1 hi5 lk0 dX5_submitted_2 ?_
  refine k_aload_n C dX5_submitted_5 0 rfl ?_
  refine mg_Mo_now C (focM_g F) hE.1 hi5 lk1 dX5_submitted_6 ?_
  refine k_bipush (v := 6) C dX5_submitted_9 (by decide) ?_
  refine mg_nw C (focM_g F) hE.1 (vp_lit (i := 6) (n := 893) (by decide)) dX5_submitted_11 ?_
  exact k_iret C hr hlk dX5_submitted_12 (fun H hP => ⟨0, h, hP⟩)
noncomputable def wp_X5_finished (nw : Nat → Int32) (k : Int32 → Int32 → Prop) : Prop := k (nw 7) 0
set_option maxRecDepth 100000 in
set_option maxHeartbeats 4000000 in
theorem c_X5_finished (l : Launch) {E : EV} {o : Nat} {P : PM} {A : Nat → Prop} (F : FocM E o P) (hA : ∀ q, inMo o q → A q) (nw : Nat → Int32) (hi : Nat → Int32) (sv : Int32) (th : Int32) (cd : Nat → Int32) (ha : Int64)   (k : Int32 → Int32 → Prop) (h : wp_X5_finished nw  k) : Met l yX5_finished wsX5_finished { frames := 0, cells := 0, slots := 0, locals := 0 } (va_Pc [.ref o] (fun U => P nw hi sv th cd ha U.heap ∧ XE E U)) (kQi (fun r H => ∃ th9 : Int32, k r th9 ∧ P nw hi sv th9 cd ha H) A) 0 0 A := by
  refine k_body (cc := cX5_finished) (own := RX5) (maxL := 1) (ret := (some .int)) (lv0 := [(0, .ref o)]) (by decide) rfl rfl (Nat.le_of_ble_eq_true rfl) rfl (fun p e s m below meth c C hr hlk hP hE => ?_)
  have hi5 : ∀ w ∈ u_ws RX5 TX5 6, w ∈ wsX5_finished := by decide +kernel
  have lk0 := C.2.2.2.2 (.fieldLink RX5 19 "IdleDispatcherModel" "thrown" "I") (by decide +kernel)
  have lk1 := C.2.2.2.2 (.fieldLink RX5 7 "IdleDispatcherModel" "now" "[I") (by decide +kernel)
  refine k_aload_n C dX5_finished_0 0 rfl ?_
  refine k_iconst (v := 0) C dX5_finished_1 (by decide) ?_
  refine mp_th C F hA hE.1 hi5 lk0 dX5_finished_2 ?_
  refine k_aload_n C dX5_finished_5 0 rfl ?_
  refine mg_Mo_now C (focM_g F) hE.1 hi5 lk1 dX5_finished_6 ?_
  refine k_bipush (v := 7) C dX5_finished_9 (by decide) ?_
  refine mg_nw C (focM_g F) hE.1 (vp_lit (i := 7) (n := 893) (by decide)) dX5_finished_11 ?_
  exact k_iret C hr hlk dX5_finished_12 (fun H hP => ⟨0, h, hP⟩)
noncomputable def wp_X5_serverOf (nw : Nat → Int32) (job : Int32) (k : Int32 → Int32 → Prop) : Prop := wp_X5_isJob nw job (fun r1 => (r1 = 0 → (wp_X5_refuse 1 (fun r3 th_4 => k r3 th_4))) ∧ (¬ (r1 = 0) → ((vp_in (93 + job) 893) ∧ (k (nw (93 + job).toNatClampNeg) 0))))
set_option maxRecDepth 100000 in
set_option maxHeartbeats 4000000 in
theorem c_X5_serverOf (l : Launch) {E : EV} {o : Nat} {P : PM} {A : Nat → Prop} (F : FocM E o P) (hA : ∀ q, inMo o q → A q) (nw : Nat → Int32) (hi : Nat → Int32) (sv : Int32) (th : Int32) (cd : Nat → Int32) (ha : Int64) (job : Int32)  (k : Int32 → Int32 → Prop) (h : wp_X5_serverOf nw job k) : Met l yX5_serverOf wsX5_serverOf { frames := 2, cells := 0, slots := 0, locals := 43 } (va_Pc [.ref o, .int job] (fun U => P nw hi sv th cd ha U.heap ∧ XE E U)) (kQi (fun r H => ∃ th9 : Int32, k r th9 ∧ P nw hi sv th9 cd ha H) A) 0 0 A := by
  refine k_body (cc := cX5_serverOf) (own := RX5) (maxL := 2) (ret := (some .int)) (lv0 := [(0, .ref o), (1, .int job)]) (by decide) rfl rfl (Nat.le_of_ble_eq_true rfl) rfl (fun p e s m below meth c C hr hlk hP hE => ?_)
  have hi5 : ∀ w ∈ u_ws RX5 TX5 6, w ∈ wsX5_serverOf := by decide +kernel
  have lk0 := C.2.2.2.2 (.fieldLink RX5 19 "IdleDispatcherModel" "thrown" "I") (by decide +kernel)
  have lk1 := C.2.2.2.2 (.fieldLink RX5 7 "IdleDispatcherModel" "now" "[I") (by decide +kernel)
  refine k_aload_n C dX5_serverOf_0 0 rfl ?_
  refine k_iconst (v := 0) C dX5_serverOf_1 (by decide) ?_
  refine mp_th C F hA hE.1 hi5 lk0 dX5_serverOf_2 ?_
  refine k_aload_n C dX5_serverOf_5 0 rfl ?_
  refine k_iload_n C dX5_serverOf_6 1 rfl ?_
  refine k_callVi (st := []) C hE (c_X5_isJob l F hA nw hi sv 0 cd ha job  _ h) (cwV 1 C.2.2.2.2 gX5_serverOf_X5_isJob rfl rfl rfl (by decide +kernel) ⟨Nat.le_of_ble_eq_true rfl, Nat.le_of_ble_eq_true rfl⟩) (fun H hP => va_recv hE.1 (k_one (mst_Mo ((focM_g F) H hP))) rfl (q0 := 0) rfl) rfl rfl (Nat.le_of_ble_eq_true rfl) dX5_serverOf_7 ⟨Nat.zero_le _, Nat.zero_le _⟩ (fun r1 => ?_)
  refine k_and (fun h => ?_)
  refine k_if_eq (tgt := 25) C dX5_serverOf_10 (by decide) (fun c2 => ?_) (fun c2 => ?_)
  · replace h := h.1 c2
    refine k_aload_n C dX5_serverOf_25 0 rfl ?_
    refine k_iconst (v := 1) C dX5_serverOf_26 (by decide) ?_
    refine k_callVi (st := []) C hE (c_X5_refuse l F hA nw hi sv 0 cd ha 1  _ h) (cwV 1 C.2.2.2.2 gX5_serverOf_X5_refuse rfl rfl rfl (by decide +kernel) ⟨Nat.le_of_ble_eq_true rfl, Nat.le_of_ble_eq_true rfl⟩) (fun H hP => va_recv hE.1 (k_one (mst_Mo ((focM_g F) H hP))) rfl (q0 := 0) rfl) rfl rfl (Nat.le_of_ble_eq_true rfl) dX5_serverOf_27 ⟨Nat.zero_le _, Nat.zero_le _⟩ (fun r3 => ?_)
    refine k_ex (fun th_4 => k_and (fun h => ?_))
    exact k_iret C hr hlk dX5_serverOf_30 (fun H hP => ⟨th_4, h, hP⟩)
  · replace h := h.2 c2
    refine k_aload_n C dX5_serverOf_13 0 rfl ?_
    refine mg_Mo_now C (focM_g F) hE.1 hi5 lk1 dX5_serverOf_14 ?_
    refine k_bipush (v := 93) C dX5_serverOf_17 (by decide) ?_
    refine k_iload_n C dX5_serverOf_19 1 rfl ?_
    refine k_iadd C dX5_serverOf_20 ?_
    obtain ⟨q5, h⟩ := h
    refine mg_nw C (focM_g F) hE.1 q5 dX5_serverOf_21 ?_
    refine k_goto (tgt := 30) C dX5_serverOf_22 (by decide) ?_
    exact k_iret C hr hlk dX5_serverOf_30 (fun H hP => ⟨0, h, hP⟩)
noncomputable def wp_X5_waitOf (nw : Nat → Int32) (job : Int32) (k : Int32 → Int32 → Prop) : Prop := wp_X5_isJob nw job (fun r1 => (r1 = 0 → (wp_X5_refuse 1 (fun r3 th_4 => k r3 th_4))) ∧ (¬ (r1 = 0) → ((vp_in (493 + job) 893) ∧ (k (nw (493 + job).toNatClampNeg) 0))))
set_option maxRecDepth 100000 in
set_option maxHeartbeats 4000000 in
theorem c_X5_waitOf (l : Launch) {E : EV} {o : Nat} {P : PM} {A : Nat → Prop} (F : FocM E o P) (hA : ∀ q, inMo o q → A q) (nw : Nat → Int32) (hi : Nat → Int32) (sv : Int32) (th : Int32) (cd : Nat → Int32) (ha : Int64) (job : Int32)  (k : Int32 → Int32 → Prop) (h : wp_X5_waitOf nw job k) : Met l yX5_waitOf wsX5_waitOf { frames := 2, cells := 0, slots := 0, locals := 43 } (va_Pc [.ref o, .int job] (fun U => P nw hi sv th cd ha U.heap ∧ XE E U)) (kQi (fun r H => ∃ th9 : Int32, k r th9 ∧ P nw hi sv th9 cd ha H) A) 0 0 A := by
  refine k_body (cc := cX5_waitOf) (own := RX5) (maxL := 2) (ret := (some .int)) (lv0 := [(0, .ref o), (1, .int job)]) (by decide) rfl rfl (Nat.le_of_ble_eq_true rfl) rfl (fun p e s m below meth c C hr hlk hP hE => ?_)
  have hi5 : ∀ w ∈ u_ws RX5 TX5 6, w ∈ wsX5_waitOf := by decide +kernel
  have lk0 := C.2.2.2.2 (.fieldLink RX5 19 "IdleDispatcherModel" "thrown" "I") (by decide +kernel)
  have lk1 := C.2.2.2.2 (.fieldLink RX5 7 "IdleDispatcherModel" "now" "[I") (by decide +kernel)
  refine k_aload_n C dX5_waitOf_0 0 rfl ?_
  refine k_iconst (v := 0) C dX5_waitOf_1 (by decide) ?_
  refine mp_th C F hA hE.1 hi5 lk0 dX5_waitOf_2 ?_
  refine k_aload_n C dX5_waitOf_5 0 rfl ?_
  refine k_iload_n C dX5_waitOf_6 1 rfl ?_
  refine k_callVi (st := []) C hE (c_X5_isJob l F hA nw hi sv 0 cd ha job  _ h) (cwV 1 C.2.2.2.2 gX5_waitOf_X5_isJob rfl rfl rfl (by decide +kernel) ⟨Nat.le_of_ble_eq_true rfl, Nat.le_of_ble_eq_true rfl⟩) (fun H hP => va_recv hE.1 (k_one (mst_Mo ((focM_g F) H hP))) rfl (q0 := 0) rfl) rfl rfl (Nat.le_of_ble_eq_true rfl) dX5_waitOf_7 ⟨Nat.zero_le _, Nat.zero_le _⟩ (fun r1 => ?_)
  refine k_and (fun h => ?_)
  refine k_if_eq (tgt := 26) C dX5_waitOf_10 (by decide) (fun c2 => ?_) (fun c2 => ?_)
  · replace h := h.1 c2
    refine k_aload_n C dX5_waitOf_26 0 rfl ?_
    refine k_iconst (v := 1) C dX5_waitOf_27 (by decide) ?_
    refine k_callVi (st := []) C hE (c_X5_refuse l F hA nw hi sv 0 cd ha 1  _ h) (cwV 1 C.2.2.2.2 gX5_waitOf_X5_refuse rfl rfl rfl (by decide +kernel) ⟨Nat.le_of_ble_eq_true rfl, Nat.le_of_ble_eq_true rfl⟩) (fun H hP => va_recv hE.1 (k_one (mst_Mo ((focM_g F) H hP))) rfl (q0 := 0) rfl) rfl rfl (Nat.le_of_ble_eq_true rfl) dX5_waitOf_28 ⟨Nat.zero_le _, Nat.zero_le _⟩ (fun r3 => ?_)
    refine k_ex (fun th_4 => k_and (fun h => ?_))
    exact k_iret C hr hlk dX5_waitOf_31 (fun H hP => ⟨th_4, h, hP⟩)
  · replace h := h.2 c2
    refine k_aload_n C dX5_waitOf_13 0 rfl ?_
    refine mg_Mo_now C (focM_g F) hE.1 hi5 lk1 dX5_waitOf_14 ?_
    refine k_sipush (v := 493) C dX5_waitOf_17 (by decide) ?_
    refine k_iload_n C dX5_waitOf_20 1 rfl ?_
    refine k_iadd C dX5_waitOf_21 ?_
    obtain ⟨q5, h⟩ := h
    refine mg_nw C (focM_g F) hE.1 q5 dX5_waitOf_22 ?_
    refine k_goto (tgt := 31) C dX5_waitOf_23 (by decide) ?_
    exact k_iret C hr hlk dX5_waitOf_31 (fun H hP => ⟨0, h, hP⟩)
noncomputable def wp_X5_waits_L4 (nw : Nat → Int32) (k : Int32 → Prop) (fu : Nat) : Int32 → Int32 → Prop := Nat.rec (motive := fun _ => Int32 → Int32 → Prop) (fun _ _ => False) (fun _ rec4 x1 x2 => ((nw 6) ≤ x1 → (k x2)) ∧ (¬ ((nw 6) ≤ x1) → ((vp_in (493 + x1) 893) ∧ (((nw (493 + x1).toNatClampNeg) = (-1) → (∀ x8 : Int32, x8 = (x2 + 0) → (∀ x9 : Int32, x9 = x1 + 1 → (rec4 x9 x8)))) ∧ (¬ (nw (493 + x1).toNatClampNeg) = (-1) → (∀ x6 : Int32, x6 = (x2 + (nw (493 + x1).toNatClampNeg)) → (∀ x7 : Int32, x7 = x1 + 1 → (rec4 x7 x6)))))))) fu
noncomputable def wp_X5_waits (nw : Nat → Int32) (k : Int32 → Prop) : Prop := ∃ fu, wp_X5_waits_L4 nw k fu 0 0
set_option maxRecDepth 100000 in
set_option maxHeartbeats 4000000 in
theorem c_X5_waits (l : Launch) {E : EV} {o : Nat} {P : PM} {A : Nat → Prop} (F : FocM E o P) (hA : ∀ q, inMo o q → A q) (nw : Nat → Int32) (hi : Nat → Int32) (sv : Int32) (th : Int32) (cd : Nat → Int32) (ha : Int64)   (k : Int32 → Prop) (h : wp_X5_waits nw  k) : Met l yX5_waits wsX5_waits { frames := 0, cells := 0, slots := 0, locals := 0 } (va_Pc [.ref o] (fun U => P nw hi sv th cd ha U.heap ∧ XE E U)) (kQi (fun r H => k r ∧ P nw hi sv th cd ha H) A) 0 0 A := by
  refine k_body (cc := cX5_waits) (own := RX5) (maxL := 3) (ret := (some .int)) (lv0 := [(0, .ref o)]) (by decide) rfl rfl (Nat.le_of_ble_eq_true rfl) rfl (fun p e s m below meth c C hr hlk hP hE => ?_)
  have hi5 : ∀ w ∈ u_ws RX5 TX5 6, w ∈ wsX5_waits := by decide +kernel
  have lk0 := C.2.2.2.2 (.fieldLink RX5 7 "IdleDispatcherModel" "now" "[I") (by decide +kernel)
  refine k_iconst (v := 0) C dX5_waits_0 (by decide) ?_
  refine k_istore_n (lv' := [(1, .int 0), (0, .ref o)]) C dX5_waits_1 rfl (by decide) rfl ?_
  refine k_iconst (v := 0) C dX5_waits_2 (by decide) ?_
  refine k_istore_n (lv' := [(2, .int 0), (1, .int 0), (0, .ref o)]) C dX5_waits_3 rfl (by decide) rfl ?_
  obtain ⟨n4, h⟩ := h
  refine k_pc (pc2 := 4) rfl ?_
  refine k_loop2 (wp_X5_waits_L4 nw k) (fun x1 x2 => P nw hi sv th cd ha) (fun x1 x2 => [(2, .int x1), (1, .int x2), (0, .ref o)]) (fun _ _ h => h) (fun n4 ih4 x1 x2 h => ?_) n4 _ _ h
  refine k_iload_n C dX5_waits_4 0 rfl ?_
  refine k_aload_n C dX5_waits_5 2 rfl ?_
  refine mg_Mo_now C (focM_g F) hE.1 hi5 lk0 dX5_waits_6 ?_
  refine k_bipush (v := 6) C dX5_waits_9 (by decide) ?_
  refine mg_nw C (focM_g F) hE.1 (vp_lit (i := 6) (n := 893) (by decide)) dX5_waits_11 ?_
  refine k_icmp_ge (tgt := 52) C dX5_waits_12 (by decide) (fun c3 => ?_) (fun c3 => ?_)
  · replace h := h.1 c3
    refine k_iload_n C dX5_waits_52 1 rfl ?_
    exact k_iret C hr hlk dX5_waits_53 (fun H hP => ⟨h, hP⟩)
  · replace h := h.2 c3
    refine k_iload_n C dX5_waits_15 1 rfl ?_
    refine k_aload_n C dX5_waits_16 2 rfl ?_
    refine mg_Mo_now C (focM_g F) hE.1 hi5 lk0 dX5_waits_17 ?_
    refine k_sipush (v := 493) C dX5_waits_20 (by decide) ?_
    refine k_iload_n C dX5_waits_23 0 rfl ?_
    refine k_iadd C dX5_waits_24 ?_
    obtain ⟨q4, h⟩ := h
    refine mg_nw C (focM_g F) hE.1 q4 dX5_waits_25 ?_
    refine k_iconst (v := (-1)) C dX5_waits_26 (by decide) ?_
    refine k_icmp_ne (tgt := 34) C dX5_waits_27 (by decide) (fun c5 => ?_) (fun c5 => ?_)
    · replace h := h.2 c5
      refine k_aload_n C dX5_waits_34 2 rfl ?_
      refine mg_Mo_now C (focM_g F) hE.1 hi5 lk0 dX5_waits_35 ?_
      refine k_sipush (v := 493) C dX5_waits_38 (by decide) ?_
      refine k_iload_n C dX5_waits_41 0 rfl ?_
      refine k_iadd C dX5_waits_42 ?_
      refine mg_nw C (focM_g F) hE.1 q4 dX5_waits_43 ?_
      refine k_iadd C dX5_waits_44 ?_
      refine k_topi (fun x6 ex6 => ?_)
      replace h := h x6 ex6
      refine k_istore_n (lv' := [(1, .int x6), (2, .int x1), (0, .ref o)]) C dX5_waits_45 rfl (by decide) rfl ?_
      obtain ⟨x7, ex7⟩ : ∃ z : Int32, z = x1 + 1 := ⟨_, rfl⟩
      replace h := h x7 ex7
      refine k_iinc (v := x7) (lv' := [(2, .int x7), (1, .int x6), (0, .ref o)]) (j := 1) C dX5_waits_46 rfl (by rw [ex7]; rfl) (by decide) rfl ?_
      refine k_goto (tgt := 4) C dX5_waits_49 (by decide) ?_
      refine k_pc (pc2 := 4) rfl ?_
      refine k_sub [0, 1, 2] rfl ?_
      exact ih4 _ _ h
    · replace h := h.1 c5
      refine k_iconst (v := 0) C dX5_waits_30 (by decide) ?_
      refine k_goto (tgt := 44) C dX5_waits_31 (by decide) ?_
      refine k_iadd C dX5_waits_44 ?_
      refine k_topi (fun x8 ex8 => ?_)
      replace h := h x8 ex8
      refine k_istore_n (lv' := [(1, .int x8), (2, .int x1), (0, .ref o)]) C dX5_waits_45 rfl (by decide) rfl ?_
      obtain ⟨x9, ex9⟩ : ∃ z : Int32, z = x1 + 1 := ⟨_, rfl⟩
      replace h := h x9 ex9
      refine k_iinc (v := x9) (lv' := [(2, .int x9), (1, .int x8), (0, .ref o)]) (j := 1) C dX5_waits_46 rfl (by rw [ex9]; rfl) (by decide) rfl ?_
      refine k_goto (tgt := 4) C dX5_waits_49 (by decide) ?_
      refine k_pc (pc2 := 4) rfl ?_
      refine k_sub [0, 1, 2] rfl ?_
      exact ih4 _ _ h
noncomputable def wp_X5_begun_L4 (nw : Nat → Int32) (k : Int32 → Prop) (fu : Nat) : Int32 → Int32 → Prop := Nat.rec (motive := fun _ => Int32 → Int32 → Prop) (fun _ _ => False) (fun _ rec4 x1 x2 => ((nw 6) ≤ x1 → (k x2)) ∧ (¬ ((nw 6) ≤ x1) → ((vp_in (493 + x1) 893) ∧ (((nw (493 + x1).toNatClampNeg) = (-1) → (∀ x8 : Int32, x8 = (x2 + 0) → (∀ x9 : Int32, x9 = x1 + 1 → (rec4 x9 x8)))) ∧ (¬ (nw (493 + x1).toNatClampNeg) = (-1) → (∀ x6 : Int32, x6 = (x2 + 1) → (∀ x7 : Int32, x7 = x1 + 1 → (rec4 x7 x6)))))))) fu
noncomputable def wp_X5_begun (nw : Nat → Int32) (k : Int32 → Prop) : Prop := ∃ fu, wp_X5_begun_L4 nw k fu 0 0
set_option maxRecDepth 100000 in
set_option maxHeartbeats 4000000 in
theorem c_X5_begun (l : Launch) {E : EV} {o : Nat} {P : PM} {A : Nat → Prop} (F : FocM E o P) (hA : ∀ q, inMo o q → A q) (nw : Nat → Int32) (hi : Nat → Int32) (sv : Int32) (th : Int32) (cd : Nat → Int32) (ha : Int64)   (k : Int32 → Prop) (h : wp_X5_begun nw  k) : Met l yX5_begun wsX5_begun { frames := 0, cells := 0, slots := 0, locals := 0 } (va_Pc [.ref o] (fun U => P nw hi sv th cd ha U.heap ∧ XE E U)) (kQi (fun r H => k r ∧ P nw hi sv th cd ha H) A) 0 0 A := by
  refine k_body (cc := cX5_begun) (own := RX5) (maxL := 3) (ret := (some .int)) (lv0 := [(0, .ref o)]) (by decide) rfl rfl (Nat.le_of_ble_eq_true rfl) rfl (fun p e s m below meth c C hr hlk hP hE => ?_)
  have hi5 : ∀ w ∈ u_ws RX5 TX5 6, w ∈ wsX5_begun := by decide +kernel
  have lk0 := C.2.2.2.2 (.fieldLink RX5 7 "IdleDispatcherModel" "now" "[I") (by decide +kernel)
  refine k_iconst (v := 0) C dX5_begun_0 (by decide) ?_
  refine k_istore_n (lv' := [(1, .int 0), (0, .ref o)]) C dX5_begun_1 rfl (by decide) rfl ?_
  refine k_iconst (v := 0) C dX5_begun_2 (by decide) ?_
  refine k_istore_n (lv' := [(2, .int 0), (1, .int 0), (0, .ref o)]) C dX5_begun_3 rfl (by decide) rfl ?_
  obtain ⟨n4, h⟩ := h
  refine k_pc (pc2 := 4) rfl ?_
  refine k_loop2 (wp_X5_begun_L4 nw k) (fun x1 x2 => P nw hi sv th cd ha) (fun x1 x2 => [(2, .int x1), (1, .int x2), (0, .ref o)]) (fun _ _ h => h) (fun n4 ih4 x1 x2 h => ?_) n4 _ _ h
  refine k_iload_n C dX5_begun_4 0 rfl ?_
  refine k_aload_n C dX5_begun_5 2 rfl ?_
  refine mg_Mo_now C (focM_g F) hE.1 hi5 lk0 dX5_begun_6 ?_
  refine k_bipush (v := 6) C dX5_begun_9 (by decide) ?_
  refine mg_nw C (focM_g F) hE.1 (vp_lit (i := 6) (n := 893) (by decide)) dX5_begun_11 ?_
  refine k_icmp_ge (tgt := 43) C dX5_begun_12 (by decide) (fun c3 => ?_) (fun c3 => ?_)
  · replace h := h.1 c3
    refine k_iload_n C dX5_begun_43 1 rfl ?_
    exact k_iret C hr hlk dX5_begun_44 (fun H hP => ⟨h, hP⟩)
  · replace h := h.2 c3
    refine k_iload_n C dX5_begun_15 1 rfl ?_
    refine k_aload_n C dX5_begun_16 2 rfl ?_
    refine mg_Mo_now C (focM_g F) hE.1 hi5 lk0 dX5_begun_17 ?_
    refine k_sipush (v := 493) C dX5_begun_20 (by decide) ?_
    refine k_iload_n C dX5_begun_23 0 rfl ?_
    refine k_iadd C dX5_begun_24 ?_
    obtain ⟨q4, h⟩ := h
    refine mg_nw C (focM_g F) hE.1 q4 dX5_begun_25 ?_
    refine k_iconst (v := (-1)) C dX5_begun_26 (by decide) ?_
    refine k_icmp_ne (tgt := 34) C dX5_begun_27 (by decide) (fun c5 => ?_) (fun c5 => ?_)
    · replace h := h.2 c5
      refine k_iconst (v := 1) C dX5_begun_34 (by decide) ?_
      refine k_iadd C dX5_begun_35 ?_
      refine k_topi (fun x6 ex6 => ?_)
      replace h := h x6 ex6
      refine k_istore_n (lv' := [(1, .int x6), (2, .int x1), (0, .ref o)]) C dX5_begun_36 rfl (by decide) rfl ?_
      obtain ⟨x7, ex7⟩ : ∃ z : Int32, z = x1 + 1 := ⟨_, rfl⟩
      replace h := h x7 ex7
      refine k_iinc (v := x7) (lv' := [(2, .int x7), (1, .int x6), (0, .ref o)]) (j := 1) C dX5_begun_37 rfl (by rw [ex7]; rfl) (by decide) rfl ?_
      refine k_goto (tgt := 4) C dX5_begun_40 (by decide) ?_
      refine k_pc (pc2 := 4) rfl ?_
      refine k_sub [0, 1, 2] rfl ?_
      exact ih4 _ _ h
    · replace h := h.1 c5
      refine k_iconst (v := 0) C dX5_begun_30 (by decide) ?_
      refine k_goto (tgt := 35) C dX5_begun_31 (by decide) ?_
      refine k_iadd C dX5_begun_35 ?_
      refine k_topi (fun x8 ex8 => ?_)
      replace h := h x8 ex8
      refine k_istore_n (lv' := [(1, .int x8), (2, .int x1), (0, .ref o)]) C dX5_begun_36 rfl (by decide) rfl ?_
      obtain ⟨x9, ex9⟩ : ∃ z : Int32, z = x1 + 1 := ⟨_, rfl⟩
      replace h := h x9 ex9
      refine k_iinc (v := x9) (lv' := [(2, .int x9), (1, .int x8), (0, .ref o)]) (j := 1) C dX5_begun_37 rfl (by rw [ex9]; rfl) (by decide) rfl ?_
      refine k_goto (tgt := 4) C dX5_begun_40 (by decide) ?_
      refine k_pc (pc2 := 4) rfl ?_
      refine k_sub [0, 1, 2] rfl ?_
      exact ih4 _ _ h
noncomputable def wp_X5_meanWait (nw : Nat → Int32) (k : UInt64 → Int32 → Prop) : Prop := wp_X5_begun nw (fun r1 => (r1 = 0 → (k (FP.dconst0) 0)) ∧ (¬ r1 = 0 → (wp_X5_waits nw (fun r3 => (vf_n64 (FP.ddiv (FP.i2d r3) (FP.i2d r1))) ∧ (k (FP.ddiv (FP.i2d r3) (FP.i2d r1)) 0)))))
set_option maxRecDepth 100000 in
set_option maxHeartbeats 4000000 in
theorem c_X5_meanWait (l : Launch) {E : EV} {o : Nat} {P : PM} {A : Nat → Prop} (F : FocM E o P) (hA : ∀ q, inMo o q → A q) (nw : Nat → Int32) (hi : Nat → Int32) (sv : Int32) (th : Int32) (cd : Nat → Int32) (ha : Int64)   (k : UInt64 → Int32 → Prop) (h : wp_X5_meanWait nw  k) : Met l yX5_meanWait wsX5_meanWait { frames := 1, cells := 0, slots := 0, locals := 22 } (va_Pc [.ref o] (fun U => P nw hi sv th cd ha U.heap ∧ XE E U)) (kQd (fun r H => ∃ th9 : Int32, k r th9 ∧ P nw hi sv th9 cd ha H) A) 0 0 A := by
  refine k_body (cc := cX5_meanWait) (own := RX5) (maxL := 2) (ret := (some .double)) (lv0 := [(0, .ref o)]) (by decide) rfl rfl (Nat.le_of_ble_eq_true rfl) rfl (fun p e s m below meth c C hr hlk hP hE => ?_)
  have hi5 : ∀ w ∈ u_ws RX5 TX5 6, w ∈ wsX5_meanWait := by decide +kernel
  have lk0 := C.2.2.2.2 (.fieldLink RX5 19 "IdleDispatcherModel" "thrown" "I") (by decide +kernel)
  refine k_aload_n C dX5_meanWait_0 0 rfl ?_
  refine k_iconst (v := 0) C dX5_meanWait_1 (by decide) ?_
  refine mp_th C F hA hE.1 hi5 lk0 dX5_meanWait_2 ?_
  refine k_aload_n C dX5_meanWait_5 0 rfl ?_
  refine k_callVi (st := []) C hE (c_X5_begun l F hA nw hi sv 0 cd ha   _ h) (cwV 0 C.2.2.2.2 gX5_meanWait_X5_begun rfl rfl rfl (by decide +kernel) ⟨Nat.le_of_ble_eq_true rfl, Nat.le_of_ble_eq_true rfl⟩) (fun H hP => va_recv hE.1 (k_one (mst_Mo ((focM_g F) H hP))) rfl (q0 := 0) rfl) rfl rfl (Nat.le_of_ble_eq_true rfl) dX5_meanWait_6 ⟨Nat.zero_le _, Nat.zero_le _⟩ (fun r1 => ?_)
  refine k_and (fun h => ?_)
  refine k_istore_n (lv' := [(1, .int r1), (0, .ref o)]) C dX5_meanWait_9 rfl (by decide) rfl ?_
  refine k_iload_n C dX5_meanWait_10 0 rfl ?_
  refine k_if_ne (tgt := 18) C dX5_meanWait_11 (by decide) (fun c2 => ?_) (fun c2 => ?_)
  · replace h := h.2 c2
    refine k_aload_n C dX5_meanWait_18 1 rfl ?_
    refine k_callVi (st := []) C hE (c_X5_waits l F hA nw hi sv 0 cd ha   _ h) (cwV 0 C.2.2.2.2 gX5_meanWait_X5_waits rfl rfl rfl (by decide +kernel) ⟨Nat.le_of_ble_eq_true rfl, Nat.le_of_ble_eq_true rfl⟩) (fun H hP => va_recv hE.1 (k_one (mst_Mo ((focM_g F) H hP))) rfl (q0 := 0) rfl) rfl rfl (Nat.le_of_ble_eq_true rfl) dX5_meanWait_19 ⟨Nat.zero_le _, Nat.zero_le _⟩ (fun r3 => ?_)
    refine k_and (fun h => ?_)
    refine k_i2d C dX5_meanWait_22 ?_
    refine k_iload_n C dX5_meanWait_23 0 rfl ?_
    refine k_i2d C dX5_meanWait_24 ?_
    obtain ⟨q4, h⟩ := h
    refine k_ddiv C dX5_meanWait_25 q4 ?_
    exact k_dret C hr hlk dX5_meanWait_26 (fun H hP => ⟨0, h, hP⟩)
  · replace h := h.1 c2
    refine k_dconst0 C dX5_meanWait_14 ?_
    refine k_goto (tgt := 26) C dX5_meanWait_15 (by decide) ?_
    exact k_dret C hr hlk dX5_meanWait_26 (fun H hP => ⟨0, h, hP⟩)
noncomputable def wp_X5_missed (nw : Nat → Int32) (k : Int32 → Int32 → Prop) : Prop := k (nw 8) 0
set_option maxRecDepth 100000 in
set_option maxHeartbeats 4000000 in
theorem c_X5_missed (l : Launch) {E : EV} {o : Nat} {P : PM} {A : Nat → Prop} (F : FocM E o P) (hA : ∀ q, inMo o q → A q) (nw : Nat → Int32) (hi : Nat → Int32) (sv : Int32) (th : Int32) (cd : Nat → Int32) (ha : Int64)   (k : Int32 → Int32 → Prop) (h : wp_X5_missed nw  k) : Met l yX5_missed wsX5_missed { frames := 0, cells := 0, slots := 0, locals := 0 } (va_Pc [.ref o] (fun U => P nw hi sv th cd ha U.heap ∧ XE E U)) (kQi (fun r H => ∃ th9 : Int32, k r th9 ∧ P nw hi sv th9 cd ha H) A) 0 0 A := by
  refine k_body (cc := cX5_missed) (own := RX5) (maxL := 1) (ret := (some .int)) (lv0 := [(0, .ref o)]) (by decide) rfl rfl (Nat.le_of_ble_eq_true rfl) rfl (fun p e s m below meth c C hr hlk hP hE => ?_)
  have hi5 : ∀ w ∈ u_ws RX5 TX5 6, w ∈ wsX5_missed := by decide +kernel
  have lk0 := C.2.2.2.2 (.fieldLink RX5 19 "IdleDispatcherModel" "thrown" "I") (by decide +kernel)
  have lk1 := C.2.2.2.2 (.fieldLink RX5 7 "IdleDispatcherModel" "now" "[I") (by decide +kernel)
  refine k_aload_n C dX5_missed_0 0 rfl ?_
  refine k_iconst (v := 0) C dX5_missed_1 (by decide) ?_
  refine mp_th C F hA hE.1 hi5 lk0 dX5_missed_2 ?_
  refine k_aload_n C dX5_missed_5 0 rfl ?_
  refine mg_Mo_now C (focM_g F) hE.1 hi5 lk1 dX5_missed_6 ?_
  refine k_bipush (v := 8) C dX5_missed_9 (by decide) ?_
  refine mg_nw C (focM_g F) hE.1 (vp_lit (i := 8) (n := 893) (by decide)) dX5_missed_11 ?_
  exact k_iret C hr hlk dX5_missed_12 (fun H hP => ⟨0, h, hP⟩)
noncomputable def wp_X5_now (nw : Nat → Int32) (k : Int32 → Int32 → Prop) : Prop := k (nw 1) 0
set_option maxRecDepth 100000 in
set_option maxHeartbeats 4000000 in
theorem c_X5_now (l : Launch) {E : EV} {o : Nat} {P : PM} {A : Nat → Prop} (F : FocM E o P) (hA : ∀ q, inMo o q → A q) (nw : Nat → Int32) (hi : Nat → Int32) (sv : Int32) (th : Int32) (cd : Nat → Int32) (ha : Int64)   (k : Int32 → Int32 → Prop) (h : wp_X5_now nw  k) : Met l yX5_now wsX5_now { frames := 0, cells := 0, slots := 0, locals := 0 } (va_Pc [.ref o] (fun U => P nw hi sv th cd ha U.heap ∧ XE E U)) (kQi (fun r H => ∃ th9 : Int32, k r th9 ∧ P nw hi sv th9 cd ha H) A) 0 0 A := by
  refine k_body (cc := cX5_now) (own := RX5) (maxL := 1) (ret := (some .int)) (lv0 := [(0, .ref o)]) (by decide) rfl rfl (Nat.le_of_ble_eq_true rfl) rfl (fun p e s m below meth c C hr hlk hP hE => ?_)
  have hi5 : ∀ w ∈ u_ws RX5 TX5 6, w ∈ wsX5_now := by decide +kernel
  have lk0 := C.2.2.2.2 (.fieldLink RX5 19 "IdleDispatcherModel" "thrown" "I") (by decide +kernel)
  have lk1 := C.2.2.2.2 (.fieldLink RX5 7 "IdleDispatcherModel" "now" "[I") (by decide +kernel)
  refine k_aload_n C dX5_now_0 0 rfl ?_
  refine k_iconst (v := 0) C dX5_now_1 (by decide) ?_
  refine mp_th C F hA hE.1 hi5 lk0 dX5_now_2 ?_
  refine k_aload_n C dX5_now_5 0 rfl ?_
  refine mg_Mo_now C (focM_g F) hE.1 hi5 lk1 dX5_now_6 ?_
  refine k_iconst (v := 1) C dX5_now_9 (by decide) ?_
  refine mg_nw C (focM_g F) hE.1 (vp_lit (i := 1) (n := 893) (by decide)) dX5_now_10 ?_
  exact k_iret C hr hlk dX5_now_11 (fun H hP => ⟨0, h, hP⟩)
noncomputable def wp_X5_undo_L30 (k : Int32 → (Nat → Int32) → Int32 → Int32 → Prop) (x2 : Int32) (hi : Nat → Int32) (fu : Nat) : Int32 → (Nat → Int32) → Prop := Nat.rec (motive := fun _ => Int32 → (Nat → Int32) → Prop) (fun _ _ => False) (fun _ rec30 x3 nw_4 => (893 ≤ x3 → (k x2 nw_4 x2 0)) ∧ (¬ (893 ≤ x3) → ((vp_in ((893 * x2) + x3) 2679) ∧ ((vp_in x3 893) ∧ (∀ nw_8 : Nat → Int32, nw_8 = upd nw_4 x3.toNatClampNeg (hi ((893 * x2) + x3).toNatClampNeg) → (∀ x9 : Int32, x9 = x3 + 1 → (rec30 x9 nw_8))))))) fu
noncomputable def wp_X5_undo (nw : Nat → Int32) (hi : Nat → Int32) (sv : Int32) (k : Int32 → (Nat → Int32) → Int32 → Int32 → Prop) : Prop := (sv = 0 → (wp_X5_refuse 1 (fun r10 th_11 => k r10 nw sv th_11))) ∧ (¬ sv = 0 → (∀ x2 : Int32, x2 = (sv - 1) → (∃ fu, wp_X5_undo_L30 k x2 hi fu 0 nw)))
set_option maxRecDepth 100000 in
set_option maxHeartbeats 4000000 in
theorem c_X5_undo (l : Launch) {E : EV} {o : Nat} {P : PM} {A : Nat → Prop} (F : FocM E o P) (hA : ∀ q, inMo o q → A q) (nw : Nat → Int32) (hi : Nat → Int32) (sv : Int32) (th : Int32) (cd : Nat → Int32) (ha : Int64)   (k : Int32 → (Nat → Int32) → Int32 → Int32 → Prop) (h : wp_X5_undo nw hi sv  k) : Met l yX5_undo wsX5_undo { frames := 1, cells := 0, slots := 0, locals := 21 } (va_Pc [.ref o] (fun U => P nw hi sv th cd ha U.heap ∧ XE E U)) (kQi (fun r H => ∃ nw9 : Nat → Int32, ∃ sv9 : Int32, ∃ th9 : Int32, k r nw9 sv9 th9 ∧ P nw9 hi sv9 th9 cd ha H) A) 0 0 A := by
  refine k_body (cc := cX5_undo) (own := RX5) (maxL := 2) (ret := (some .int)) (lv0 := [(0, .ref o)]) (by decide) rfl rfl (Nat.le_of_ble_eq_true rfl) rfl (fun p e s m below meth c C hr hlk hP hE => ?_)
  have hi5 : ∀ w ∈ u_ws RX5 TX5 6, w ∈ wsX5_undo := by decide +kernel
  have lk0 := C.2.2.2.2 (.fieldLink RX5 19 "IdleDispatcherModel" "thrown" "I") (by decide +kernel)
  have lk1 := C.2.2.2.2 (.fieldLink RX5 27 "IdleDispatcherModel" "saved" "I") (by decide +kernel)
  have lk2 := C.2.2.2.2 (.fieldLink RX5 7 "IdleDispatcherModel" "now" "[I") (by decide +kernel)
  have lk3 := C.2.2.2.2 (.fieldLink RX5 13 "IdleDispatcherModel" "history" "[I") (by decide +kernel)
  refine k_aload_n C dX5_undo_0 0 rfl ?_
  refine k_iconst (v := 0) C dX5_undo_1 (by decide) ?_
  refine mp_th C F hA hE.1 hi5 lk0 dX5_undo_2 ?_
  refine k_aload_n C dX5_undo_5 0 rfl ?_
  refine mg_sv C (focM_g F) hE.1 hi5 lk1 dX5_undo_6 ?_
  refine k_if_ne (tgt := 18) C dX5_undo_9 (by decide) (fun c1 => ?_) (fun c1 => ?_)
  · replace h := h.2 c1
    refine k_aload_n C dX5_undo_18 0 rfl ?_
    refine k_dup C dX5_undo_19 rfl ?_
    refine mg_sv C (focM_g F) hE.1 hi5 lk1 dX5_undo_20 ?_
    refine k_iconst (v := 1) C dX5_undo_23 (by decide) ?_
    refine k_isub C dX5_undo_24 ?_
    refine k_topi (fun x2 ex2 => ?_)
    replace h := h x2 ex2
    refine mp_sv C F hA hE.1 hi5 lk1 dX5_undo_25 ?_
    refine k_iconst (v := 0) C dX5_undo_28 (by decide) ?_
    refine k_istore_n (lv' := [(1, .int 0), (0, .ref o)]) C dX5_undo_29 rfl (by decide) rfl ?_
    obtain ⟨n30, h⟩ := h
    refine k_pc (pc2 := 30) rfl ?_
    refine k_loop2 (wp_X5_undo_L30 k x2 hi) (fun x3 nw_4 => P nw_4 hi x2 0 cd ha) (fun x3 nw_4 => [(1, .int x3), (0, .ref o)]) (fun _ _ h => h) (fun n30 ih30 x3 nw_4 h => ?_) n30 _ _ h
    refine k_iload_n C dX5_undo_30 0 rfl ?_
    refine k_sipush (v := 893) C dX5_undo_31 (by decide) ?_
    refine k_icmp_ge (tgt := 64) C dX5_undo_34 (by decide) (fun c5 => ?_) (fun c5 => ?_)
    · replace h := h.1 c5
      refine k_aload_n C dX5_undo_64 1 rfl ?_
      refine mg_sv C (focM_g F) hE.1 hi5 lk1 dX5_undo_65 ?_
      exact k_iret C hr hlk dX5_undo_68 (fun H hP => ⟨nw_4, x2, 0, h, hP⟩)
    · replace h := h.2 c5
      refine k_aload_n C dX5_undo_37 1 rfl ?_
      refine mg_Mo_now C (focM_g F) hE.1 hi5 lk2 dX5_undo_38 ?_
      refine k_iload_n C dX5_undo_41 0 rfl ?_
      refine k_aload_n C dX5_undo_42 1 rfl ?_
      refine mg_Mo_history C (focM_g F) hE.1 hi5 lk3 dX5_undo_43 ?_
      refine k_sipush (v := 893) C dX5_undo_46 (by decide) ?_
      refine k_aload_n C dX5_undo_49 1 rfl ?_
      refine mg_sv C (focM_g F) hE.1 hi5 lk1 dX5_undo_50 ?_
      refine k_imul C dX5_undo_53 ?_
      refine k_iload_n C dX5_undo_54 0 rfl ?_
      refine k_iadd C dX5_undo_55 ?_
      obtain ⟨q6, h⟩ := h
      refine mg_hi C (focM_g F) hE.1 q6 dX5_undo_56 ?_
      obtain ⟨q7, h⟩ := h
      obtain ⟨nw_8, enw_8⟩ : ∃ z : Nat → Int32, z = upd nw_4 x3.toNatClampNeg (hi ((893 * x2) + x3).toNatClampNeg) := ⟨_, rfl⟩
      replace h := h nw_8 enw_8
      refine mp_nw C F hA hE.1 q7 enw_8 dX5_undo_57 ?_
      obtain ⟨x9, ex9⟩ : ∃ z : Int32, z = x3 + 1 := ⟨_, rfl⟩
      replace h := h x9 ex9
      refine k_iinc (v := x9) (lv' := [(1, .int x9), (0, .ref o)]) (j := 0) C dX5_undo_58 rfl (by rw [ex9]; rfl) (by decide) rfl ?_
      refine k_goto (tgt := 30) C dX5_undo_61 (by decide) ?_
      refine k_pc (pc2 := 30) rfl ?_
      refine k_sub [0, 1] rfl ?_
      exact ih30 _ _ h
  · replace h := h.1 c1
    refine k_aload_n C dX5_undo_12 0 rfl ?_
    refine k_iconst (v := 1) C dX5_undo_13 (by decide) ?_
    refine k_callVi (st := []) C hE (c_X5_refuse l F hA nw hi sv 0 cd ha 1  _ h) (cwV 1 C.2.2.2.2 gX5_undo_X5_refuse rfl rfl rfl (by decide +kernel) ⟨Nat.le_of_ble_eq_true rfl, Nat.le_of_ble_eq_true rfl⟩) (fun H hP => va_recv hE.1 (k_one (mst_Mo ((focM_g F) H hP))) rfl (q0 := 0) rfl) rfl rfl (Nat.le_of_ble_eq_true rfl) dX5_undo_14 ⟨Nat.zero_le _, Nat.zero_le _⟩ (fun r10 => ?_)
    refine k_ex (fun th_11 => k_and (fun h => ?_))
    exact k_iret C hr hlk dX5_undo_17 (fun H hP => ⟨nw, sv, th_11, h, hP⟩)
noncomputable def wp_X5_mix (ha : Int64) (v : Int32) (k : Int64 → Prop) : Prop := ∀ x1 : Int64, x1 = (((31 : Int64) * ha) + v.toInt64) → (k x1)
set_option maxRecDepth 100000 in
set_option maxHeartbeats 4000000 in
theorem c_X5_mix (l : Launch) {E : EV} {o : Nat} {P : PM} {A : Nat → Prop} (F : FocM E o P) (hA : ∀ q, inMo o q → A q) (nw : Nat → Int32) (hi : Nat → Int32) (sv : Int32) (th : Int32) (cd : Nat → Int32) (ha : Int64) (v : Int32)  (k : Int64 → Prop) (h : wp_X5_mix ha v k) : Met l yX5_mix wsX5_mix { frames := 0, cells := 0, slots := 0, locals := 0 } (va_Pc [.ref o, .int v] (fun U => P nw hi sv th cd ha U.heap ∧ XE E U)) (kQv (fun H => ∃ ha9 : Int64, k ha9 ∧ P nw hi sv th cd ha9 H) A) 0 0 A := by
  refine k_body (cc := cX5_mix) (own := RX5) (maxL := 2) (ret := none) (lv0 := [(0, .ref o), (1, .int v)]) (by decide) rfl rfl (Nat.le_of_ble_eq_true rfl) rfl (fun p e s m below meth c C hr hlk hP hE => ?_)
  have hi5 : ∀ w ∈ u_ws RX5 TX5 6, w ∈ wsX5_mix := by decide +kernel
  have lk0 := C.2.2.2.2 (.constantLong RX5 129 (31)) (by decide +kernel)
  have lk1 := C.2.2.2.2 (.fieldLink RX5 131 "IdleDispatcherModel" "hash" "J") (by decide +kernel)
  refine k_aload_n C dX5_mix_0 0 rfl ?_
  refine k_ldc2 C lk0 dX5_mix_1 ?_
  refine k_aload_n C dX5_mix_4 0 rfl ?_
  refine mg_ha C (focM_g F) hE.1 hi5 lk1 dX5_mix_5 ?_
  refine k_lmul C dX5_mix_8 ?_
  refine k_iload_n C dX5_mix_9 1 rfl ?_
  refine k_i2l C dX5_mix_10 ?_
  refine k_ladd C dX5_mix_11 ?_
  refine k_topl (fun x1 ex1 => ?_)
  replace h := h x1 ex1
  refine mp_ha C F hA hE.1 hi5 lk1 dX5_mix_12 ?_
  exact k_vret C hr hlk dX5_mix_15 (fun H hP => ⟨x1, h, hP⟩)
noncomputable def wp_X5_mixServers_L12 (nw : Nat → Int32) (k : Int64 → Prop) (fu : Nat) : Int32 → Int64 → Prop := Nat.rec (motive := fun _ => Int32 → Int64 → Prop) (fun _ _ => False) (fun _ rec12 x2 ha_3 => ((nw 4) ≤ x2 → (k ha_3)) ∧ (¬ ((nw 4) ≤ x2) → ((vp_in (9 + x2) 893) ∧ (wp_X5_mix ha_3 (nw (9 + x2).toNatClampNeg) (fun ha_6 => wp_X5_lengthOf nw x2 (fun r7 => wp_X5_mix ha_6 r7 (fun ha_8 => wp_X5_workOf nw x2 (fun r9 => wp_X5_mix ha_8 r9 (fun ha_10 => wp_X5_listOf nw x2 (fun r11 => wp_X5_mix ha_10 r11 (fun ha_12 => ∀ x13 : Int32, x13 = x2 + 1 → (rec12 x13 ha_12)))))))))))) fu
noncomputable def wp_X5_mixServers (nw : Nat → Int32) (ha : Int64) (k : Int64 → Prop) : Prop := wp_X5_mix ha (nw 4) (fun ha_1 => ∃ fu, wp_X5_mixServers_L12 nw k fu 0 ha_1)
set_option maxRecDepth 100000 in
set_option maxHeartbeats 4000000 in
theorem c_X5_mixServers (l : Launch) {E : EV} {o : Nat} {P : PM} {A : Nat → Prop} (F : FocM E o P) (hA : ∀ q, inMo o q → A q) (nw : Nat → Int32) (hi : Nat → Int32) (sv : Int32) (th : Int32) (cd : Nat → Int32) (ha : Int64)   (k : Int64 → Prop) (h : wp_X5_mixServers nw ha  k) : Met l yX5_mixServers wsX5_mixServers { frames := 2, cells := 0, slots := 0, locals := 45 } (va_Pc [.ref o] (fun U => P nw hi sv th cd ha U.heap ∧ XE E U)) (kQv (fun H => ∃ ha9 : Int64, k ha9 ∧ P nw hi sv th cd ha9 H) A) 0 0 A := by
  refine k_body (cc := cX5_mixServers) (own := RX5) (maxL := 2) (ret := none) (lv0 := [(0, .ref o)]) (by decide) rfl rfl (Nat.le_of_ble_eq_true rfl) rfl (fun p e s m below meth c C hr hlk hP hE => ?_)
  have hi5 : ∀ w ∈ u_ws RX5 TX5 6, w ∈ wsX5_mixServers := by decide +kernel
  have lk0 := C.2.2.2.2 (.fieldLink RX5 7 "IdleDispatcherModel" "now" "[I") (by decide +kernel)
  refine k_aload_n C dX5_mixServers_0 0 rfl ?_
  refine k_aload_n C dX5_mixServers_1 0 rfl ?_
  refine mg_Mo_now C (focM_g F) hE.1 hi5 lk0 dX5_mixServers_2 ?_
  refine k_iconst (v := 4) C dX5_mixServers_5 (by decide) ?_
  refine mg_nw C (focM_g F) hE.1 (vp_lit (i := 4) (n := 893) (by decide)) dX5_mixServers_6 ?_
  refine k_callVv (st := []) C hE (c_X5_mix l F hA nw hi sv th cd ha (nw 4)  _ h) (cwV 1 C.2.2.2.2 gX5_mixServers_X5_mix rfl rfl rfl (by decide +kernel) ⟨Nat.le_of_ble_eq_true rfl, Nat.le_of_ble_eq_true rfl⟩) (fun H hP => va_recv hE.1 (k_one (mst_Mo ((focM_g F) H hP))) rfl (q0 := 0) rfl) rfl rfl (Nat.le_of_ble_eq_true rfl) dX5_mixServers_7 ⟨Nat.zero_le _, Nat.zero_le _⟩ (fun _ => ?_)
  refine k_ex (fun ha_1 => k_and (fun h => ?_))
  refine k_iconst (v := 0) C dX5_mixServers_10 (by decide) ?_
  refine k_istore_n (lv' := [(1, .int 0), (0, .ref o)]) C dX5_mixServers_11 rfl (by decide) rfl ?_
  obtain ⟨n12, h⟩ := h
  refine k_pc (pc2 := 12) rfl ?_
  refine k_loop2 (wp_X5_mixServers_L12 nw k) (fun x2 ha_3 => P nw hi sv th cd ha_3) (fun x2 ha_3 => [(1, .int x2), (0, .ref o)]) (fun _ _ h => h) (fun n12 ih12 x2 ha_3 h => ?_) n12 _ _ h
  refine k_iload_n C dX5_mixServers_12 0 rfl ?_
  refine k_aload_n C dX5_mixServers_13 1 rfl ?_
  refine mg_Mo_now C (focM_g F) hE.1 hi5 lk0 dX5_mixServers_14 ?_
  refine k_iconst (v := 4) C dX5_mixServers_17 (by decide) ?_
  refine mg_nw C (focM_g F) hE.1 (vp_lit (i := 4) (n := 893) (by decide)) dX5_mixServers_18 ?_
  refine k_icmp_ge (tgt := 68) C dX5_mixServers_19 (by decide) (fun c4 => ?_) (fun c4 => ?_)
  · replace h := h.1 c4
    exact k_vret C hr hlk dX5_mixServers_68 (fun H hP => ⟨ha_3, h, hP⟩)
  · replace h := h.2 c4
    refine k_aload_n C dX5_mixServers_22 1 rfl ?_
    refine k_aload_n C dX5_mixServers_23 1 rfl ?_
    refine mg_Mo_now C (focM_g F) hE.1 hi5 lk0 dX5_mixServers_24 ?_
    refine k_bipush (v := 9) C dX5_mixServers_27 (by decide) ?_
    refine k_iload_n C dX5_mixServers_29 0 rfl ?_
    refine k_iadd C dX5_mixServers_30 ?_
    obtain ⟨q5, h⟩ := h
    refine mg_nw C (focM_g F) hE.1 q5 dX5_mixServers_31 ?_
    refine k_callVv (st := []) C hE (c_X5_mix l F hA nw hi sv th cd ha_3 (nw (9 + x2).toNatClampNeg)  _ h) (cwV 1 C.2.2.2.2 gX5_mixServers_X5_mix rfl rfl rfl (by decide +kernel) ⟨Nat.le_of_ble_eq_true rfl, Nat.le_of_ble_eq_true rfl⟩) (fun H hP => va_recv hE.1 (k_one (mst_Mo ((focM_g F) H hP))) rfl (q0 := 0) rfl) rfl rfl (Nat.le_of_ble_eq_true rfl) dX5_mixServers_32 ⟨Nat.zero_le _, Nat.zero_le _⟩ (fun _ => ?_)
    refine k_ex (fun ha_6 => k_and (fun h => ?_))
    refine k_aload_n C dX5_mixServers_35 1 rfl ?_
    refine k_aload_n C dX5_mixServers_36 1 rfl ?_
    refine k_iload_n C dX5_mixServers_37 0 rfl ?_
    refine k_callVi (st := [.ref o]) C hE (c_X5_lengthOf l F hA nw hi sv th cd ha_6 x2  _ h) (cwV 1 C.2.2.2.2 gX5_mixServers_X5_lengthOf rfl rfl rfl (by decide +kernel) ⟨Nat.le_of_ble_eq_true rfl, Nat.le_of_ble_eq_true rfl⟩) (fun H hP => va_recv hE.1 (k_one (mst_Mo ((focM_g F) H hP))) rfl (q0 := 0) rfl) rfl rfl (Nat.le_of_ble_eq_true rfl) dX5_mixServers_38 ⟨Nat.zero_le _, Nat.zero_le _⟩ (fun r7 => ?_)
    refine k_and (fun h => ?_)
    refine k_callVv (st := []) C hE (c_X5_mix l F hA nw hi sv th cd ha_6 r7  _ h) (cwV 1 C.2.2.2.2 gX5_mixServers_X5_mix rfl rfl rfl (by decide +kernel) ⟨Nat.le_of_ble_eq_true rfl, Nat.le_of_ble_eq_true rfl⟩) (fun H hP => va_recv hE.1 (k_one (mst_Mo ((focM_g F) H hP))) rfl (q0 := 0) rfl) rfl rfl (Nat.le_of_ble_eq_true rfl) dX5_mixServers_41 ⟨Nat.zero_le _, Nat.zero_le _⟩ (fun _ => ?_)
    refine k_ex (fun ha_8 => k_and (fun h => ?_))
    refine k_aload_n C dX5_mixServers_44 1 rfl ?_
    refine k_aload_n C dX5_mixServers_45 1 rfl ?_
    refine k_iload_n C dX5_mixServers_46 0 rfl ?_
    refine k_callVi (st := [.ref o]) C hE (c_X5_workOf l F hA nw hi sv th cd ha_8 x2  _ h) (cwV 1 C.2.2.2.2 gX5_mixServers_X5_workOf rfl rfl rfl (by decide +kernel) ⟨Nat.le_of_ble_eq_true rfl, Nat.le_of_ble_eq_true rfl⟩) (fun H hP => va_recv hE.1 (k_one (mst_Mo ((focM_g F) H hP))) rfl (q0 := 0) rfl) rfl rfl (Nat.le_of_ble_eq_true rfl) dX5_mixServers_47 ⟨Nat.zero_le _, Nat.zero_le _⟩ (fun r9 => ?_)
    refine k_and (fun h => ?_)
    refine k_callVv (st := []) C hE (c_X5_mix l F hA nw hi sv th cd ha_8 r9  _ h) (cwV 1 C.2.2.2.2 gX5_mixServers_X5_mix rfl rfl rfl (by decide +kernel) ⟨Nat.le_of_ble_eq_true rfl, Nat.le_of_ble_eq_true rfl⟩) (fun H hP => va_recv hE.1 (k_one (mst_Mo ((focM_g F) H hP))) rfl (q0 := 0) rfl) rfl rfl (Nat.le_of_ble_eq_true rfl) dX5_mixServers_50 ⟨Nat.zero_le _, Nat.zero_le _⟩ (fun _ => ?_)
    refine k_ex (fun ha_10 => k_and (fun h => ?_))
    refine k_aload_n C dX5_mixServers_53 1 rfl ?_
    refine k_aload_n C dX5_mixServers_54 1 rfl ?_
    refine k_iload_n C dX5_mixServers_55 0 rfl ?_
    refine k_callVi (st := [.ref o]) C hE (c_X5_listOf l F hA nw hi sv th cd ha_10 x2  _ h) (cwV 1 C.2.2.2.2 gX5_mixServers_X5_listOf rfl rfl rfl (by decide +kernel) ⟨Nat.le_of_ble_eq_true rfl, Nat.le_of_ble_eq_true rfl⟩) (fun H hP => va_recv hE.1 (k_one (mst_Mo ((focM_g F) H hP))) rfl (q0 := 0) rfl) rfl rfl (Nat.le_of_ble_eq_true rfl) dX5_mixServers_56 ⟨Nat.zero_le _, Nat.zero_le _⟩ (fun r11 => ?_)
    refine k_and (fun h => ?_)
    refine k_callVv (st := []) C hE (c_X5_mix l F hA nw hi sv th cd ha_10 r11  _ h) (cwV 1 C.2.2.2.2 gX5_mixServers_X5_mix rfl rfl rfl (by decide +kernel) ⟨Nat.le_of_ble_eq_true rfl, Nat.le_of_ble_eq_true rfl⟩) (fun H hP => va_recv hE.1 (k_one (mst_Mo ((focM_g F) H hP))) rfl (q0 := 0) rfl) rfl rfl (Nat.le_of_ble_eq_true rfl) dX5_mixServers_59 ⟨Nat.zero_le _, Nat.zero_le _⟩ (fun _ => ?_)
    refine k_ex (fun ha_12 => k_and (fun h => ?_))
    obtain ⟨x13, ex13⟩ : ∃ z : Int32, z = x2 + 1 := ⟨_, rfl⟩
    replace h := h x13 ex13
    refine k_iinc (v := x13) (lv' := [(1, .int x13), (0, .ref o)]) (j := 0) C dX5_mixServers_62 rfl (by rw [ex13]; rfl) (by decide) rfl ?_
    refine k_goto (tgt := 12) C dX5_mixServers_65 (by decide) ?_
    refine k_pc (pc2 := 12) rfl ?_
    refine k_sub [0, 1] rfl ?_
    exact ih12 _ _ h
noncomputable def wp_X5_mixDispatchers_L102 (nw : Nat → Int32) (x2 : Int32) (rec12 : Int32 → Int64 → Prop) (fu : Nat) : Int32 → Int64 → Prop := Nat.rec (motive := fun _ => Int32 → Int64 → Prop) (fun _ _ => False) (fun _ rec102 x14 ha_15 => ((nw 4) ≤ x14 → (∀ x17 : Int32, x17 = x2 + 1 → (rec12 x17 ha_15))) ∧ (¬ ((nw 4) ≤ x14) → ((vp_in ((25 + (8 * x2)) + x14) 893) ∧ (wp_X5_mix ha_15 (nw ((25 + (8 * x2)) + x14).toNatClampNeg) (fun ha_19 => ∀ x20 : Int32, x20 = x14 + 1 → (rec102 x20 ha_19)))))) fu
noncomputable def wp_X5_mixDispatchers_L63 (nw : Nat → Int32) (x2 : Int32) (rec12 : Int32 → Int64 → Prop) (fu : Nat) : Int32 → Int64 → Prop := Nat.rec (motive := fun _ => Int32 → Int64 → Prop) (fun _ _ => False) (fun _ rec63 x11 ha_12 => ((nw (57 + x2).toNatClampNeg) ≤ x11 → (∃ fu, wp_X5_mixDispatchers_L102 nw x2 rec12 fu 0 ha_12)) ∧ (¬ ((nw (57 + x2).toNatClampNeg) ≤ x11) → ((vp_in ((61 + (8 * x2)) + x11) 893) ∧ (wp_X5_mix ha_12 (nw ((61 + (8 * x2)) + x11).toNatClampNeg) (fun ha_22 => ∀ x23 : Int32, x23 = x11 + 1 → (rec63 x23 ha_22)))))) fu
noncomputable def wp_X5_mixDispatchers_L12 (nw : Nat → Int32) (k : Int64 → Prop) (fu : Nat) : Int32 → Int64 → Prop := Nat.rec (motive := fun _ => Int32 → Int64 → Prop) (fun _ _ => False) (fun _ rec12 x2 ha_3 => ((nw 5) ≤ x2 → (k ha_3)) ∧ (¬ ((nw 5) ≤ x2) → ((vp_in (17 + x2) 893) ∧ (wp_X5_mix ha_3 (nw (17 + x2).toNatClampNeg) (fun ha_6 => (vp_in (21 + x2) 893) ∧ (wp_X5_mix ha_6 (nw (21 + x2).toNatClampNeg) (fun ha_8 => (vp_in (57 + x2) 893) ∧ (wp_X5_mix ha_8 (nw (57 + x2).toNatClampNeg) (fun ha_10 => ∃ fu, wp_X5_mixDispatchers_L63 nw x2 rec12 fu 0 ha_10))))))))) fu
noncomputable def wp_X5_mixDispatchers (nw : Nat → Int32) (ha : Int64) (k : Int64 → Prop) : Prop := wp_X5_mix ha (nw 5) (fun ha_1 => ∃ fu, wp_X5_mixDispatchers_L12 nw k fu 0 ha_1)
set_option maxRecDepth 100000 in
set_option maxHeartbeats 4000000 in
theorem c_X5_mixDispatchers (l : Launch) {E : EV} {o : Nat} {P : PM} {A : Nat → Prop} (F : FocM E o P) (hA : ∀ q, inMo o q → A q) (nw : Nat → Int32) (hi : Nat → Int32) (sv : Int32) (th : Int32) (cd : Nat → Int32) (ha : Int64)   (k : Int64 → Prop) (h : wp_X5_mixDispatchers nw ha  k) : Met l yX5_mixDispatchers wsX5_mixDispatchers { frames := 1, cells := 0, slots := 0, locals := 21 } (va_Pc [.ref o] (fun U => P nw hi sv th cd ha U.heap ∧ XE E U)) (kQv (fun H => ∃ ha9 : Int64, k ha9 ∧ P nw hi sv th cd ha9 H) A) 0 0 A := by
  refine k_body (cc := cX5_mixDispatchers) (own := RX5) (maxL := 3) (ret := none) (lv0 := [(0, .ref o)]) (by decide) rfl rfl (Nat.le_of_ble_eq_true rfl) rfl (fun p e s m below meth c C hr hlk hP hE => ?_)
  have hi5 : ∀ w ∈ u_ws RX5 TX5 6, w ∈ wsX5_mixDispatchers := by decide +kernel
  have lk0 := C.2.2.2.2 (.fieldLink RX5 7 "IdleDispatcherModel" "now" "[I") (by decide +kernel)
  refine k_aload_n C dX5_mixDispatchers_0 0 rfl ?_
  refine k_aload_n C dX5_mixDispatchers_1 0 rfl ?_
  refine mg_Mo_now C (focM_g F) hE.1 hi5 lk0 dX5_mixDispatchers_2 ?_
  refine k_iconst (v := 5) C dX5_mixDispatchers_5 (by decide) ?_
  refine mg_nw C (focM_g F) hE.1 (vp_lit (i := 5) (n := 893) (by decide)) dX5_mixDispatchers_6 ?_
  refine k_callVv (st := []) C hE (c_X5_mix l F hA nw hi sv th cd ha (nw 5)  _ h) (cwV 1 C.2.2.2.2 gX5_mixDispatchers_X5_mix rfl rfl rfl (by decide +kernel) ⟨Nat.le_of_ble_eq_true rfl, Nat.le_of_ble_eq_true rfl⟩) (fun H hP => va_recv hE.1 (k_one (mst_Mo ((focM_g F) H hP))) rfl (q0 := 0) rfl) rfl rfl (Nat.le_of_ble_eq_true rfl) dX5_mixDispatchers_7 ⟨Nat.zero_le _, Nat.zero_le _⟩ (fun _ => ?_)
  refine k_ex (fun ha_1 => k_and (fun h => ?_))
  refine k_iconst (v := 0) C dX5_mixDispatchers_10 (by decide) ?_
  refine k_istore_n (lv' := [(1, .int 0), (0, .ref o)]) C dX5_mixDispatchers_11 rfl (by decide) rfl ?_
  obtain ⟨n12, h⟩ := h
  refine k_pc (pc2 := 12) rfl ?_
  refine k_loop2 (wp_X5_mixDispatchers_L12 nw k) (fun x2 ha_3 => P nw hi sv th cd ha_3) (fun x2 ha_3 => [(1, .int x2), (0, .ref o)]) (fun _ _ h => h) (fun n12 ih12 x2 ha_3 h => ?_) n12 _ _ h
  refine k_iload_n C dX5_mixDispatchers_12 0 rfl ?_
  refine k_aload_n C dX5_mixDispatchers_13 1 rfl ?_
  refine mg_Mo_now C (focM_g F) hE.1 hi5 lk0 dX5_mixDispatchers_14 ?_
  refine k_iconst (v := 5) C dX5_mixDispatchers_17 (by decide) ?_
  refine mg_nw C (focM_g F) hE.1 (vp_lit (i := 5) (n := 893) (by decide)) dX5_mixDispatchers_18 ?_
  refine k_icmp_ge (tgt := 142) C dX5_mixDispatchers_19 (by decide) (fun c4 => ?_) (fun c4 => ?_)
  · replace h := h.1 c4
    exact k_vret C hr hlk dX5_mixDispatchers_142 (fun H hP => ⟨ha_3, h, hP⟩)
  · replace h := h.2 c4
    refine k_aload_n C dX5_mixDispatchers_22 1 rfl ?_
    refine k_aload_n C dX5_mixDispatchers_23 1 rfl ?_
    refine mg_Mo_now C (focM_g F) hE.1 hi5 lk0 dX5_mixDispatchers_24 ?_
    refine k_bipush (v := 17) C dX5_mixDispatchers_27 (by decide) ?_
    refine k_iload_n C dX5_mixDispatchers_29 0 rfl ?_
    refine k_iadd C dX5_mixDispatchers_30 ?_
    obtain ⟨q5, h⟩ := h
    refine mg_nw C (focM_g F) hE.1 q5 dX5_mixDispatchers_31 ?_
    refine k_callVv (st := []) C hE (c_X5_mix l F hA nw hi sv th cd ha_3 (nw (17 + x2).toNatClampNeg)  _ h) (cwV 1 C.2.2.2.2 gX5_mixDispatchers_X5_mix rfl rfl rfl (by decide +kernel) ⟨Nat.le_of_ble_eq_true rfl, Nat.le_of_ble_eq_true rfl⟩) (fun H hP => va_recv hE.1 (k_one (mst_Mo ((focM_g F) H hP))) rfl (q0 := 0) rfl) rfl rfl (Nat.le_of_ble_eq_true rfl) dX5_mixDispatchers_32 ⟨Nat.zero_le _, Nat.zero_le _⟩ (fun _ => ?_)
    refine k_ex (fun ha_6 => k_and (fun h => ?_))
    refine k_aload_n C dX5_mixDispatchers_35 1 rfl ?_
    refine k_aload_n C dX5_mixDispatchers_36 1 rfl ?_
    refine mg_Mo_now C (focM_g F) hE.1 hi5 lk0 dX5_mixDispatchers_37 ?_
    refine k_bipush (v := 21) C dX5_mixDispatchers_40 (by decide) ?_
    refine k_iload_n C dX5_mixDispatchers_42 0 rfl ?_
    refine k_iadd C dX5_mixDispatchers_43 ?_
    obtain ⟨q7, h⟩ := h
    refine mg_nw C (focM_g F) hE.1 q7 dX5_mixDispatchers_44 ?_
    refine k_callVv (st := []) C hE (c_X5_mix l F hA nw hi sv th cd ha_6 (nw (21 + x2).toNatClampNeg)  _ h) (cwV 1 C.2.2.2.2 gX5_mixDispatchers_X5_mix rfl rfl rfl (by decide +kernel) ⟨Nat.le_of_ble_eq_true rfl, Nat.le_of_ble_eq_true rfl⟩) (fun H hP => va_recv hE.1 (k_one (mst_Mo ((focM_g F) H hP))) rfl (q0 := 0) rfl) rfl rfl (Nat.le_of_ble_eq_true rfl) dX5_mixDispatchers_45 ⟨Nat.zero_le _, Nat.zero_le _⟩ (fun _ => ?_)
    refine k_ex (fun ha_8 => k_and (fun h => ?_))
    refine k_aload_n C dX5_mixDispatchers_48 1 rfl ?_
    refine k_aload_n C dX5_mixDispatchers_49 1 rfl ?_
    refine mg_Mo_now C (focM_g F) hE.1 hi5 lk0 dX5_mixDispatchers_50 ?_
    refine k_bipush (v := 57) C dX5_mixDispatchers_53 (by decide) ?_
    refine k_iload_n C dX5_mixDispatchers_55 0 rfl ?_
    refine k_iadd C dX5_mixDispatchers_56 ?_
    obtain ⟨q9, h⟩ := h
    refine mg_nw C (focM_g F) hE.1 q9 dX5_mixDispatchers_57 ?_
    refine k_callVv (st := []) C hE (c_X5_mix l F hA nw hi sv th cd ha_8 (nw (57 + x2).toNatClampNeg)  _ h) (cwV 1 C.2.2.2.2 gX5_mixDispatchers_X5_mix rfl rfl rfl (by decide +kernel) ⟨Nat.le_of_ble_eq_true rfl, Nat.le_of_ble_eq_true rfl⟩) (fun H hP => va_recv hE.1 (k_one (mst_Mo ((focM_g F) H hP))) rfl (q0 := 0) rfl) rfl rfl (Nat.le_of_ble_eq_true rfl) dX5_mixDispatchers_58 ⟨Nat.zero_le _, Nat.zero_le _⟩ (fun _ => ?_)
    refine k_ex (fun ha_10 => k_and (fun h => ?_))
    refine k_iconst (v := 0) C dX5_mixDispatchers_61 (by decide) ?_
    refine k_istore_n (lv' := [(2, .int 0), (1, .int x2), (0, .ref o)]) C dX5_mixDispatchers_62 rfl (by decide) rfl ?_
    obtain ⟨n63, h⟩ := h
    refine k_pc (pc2 := 63) rfl ?_
    refine k_loop2 (wp_X5_mixDispatchers_L63 nw x2 (wp_X5_mixDispatchers_L12 nw k n12)) (fun x11 ha_12 => P nw hi sv th cd ha_12) (fun x11 ha_12 => [(2, .int x11), (1, .int x2), (0, .ref o)]) (fun _ _ h => h) (fun n63 ih63 x11 ha_12 h => ?_) n63 _ _ h
    refine k_iload_n C dX5_mixDispatchers_63 0 rfl ?_
    refine k_aload_n C dX5_mixDispatchers_64 2 rfl ?_
    refine mg_Mo_now C (focM_g F) hE.1 hi5 lk0 dX5_mixDispatchers_65 ?_
    refine k_bipush (v := 57) C dX5_mixDispatchers_68 (by decide) ?_
    refine k_iload_n C dX5_mixDispatchers_70 1 rfl ?_
    refine k_iadd C dX5_mixDispatchers_71 ?_
    refine mg_nw C (focM_g F) hE.1 q9 dX5_mixDispatchers_72 ?_
    refine k_icmp_ge (tgt := 100) C dX5_mixDispatchers_73 (by decide) (fun c13 => ?_) (fun c13 => ?_)
    · replace h := h.1 c13
      refine k_iconst (v := 0) C dX5_mixDispatchers_100 (by decide) ?_
      refine k_istore_n (lv' := [(2, .int 0), (1, .int x2), (0, .ref o)]) C dX5_mixDispatchers_101 rfl (by decide) rfl ?_
      obtain ⟨n102, h⟩ := h
      refine k_pc (pc2 := 102) rfl ?_
      refine k_loop2 (wp_X5_mixDispatchers_L102 nw x2 (wp_X5_mixDispatchers_L12 nw k n12)) (fun x14 ha_15 => P nw hi sv th cd ha_15) (fun x14 ha_15 => [(2, .int x14), (1, .int x2), (0, .ref o)]) (fun _ _ h => h) (fun n102 ih102 x14 ha_15 h => ?_) n102 _ _ h
      refine k_iload_n C dX5_mixDispatchers_102 0 rfl ?_
      refine k_aload_n C dX5_mixDispatchers_103 2 rfl ?_
      refine mg_Mo_now C (focM_g F) hE.1 hi5 lk0 dX5_mixDispatchers_104 ?_
      refine k_iconst (v := 4) C dX5_mixDispatchers_107 (by decide) ?_
      refine mg_nw C (focM_g F) hE.1 (vp_lit (i := 4) (n := 893) (by decide)) dX5_mixDispatchers_108 ?_
      refine k_icmp_ge (tgt := 136) C dX5_mixDispatchers_109 (by decide) (fun c16 => ?_) (fun c16 => ?_)
      · replace h := h.1 c16
        obtain ⟨x17, ex17⟩ : ∃ z : Int32, z = x2 + 1 := ⟨_, rfl⟩
        replace h := h x17 ex17
        refine k_iinc (v := x17) (lv' := [(1, .int x17), (2, .int x14), (0, .ref o)]) (j := 1) C dX5_mixDispatchers_136 rfl (by rw [ex17]; rfl) (by decide) rfl ?_
        refine k_goto (tgt := 12) C dX5_mixDispatchers_139 (by decide) ?_
        refine k_pc (pc2 := 12) rfl ?_
        refine k_sub [0, 2] rfl ?_
        exact ih12 _ _ h
      · replace h := h.2 c16
        refine k_aload_n C dX5_mixDispatchers_112 2 rfl ?_
        refine k_aload_n C dX5_mixDispatchers_113 2 rfl ?_
        refine mg_Mo_now C (focM_g F) hE.1 hi5 lk0 dX5_mixDispatchers_114 ?_
        refine k_bipush (v := 25) C dX5_mixDispatchers_117 (by decide) ?_
        refine k_bipush (v := 8) C dX5_mixDispatchers_119 (by decide) ?_
        refine k_iload_n C dX5_mixDispatchers_121 1 rfl ?_
        refine k_imul C dX5_mixDispatchers_122 ?_
        refine k_iadd C dX5_mixDispatchers_123 ?_
        refine k_iload_n C dX5_mixDispatchers_124 0 rfl ?_
        refine k_iadd C dX5_mixDispatchers_125 ?_
        obtain ⟨q18, h⟩ := h
        refine mg_nw C (focM_g F) hE.1 q18 dX5_mixDispatchers_126 ?_
        refine k_callVv (st := []) C hE (c_X5_mix l F hA nw hi sv th cd ha_15 (nw ((25 + (8 * x2)) + x14).toNatClampNeg)  _ h) (cwV 1 C.2.2.2.2 gX5_mixDispatchers_X5_mix rfl rfl rfl (by decide +kernel) ⟨Nat.le_of_ble_eq_true rfl, Nat.le_of_ble_eq_true rfl⟩) (fun H hP => va_recv hE.1 (k_one (mst_Mo ((focM_g F) H hP))) rfl (q0 := 0) rfl) rfl rfl (Nat.le_of_ble_eq_true rfl) dX5_mixDispatchers_127 ⟨Nat.zero_le _, Nat.zero_le _⟩ (fun _ => ?_)
        refine k_ex (fun ha_19 => k_and (fun h => ?_))
        obtain ⟨x20, ex20⟩ : ∃ z : Int32, z = x14 + 1 := ⟨_, rfl⟩
        replace h := h x20 ex20
        refine k_iinc (v := x20) (lv' := [(2, .int x20), (1, .int x2), (0, .ref o)]) (j := 0) C dX5_mixDispatchers_130 rfl (by rw [ex20]; rfl) (by decide) rfl ?_
        refine k_goto (tgt := 102) C dX5_mixDispatchers_133 (by decide) ?_
        refine k_pc (pc2 := 102) rfl ?_
        refine k_sub [0, 1, 2] rfl ?_
        exact ih102 _ _ h
    · replace h := h.2 c13
      refine k_aload_n C dX5_mixDispatchers_76 2 rfl ?_
      refine k_aload_n C dX5_mixDispatchers_77 2 rfl ?_
      refine mg_Mo_now C (focM_g F) hE.1 hi5 lk0 dX5_mixDispatchers_78 ?_
      refine k_bipush (v := 61) C dX5_mixDispatchers_81 (by decide) ?_
      refine k_bipush (v := 8) C dX5_mixDispatchers_83 (by decide) ?_
      refine k_iload_n C dX5_mixDispatchers_85 1 rfl ?_
      refine k_imul C dX5_mixDispatchers_86 ?_
      refine k_iadd C dX5_mixDispatchers_87 ?_
      refine k_iload_n C dX5_mixDispatchers_88 0 rfl ?_
      refine k_iadd C dX5_mixDispatchers_89 ?_
      obtain ⟨q21, h⟩ := h
      refine mg_nw C (focM_g F) hE.1 q21 dX5_mixDispatchers_90 ?_
      refine k_callVv (st := []) C hE (c_X5_mix l F hA nw hi sv th cd ha_12 (nw ((61 + (8 * x2)) + x11).toNatClampNeg)  _ h) (cwV 1 C.2.2.2.2 gX5_mixDispatchers_X5_mix rfl rfl rfl (by decide +kernel) ⟨Nat.le_of_ble_eq_true rfl, Nat.le_of_ble_eq_true rfl⟩) (fun H hP => va_recv hE.1 (k_one (mst_Mo ((focM_g F) H hP))) rfl (q0 := 0) rfl) rfl rfl (Nat.le_of_ble_eq_true rfl) dX5_mixDispatchers_91 ⟨Nat.zero_le _, Nat.zero_le _⟩ (fun _ => ?_)
      refine k_ex (fun ha_22 => k_and (fun h => ?_))
      obtain ⟨x23, ex23⟩ : ∃ z : Int32, z = x11 + 1 := ⟨_, rfl⟩
      replace h := h x23 ex23
      refine k_iinc (v := x23) (lv' := [(2, .int x23), (1, .int x2), (0, .ref o)]) (j := 0) C dX5_mixDispatchers_94 rfl (by rw [ex23]; rfl) (by decide) rfl ?_
      refine k_goto (tgt := 63) C dX5_mixDispatchers_97 (by decide) ?_
      refine k_pc (pc2 := 63) rfl ?_
      refine k_sub [0, 1, 2] rfl ?_
      exact ih63 _ _ h
noncomputable def wp_X5_digest (nw : Nat → Int32) (sv : Int32) (k : Int64 → Int32 → Int64 → Prop) : Prop := ∀ x1 : Int64, x1 = (2753 : Int64) → (wp_X5_mix x1 (nw 1) (fun ha_2 => wp_X5_mix ha_2 (nw 0) (fun ha_3 => wp_X5_mix ha_3 (nw 2) (fun ha_4 => wp_X5_mix ha_4 (nw 3) (fun ha_5 => wp_X5_mixServers nw ha_5 (fun ha_6 => wp_X5_mixDispatchers nw ha_6 (fun ha_7 => wp_X5_mix ha_7 (nw 6) (fun ha_8 => wp_X5_mix ha_8 (nw 7) (fun ha_9 => wp_X5_waits nw (fun r10 => wp_X5_mix ha_9 r10 (fun ha_11 => wp_X5_mix ha_11 (nw 8) (fun ha_12 => wp_X5_mix ha_12 sv (fun ha_13 => k ha_13 0 ha_13)))))))))))))
set_option maxRecDepth 100000 in
set_option maxHeartbeats 4000000 in
theorem c_X5_digest (l : Launch) {E : EV} {o : Nat} {P : PM} {A : Nat → Prop} (F : FocM E o P) (hA : ∀ q, inMo o q → A q) (nw : Nat → Int32) (hi : Nat → Int32) (sv : Int32) (th : Int32) (cd : Nat → Int32) (ha : Int64)   (k : Int64 → Int32 → Int64 → Prop) (h : wp_X5_digest nw sv  k) : Met l yX5_digest wsX5_digest { frames := 3, cells := 0, slots := 0, locals := 66 } (va_Pc [.ref o] (fun U => P nw hi sv th cd ha U.heap ∧ XE E U)) (kQl (fun r H => ∃ th9 : Int32, ∃ ha9 : Int64, k r th9 ha9 ∧ P nw hi sv th9 cd ha9 H) A) 0 0 A := by
  refine k_body (cc := cX5_digest) (own := RX5) (maxL := 1) (ret := (some .long)) (lv0 := [(0, .ref o)]) (by decide) rfl rfl (Nat.le_of_ble_eq_true rfl) rfl (fun p e s m below meth c C hr hlk hP hE => ?_)
  have hi5 : ∀ w ∈ u_ws RX5 TX5 6, w ∈ wsX5_digest := by decide +kernel
  have lk0 := C.2.2.2.2 (.fieldLink RX5 19 "IdleDispatcherModel" "thrown" "I") (by decide +kernel)
  have lk1 := C.2.2.2.2 (.constantLong RX5 138 (2753)) (by decide +kernel)
  have lk2 := C.2.2.2.2 (.fieldLink RX5 131 "IdleDispatcherModel" "hash" "J") (by decide +kernel)
  have lk3 := C.2.2.2.2 (.fieldLink RX5 7 "IdleDispatcherModel" "now" "[I") (by decide +kernel)
  have lk4 := C.2.2.2.2 (.fieldLink RX5 27 "IdleDispatcherModel" "saved" "I") (by decide +kernel)
  refine k_aload_n C dX5_digest_0 0 rfl ?_
  refine k_iconst (v := 0) C dX5_digest_1 (by decide) ?_
  refine mp_th C F hA hE.1 hi5 lk0 dX5_digest_2 ?_
  refine k_aload_n C dX5_digest_5 0 rfl ?_
  refine k_ldc2 C lk1 dX5_digest_6 ?_
  refine k_topl (fun x1 ex1 => ?_)
  replace h := h x1 ex1
  refine mp_ha C F hA hE.1 hi5 lk2 dX5_digest_9 ?_
  refine k_aload_n C dX5_digest_12 0 rfl ?_
  refine k_aload_n C dX5_digest_13 0 rfl ?_
  refine mg_Mo_now C (focM_g F) hE.1 hi5 lk3 dX5_digest_14 ?_
  refine k_iconst (v := 1) C dX5_digest_17 (by decide) ?_
  refine mg_nw C (focM_g F) hE.1 (vp_lit (i := 1) (n := 893) (by decide)) dX5_digest_18 ?_
  refine k_callVv (st := []) C hE (c_X5_mix l F hA nw hi sv 0 cd x1 (nw 1)  _ h) (cwV 1 C.2.2.2.2 gX5_digest_X5_mix rfl rfl rfl (by decide +kernel) ⟨Nat.le_of_ble_eq_true rfl, Nat.le_of_ble_eq_true rfl⟩) (fun H hP => va_recv hE.1 (k_one (mst_Mo ((focM_g F) H hP))) rfl (q0 := 0) rfl) rfl rfl (Nat.le_of_ble_eq_true rfl) dX5_digest_19 ⟨Nat.zero_le _, Nat.zero_le _⟩ (fun _ => ?_)
  refine k_ex (fun ha_2 => k_and (fun h => ?_))
  refine k_aload_n C dX5_digest_22 0 rfl ?_
  refine k_aload_n C dX5_digest_23 0 rfl ?_
  refine mg_Mo_now C (focM_g F) hE.1 hi5 lk3 dX5_digest_24 ?_
  refine k_iconst (v := 0) C dX5_digest_27 (by decide) ?_
  refine mg_nw C (focM_g F) hE.1 (vp_lit (i := 0) (n := 893) (by decide)) dX5_digest_28 ?_
  refine k_callVv (st := []) C hE (c_X5_mix l F hA nw hi sv 0 cd ha_2 (nw 0)  _ h) (cwV 1 C.2.2.2.2 gX5_digest_X5_mix rfl rfl rfl (by decide +kernel) ⟨Nat.le_of_ble_eq_true rfl, Nat.le_of_ble_eq_true rfl⟩) (fun H hP => va_recv hE.1 (k_one (mst_Mo ((focM_g F) H hP))) rfl (q0 := 0) rfl) rfl rfl (Nat.le_of_ble_eq_true rfl) dX5_digest_29 ⟨Nat.zero_le _, Nat.zero_le _⟩ (fun _ => ?_)
  refine k_ex (fun ha_3 => k_and (fun h => ?_))
  refine k_aload_n C dX5_digest_32 0 rfl ?_
  refine k_aload_n C dX5_digest_33 0 rfl ?_
  refine mg_Mo_now C (focM_g F) hE.1 hi5 lk3 dX5_digest_34 ?_
  refine k_iconst (v := 2) C dX5_digest_37 (by decide) ?_
  refine mg_nw C (focM_g F) hE.1 (vp_lit (i := 2) (n := 893) (by decide)) dX5_digest_38 ?_
  refine k_callVv (st := []) C hE (c_X5_mix l F hA nw hi sv 0 cd ha_3 (nw 2)  _ h) (cwV 1 C.2.2.2.2 gX5_digest_X5_mix rfl rfl rfl (by decide +kernel) ⟨Nat.le_of_ble_eq_true rfl, Nat.le_of_ble_eq_true rfl⟩) (fun H hP => va_recv hE.1 (k_one (mst_Mo ((focM_g F) H hP))) rfl (q0 := 0) rfl) rfl rfl (Nat.le_of_ble_eq_true rfl) dX5_digest_39 ⟨Nat.zero_le _, Nat.zero_le _⟩ (fun _ => ?_)
  refine k_ex (fun ha_4 => k_and (fun h => ?_))
  refine k_aload_n C dX5_digest_42 0 rfl ?_
  refine k_aload_n C dX5_digest_43 0 rfl ?_
  refine mg_Mo_now C (focM_g F) hE.1 hi5 lk3 dX5_digest_44 ?_
  refine k_iconst (v := 3) C dX5_digest_47 (by decide) ?_
  refine mg_nw C (focM_g F) hE.1 (vp_lit (i := 3) (n := 893) (by decide)) dX5_digest_48 ?_
  refine k_callVv (st := []) C hE (c_X5_mix l F hA nw hi sv 0 cd ha_4 (nw 3)  _ h) (cwV 1 C.2.2.2.2 gX5_digest_X5_mix rfl rfl rfl (by decide +kernel) ⟨Nat.le_of_ble_eq_true rfl, Nat.le_of_ble_eq_true rfl⟩) (fun H hP => va_recv hE.1 (k_one (mst_Mo ((focM_g F) H hP))) rfl (q0 := 0) rfl) rfl rfl (Nat.le_of_ble_eq_true rfl) dX5_digest_49 ⟨Nat.zero_le _, Nat.zero_le _⟩ (fun _ => ?_)
  refine k_ex (fun ha_5 => k_and (fun h => ?_))
  refine k_aload_n C dX5_digest_52 0 rfl ?_
  refine k_callVv (st := []) C hE (c_X5_mixServers l F hA nw hi sv 0 cd ha_5   _ h) (cwV 0 C.2.2.2.2 gX5_digest_X5_mixServers rfl rfl rfl (by decide +kernel) ⟨Nat.le_of_ble_eq_true rfl, Nat.le_of_ble_eq_true rfl⟩) (fun H hP => va_recv hE.1 (k_one (mst_Mo ((focM_g F) H hP))) rfl (q0 := 0) rfl) rfl rfl (Nat.le_of_ble_eq_true rfl) dX5_digest_53 ⟨Nat.zero_le _, Nat.zero_le _⟩ (fun _ => ?_)
  refine k_ex (fun ha_6 => k_and (fun h => ?_))
  refine k_aload_n C dX5_digest_56 0 rfl ?_
  refine k_callVv (st := []) C hE (c_X5_mixDispatchers l F hA nw hi sv 0 cd ha_6   _ h) (cwV 0 C.2.2.2.2 gX5_digest_X5_mixDispatchers rfl rfl rfl (by decide +kernel) ⟨Nat.le_of_ble_eq_true rfl, Nat.le_of_ble_eq_true rfl⟩) (fun H hP => va_recv hE.1 (k_one (mst_Mo ((focM_g F) H hP))) rfl (q0 := 0) rfl) rfl rfl (Nat.le_of_ble_eq_true rfl) dX5_digest_57 ⟨Nat.zero_le _, Nat.zero_le _⟩ (fun _ => ?_)
  refine k_ex (fun ha_7 => k_and (fun h => ?_))
  refine k_aload_n C dX5_digest_60 0 rfl ?_
  refine k_aload_n C dX5_digest_61 0 rfl ?_
  refine mg_Mo_now C (focM_g F) hE.1 hi5 lk3 dX5_digest_62 ?_
  refine k_bipush (v := 6) C dX5_digest_65 (by decide) ?_
  refine mg_nw C (focM_g F) hE.1 (vp_lit (i := 6) (n := 893) (by decide)) dX5_digest_67 ?_
  refine k_callVv (st := []) C hE (c_X5_mix l F hA nw hi sv 0 cd ha_7 (nw 6)  _ h) (cwV 1 C.2.2.2.2 gX5_digest_X5_mix rfl rfl rfl (by decide +kernel) ⟨Nat.le_of_ble_eq_true rfl, Nat.le_of_ble_eq_true rfl⟩) (fun H hP => va_recv hE.1 (k_one (mst_Mo ((focM_g F) H hP))) rfl (q0 := 0) rfl) rfl rfl (Nat.le_of_ble_eq_true rfl) dX5_digest_68 ⟨Nat.zero_le _, Nat.zero_le _⟩ (fun _ => ?_)
  refine k_ex (fun ha_8 => k_and (fun h => ?_))
  refine k_aload_n C dX5_digest_71 0 rfl ?_
  refine k_aload_n C dX5_digest_72 0 rfl ?_
  refine mg_Mo_now C (focM_g F) hE.1 hi5 lk3 dX5_digest_73 ?_
  refine k_bipush (v := 7) C dX5_digest_76 (by decide) ?_
  refine mg_nw C (focM_g F) hE.1 (vp_lit (i := 7) (n := 893) (by decide)) dX5_digest_78 ?_
  refine k_callVv (st := []) C hE (c_X5_mix l F hA nw hi sv 0 cd ha_8 (nw 7)  _ h) (cwV 1 C.2.2.2.2 gX5_digest_X5_mix rfl rfl rfl (by decide +kernel) ⟨Nat.le_of_ble_eq_true rfl, Nat.le_of_ble_eq_true rfl⟩) (fun H hP => va_recv hE.1 (k_one (mst_Mo ((focM_g F) H hP))) rfl (q0 := 0) rfl) rfl rfl (Nat.le_of_ble_eq_true rfl) dX5_digest_79 ⟨Nat.zero_le _, Nat.zero_le _⟩ (fun _ => ?_)
  refine k_ex (fun ha_9 => k_and (fun h => ?_))
  refine k_aload_n C dX5_digest_82 0 rfl ?_
  refine k_aload_n C dX5_digest_83 0 rfl ?_
  refine k_callVi (st := [.ref o]) C hE (c_X5_waits l F hA nw hi sv 0 cd ha_9   _ h) (cwV 0 C.2.2.2.2 gX5_digest_X5_waits rfl rfl rfl (by decide +kernel) ⟨Nat.le_of_ble_eq_true rfl, Nat.le_of_ble_eq_true rfl⟩) (fun H hP => va_recv hE.1 (k_one (mst_Mo ((focM_g F) H hP))) rfl (q0 := 0) rfl) rfl rfl (Nat.le_of_ble_eq_true rfl) dX5_digest_84 ⟨Nat.zero_le _, Nat.zero_le _⟩ (fun r10 => ?_)
  refine k_and (fun h => ?_)
  refine k_callVv (st := []) C hE (c_X5_mix l F hA nw hi sv 0 cd ha_9 r10  _ h) (cwV 1 C.2.2.2.2 gX5_digest_X5_mix rfl rfl rfl (by decide +kernel) ⟨Nat.le_of_ble_eq_true rfl, Nat.le_of_ble_eq_true rfl⟩) (fun H hP => va_recv hE.1 (k_one (mst_Mo ((focM_g F) H hP))) rfl (q0 := 0) rfl) rfl rfl (Nat.le_of_ble_eq_true rfl) dX5_digest_87 ⟨Nat.zero_le _, Nat.zero_le _⟩ (fun _ => ?_)
  refine k_ex (fun ha_11 => k_and (fun h => ?_))
  refine k_aload_n C dX5_digest_90 0 rfl ?_
  refine k_aload_n C dX5_digest_91 0 rfl ?_
  refine mg_Mo_now C (focM_g F) hE.1 hi5 lk3 dX5_digest_92 ?_
  refine k_bipush (v := 8) C dX5_digest_95 (by decide) ?_
  refine mg_nw C (focM_g F) hE.1 (vp_lit (i := 8) (n := 893) (by decide)) dX5_digest_97 ?_
  refine k_callVv (st := []) C hE (c_X5_mix l F hA nw hi sv 0 cd ha_11 (nw 8)  _ h) (cwV 1 C.2.2.2.2 gX5_digest_X5_mix rfl rfl rfl (by decide +kernel) ⟨Nat.le_of_ble_eq_true rfl, Nat.le_of_ble_eq_true rfl⟩) (fun H hP => va_recv hE.1 (k_one (mst_Mo ((focM_g F) H hP))) rfl (q0 := 0) rfl) rfl rfl (Nat.le_of_ble_eq_true rfl) dX5_digest_98 ⟨Nat.zero_le _, Nat.zero_le _⟩ (fun _ => ?_)
  refine k_ex (fun ha_12 => k_and (fun h => ?_))
  refine k_aload_n C dX5_digest_101 0 rfl ?_
  refine k_aload_n C dX5_digest_102 0 rfl ?_
  refine mg_sv C (focM_g F) hE.1 hi5 lk4 dX5_digest_103 ?_
  refine k_callVv (st := []) C hE (c_X5_mix l F hA nw hi sv 0 cd ha_12 sv  _ h) (cwV 1 C.2.2.2.2 gX5_digest_X5_mix rfl rfl rfl (by decide +kernel) ⟨Nat.le_of_ble_eq_true rfl, Nat.le_of_ble_eq_true rfl⟩) (fun H hP => va_recv hE.1 (k_one (mst_Mo ((focM_g F) H hP))) rfl (q0 := 0) rfl) rfl rfl (Nat.le_of_ble_eq_true rfl) dX5_digest_106 ⟨Nat.zero_le _, Nat.zero_le _⟩ (fun _ => ?_)
  refine k_ex (fun ha_13 => k_and (fun h => ?_))
  refine k_aload_n C dX5_digest_109 0 rfl ?_
  refine mg_ha C (focM_g F) hE.1 hi5 lk2 dX5_digest_110 ?_
  exact k_lret C hr hlk dX5_digest_113 (fun H hP => ⟨0, ha_13, h, hP⟩)
