noncomputable def wp_X5_addServer_L55 (x4 : Int32) (k : Int32 → (Nat → Int32) → (Nat → Int32) → Int32 → Int32 → Prop) (hi_2 : Nat → Int32) (sv_3 : Int32) (fu : Nat) : Int32 → (Nat → Int32) → Prop := Nat.rec (motive := fun _ => Int32 → (Nat → Int32) → Prop) (fun _ _ => False) (fun _ rec55 x8 nw_9 => (4 ≤ x8 → (wp_X5_register nw_9 x4 (fun nw_11 => k x4 nw_11 hi_2 sv_3 0))) ∧ (¬ (4 ≤ x8) → ((vp_in ((25 + (8 * x8)) + x4) 893) ∧ (∀ nw_13 : Nat → Int32, nw_13 = upd nw_9 ((25 + (8 * x8)) + x4).toNatClampNeg 0 → (∀ x14 : Int32, x14 = x8 + 1 → (rec55 x14 nw_13)))))) fu
noncomputable def wp_X5_addServer (nw : Nat → Int32) (hi : Nat → Int32) (sv : Int32) (k : Int32 → (Nat → Int32) → (Nat → Int32) → Int32 → Int32 → Prop) : Prop := ((nw 4) = 8 → (wp_X5_refuse 1 (fun r15 th_16 => k r15 nw hi sv th_16))) ∧ (¬ (nw 4) = 8 → (wp_X5_save nw hi sv (fun hi_2 sv_3 => ∀ x4 : Int32, x4 = (nw 4) → (∀ nw_5 : Nat → Int32, nw_5 = upd nw 4 ((nw 4) + 1) → ((vp_in (9 + x4) 893) ∧ (∀ nw_7 : Nat → Int32, nw_7 = upd nw_5 (9 + x4).toNatClampNeg 1 → (∃ fu, wp_X5_addServer_L55 x4 k hi_2 sv_3 fu 0 nw_7)))))))
set_option maxRecDepth 100000 in
set_option maxHeartbeats 4000000 in
theorem c_X5_addServer (l : Launch) {E : EV} {o : Nat} {P : PM} {A : Nat → Prop} (F : FocM E o P) (hA : ∀ q, inMo o q → A q) (nw : Nat → Int32) (hi : Nat → Int32) (sv : Int32) (th : Int32) (cd : Nat → Int32) (ha : Int64)   (k : Int32 → (Nat → Int32) → (Nat → Int32) → Int32 → Int32 → Prop) (h : wp_X5_addServer nw hi sv  k) : Met l yX5_addServer wsX5_addServer { frames := 2, cells := 0, slots := 0, locals := 46 } (va_Pc [.ref o] (fun U => P nw hi sv th cd ha U.heap ∧ XE E U)) (kQi (fun r H => ∃ nw9 : Nat → Int32, ∃ hi9 : Nat → Int32, ∃ sv9 : Int32, ∃ th9 : Int32, k r nw9 hi9 sv9 th9 ∧ P nw9 hi9 sv9 th9 cd ha H) A) 0 0 A := by
  refine k_body (cc := cX5_addServer) (own := RX5) (maxL := 3) (ret := (some .int)) (lv0 := [(0, .ref o)]) (by decide) rfl rfl (Nat.le_of_ble_eq_true rfl) rfl (fun p e s m below meth c C hr hlk hP hE => ?_)
  have hi5 : ∀ w ∈ u_ws RX5 TX5 6, w ∈ wsX5_addServer := by decide +kernel
  have lk0 := C.2.2.2.2 (.fieldLink RX5 19 "IdleDispatcherModel" "thrown" "I") (by decide +kernel)
  have lk1 := C.2.2.2.2 (.fieldLink RX5 7 "IdleDispatcherModel" "now" "[I") (by decide +kernel)
  refine k_aload_n C dX5_addServer_0 0 rfl ?_
  refine k_iconst (v := 0) C dX5_addServer_1 (by decide) ?_
  refine mp_th C F hA hE.1 hi5 lk0 dX5_addServer_2 ?_
  refine k_aload_n C dX5_addServer_5 0 rfl ?_
  refine mg_Mo_now C (focM_g F) hE.1 hi5 lk1 dX5_addServer_6 ?_
  refine k_iconst (v := 4) C dX5_addServer_9 (by decide) ?_
  refine mg_nw C (focM_g F) hE.1 (vp_lit (i := 4) (n := 893) (by decide)) dX5_addServer_10 ?_
  refine k_bipush (v := 8) C dX5_addServer_11 (by decide) ?_
  refine k_icmp_ne (tgt := 22) C dX5_addServer_13 (by decide) (fun c1 => ?_) (fun c1 => ?_)
  · replace h := h.2 c1
    refine k_aload_n C dX5_addServer_22 0 rfl ?_
    refine k_callVv (st := []) C hE (c_X5_save l F hA nw hi sv 0 cd ha   _ h) (cwV 0 C.2.2.2.2 gX5_addServer_X5_save rfl rfl rfl (by decide +kernel) ⟨Nat.le_of_ble_eq_true rfl, Nat.le_of_ble_eq_true rfl⟩) (fun H hP => va_recv hE.1 (k_one (mst_Mo ((focM_g F) H hP))) rfl (q0 := 0) rfl) rfl rfl (Nat.le_of_ble_eq_true rfl) dX5_addServer_23 ⟨Nat.zero_le _, Nat.zero_le _⟩ (fun _ => ?_)
    refine k_ex (fun hi_2 => k_ex (fun sv_3 => k_and (fun h => ?_)))
    refine k_aload_n C dX5_addServer_26 0 rfl ?_
    refine mg_Mo_now C (focM_g F) hE.1 hi5 lk1 dX5_addServer_27 ?_
    refine k_iconst (v := 4) C dX5_addServer_30 (by decide) ?_
    refine mg_nw C (focM_g F) hE.1 (vp_lit (i := 4) (n := 893) (by decide)) dX5_addServer_31 ?_
    refine k_topi (fun x4 ex4 => ?_)
    replace h := h x4 ex4
    refine k_istore_n (lv' := [(1, .int x4), (0, .ref o)]) C dX5_addServer_32 rfl (by decide) rfl ?_
    refine k_aload_n C dX5_addServer_33 1 rfl ?_
    refine mg_Mo_now C (focM_g F) hE.1 hi5 lk1 dX5_addServer_34 ?_
    refine k_iconst (v := 4) C dX5_addServer_37 (by decide) ?_
    refine k_dup2_11 C dX5_addServer_38 rfl rfl ?_
    refine mg_nw C (focM_g F) hE.1 (vp_lit (i := 4) (n := 893) (by decide)) dX5_addServer_39 ?_
    refine k_iconst (v := 1) C dX5_addServer_40 (by decide) ?_
    refine k_iadd C dX5_addServer_41 ?_
    obtain ⟨nw_5, enw_5⟩ : ∃ z : Nat → Int32, z = upd nw 4 ((nw 4) + 1) := ⟨_, rfl⟩
    replace h := h nw_5 enw_5
    refine mp_nw C F hA hE.1 (vp_lit (i := 4) (n := 893) (by decide)) enw_5 dX5_addServer_42 ?_
    refine k_aload_n C dX5_addServer_43 1 rfl ?_
    refine mg_Mo_now C (focM_g F) hE.1 hi5 lk1 dX5_addServer_44 ?_
    refine k_bipush (v := 9) C dX5_addServer_47 (by decide) ?_
    refine k_iload_n C dX5_addServer_49 0 rfl ?_
    refine k_iadd C dX5_addServer_50 ?_
    refine k_iconst (v := 1) C dX5_addServer_51 (by decide) ?_
    obtain ⟨q6, h⟩ := h
    obtain ⟨nw_7, enw_7⟩ : ∃ z : Nat → Int32, z = upd nw_5 (9 + x4).toNatClampNeg 1 := ⟨_, rfl⟩
    replace h := h nw_7 enw_7
    refine mp_nw C F hA hE.1 q6 enw_7 dX5_addServer_52 ?_
    refine k_iconst (v := 0) C dX5_addServer_53 (by decide) ?_
    refine k_istore_n (lv' := [(2, .int 0), (1, .int x4), (0, .ref o)]) C dX5_addServer_54 rfl (by decide) rfl ?_
    obtain ⟨n55, h⟩ := h
    refine k_pc (pc2 := 55) rfl ?_
    refine k_loop2 (wp_X5_addServer_L55 x4 k hi_2 sv_3) (fun x8 nw_9 => P nw_9 hi_2 sv_3 0 cd ha) (fun x8 nw_9 => [(2, .int x8), (1, .int x4), (0, .ref o)]) (fun _ _ h => h) (fun n55 ih55 x8 nw_9 h => ?_) n55 _ _ h
    refine k_iload_n C dX5_addServer_55 0 rfl ?_
    refine k_iconst (v := 4) C dX5_addServer_56 (by decide) ?_
    refine k_icmp_ge (tgt := 81) C dX5_addServer_57 (by decide) (fun c10 => ?_) (fun c10 => ?_)
    · replace h := h.1 c10
      refine k_aload_n C dX5_addServer_81 2 rfl ?_
      refine k_iload_n C dX5_addServer_82 1 rfl ?_
      refine k_callVv (st := []) C hE (c_X5_register l F hA nw_9 hi_2 sv_3 0 cd ha x4  _ h) (cwV 1 C.2.2.2.2 gX5_addServer_X5_register rfl rfl rfl (by decide +kernel) ⟨Nat.le_of_ble_eq_true rfl, Nat.le_of_ble_eq_true rfl⟩) (fun H hP => va_recv hE.1 (k_one (mst_Mo ((focM_g F) H hP))) rfl (q0 := 0) rfl) rfl rfl (Nat.le_of_ble_eq_true rfl) dX5_addServer_83 ⟨Nat.zero_le _, Nat.zero_le _⟩ (fun _ => ?_)
      refine k_ex (fun nw_11 => k_and (fun h => ?_))
      refine k_iload_n C dX5_addServer_86 1 rfl ?_
      exact k_iret C hr hlk dX5_addServer_87 (fun H hP => ⟨nw_11, hi_2, sv_3, 0, h, hP⟩)
    · replace h := h.2 c10
      refine k_aload_n C dX5_addServer_60 2 rfl ?_
      refine mg_Mo_now C (focM_g F) hE.1 hi5 lk1 dX5_addServer_61 ?_
      refine k_bipush (v := 25) C dX5_addServer_64 (by decide) ?_
      refine k_bipush (v := 8) C dX5_addServer_66 (by decide) ?_
      refine k_iload_n C dX5_addServer_68 0 rfl ?_
      refine k_imul C dX5_addServer_69 ?_
      refine k_iadd C dX5_addServer_70 ?_
      refine k_iload_n C dX5_addServer_71 1 rfl ?_
      refine k_iadd C dX5_addServer_72 ?_
      refine k_iconst (v := 0) C dX5_addServer_73 (by decide) ?_
      obtain ⟨q12, h⟩ := h
      obtain ⟨nw_13, enw_13⟩ : ∃ z : Nat → Int32, z = upd nw_9 ((25 + (8 * x8)) + x4).toNatClampNeg 0 := ⟨_, rfl⟩
      replace h := h nw_13 enw_13
      refine mp_nw C F hA hE.1 q12 enw_13 dX5_addServer_74 ?_
      obtain ⟨x14, ex14⟩ : ∃ z : Int32, z = x8 + 1 := ⟨_, rfl⟩
      replace h := h x14 ex14
      refine k_iinc (v := x14) (lv' := [(2, .int x14), (1, .int x4), (0, .ref o)]) (j := 0) C dX5_addServer_75 rfl (by rw [ex14]; rfl) (by decide) rfl ?_
      refine k_goto (tgt := 55) C dX5_addServer_78 (by decide) ?_
      refine k_pc (pc2 := 55) rfl ?_
      refine k_sub [0, 1, 2] rfl ?_
      exact ih55 _ _ h
  · replace h := h.1 c1
    refine k_aload_n C dX5_addServer_16 0 rfl ?_
    refine k_iconst (v := 1) C dX5_addServer_17 (by decide) ?_
    refine k_callVi (st := []) C hE (c_X5_refuse l F hA nw hi sv 0 cd ha 1  _ h) (cwV 1 C.2.2.2.2 gX5_addServer_X5_refuse rfl rfl rfl (by decide +kernel) ⟨Nat.le_of_ble_eq_true rfl, Nat.le_of_ble_eq_true rfl⟩) (fun H hP => va_recv hE.1 (k_one (mst_Mo ((focM_g F) H hP))) rfl (q0 := 0) rfl) rfl rfl (Nat.le_of_ble_eq_true rfl) dX5_addServer_18 ⟨Nat.zero_le _, Nat.zero_le _⟩ (fun r15 => ?_)
    refine k_ex (fun th_16 => k_and (fun h => ?_))
    exact k_iret C hr hlk dX5_addServer_21 (fun H hP => ⟨nw, hi, sv, th_16, h, hP⟩)
noncomputable def wp_X5_addDispatcher (nw : Nat → Int32) (hi : Nat → Int32) (sv : Int32) (pol : Int32) (k : Int32 → (Nat → Int32) → (Nat → Int32) → Int32 → Int32 → Prop) : Prop := wp_X5_in pol 0 4 (fun r1 => (r1 = 0 → (wp_X5_refuse 1 (fun r12 th_13 => k r12 nw hi sv th_13))) ∧ (¬ r1 = 0 → (((nw 5) = 4 → (wp_X5_refuse 2 (fun r10 th_11 => k r10 nw hi sv th_11))) ∧ (¬ (nw 5) = 4 → (wp_X5_save nw hi sv (fun hi_4 sv_5 => ∀ x6 : Int32, x6 = (nw 5) → ((vp_in (17 + x6) 893) ∧ (∀ nw_8 : Nat → Int32, nw_8 = upd nw (17 + x6).toNatClampNeg pol → (∀ nw_9 : Nat → Int32, nw_9 = upd nw_8 5 ((nw_8 5) + 1) → (k x6 nw_9 hi_4 sv_5 0))))))))))
set_option maxRecDepth 100000 in
set_option maxHeartbeats 4000000 in
theorem c_X5_addDispatcher (l : Launch) {E : EV} {o : Nat} {P : PM} {A : Nat → Prop} (F : FocM E o P) (hA : ∀ q, inMo o q → A q) (nw : Nat → Int32) (hi : Nat → Int32) (sv : Int32) (th : Int32) (cd : Nat → Int32) (ha : Int64) (pol : Int32)  (k : Int32 → (Nat → Int32) → (Nat → Int32) → Int32 → Int32 → Prop) (h : wp_X5_addDispatcher nw hi sv pol k) : Met l yX5_addDispatcher wsX5_addDispatcher { frames := 1, cells := 0, slots := 0, locals := 22 } (va_Pc [.ref o, .int pol] (fun U => P nw hi sv th cd ha U.heap ∧ XE E U)) (kQi (fun r H => ∃ nw9 : Nat → Int32, ∃ hi9 : Nat → Int32, ∃ sv9 : Int32, ∃ th9 : Int32, k r nw9 hi9 sv9 th9 ∧ P nw9 hi9 sv9 th9 cd ha H) A) 0 0 A := by
  refine k_body (cc := cX5_addDispatcher) (own := RX5) (maxL := 3) (ret := (some .int)) (lv0 := [(0, .ref o), (1, .int pol)]) (by decide) rfl rfl (Nat.le_of_ble_eq_true rfl) rfl (fun p e s m below meth c C hr hlk hP hE => ?_)
  have hi5 : ∀ w ∈ u_ws RX5 TX5 6, w ∈ wsX5_addDispatcher := by decide +kernel
  have lk0 := C.2.2.2.2 (.fieldLink RX5 19 "IdleDispatcherModel" "thrown" "I") (by decide +kernel)
  have lk1 := C.2.2.2.2 (.fieldLink RX5 7 "IdleDispatcherModel" "now" "[I") (by decide +kernel)
  refine k_aload_n C dX5_addDispatcher_0 0 rfl ?_
  refine k_iconst (v := 0) C dX5_addDispatcher_1 (by decide) ?_
  refine mp_th C F hA hE.1 hi5 lk0 dX5_addDispatcher_2 ?_
  refine k_iload_n C dX5_addDispatcher_5 1 rfl ?_
  refine k_iconst (v := 0) C dX5_addDispatcher_6 (by decide) ?_
  refine k_iconst (v := 4) C dX5_addDispatcher_7 (by decide) ?_
  refine k_callSi (st := []) C hE (c_X5_in l (P := P nw hi sv 0 cd ha) (A := A) (E := E) pol 0 4 _ h) (va_cwS 3 C.2.2.2.2 gX5_addDispatcher_X5_in rfl rfl rfl (by decide +kernel) ⟨Nat.le_of_ble_eq_true rfl, Nat.le_of_ble_eq_true rfl⟩) rfl rfl (Nat.le_of_ble_eq_true rfl) dX5_addDispatcher_8 ⟨Nat.zero_le _, Nat.zero_le _⟩ (fun r1 => ?_)
  refine k_and (fun h => ?_)
  refine k_if_ne (tgt := 20) C dX5_addDispatcher_11 (by decide) (fun c2 => ?_) (fun c2 => ?_)
  · replace h := h.2 c2
    refine k_aload_n C dX5_addDispatcher_20 0 rfl ?_
    refine mg_Mo_now C (focM_g F) hE.1 hi5 lk1 dX5_addDispatcher_21 ?_
    refine k_iconst (v := 5) C dX5_addDispatcher_24 (by decide) ?_
    refine mg_nw C (focM_g F) hE.1 (vp_lit (i := 5) (n := 893) (by decide)) dX5_addDispatcher_25 ?_
    refine k_iconst (v := 4) C dX5_addDispatcher_26 (by decide) ?_
    refine k_icmp_ne (tgt := 36) C dX5_addDispatcher_27 (by decide) (fun c3 => ?_) (fun c3 => ?_)
    · replace h := h.2 c3
      refine k_aload_n C dX5_addDispatcher_36 0 rfl ?_
      refine k_callVv (st := []) C hE (c_X5_save l F hA nw hi sv 0 cd ha   _ h) (cwV 0 C.2.2.2.2 gX5_addDispatcher_X5_save rfl rfl rfl (by decide +kernel) ⟨Nat.le_of_ble_eq_true rfl, Nat.le_of_ble_eq_true rfl⟩) (fun H hP => va_recv hE.1 (k_one (mst_Mo ((focM_g F) H hP))) rfl (q0 := 0) rfl) rfl rfl (Nat.le_of_ble_eq_true rfl) dX5_addDispatcher_37 ⟨Nat.zero_le _, Nat.zero_le _⟩ (fun _ => ?_)
      refine k_ex (fun hi_4 => k_ex (fun sv_5 => k_and (fun h => ?_)))
      refine k_aload_n C dX5_addDispatcher_40 0 rfl ?_
      refine mg_Mo_now C (focM_g F) hE.1 hi5 lk1 dX5_addDispatcher_41 ?_
      refine k_iconst (v := 5) C dX5_addDispatcher_44 (by decide) ?_
      refine mg_nw C (focM_g F) hE.1 (vp_lit (i := 5) (n := 893) (by decide)) dX5_addDispatcher_45 ?_
      refine k_topi (fun x6 ex6 => ?_)
      replace h := h x6 ex6
      refine k_istore_n (lv' := [(2, .int x6), (0, .ref o), (1, .int pol)]) C dX5_addDispatcher_46 rfl (by decide) rfl ?_
      refine k_aload_n C dX5_addDispatcher_47 1 rfl ?_
      refine mg_Mo_now C (focM_g F) hE.1 hi5 lk1 dX5_addDispatcher_48 ?_
      refine k_bipush (v := 17) C dX5_addDispatcher_51 (by decide) ?_
      refine k_iload_n C dX5_addDispatcher_53 0 rfl ?_
      refine k_iadd C dX5_addDispatcher_54 ?_
      refine k_iload_n C dX5_addDispatcher_55 2 rfl ?_
      obtain ⟨q7, h⟩ := h
      obtain ⟨nw_8, enw_8⟩ : ∃ z : Nat → Int32, z = upd nw (17 + x6).toNatClampNeg pol := ⟨_, rfl⟩
      replace h := h nw_8 enw_8
      refine mp_nw C F hA hE.1 q7 enw_8 dX5_addDispatcher_56 ?_
      refine k_aload_n C dX5_addDispatcher_57 1 rfl ?_
      refine mg_Mo_now C (focM_g F) hE.1 hi5 lk1 dX5_addDispatcher_58 ?_
      refine k_iconst (v := 5) C dX5_addDispatcher_61 (by decide) ?_
      refine k_dup2_11 C dX5_addDispatcher_62 rfl rfl ?_
      refine mg_nw C (focM_g F) hE.1 (vp_lit (i := 5) (n := 893) (by decide)) dX5_addDispatcher_63 ?_
      refine k_iconst (v := 1) C dX5_addDispatcher_64 (by decide) ?_
      refine k_iadd C dX5_addDispatcher_65 ?_
      obtain ⟨nw_9, enw_9⟩ : ∃ z : Nat → Int32, z = upd nw_8 5 ((nw_8 5) + 1) := ⟨_, rfl⟩
      replace h := h nw_9 enw_9
      refine mp_nw C F hA hE.1 (vp_lit (i := 5) (n := 893) (by decide)) enw_9 dX5_addDispatcher_66 ?_
      refine k_iload_n C dX5_addDispatcher_67 0 rfl ?_
      exact k_iret C hr hlk dX5_addDispatcher_68 (fun H hP => ⟨nw_9, hi_4, sv_5, 0, h, hP⟩)
    · replace h := h.1 c3
      refine k_aload_n C dX5_addDispatcher_30 0 rfl ?_
      refine k_iconst (v := 2) C dX5_addDispatcher_31 (by decide) ?_
      refine k_callVi (st := []) C hE (c_X5_refuse l F hA nw hi sv 0 cd ha 2  _ h) (cwV 1 C.2.2.2.2 gX5_addDispatcher_X5_refuse rfl rfl rfl (by decide +kernel) ⟨Nat.le_of_ble_eq_true rfl, Nat.le_of_ble_eq_true rfl⟩) (fun H hP => va_recv hE.1 (k_one (mst_Mo ((focM_g F) H hP))) rfl (q0 := 0) rfl) rfl rfl (Nat.le_of_ble_eq_true rfl) dX5_addDispatcher_32 ⟨Nat.zero_le _, Nat.zero_le _⟩ (fun r10 => ?_)
      refine k_ex (fun th_11 => k_and (fun h => ?_))
      exact k_iret C hr hlk dX5_addDispatcher_35 (fun H hP => ⟨nw, hi, sv, th_11, h, hP⟩)
  · replace h := h.1 c2
    refine k_aload_n C dX5_addDispatcher_14 0 rfl ?_
    refine k_iconst (v := 1) C dX5_addDispatcher_15 (by decide) ?_
    refine k_callVi (st := []) C hE (c_X5_refuse l F hA nw hi sv 0 cd ha 1  _ h) (cwV 1 C.2.2.2.2 gX5_addDispatcher_X5_refuse rfl rfl rfl (by decide +kernel) ⟨Nat.le_of_ble_eq_true rfl, Nat.le_of_ble_eq_true rfl⟩) (fun H hP => va_recv hE.1 (k_one (mst_Mo ((focM_g F) H hP))) rfl (q0 := 0) rfl) rfl rfl (Nat.le_of_ble_eq_true rfl) dX5_addDispatcher_16 ⟨Nat.zero_le _, Nat.zero_le _⟩ (fun r12 => ?_)
    refine k_ex (fun th_13 => k_and (fun h => ?_))
    exact k_iret C hr hlk dX5_addDispatcher_19 (fun H hP => ⟨nw, hi, sv, th_13, h, hP⟩)
noncomputable def wp_X5_setPolicy (nw : Nat → Int32) (hi : Nat → Int32) (sv : Int32) (dsp : Int32) (pol : Int32) (k : Int32 → (Nat → Int32) → (Nat → Int32) → Int32 → Int32 → Prop) : Prop := wp_X5_isDispatcher nw dsp (fun r1 => (r1 = 0 → (wp_X5_refuse 1 (fun r3 th_4 => k r3 nw hi sv th_4))) ∧ (¬ (r1 = 0) → (wp_X5_in pol 0 4 (fun r5 => (r5 = 0 → (wp_X5_refuse 1 (fun r12 th_13 => k r12 nw hi sv th_13))) ∧ (¬ r5 = 0 → (wp_X5_save nw hi sv (fun hi_7 sv_8 => (vp_in (17 + dsp) 893) ∧ (∀ x10 : Int32, x10 = (nw (17 + dsp).toNatClampNeg) → (∀ nw_11 : Nat → Int32, nw_11 = upd nw (17 + dsp).toNatClampNeg pol → (k x10 nw_11 hi_7 sv_8 0))))))))))
set_option maxRecDepth 100000 in
set_option maxHeartbeats 4000000 in
theorem c_X5_setPolicy (l : Launch) {E : EV} {o : Nat} {P : PM} {A : Nat → Prop} (F : FocM E o P) (hA : ∀ q, inMo o q → A q) (nw : Nat → Int32) (hi : Nat → Int32) (sv : Int32) (th : Int32) (cd : Nat → Int32) (ha : Int64) (dsp : Int32) (pol : Int32)  (k : Int32 → (Nat → Int32) → (Nat → Int32) → Int32 → Int32 → Prop) (h : wp_X5_setPolicy nw hi sv dsp pol k) : Met l yX5_setPolicy wsX5_setPolicy { frames := 2, cells := 0, slots := 0, locals := 43 } (va_Pc [.ref o, .int dsp, .int pol] (fun U => P nw hi sv th cd ha U.heap ∧ XE E U)) (kQi (fun r H => ∃ nw9 : Nat → Int32, ∃ hi9 : Nat → Int32, ∃ sv9 : Int32, ∃ th9 : Int32, k r nw9 hi9 sv9 th9 ∧ P nw9 hi9 sv9 th9 cd ha H) A) 0 0 A := by
  refine k_body (cc := cX5_setPolicy) (own := RX5) (maxL := 4) (ret := (some .int)) (lv0 := [(0, .ref o), (1, .int dsp), (2, .int pol)]) (by decide) rfl rfl (Nat.le_of_ble_eq_true rfl) rfl (fun p e s m below meth c C hr hlk hP hE => ?_)
  have hi5 : ∀ w ∈ u_ws RX5 TX5 6, w ∈ wsX5_setPolicy := by decide +kernel
  have lk0 := C.2.2.2.2 (.fieldLink RX5 19 "IdleDispatcherModel" "thrown" "I") (by decide +kernel)
  have lk1 := C.2.2.2.2 (.fieldLink RX5 7 "IdleDispatcherModel" "now" "[I") (by decide +kernel)
  refine k_aload_n C dX5_setPolicy_0 0 rfl ?_
  refine k_iconst (v := 0) C dX5_setPolicy_1 (by decide) ?_
  refine mp_th C F hA hE.1 hi5 lk0 dX5_setPolicy_2 ?_
  refine k_aload_n C dX5_setPolicy_5 0 rfl ?_
  refine k_iload_n C dX5_setPolicy_6 1 rfl ?_
  refine k_callVi (st := []) C hE (c_X5_isDispatcher l F hA nw hi sv 0 cd ha dsp  _ h) (cwV 1 C.2.2.2.2 gX5_setPolicy_X5_isDispatcher rfl rfl rfl (by decide +kernel) ⟨Nat.le_of_ble_eq_true rfl, Nat.le_of_ble_eq_true rfl⟩) (fun H hP => va_recv hE.1 (k_one (mst_Mo ((focM_g F) H hP))) rfl (q0 := 0) rfl) rfl rfl (Nat.le_of_ble_eq_true rfl) dX5_setPolicy_7 ⟨Nat.zero_le _, Nat.zero_le _⟩ (fun r1 => ?_)
  refine k_and (fun h => ?_)
  refine k_if_eq (tgt := 22) C dX5_setPolicy_10 (by decide) (fun c2 => ?_) (fun c2 => ?_)
  · replace h := h.1 c2
    refine k_aload_n C dX5_setPolicy_22 0 rfl ?_
    refine k_iconst (v := 1) C dX5_setPolicy_23 (by decide) ?_
    refine k_callVi (st := []) C hE (c_X5_refuse l F hA nw hi sv 0 cd ha 1  _ h) (cwV 1 C.2.2.2.2 gX5_setPolicy_X5_refuse rfl rfl rfl (by decide +kernel) ⟨Nat.le_of_ble_eq_true rfl, Nat.le_of_ble_eq_true rfl⟩) (fun H hP => va_recv hE.1 (k_one (mst_Mo ((focM_g F) H hP))) rfl (q0 := 0) rfl) rfl rfl (Nat.le_of_ble_eq_true rfl) dX5_setPolicy_24 ⟨Nat.zero_le _, Nat.zero_le _⟩ (fun r3 => ?_)
    refine k_ex (fun th_4 => k_and (fun h => ?_))
    exact k_iret C hr hlk dX5_setPolicy_27 (fun H hP => ⟨nw, hi, sv, th_4, h, hP⟩)
  · replace h := h.2 c2
    refine k_iload_n C dX5_setPolicy_13 2 rfl ?_
    refine k_iconst (v := 0) C dX5_setPolicy_14 (by decide) ?_
    refine k_iconst (v := 4) C dX5_setPolicy_15 (by decide) ?_
    refine k_callSi (st := []) C hE (c_X5_in l (P := P nw hi sv 0 cd ha) (A := A) (E := E) pol 0 4 _ h) (va_cwS 3 C.2.2.2.2 gX5_setPolicy_X5_in rfl rfl rfl (by decide +kernel) ⟨Nat.le_of_ble_eq_true rfl, Nat.le_of_ble_eq_true rfl⟩) rfl rfl (Nat.le_of_ble_eq_true rfl) dX5_setPolicy_16 ⟨Nat.zero_le _, Nat.zero_le _⟩ (fun r5 => ?_)
    refine k_and (fun h => ?_)
    refine k_if_ne (tgt := 28) C dX5_setPolicy_19 (by decide) (fun c6 => ?_) (fun c6 => ?_)
    · replace h := h.2 c6
      refine k_aload_n C dX5_setPolicy_28 0 rfl ?_
      refine k_callVv (st := []) C hE (c_X5_save l F hA nw hi sv 0 cd ha   _ h) (cwV 0 C.2.2.2.2 gX5_setPolicy_X5_save rfl rfl rfl (by decide +kernel) ⟨Nat.le_of_ble_eq_true rfl, Nat.le_of_ble_eq_true rfl⟩) (fun H hP => va_recv hE.1 (k_one (mst_Mo ((focM_g F) H hP))) rfl (q0 := 0) rfl) rfl rfl (Nat.le_of_ble_eq_true rfl) dX5_setPolicy_29 ⟨Nat.zero_le _, Nat.zero_le _⟩ (fun _ => ?_)
      refine k_ex (fun hi_7 => k_ex (fun sv_8 => k_and (fun h => ?_)))
      refine k_aload_n C dX5_setPolicy_32 0 rfl ?_
      refine mg_Mo_now C (focM_g F) hE.1 hi5 lk1 dX5_setPolicy_33 ?_
      refine k_bipush (v := 17) C dX5_setPolicy_36 (by decide) ?_
      refine k_iload_n C dX5_setPolicy_38 1 rfl ?_
      refine k_iadd C dX5_setPolicy_39 ?_
      obtain ⟨q9, h⟩ := h
      refine mg_nw C (focM_g F) hE.1 q9 dX5_setPolicy_40 ?_
      refine k_topi (fun x10 ex10 => ?_)
      replace h := h x10 ex10
      refine k_istore_n (lv' := [(3, .int x10), (0, .ref o), (1, .int dsp), (2, .int pol)]) C dX5_setPolicy_41 rfl (by decide) rfl ?_
      refine k_aload_n C dX5_setPolicy_42 1 rfl ?_
      refine mg_Mo_now C (focM_g F) hE.1 hi5 lk1 dX5_setPolicy_43 ?_
      refine k_bipush (v := 17) C dX5_setPolicy_46 (by decide) ?_
      refine k_iload_n C dX5_setPolicy_48 2 rfl ?_
      refine k_iadd C dX5_setPolicy_49 ?_
      refine k_iload_n C dX5_setPolicy_50 3 rfl ?_
      obtain ⟨nw_11, enw_11⟩ : ∃ z : Nat → Int32, z = upd nw (17 + dsp).toNatClampNeg pol := ⟨_, rfl⟩
      replace h := h nw_11 enw_11
      refine mp_nw C F hA hE.1 q9 enw_11 dX5_setPolicy_51 ?_
      refine k_iload_n C dX5_setPolicy_52 0 rfl ?_
      exact k_iret C hr hlk dX5_setPolicy_53 (fun H hP => ⟨nw_11, hi_7, sv_8, 0, h, hP⟩)
    · replace h := h.1 c6
      refine k_aload_n C dX5_setPolicy_22 0 rfl ?_
      refine k_iconst (v := 1) C dX5_setPolicy_23 (by decide) ?_
      refine k_callVi (st := []) C hE (c_X5_refuse l F hA nw hi sv 0 cd ha 1  _ h) (cwV 1 C.2.2.2.2 gX5_setPolicy_X5_refuse rfl rfl rfl (by decide +kernel) ⟨Nat.le_of_ble_eq_true rfl, Nat.le_of_ble_eq_true rfl⟩) (fun H hP => va_recv hE.1 (k_one (mst_Mo ((focM_g F) H hP))) rfl (q0 := 0) rfl) rfl rfl (Nat.le_of_ble_eq_true rfl) dX5_setPolicy_24 ⟨Nat.zero_le _, Nat.zero_le _⟩ (fun r12 => ?_)
      refine k_ex (fun th_13 => k_and (fun h => ?_))
      exact k_iret C hr hlk dX5_setPolicy_27 (fun H hP => ⟨nw, hi, sv, th_13, h, hP⟩)
noncomputable def wp_X5_setJoinMode (nw : Nat → Int32) (hi : Nat → Int32) (sv : Int32) (mode : Int32) (k : Int32 → (Nat → Int32) → (Nat → Int32) → Int32 → Int32 → Prop) : Prop := wp_X5_in mode 0 2 (fun r1 => (r1 = 0 → (wp_X5_refuse 1 (fun r7 th_8 => k r7 nw hi sv th_8))) ∧ (¬ r1 = 0 → (wp_X5_save nw hi sv (fun hi_3 sv_4 => ∀ x5 : Int32, x5 = (nw 2) → (∀ nw_6 : Nat → Int32, nw_6 = upd nw 2 mode → (k x5 nw_6 hi_3 sv_4 0))))))
set_option maxRecDepth 100000 in
set_option maxHeartbeats 4000000 in
theorem c_X5_setJoinMode (l : Launch) {E : EV} {o : Nat} {P : PM} {A : Nat → Prop} (F : FocM E o P) (hA : ∀ q, inMo o q → A q) (nw : Nat → Int32) (hi : Nat → Int32) (sv : Int32) (th : Int32) (cd : Nat → Int32) (ha : Int64) (mode : Int32)  (k : Int32 → (Nat → Int32) → (Nat → Int32) → Int32 → Int32 → Prop) (h : wp_X5_setJoinMode nw hi sv mode k) : Met l yX5_setJoinMode wsX5_setJoinMode { frames := 1, cells := 0, slots := 0, locals := 22 } (va_Pc [.ref o, .int mode] (fun U => P nw hi sv th cd ha U.heap ∧ XE E U)) (kQi (fun r H => ∃ nw9 : Nat → Int32, ∃ hi9 : Nat → Int32, ∃ sv9 : Int32, ∃ th9 : Int32, k r nw9 hi9 sv9 th9 ∧ P nw9 hi9 sv9 th9 cd ha H) A) 0 0 A := by
  refine k_body (cc := cX5_setJoinMode) (own := RX5) (maxL := 3) (ret := (some .int)) (lv0 := [(0, .ref o), (1, .int mode)]) (by decide) rfl rfl (Nat.le_of_ble_eq_true rfl) rfl (fun p e s m below meth c C hr hlk hP hE => ?_)
  have hi5 : ∀ w ∈ u_ws RX5 TX5 6, w ∈ wsX5_setJoinMode := by decide +kernel
  have lk0 := C.2.2.2.2 (.fieldLink RX5 19 "IdleDispatcherModel" "thrown" "I") (by decide +kernel)
  have lk1 := C.2.2.2.2 (.fieldLink RX5 7 "IdleDispatcherModel" "now" "[I") (by decide +kernel)
  refine k_aload_n C dX5_setJoinMode_0 0 rfl ?_
  refine k_iconst (v := 0) C dX5_setJoinMode_1 (by decide) ?_
  refine mp_th C F hA hE.1 hi5 lk0 dX5_setJoinMode_2 ?_
  refine k_iload_n C dX5_setJoinMode_5 1 rfl ?_
  refine k_iconst (v := 0) C dX5_setJoinMode_6 (by decide) ?_
  refine k_iconst (v := 2) C dX5_setJoinMode_7 (by decide) ?_
  refine k_callSi (st := []) C hE (c_X5_in l (P := P nw hi sv 0 cd ha) (A := A) (E := E) mode 0 2 _ h) (va_cwS 3 C.2.2.2.2 gX5_setJoinMode_X5_in rfl rfl rfl (by decide +kernel) ⟨Nat.le_of_ble_eq_true rfl, Nat.le_of_ble_eq_true rfl⟩) rfl rfl (Nat.le_of_ble_eq_true rfl) dX5_setJoinMode_8 ⟨Nat.zero_le _, Nat.zero_le _⟩ (fun r1 => ?_)
  refine k_and (fun h => ?_)
  refine k_if_ne (tgt := 20) C dX5_setJoinMode_11 (by decide) (fun c2 => ?_) (fun c2 => ?_)
  · replace h := h.2 c2
    refine k_aload_n C dX5_setJoinMode_20 0 rfl ?_
    refine k_callVv (st := []) C hE (c_X5_save l F hA nw hi sv 0 cd ha   _ h) (cwV 0 C.2.2.2.2 gX5_setJoinMode_X5_save rfl rfl rfl (by decide +kernel) ⟨Nat.le_of_ble_eq_true rfl, Nat.le_of_ble_eq_true rfl⟩) (fun H hP => va_recv hE.1 (k_one (mst_Mo ((focM_g F) H hP))) rfl (q0 := 0) rfl) rfl rfl (Nat.le_of_ble_eq_true rfl) dX5_setJoinMode_21 ⟨Nat.zero_le _, Nat.zero_le _⟩ (fun _ => ?_)
    refine k_ex (fun hi_3 => k_ex (fun sv_4 => k_and (fun h => ?_)))
    refine k_aload_n C dX5_setJoinMode_24 0 rfl ?_
    refine mg_Mo_now C (focM_g F) hE.1 hi5 lk1 dX5_setJoinMode_25 ?_
    refine k_iconst (v := 2) C dX5_setJoinMode_28 (by decide) ?_
    refine mg_nw C (focM_g F) hE.1 (vp_lit (i := 2) (n := 893) (by decide)) dX5_setJoinMode_29 ?_
    refine k_topi (fun x5 ex5 => ?_)
    replace h := h x5 ex5
    refine k_istore_n (lv' := [(2, .int x5), (0, .ref o), (1, .int mode)]) C dX5_setJoinMode_30 rfl (by decide) rfl ?_
    refine k_aload_n C dX5_setJoinMode_31 1 rfl ?_
    refine mg_Mo_now C (focM_g F) hE.1 hi5 lk1 dX5_setJoinMode_32 ?_
    refine k_iconst (v := 2) C dX5_setJoinMode_35 (by decide) ?_
    refine k_iload_n C dX5_setJoinMode_36 2 rfl ?_
    obtain ⟨nw_6, enw_6⟩ : ∃ z : Nat → Int32, z = upd nw 2 mode := ⟨_, rfl⟩
    replace h := h nw_6 enw_6
    refine mp_nw C F hA hE.1 (vp_lit (i := 2) (n := 893) (by decide)) enw_6 dX5_setJoinMode_37 ?_
    refine k_iload_n C dX5_setJoinMode_38 0 rfl ?_
    exact k_iret C hr hlk dX5_setJoinMode_39 (fun H hP => ⟨nw_6, hi_3, sv_4, 0, h, hP⟩)
  · replace h := h.1 c2
    refine k_aload_n C dX5_setJoinMode_14 0 rfl ?_
    refine k_iconst (v := 1) C dX5_setJoinMode_15 (by decide) ?_
    refine k_callVi (st := []) C hE (c_X5_refuse l F hA nw hi sv 0 cd ha 1  _ h) (cwV 1 C.2.2.2.2 gX5_setJoinMode_X5_refuse rfl rfl rfl (by decide +kernel) ⟨Nat.le_of_ble_eq_true rfl, Nat.le_of_ble_eq_true rfl⟩) (fun H hP => va_recv hE.1 (k_one (mst_Mo ((focM_g F) H hP))) rfl (q0 := 0) rfl) rfl rfl (Nat.le_of_ble_eq_true rfl) dX5_setJoinMode_16 ⟨Nat.zero_le _, Nat.zero_le _⟩ (fun r7 => ?_)
    refine k_ex (fun th_8 => k_and (fun h => ?_))
    exact k_iret C hr hlk dX5_setJoinMode_19 (fun H hP => ⟨nw, hi, sv, th_8, h, hP⟩)
noncomputable def wp_X5_setReportPeriod (nw : Nat → Int32) (hi : Nat → Int32) (sv : Int32) (ticks : Int32) (k : Int32 → (Nat → Int32) → (Nat → Int32) → Int32 → Int32 → Prop) : Prop := wp_X5_in ticks 1 100 (fun r1 => (r1 = 0 → (wp_X5_refuse 1 (fun r7 th_8 => k r7 nw hi sv th_8))) ∧ (¬ r1 = 0 → (wp_X5_save nw hi sv (fun hi_3 sv_4 => ∀ x5 : Int32, x5 = (nw 3) → (∀ nw_6 : Nat → Int32, nw_6 = upd nw 3 ticks → (k x5 nw_6 hi_3 sv_4 0))))))
set_option maxRecDepth 100000 in
set_option maxHeartbeats 4000000 in
theorem c_X5_setReportPeriod (l : Launch) {E : EV} {o : Nat} {P : PM} {A : Nat → Prop} (F : FocM E o P) (hA : ∀ q, inMo o q → A q) (nw : Nat → Int32) (hi : Nat → Int32) (sv : Int32) (th : Int32) (cd : Nat → Int32) (ha : Int64) (ticks : Int32)  (k : Int32 → (Nat → Int32) → (Nat → Int32) → Int32 → Int32 → Prop) (h : wp_X5_setReportPeriod nw hi sv ticks k) : Met l yX5_setReportPeriod wsX5_setReportPeriod { frames := 1, cells := 0, slots := 0, locals := 22 } (va_Pc [.ref o, .int ticks] (fun U => P nw hi sv th cd ha U.heap ∧ XE E U)) (kQi (fun r H => ∃ nw9 : Nat → Int32, ∃ hi9 : Nat → Int32, ∃ sv9 : Int32, ∃ th9 : Int32, k r nw9 hi9 sv9 th9 ∧ P nw9 hi9 sv9 th9 cd ha H) A) 0 0 A := by
  refine k_body (cc := cX5_setReportPeriod) (own := RX5) (maxL := 3) (ret := (some .int)) (lv0 := [(0, .ref o), (1, .int ticks)]) (by decide) rfl rfl (Nat.le_of_ble_eq_true rfl) rfl (fun p e s m below meth c C hr hlk hP hE => ?_)
  have hi5 : ∀ w ∈ u_ws RX5 TX5 6, w ∈ wsX5_setReportPeriod := by decide +kernel
  have lk0 := C.2.2.2.2 (.fieldLink RX5 19 "IdleDispatcherModel" "thrown" "I") (by decide +kernel)
  have lk1 := C.2.2.2.2 (.fieldLink RX5 7 "IdleDispatcherModel" "now" "[I") (by decide +kernel)
  refine k_aload_n C dX5_setReportPeriod_0 0 rfl ?_
  refine k_iconst (v := 0) C dX5_setReportPeriod_1 (by decide) ?_
  refine mp_th C F hA hE.1 hi5 lk0 dX5_setReportPeriod_2 ?_
  refine k_iload_n C dX5_setReportPeriod_5 1 rfl ?_
  refine k_iconst (v := 1) C dX5_setReportPeriod_6 (by decide) ?_
  refine k_bipush (v := 100) C dX5_setReportPeriod_7 (by decide) ?_
  refine k_callSi (st := []) C hE (c_X5_in l (P := P nw hi sv 0 cd ha) (A := A) (E := E) ticks 1 100 _ h) (va_cwS 3 C.2.2.2.2 gX5_setReportPeriod_X5_in rfl rfl rfl (by decide +kernel) ⟨Nat.le_of_ble_eq_true rfl, Nat.le_of_ble_eq_true rfl⟩) rfl rfl (Nat.le_of_ble_eq_true rfl) dX5_setReportPeriod_9 ⟨Nat.zero_le _, Nat.zero_le _⟩ (fun r1 => ?_)
  refine k_and (fun h => ?_)
  refine k_if_ne (tgt := 21) C dX5_setReportPeriod_12 (by decide) (fun c2 => ?_) (fun c2 => ?_)
  · replace h := h.2 c2
    refine k_aload_n C dX5_setReportPeriod_21 0 rfl ?_
    refine k_callVv (st := []) C hE (c_X5_save l F hA nw hi sv 0 cd ha   _ h) (cwV 0 C.2.2.2.2 gX5_setReportPeriod_X5_save rfl rfl rfl (by decide +kernel) ⟨Nat.le_of_ble_eq_true rfl, Nat.le_of_ble_eq_true rfl⟩) (fun H hP => va_recv hE.1 (k_one (mst_Mo ((focM_g F) H hP))) rfl (q0 := 0) rfl) rfl rfl (Nat.le_of_ble_eq_true rfl) dX5_setReportPeriod_22 ⟨Nat.zero_le _, Nat.zero_le _⟩ (fun _ => ?_)
    refine k_ex (fun hi_3 => k_ex (fun sv_4 => k_and (fun h => ?_)))
    refine k_aload_n C dX5_setReportPeriod_25 0 rfl ?_
    refine mg_Mo_now C (focM_g F) hE.1 hi5 lk1 dX5_setReportPeriod_26 ?_
    refine k_iconst (v := 3) C dX5_setReportPeriod_29 (by decide) ?_
    refine mg_nw C (focM_g F) hE.1 (vp_lit (i := 3) (n := 893) (by decide)) dX5_setReportPeriod_30 ?_
    refine k_topi (fun x5 ex5 => ?_)
    replace h := h x5 ex5
    refine k_istore_n (lv' := [(2, .int x5), (0, .ref o), (1, .int ticks)]) C dX5_setReportPeriod_31 rfl (by decide) rfl ?_
    refine k_aload_n C dX5_setReportPeriod_32 1 rfl ?_
    refine mg_Mo_now C (focM_g F) hE.1 hi5 lk1 dX5_setReportPeriod_33 ?_
    refine k_iconst (v := 3) C dX5_setReportPeriod_36 (by decide) ?_
    refine k_iload_n C dX5_setReportPeriod_37 2 rfl ?_
    obtain ⟨nw_6, enw_6⟩ : ∃ z : Nat → Int32, z = upd nw 3 ticks := ⟨_, rfl⟩
    replace h := h nw_6 enw_6
    refine mp_nw C F hA hE.1 (vp_lit (i := 3) (n := 893) (by decide)) enw_6 dX5_setReportPeriod_38 ?_
    refine k_iload_n C dX5_setReportPeriod_39 0 rfl ?_
    exact k_iret C hr hlk dX5_setReportPeriod_40 (fun H hP => ⟨nw_6, hi_3, sv_4, 0, h, hP⟩)
  · replace h := h.1 c2
    refine k_aload_n C dX5_setReportPeriod_15 0 rfl ?_
    refine k_iconst (v := 1) C dX5_setReportPeriod_16 (by decide) ?_
    refine k_callVi (st := []) C hE (c_X5_refuse l F hA nw hi sv 0 cd ha 1  _ h) (cwV 1 C.2.2.2.2 gX5_setReportPeriod_X5_refuse rfl rfl rfl (by decide +kernel) ⟨Nat.le_of_ble_eq_true rfl, Nat.le_of_ble_eq_true rfl⟩) (fun H hP => va_recv hE.1 (k_one (mst_Mo ((focM_g F) H hP))) rfl (q0 := 0) rfl) rfl rfl (Nat.le_of_ble_eq_true rfl) dX5_setReportPeriod_17 ⟨Nat.zero_le _, Nat.zero_le _⟩ (fun r7 => ?_)
    refine k_ex (fun th_8 => k_and (fun h => ?_))
    exact k_iret C hr hlk dX5_setReportPeriod_20 (fun H hP => ⟨nw, hi, sv, th_8, h, hP⟩)
noncomputable def wp_X5_setRandom (nw : Nat → Int32) (hi : Nat → Int32) (sv : Int32) (x : Int32) (k : Int32 → (Nat → Int32) → (Nat → Int32) → Int32 → Int32 → Prop) : Prop := wp_X5_in x 0 999999 (fun r1 => (r1 = 0 → (wp_X5_refuse 1 (fun r6 th_7 => k r6 nw hi sv th_7))) ∧ (¬ r1 = 0 → (wp_X5_save nw hi sv (fun hi_3 sv_4 => ∀ nw_5 : Nat → Int32, nw_5 = upd nw 0 x → (k 1 nw_5 hi_3 sv_4 0)))))
set_option maxRecDepth 100000 in
set_option maxHeartbeats 4000000 in
theorem c_X5_setRandom (l : Launch) {E : EV} {o : Nat} {P : PM} {A : Nat → Prop} (F : FocM E o P) (hA : ∀ q, inMo o q → A q) (nw : Nat → Int32) (hi : Nat → Int32) (sv : Int32) (th : Int32) (cd : Nat → Int32) (ha : Int64) (x : Int32)  (k : Int32 → (Nat → Int32) → (Nat → Int32) → Int32 → Int32 → Prop) (h : wp_X5_setRandom nw hi sv x k) : Met l yX5_setRandom wsX5_setRandom { frames := 1, cells := 0, slots := 0, locals := 22 } (va_Pc [.ref o, .int x] (fun U => P nw hi sv th cd ha U.heap ∧ XE E U)) (kQi (fun r H => ∃ nw9 : Nat → Int32, ∃ hi9 : Nat → Int32, ∃ sv9 : Int32, ∃ th9 : Int32, k r nw9 hi9 sv9 th9 ∧ P nw9 hi9 sv9 th9 cd ha H) A) 0 0 A := by
  refine k_body (cc := cX5_setRandom) (own := RX5) (maxL := 2) (ret := (some .int)) (lv0 := [(0, .ref o), (1, .int x)]) (by decide) rfl rfl (Nat.le_of_ble_eq_true rfl) rfl (fun p e s m below meth c C hr hlk hP hE => ?_)
  have hi5 : ∀ w ∈ u_ws RX5 TX5 6, w ∈ wsX5_setRandom := by decide +kernel
  have lk0 := C.2.2.2.2 (.fieldLink RX5 19 "IdleDispatcherModel" "thrown" "I") (by decide +kernel)
  have lk1 := C.2.2.2.2 (.constant RX5 62 (999999)) (by decide +kernel)
  have lk2 := C.2.2.2.2 (.fieldLink RX5 7 "IdleDispatcherModel" "now" "[I") (by decide +kernel)
  refine k_aload_n C dX5_setRandom_0 0 rfl ?_
  refine k_iconst (v := 0) C dX5_setRandom_1 (by decide) ?_
  refine mp_th C F hA hE.1 hi5 lk0 dX5_setRandom_2 ?_
  refine k_iload_n C dX5_setRandom_5 1 rfl ?_
  refine k_iconst (v := 0) C dX5_setRandom_6 (by decide) ?_
  refine k_ldc C lk1 dX5_setRandom_7 ?_
  refine k_callSi (st := []) C hE (c_X5_in l (P := P nw hi sv 0 cd ha) (A := A) (E := E) x 0 999999 _ h) (va_cwS 3 C.2.2.2.2 gX5_setRandom_X5_in rfl rfl rfl (by decide +kernel) ⟨Nat.le_of_ble_eq_true rfl, Nat.le_of_ble_eq_true rfl⟩) rfl rfl (Nat.le_of_ble_eq_true rfl) dX5_setRandom_9 ⟨Nat.zero_le _, Nat.zero_le _⟩ (fun r1 => ?_)
  refine k_and (fun h => ?_)
  refine k_if_ne (tgt := 21) C dX5_setRandom_12 (by decide) (fun c2 => ?_) (fun c2 => ?_)
  · replace h := h.2 c2
    refine k_aload_n C dX5_setRandom_21 0 rfl ?_
    refine k_callVv (st := []) C hE (c_X5_save l F hA nw hi sv 0 cd ha   _ h) (cwV 0 C.2.2.2.2 gX5_setRandom_X5_save rfl rfl rfl (by decide +kernel) ⟨Nat.le_of_ble_eq_true rfl, Nat.le_of_ble_eq_true rfl⟩) (fun H hP => va_recv hE.1 (k_one (mst_Mo ((focM_g F) H hP))) rfl (q0 := 0) rfl) rfl rfl (Nat.le_of_ble_eq_true rfl) dX5_setRandom_22 ⟨Nat.zero_le _, Nat.zero_le _⟩ (fun _ => ?_)
    refine k_ex (fun hi_3 => k_ex (fun sv_4 => k_and (fun h => ?_)))
    refine k_aload_n C dX5_setRandom_25 0 rfl ?_
    refine mg_Mo_now C (focM_g F) hE.1 hi5 lk2 dX5_setRandom_26 ?_
    refine k_iconst (v := 0) C dX5_setRandom_29 (by decide) ?_
    refine k_iload_n C dX5_setRandom_30 1 rfl ?_
    obtain ⟨nw_5, enw_5⟩ : ∃ z : Nat → Int32, z = upd nw 0 x := ⟨_, rfl⟩
    replace h := h nw_5 enw_5
    refine mp_nw C F hA hE.1 (vp_lit (i := 0) (n := 893) (by decide)) enw_5 dX5_setRandom_31 ?_
    refine k_iconst (v := 1) C dX5_setRandom_32 (by decide) ?_
    exact k_iret C hr hlk dX5_setRandom_33 (fun H hP => ⟨nw_5, hi_3, sv_4, 0, h, hP⟩)
  · replace h := h.1 c2
    refine k_aload_n C dX5_setRandom_15 0 rfl ?_
    refine k_iconst (v := 1) C dX5_setRandom_16 (by decide) ?_
    refine k_callVi (st := []) C hE (c_X5_refuse l F hA nw hi sv 0 cd ha 1  _ h) (cwV 1 C.2.2.2.2 gX5_setRandom_X5_refuse rfl rfl rfl (by decide +kernel) ⟨Nat.le_of_ble_eq_true rfl, Nat.le_of_ble_eq_true rfl⟩) (fun H hP => va_recv hE.1 (k_one (mst_Mo ((focM_g F) H hP))) rfl (q0 := 0) rfl) rfl rfl (Nat.le_of_ble_eq_true rfl) dX5_setRandom_17 ⟨Nat.zero_le _, Nat.zero_le _⟩ (fun r6 => ?_)
    refine k_ex (fun th_7 => k_and (fun h => ?_))
    exact k_iret C hr hlk dX5_setRandom_20 (fun H hP => ⟨nw, hi, sv, th_7, h, hP⟩)
noncomputable def wp_X5_setUp (nw : Nat → Int32) (hi : Nat → Int32) (sv : Int32) (srv : Int32) (up : Int32) (k : Int32 → (Nat → Int32) → (Nat → Int32) → Int32 → Int32 → Prop) : Prop := wp_X5_isServer nw srv (fun r1 => (r1 = 0 → (k 0 nw hi sv 1)) ∧ (¬ r1 = 0 → (wp_X5_save nw hi sv (fun hi_3 sv_4 => wp_X5_isUp nw srv (fun r5 => (up = 0 → ((vp_in (9 + srv) 893) ∧ (∀ nw_8 : Nat → Int32, nw_8 = upd nw (9 + srv).toNatClampNeg 0 → ((up = 0 → ((up = 0 → (wp_X5_leave nw_8 srv (fun nw_12 => (narrow .boolean (.int r5) = .int r5) ∧ (k r5 nw_12 hi_3 sv_4 0)))) ∧ (¬ up = 0 → ((narrow .boolean (.int r5) = .int r5) ∧ (k r5 nw_8 hi_3 sv_4 0))))) ∧ (¬ (up = 0) → ((r5 = 0 → (wp_X5_lengthOf nw_8 srv (fun r19 => (r19 = 0 → (wp_X5_register nw_8 srv (fun nw_25 => (up = 0 → (wp_X5_leave nw_25 srv (fun nw_28 => (narrow .boolean (.int r5) = .int r5) ∧ (k r5 nw_28 hi_3 sv_4 0)))) ∧ (¬ up = 0 → ((narrow .boolean (.int r5) = .int r5) ∧ (k r5 nw_25 hi_3 sv_4 0)))))) ∧ (¬ r19 = 0 → ((up = 0 → (wp_X5_leave nw_8 srv (fun nw_23 => (narrow .boolean (.int r5) = .int r5) ∧ (k r5 nw_23 hi_3 sv_4 0)))) ∧ (¬ up = 0 → ((narrow .boolean (.int r5) = .int r5) ∧ (k r5 nw_8 hi_3 sv_4 0)))))))) ∧ (¬ r5 = 0 → ((up = 0 → (wp_X5_leave nw_8 srv (fun nw_17 => (narrow .boolean (.int r5) = .int r5) ∧ (k r5 nw_17 hi_3 sv_4 0)))) ∧ (¬ up = 0 → ((narrow .boolean (.int r5) = .int r5) ∧ (k r5 nw_8 hi_3 sv_4 0))))))))))) ∧ (¬ (up = 0) → ((vp_in (9 + srv) 893) ∧ (∀ nw_31 : Nat → Int32, nw_31 = upd nw (9 + srv).toNatClampNeg 1 → ((up = 0 → ((up = 0 → (wp_X5_leave nw_31 srv (fun nw_35 => (narrow .boolean (.int r5) = .int r5) ∧ (k r5 nw_35 hi_3 sv_4 0)))) ∧ (¬ up = 0 → ((narrow .boolean (.int r5) = .int r5) ∧ (k r5 nw_31 hi_3 sv_4 0))))) ∧ (¬ (up = 0) → ((r5 = 0 → (wp_X5_lengthOf nw_31 srv (fun r42 => (r42 = 0 → (wp_X5_register nw_31 srv (fun nw_48 => (up = 0 → (wp_X5_leave nw_48 srv (fun nw_51 => (narrow .boolean (.int r5) = .int r5) ∧ (k r5 nw_51 hi_3 sv_4 0)))) ∧ (¬ up = 0 → ((narrow .boolean (.int r5) = .int r5) ∧ (k r5 nw_48 hi_3 sv_4 0)))))) ∧ (¬ r42 = 0 → ((up = 0 → (wp_X5_leave nw_31 srv (fun nw_46 => (narrow .boolean (.int r5) = .int r5) ∧ (k r5 nw_46 hi_3 sv_4 0)))) ∧ (¬ up = 0 → ((narrow .boolean (.int r5) = .int r5) ∧ (k r5 nw_31 hi_3 sv_4 0)))))))) ∧ (¬ r5 = 0 → ((up = 0 → (wp_X5_leave nw_31 srv (fun nw_40 => (narrow .boolean (.int r5) = .int r5) ∧ (k r5 nw_40 hi_3 sv_4 0)))) ∧ (¬ up = 0 → ((narrow .boolean (.int r5) = .int r5) ∧ (k r5 nw_31 hi_3 sv_4 0))))))))))))))))
set_option maxRecDepth 100000 in
set_option maxHeartbeats 4000000 in
theorem c_X5_setUp (l : Launch) {E : EV} {o : Nat} {P : PM} {A : Nat → Prop} (F : FocM E o P) (hA : ∀ q, inMo o q → A q) (nw : Nat → Int32) (hi : Nat → Int32) (sv : Int32) (th : Int32) (cd : Nat → Int32) (ha : Int64) (srv : Int32) (up : Int32)  (k : Int32 → (Nat → Int32) → (Nat → Int32) → Int32 → Int32 → Prop) (h : wp_X5_setUp nw hi sv srv up k) : Met l yX5_setUp wsX5_setUp { frames := 2, cells := 0, slots := 0, locals := 49 } (va_Pc [.ref o, .int srv, .int up] (fun U => P nw hi sv th cd ha U.heap ∧ XE E U)) (kQi (fun r H => ∃ nw9 : Nat → Int32, ∃ hi9 : Nat → Int32, ∃ sv9 : Int32, ∃ th9 : Int32, k r nw9 hi9 sv9 th9 ∧ P nw9 hi9 sv9 th9 cd ha H) A) 0 0 A := by
  refine k_body (cc := cX5_setUp) (own := RX5) (maxL := 4) (ret := (some .boolean)) (lv0 := [(0, .ref o), (1, .int srv), (2, .int up)]) (by decide) rfl rfl (Nat.le_of_ble_eq_true rfl) rfl (fun p e s m below meth c C hr hlk hP hE => ?_)
  have hi5 : ∀ w ∈ u_ws RX5 TX5 6, w ∈ wsX5_setUp := by decide +kernel
  have lk0 := C.2.2.2.2 (.fieldLink RX5 19 "IdleDispatcherModel" "thrown" "I") (by decide +kernel)
  have lk1 := C.2.2.2.2 (.fieldLink RX5 7 "IdleDispatcherModel" "now" "[I") (by decide +kernel)
  refine k_aload_n C dX5_setUp_0 0 rfl ?_
  refine k_iconst (v := 0) C dX5_setUp_1 (by decide) ?_
  refine mp_th C F hA hE.1 hi5 lk0 dX5_setUp_2 ?_
  refine k_aload_n C dX5_setUp_5 0 rfl ?_
  refine k_iload_n C dX5_setUp_6 1 rfl ?_
  refine k_callVi (st := []) C hE (c_X5_isServer l F hA nw hi sv 0 cd ha srv  _ h) (cwV 1 C.2.2.2.2 gX5_setUp_X5_isServer rfl rfl rfl (by decide +kernel) ⟨Nat.le_of_ble_eq_true rfl, Nat.le_of_ble_eq_true rfl⟩) (fun H hP => va_recv hE.1 (k_one (mst_Mo ((focM_g F) H hP))) rfl (q0 := 0) rfl) rfl rfl (Nat.le_of_ble_eq_true rfl) dX5_setUp_7 ⟨Nat.zero_le _, Nat.zero_le _⟩ (fun r1 => ?_)
  refine k_and (fun h => ?_)
  refine k_if_ne (tgt := 20) C dX5_setUp_10 (by decide) (fun c2 => ?_) (fun c2 => ?_)
  · replace h := h.2 c2
    refine k_aload_n C dX5_setUp_20 0 rfl ?_
    refine k_callVv (st := []) C hE (c_X5_save l F hA nw hi sv 0 cd ha   _ h) (cwV 0 C.2.2.2.2 gX5_setUp_X5_save rfl rfl rfl (by decide +kernel) ⟨Nat.le_of_ble_eq_true rfl, Nat.le_of_ble_eq_true rfl⟩) (fun H hP => va_recv hE.1 (k_one (mst_Mo ((focM_g F) H hP))) rfl (q0 := 0) rfl) rfl rfl (Nat.le_of_ble_eq_true rfl) dX5_setUp_21 ⟨Nat.zero_le _, Nat.zero_le _⟩ (fun _ => ?_)
    refine k_ex (fun hi_3 => k_ex (fun sv_4 => k_and (fun h => ?_)))
    refine k_aload_n C dX5_setUp_24 0 rfl ?_
    refine k_iload_n C dX5_setUp_25 1 rfl ?_
    refine k_callVi (st := []) C hE (c_X5_isUp l F hA nw hi_3 sv_4 0 cd ha srv  _ h) (cwV 1 C.2.2.2.2 gX5_setUp_X5_isUp rfl rfl rfl (by decide +kernel) ⟨Nat.le_of_ble_eq_true rfl, Nat.le_of_ble_eq_true rfl⟩) (fun H hP => va_recv hE.1 (k_one (mst_Mo ((focM_g F) H hP))) rfl (q0 := 0) rfl) rfl rfl (Nat.le_of_ble_eq_true rfl) dX5_setUp_26 ⟨Nat.zero_le _, Nat.zero_le _⟩ (fun r5 => ?_)
    refine k_and (fun h => ?_)
    refine k_istore_n (lv' := [(3, .int r5), (0, .ref o), (1, .int srv), (2, .int up)]) C dX5_setUp_29 rfl (by decide) rfl ?_
    refine k_aload_n C dX5_setUp_30 1 rfl ?_
    refine mg_Mo_now C (focM_g F) hE.1 hi5 lk1 dX5_setUp_31 ?_
    refine k_bipush (v := 9) C dX5_setUp_34 (by decide) ?_
    refine k_iload_n C dX5_setUp_36 2 rfl ?_
    refine k_iadd C dX5_setUp_37 ?_
    refine k_iload_n C dX5_setUp_38 3 rfl ?_
    refine k_if_eq (tgt := 46) C dX5_setUp_39 (by decide) (fun c6 => ?_) (fun c6 => ?_)
    · replace h := h.1 c6
      refine k_iconst (v := 0) C dX5_setUp_46 (by decide) ?_
      obtain ⟨q7, h⟩ := h
      obtain ⟨nw_8, enw_8⟩ : ∃ z : Nat → Int32, z = upd nw (9 + srv).toNatClampNeg 0 := ⟨_, rfl⟩
      replace h := h nw_8 enw_8
      refine mp_nw C F hA hE.1 q7 enw_8 dX5_setUp_47 ?_
      refine k_iload_n C dX5_setUp_48 3 rfl ?_
      refine k_if_eq (tgt := 69) C dX5_setUp_49 (by decide) (fun c9 => ?_) (fun c9 => ?_)
      · replace h := h.1 c9
        refine k_iload_n C dX5_setUp_69 3 rfl ?_
        refine k_if_ne (tgt := 78) C dX5_setUp_70 (by decide) (fun c10 => ?_) (fun c10 => ?_)
        · replace h := h.2 c10
          refine k_iload_n C dX5_setUp_78 0 rfl ?_
          obtain ⟨q11, h⟩ := h
          exact k_zret C hr hlk q11 dX5_setUp_79 (fun H hP => ⟨nw_8, hi_3, sv_4, 0, h, hP⟩)
        · replace h := h.1 c10
          refine k_aload_n C dX5_setUp_73 1 rfl ?_
          refine k_iload_n C dX5_setUp_74 2 rfl ?_
          refine k_callVv (st := []) C hE (c_X5_leave l F hA nw_8 hi_3 sv_4 0 cd ha srv  _ h) (cwV 1 C.2.2.2.2 gX5_setUp_X5_leave rfl rfl rfl (by decide +kernel) ⟨Nat.le_of_ble_eq_true rfl, Nat.le_of_ble_eq_true rfl⟩) (fun H hP => va_recv hE.1 (k_one (mst_Mo ((focM_g F) H hP))) rfl (q0 := 0) rfl) rfl rfl (Nat.le_of_ble_eq_true rfl) dX5_setUp_75 ⟨Nat.zero_le _, Nat.zero_le _⟩ (fun _ => ?_)
          refine k_ex (fun nw_12 => k_and (fun h => ?_))
          refine k_iload_n C dX5_setUp_78 0 rfl ?_
          obtain ⟨q13, h⟩ := h
          exact k_zret C hr hlk q13 dX5_setUp_79 (fun H hP => ⟨nw_12, hi_3, sv_4, 0, h, hP⟩)
      · replace h := h.2 c9
        refine k_iload_n C dX5_setUp_52 0 rfl ?_
        refine k_if_ne (tgt := 69) C dX5_setUp_53 (by decide) (fun c14 => ?_) (fun c14 => ?_)
        · replace h := h.2 c14
          refine k_iload_n C dX5_setUp_69 3 rfl ?_
          refine k_if_ne (tgt := 78) C dX5_setUp_70 (by decide) (fun c15 => ?_) (fun c15 => ?_)
          · replace h := h.2 c15
            refine k_iload_n C dX5_setUp_78 0 rfl ?_
            obtain ⟨q16, h⟩ := h
            exact k_zret C hr hlk q16 dX5_setUp_79 (fun H hP => ⟨nw_8, hi_3, sv_4, 0, h, hP⟩)
          · replace h := h.1 c15
            refine k_aload_n C dX5_setUp_73 1 rfl ?_
            refine k_iload_n C dX5_setUp_74 2 rfl ?_
            refine k_callVv (st := []) C hE (c_X5_leave l F hA nw_8 hi_3 sv_4 0 cd ha srv  _ h) (cwV 1 C.2.2.2.2 gX5_setUp_X5_leave rfl rfl rfl (by decide +kernel) ⟨Nat.le_of_ble_eq_true rfl, Nat.le_of_ble_eq_true rfl⟩) (fun H hP => va_recv hE.1 (k_one (mst_Mo ((focM_g F) H hP))) rfl (q0 := 0) rfl) rfl rfl (Nat.le_of_ble_eq_true rfl) dX5_setUp_75 ⟨Nat.zero_le _, Nat.zero_le _⟩ (fun _ => ?_)
            refine k_ex (fun nw_17 => k_and (fun h => ?_))
            refine k_iload_n C dX5_setUp_78 0 rfl ?_
            obtain ⟨q18, h⟩ := h
            exact k_zret C hr hlk q18 dX5_setUp_79 (fun H hP => ⟨nw_17, hi_3, sv_4, 0, h, hP⟩)
        · replace h := h.1 c14
          refine k_aload_n C dX5_setUp_56 1 rfl ?_
          refine k_iload_n C dX5_setUp_57 2 rfl ?_
          refine k_callVi (st := []) C hE (c_X5_lengthOf l F hA nw_8 hi_3 sv_4 0 cd ha srv  _ h) (cwV 1 C.2.2.2.2 gX5_setUp_X5_lengthOf rfl rfl rfl (by decide +kernel) ⟨Nat.le_of_ble_eq_true rfl, Nat.le_of_ble_eq_true rfl⟩) (fun H hP => va_recv hE.1 (k_one (mst_Mo ((focM_g F) H hP))) rfl (q0 := 0) rfl) rfl rfl (Nat.le_of_ble_eq_true rfl) dX5_setUp_58 ⟨Nat.zero_le _, Nat.zero_le _⟩ (fun r19 => ?_)
          refine k_and (fun h => ?_)
          refine k_if_ne (tgt := 69) C dX5_setUp_61 (by decide) (fun c20 => ?_) (fun c20 => ?_)
          · replace h := h.2 c20
            refine k_iload_n C dX5_setUp_69 3 rfl ?_
            refine k_if_ne (tgt := 78) C dX5_setUp_70 (by decide) (fun c21 => ?_) (fun c21 => ?_)
            · replace h := h.2 c21
              refine k_iload_n C dX5_setUp_78 0 rfl ?_
              obtain ⟨q22, h⟩ := h
              exact k_zret C hr hlk q22 dX5_setUp_79 (fun H hP => ⟨nw_8, hi_3, sv_4, 0, h, hP⟩)
            · replace h := h.1 c21
              refine k_aload_n C dX5_setUp_73 1 rfl ?_
              refine k_iload_n C dX5_setUp_74 2 rfl ?_
              refine k_callVv (st := []) C hE (c_X5_leave l F hA nw_8 hi_3 sv_4 0 cd ha srv  _ h) (cwV 1 C.2.2.2.2 gX5_setUp_X5_leave rfl rfl rfl (by decide +kernel) ⟨Nat.le_of_ble_eq_true rfl, Nat.le_of_ble_eq_true rfl⟩) (fun H hP => va_recv hE.1 (k_one (mst_Mo ((focM_g F) H hP))) rfl (q0 := 0) rfl) rfl rfl (Nat.le_of_ble_eq_true rfl) dX5_setUp_75 ⟨Nat.zero_le _, Nat.zero_le _⟩ (fun _ => ?_)
              refine k_ex (fun nw_23 => k_and (fun h => ?_))
              refine k_iload_n C dX5_setUp_78 0 rfl ?_
              obtain ⟨q24, h⟩ := h
              exact k_zret C hr hlk q24 dX5_setUp_79 (fun H hP => ⟨nw_23, hi_3, sv_4, 0, h, hP⟩)
          · replace h := h.1 c20
            refine k_aload_n C dX5_setUp_64 1 rfl ?_
            refine k_iload_n C dX5_setUp_65 2 rfl ?_
            refine k_callVv (st := []) C hE (c_X5_register l F hA nw_8 hi_3 sv_4 0 cd ha srv  _ h) (cwV 1 C.2.2.2.2 gX5_setUp_X5_register rfl rfl rfl (by decide +kernel) ⟨Nat.le_of_ble_eq_true rfl, Nat.le_of_ble_eq_true rfl⟩) (fun H hP => va_recv hE.1 (k_one (mst_Mo ((focM_g F) H hP))) rfl (q0 := 0) rfl) rfl rfl (Nat.le_of_ble_eq_true rfl) dX5_setUp_66 ⟨Nat.zero_le _, Nat.zero_le _⟩ (fun _ => ?_)
            refine k_ex (fun nw_25 => k_and (fun h => ?_))
            refine k_iload_n C dX5_setUp_69 3 rfl ?_
            refine k_if_ne (tgt := 78) C dX5_setUp_70 (by decide) (fun c26 => ?_) (fun c26 => ?_)
            · replace h := h.2 c26
              refine k_iload_n C dX5_setUp_78 0 rfl ?_
              obtain ⟨q27, h⟩ := h
              exact k_zret C hr hlk q27 dX5_setUp_79 (fun H hP => ⟨nw_25, hi_3, sv_4, 0, h, hP⟩)
            · replace h := h.1 c26
              refine k_aload_n C dX5_setUp_73 1 rfl ?_
              refine k_iload_n C dX5_setUp_74 2 rfl ?_
              refine k_callVv (st := []) C hE (c_X5_leave l F hA nw_25 hi_3 sv_4 0 cd ha srv  _ h) (cwV 1 C.2.2.2.2 gX5_setUp_X5_leave rfl rfl rfl (by decide +kernel) ⟨Nat.le_of_ble_eq_true rfl, Nat.le_of_ble_eq_true rfl⟩) (fun H hP => va_recv hE.1 (k_one (mst_Mo ((focM_g F) H hP))) rfl (q0 := 0) rfl) rfl rfl (Nat.le_of_ble_eq_true rfl) dX5_setUp_75 ⟨Nat.zero_le _, Nat.zero_le _⟩ (fun _ => ?_)
              refine k_ex (fun nw_28 => k_and (fun h => ?_))
              refine k_iload_n C dX5_setUp_78 0 rfl ?_
              obtain ⟨q29, h⟩ := h
              exact k_zret C hr hlk q29 dX5_setUp_79 (fun H hP => ⟨nw_28, hi_3, sv_4, 0, h, hP⟩)
    · replace h := h.2 c6
      refine k_iconst (v := 1) C dX5_setUp_42 (by decide) ?_
      refine k_goto (tgt := 47) C dX5_setUp_43 (by decide) ?_
      obtain ⟨q30, h⟩ := h
      obtain ⟨nw_31, enw_31⟩ : ∃ z : Nat → Int32, z = upd nw (9 + srv).toNatClampNeg 1 := ⟨_, rfl⟩
      replace h := h nw_31 enw_31
      refine mp_nw C F hA hE.1 q30 enw_31 dX5_setUp_47 ?_
      refine k_iload_n C dX5_setUp_48 3 rfl ?_
      refine k_if_eq (tgt := 69) C dX5_setUp_49 (by decide) (fun c32 => ?_) (fun c32 => ?_)
      · replace h := h.1 c32
        refine k_iload_n C dX5_setUp_69 3 rfl ?_
        refine k_if_ne (tgt := 78) C dX5_setUp_70 (by decide) (fun c33 => ?_) (fun c33 => ?_)
        · replace h := h.2 c33
          refine k_iload_n C dX5_setUp_78 0 rfl ?_
          obtain ⟨q34, h⟩ := h
          exact k_zret C hr hlk q34 dX5_setUp_79 (fun H hP => ⟨nw_31, hi_3, sv_4, 0, h, hP⟩)
        · replace h := h.1 c33
          refine k_aload_n C dX5_setUp_73 1 rfl ?_
          refine k_iload_n C dX5_setUp_74 2 rfl ?_
          refine k_callVv (st := []) C hE (c_X5_leave l F hA nw_31 hi_3 sv_4 0 cd ha srv  _ h) (cwV 1 C.2.2.2.2 gX5_setUp_X5_leave rfl rfl rfl (by decide +kernel) ⟨Nat.le_of_ble_eq_true rfl, Nat.le_of_ble_eq_true rfl⟩) (fun H hP => va_recv hE.1 (k_one (mst_Mo ((focM_g F) H hP))) rfl (q0 := 0) rfl) rfl rfl (Nat.le_of_ble_eq_true rfl) dX5_setUp_75 ⟨Nat.zero_le _, Nat.zero_le _⟩ (fun _ => ?_)
          refine k_ex (fun nw_35 => k_and (fun h => ?_))
          refine k_iload_n C dX5_setUp_78 0 rfl ?_
          obtain ⟨q36, h⟩ := h
          exact k_zret C hr hlk q36 dX5_setUp_79 (fun H hP => ⟨nw_35, hi_3, sv_4, 0, h, hP⟩)
      · replace h := h.2 c32
        refine k_iload_n C dX5_setUp_52 0 rfl ?_
        refine k_if_ne (tgt := 69) C dX5_setUp_53 (by decide) (fun c37 => ?_) (fun c37 => ?_)
        · replace h := h.2 c37
          refine k_iload_n C dX5_setUp_69 3 rfl ?_
          refine k_if_ne (tgt := 78) C dX5_setUp_70 (by decide) (fun c38 => ?_) (fun c38 => ?_)
          · replace h := h.2 c38
            refine k_iload_n C dX5_setUp_78 0 rfl ?_
            obtain ⟨q39, h⟩ := h
            exact k_zret C hr hlk q39 dX5_setUp_79 (fun H hP => ⟨nw_31, hi_3, sv_4, 0, h, hP⟩)
          · replace h := h.1 c38
            refine k_aload_n C dX5_setUp_73 1 rfl ?_
            refine k_iload_n C dX5_setUp_74 2 rfl ?_
            refine k_callVv (st := []) C hE (c_X5_leave l F hA nw_31 hi_3 sv_4 0 cd ha srv  _ h) (cwV 1 C.2.2.2.2 gX5_setUp_X5_leave rfl rfl rfl (by decide +kernel) ⟨Nat.le_of_ble_eq_true rfl, Nat.le_of_ble_eq_true rfl⟩) (fun H hP => va_recv hE.1 (k_one (mst_Mo ((focM_g F) H hP))) rfl (q0 := 0) rfl) rfl rfl (Nat.le_of_ble_eq_true rfl) dX5_setUp_75 ⟨Nat.zero_le _, Nat.zero_le _⟩ (fun _ => ?_)
            refine k_ex (fun nw_40 => k_and (fun h => ?_))
            refine k_iload_n C dX5_setUp_78 0 rfl ?_
            obtain ⟨q41, h⟩ := h
            exact k_zret C hr hlk q41 dX5_setUp_79 (fun H hP => ⟨nw_40, hi_3, sv_4, 0, h, hP⟩)
        · replace h := h.1 c37
          refine k_aload_n C dX5_setUp_56 1 rfl ?_
          refine k_iload_n C dX5_setUp_57 2 rfl ?_
          refine k_callVi (st := []) C hE (c_X5_lengthOf l F hA nw_31 hi_3 sv_4 0 cd ha srv  _ h) (cwV 1 C.2.2.2.2 gX5_setUp_X5_lengthOf rfl rfl rfl (by decide +kernel) ⟨Nat.le_of_ble_eq_true rfl, Nat.le_of_ble_eq_true rfl⟩) (fun H hP => va_recv hE.1 (k_one (mst_Mo ((focM_g F) H hP))) rfl (q0 := 0) rfl) rfl rfl (Nat.le_of_ble_eq_true rfl) dX5_setUp_58 ⟨Nat.zero_le _, Nat.zero_le _⟩ (fun r42 => ?_)
          refine k_and (fun h => ?_)
          refine k_if_ne (tgt := 69) C dX5_setUp_61 (by decide) (fun c43 => ?_) (fun c43 => ?_)
          · replace h := h.2 c43
            refine k_iload_n C dX5_setUp_69 3 rfl ?_
            refine k_if_ne (tgt := 78) C dX5_setUp_70 (by decide) (fun c44 => ?_) (fun c44 => ?_)
            · replace h := h.2 c44
              refine k_iload_n C dX5_setUp_78 0 rfl ?_
              obtain ⟨q45, h⟩ := h
              exact k_zret C hr hlk q45 dX5_setUp_79 (fun H hP => ⟨nw_31, hi_3, sv_4, 0, h, hP⟩)
            · replace h := h.1 c44
              refine k_aload_n C dX5_setUp_73 1 rfl ?_
              refine k_iload_n C dX5_setUp_74 2 rfl ?_
              refine k_callVv (st := []) C hE (c_X5_leave l F hA nw_31 hi_3 sv_4 0 cd ha srv  _ h) (cwV 1 C.2.2.2.2 gX5_setUp_X5_leave rfl rfl rfl (by decide +kernel) ⟨Nat.le_of_ble_eq_true rfl, Nat.le_of_ble_eq_true rfl⟩) (fun H hP => va_recv hE.1 (k_one (mst_Mo ((focM_g F) H hP))) rfl (q0 := 0) rfl) rfl rfl (Nat.le_of_ble_eq_true rfl) dX5_setUp_75 ⟨Nat.zero_le _, Nat.zero_le _⟩ (fun _ => ?_)
              refine k_ex (fun nw_46 => k_and (fun h => ?_))
              refine k_iload_n C dX5_setUp_78 0 rfl ?_
              obtain ⟨q47, h⟩ := h
              exact k_zret C hr hlk q47 dX5_setUp_79 (fun H hP => ⟨nw_46, hi_3, sv_4, 0, h, hP⟩)
          · replace h := h.1 c43
            refine k_aload_n C dX5_setUp_64 1 rfl ?_
            refine k_iload_n C dX5_setUp_65 2 rfl ?_
            refine k_callVv (st := []) C hE (c_X5_register l F hA nw_31 hi_3 sv_4 0 cd ha srv  _ h) (cwV 1 C.2.2.2.2 gX5_setUp_X5_register rfl rfl rfl (by decide +kernel) ⟨Nat.le_of_ble_eq_true rfl, Nat.le_of_ble_eq_true rfl⟩) (fun H hP => va_recv hE.1 (k_one (mst_Mo ((focM_g F) H hP))) rfl (q0 := 0) rfl) rfl rfl (Nat.le_of_ble_eq_true rfl) dX5_setUp_66 ⟨Nat.zero_le _, Nat.zero_le _⟩ (fun _ => ?_)
            refine k_ex (fun nw_48 => k_and (fun h => ?_))
            refine k_iload_n C dX5_setUp_69 3 rfl ?_
            refine k_if_ne (tgt := 78) C dX5_setUp_70 (by decide) (fun c49 => ?_) (fun c49 => ?_)
            · replace h := h.2 c49
              refine k_iload_n C dX5_setUp_78 0 rfl ?_
              obtain ⟨q50, h⟩ := h
              exact k_zret C hr hlk q50 dX5_setUp_79 (fun H hP => ⟨nw_48, hi_3, sv_4, 0, h, hP⟩)
            · replace h := h.1 c49
              refine k_aload_n C dX5_setUp_73 1 rfl ?_
              refine k_iload_n C dX5_setUp_74 2 rfl ?_
              refine k_callVv (st := []) C hE (c_X5_leave l F hA nw_48 hi_3 sv_4 0 cd ha srv  _ h) (cwV 1 C.2.2.2.2 gX5_setUp_X5_leave rfl rfl rfl (by decide +kernel) ⟨Nat.le_of_ble_eq_true rfl, Nat.le_of_ble_eq_true rfl⟩) (fun H hP => va_recv hE.1 (k_one (mst_Mo ((focM_g F) H hP))) rfl (q0 := 0) rfl) rfl rfl (Nat.le_of_ble_eq_true rfl) dX5_setUp_75 ⟨Nat.zero_le _, Nat.zero_le _⟩ (fun _ => ?_)
              refine k_ex (fun nw_51 => k_and (fun h => ?_))
              refine k_iload_n C dX5_setUp_78 0 rfl ?_
              obtain ⟨q52, h⟩ := h
              exact k_zret C hr hlk q52 dX5_setUp_79 (fun H hP => ⟨nw_51, hi_3, sv_4, 0, h, hP⟩)
  · replace h := h.1 c2
    refine k_aload_n C dX5_setUp_13 0 rfl ?_
    refine k_iconst (v := 1) C dX5_setUp_14 (by decide) ?_
    refine mp_th C F hA hE.1 hi5 lk0 dX5_setUp_15 ?_
    refine k_iconst (v := 0) C dX5_setUp_18 (by decide) ?_
    exact k_zret C hr hlk rfl dX5_setUp_19 (fun H hP => ⟨nw, hi, sv, 1, h, hP⟩)
noncomputable def wp_X5_findCandidates_L4 (nw : Nat → Int32) (k : Int32 → (Nat → Int32) → Prop) (fu : Nat) : Int32 → Int32 → (Nat → Int32) → Prop := Nat.rec (motive := fun _ => Int32 → Int32 → (Nat → Int32) → Prop) (fun _ _ _ => False) (fun _ rec4 x1 x2 cd_3 => ((nw 4) ≤ x1 → (k x2 cd_3)) ∧ (¬ ((nw 4) ≤ x1) → (wp_X5_isUp nw x1 (fun r5 => (r5 = 0 → (∀ x7 : Int32, x7 = x1 + 1 → (rec4 x7 x2 cd_3))) ∧ (¬ (r5 = 0) → ((vp_in x2 8) ∧ (∀ cd_9 : Nat → Int32, cd_9 = upd cd_3 x2.toNatClampNeg x1 → (∀ x10 : Int32, x10 = x2 + 1 → (∀ x11 : Int32, x11 = x1 + 1 → (rec4 x11 x10 cd_9)))))))))) fu
noncomputable def wp_X5_findCandidates (nw : Nat → Int32) (cd : Nat → Int32) (k : Int32 → (Nat → Int32) → Prop) : Prop := ∃ fu, wp_X5_findCandidates_L4 nw k fu 0 0 cd
set_option maxRecDepth 100000 in
set_option maxHeartbeats 4000000 in
theorem c_X5_findCandidates (l : Launch) {E : EV} {o : Nat} {P : PM} {A : Nat → Prop} (F : FocM E o P) (hA : ∀ q, inMo o q → A q) (nw : Nat → Int32) (hi : Nat → Int32) (sv : Int32) (th : Int32) (cd : Nat → Int32) (ha : Int64)   (k : Int32 → (Nat → Int32) → Prop) (h : wp_X5_findCandidates nw cd  k) : Met l yX5_findCandidates wsX5_findCandidates { frames := 1, cells := 0, slots := 0, locals := 21 } (va_Pc [.ref o] (fun U => P nw hi sv th cd ha U.heap ∧ XE E U)) (kQi (fun r H => ∃ cd9 : Nat → Int32, k r cd9 ∧ P nw hi sv th cd9 ha H) A) 0 0 A := by
  refine k_body (cc := cX5_findCandidates) (own := RX5) (maxL := 3) (ret := (some .int)) (lv0 := [(0, .ref o)]) (by decide) rfl rfl (Nat.le_of_ble_eq_true rfl) rfl (fun p e s m below meth c C hr hlk hP hE => ?_)
  have hi5 : ∀ w ∈ u_ws RX5 TX5 6, w ∈ wsX5_findCandidates := by decide +kernel
  have lk0 := C.2.2.2.2 (.fieldLink RX5 7 "IdleDispatcherModel" "now" "[I") (by decide +kernel)
  have lk1 := C.2.2.2.2 (.fieldLink RX5 16 "IdleDispatcherModel" "candidates" "[I") (by decide +kernel)
  refine k_iconst (v := 0) C dX5_findCandidates_0 (by decide) ?_
  refine k_istore_n (lv' := [(1, .int 0), (0, .ref o)]) C dX5_findCandidates_1 rfl (by decide) rfl ?_
  refine k_iconst (v := 0) C dX5_findCandidates_2 (by decide) ?_
  refine k_istore_n (lv' := [(2, .int 0), (1, .int 0), (0, .ref o)]) C dX5_findCandidates_3 rfl (by decide) rfl ?_
  obtain ⟨n4, h⟩ := h
  refine k_pc (pc2 := 4) rfl ?_
  refine k_loop3 (wp_X5_findCandidates_L4 nw k) (fun x1 x2 cd_3 => P nw hi sv th cd_3 ha) (fun x1 x2 cd_3 => [(2, .int x1), (1, .int x2), (0, .ref o)]) (fun _ _ _ h => h) (fun n4 ih4 x1 x2 cd_3 h => ?_) n4 _ _ _ h
  refine k_iload_n C dX5_findCandidates_4 0 rfl ?_
  refine k_aload_n C dX5_findCandidates_5 2 rfl ?_
  refine mg_Mo_now C (focM_g F) hE.1 hi5 lk0 dX5_findCandidates_6 ?_
  refine k_iconst (v := 4) C dX5_findCandidates_9 (by decide) ?_
  refine mg_nw C (focM_g F) hE.1 (vp_lit (i := 4) (n := 893) (by decide)) dX5_findCandidates_10 ?_
  refine k_icmp_ge (tgt := 38) C dX5_findCandidates_11 (by decide) (fun c4 => ?_) (fun c4 => ?_)
  · replace h := h.1 c4
    refine k_iload_n C dX5_findCandidates_38 1 rfl ?_
    exact k_iret C hr hlk dX5_findCandidates_39 (fun H hP => ⟨cd_3, h, hP⟩)
  · replace h := h.2 c4
    refine k_aload_n C dX5_findCandidates_14 2 rfl ?_
    refine k_iload_n C dX5_findCandidates_15 0 rfl ?_
    refine k_callVi (st := []) C hE (c_X5_isUp l F hA nw hi sv th cd_3 ha x1  _ h) (cwV 1 C.2.2.2.2 gX5_findCandidates_X5_isUp rfl rfl rfl (by decide +kernel) ⟨Nat.le_of_ble_eq_true rfl, Nat.le_of_ble_eq_true rfl⟩) (fun H hP => va_recv hE.1 (k_one (mst_Mo ((focM_g F) H hP))) rfl (q0 := 0) rfl) rfl rfl (Nat.le_of_ble_eq_true rfl) dX5_findCandidates_16 ⟨Nat.zero_le _, Nat.zero_le _⟩ (fun r5 => ?_)
    refine k_and (fun h => ?_)
    refine k_if_eq (tgt := 32) C dX5_findCandidates_19 (by decide) (fun c6 => ?_) (fun c6 => ?_)
    · replace h := h.1 c6
      obtain ⟨x7, ex7⟩ : ∃ z : Int32, z = x1 + 1 := ⟨_, rfl⟩
      replace h := h x7 ex7
      refine k_iinc (v := x7) (lv' := [(2, .int x7), (1, .int x2), (0, .ref o)]) (j := 0) C dX5_findCandidates_32 rfl (by rw [ex7]; rfl) (by decide) rfl ?_
      refine k_goto (tgt := 4) C dX5_findCandidates_35 (by decide) ?_
      refine k_pc (pc2 := 4) rfl ?_
      refine k_sub [0, 1, 2] rfl ?_
      exact ih4 _ _ _ h
    · replace h := h.2 c6
      refine k_aload_n C dX5_findCandidates_22 2 rfl ?_
      refine mg_Mo_candidates C (focM_g F) hE.1 hi5 lk1 dX5_findCandidates_23 ?_
      refine k_iload_n C dX5_findCandidates_26 1 rfl ?_
      refine k_iload_n C dX5_findCandidates_27 0 rfl ?_
      obtain ⟨q8, h⟩ := h
      obtain ⟨cd_9, ecd_9⟩ : ∃ z : Nat → Int32, z = upd cd_3 x2.toNatClampNeg x1 := ⟨_, rfl⟩
      replace h := h cd_9 ecd_9
      refine mp_cd C F hA hE.1 q8 ecd_9 dX5_findCandidates_28 ?_
      obtain ⟨x10, ex10⟩ : ∃ z : Int32, z = x2 + 1 := ⟨_, rfl⟩
      replace h := h x10 ex10
      refine k_iinc (v := x10) (lv' := [(1, .int x10), (2, .int x1), (0, .ref o)]) (j := 1) C dX5_findCandidates_29 rfl (by rw [ex10]; rfl) (by decide) rfl ?_
      obtain ⟨x11, ex11⟩ : ∃ z : Int32, z = x1 + 1 := ⟨_, rfl⟩
      replace h := h x11 ex11
      refine k_iinc (v := x11) (lv' := [(2, .int x11), (1, .int x10), (0, .ref o)]) (j := 1) C dX5_findCandidates_32 rfl (by rw [ex11]; rfl) (by decide) rfl ?_
      refine k_goto (tgt := 4) C dX5_findCandidates_35 (by decide) ?_
      refine k_pc (pc2 := 4) rfl ?_
      refine k_sub [0, 1, 2] rfl ?_
      exact ih4 _ _ _ h
noncomputable def wp_X5_nextInTurn_L2 (n : Int32) (k : Int32 → Prop) (cd : Nat → Int32) (dsp : Int32) (nw : Nat → Int32) (fu : Nat) : Int32 → Prop := Nat.rec (motive := fun _ => Int32 → Prop) (fun _ => False) (fun _ rec2 x1 => (n ≤ x1 → (k (cd 0))) ∧ (¬ (n ≤ x1) → ((vp_in x1 8) ∧ ((vp_in (21 + dsp) 893) ∧ (((cd x1.toNatClampNeg) < (nw (21 + dsp).toNatClampNeg) → (∀ x6 : Int32, x6 = x1 + 1 → (rec2 x6))) ∧ (¬ ((cd x1.toNatClampNeg) < (nw (21 + dsp).toNatClampNeg)) → (k (cd x1.toNatClampNeg)))))))) fu
noncomputable def wp_X5_nextInTurn (nw : Nat → Int32) (cd : Nat → Int32) (dsp : Int32) (n : Int32) (k : Int32 → Prop) : Prop := ∃ fu, wp_X5_nextInTurn_L2 n k cd dsp nw fu 0
set_option maxRecDepth 100000 in
set_option maxHeartbeats 4000000 in
theorem c_X5_nextInTurn (l : Launch) {E : EV} {o : Nat} {P : PM} {A : Nat → Prop} (F : FocM E o P) (hA : ∀ q, inMo o q → A q) (nw : Nat → Int32) (hi : Nat → Int32) (sv : Int32) (th : Int32) (cd : Nat → Int32) (ha : Int64) (dsp : Int32) (n : Int32)  (k : Int32 → Prop) (h : wp_X5_nextInTurn nw cd dsp n k) : Met l yX5_nextInTurn wsX5_nextInTurn { frames := 0, cells := 0, slots := 0, locals := 0 } (va_Pc [.ref o, .int dsp, .int n] (fun U => P nw hi sv th cd ha U.heap ∧ XE E U)) (kQi (fun r H => k r ∧ P nw hi sv th cd ha H) A) 0 0 A := by
  refine k_body (cc := cX5_nextInTurn) (own := RX5) (maxL := 4) (ret := (some .int)) (lv0 := [(0, .ref o), (1, .int dsp), (2, .int n)]) (by decide) rfl rfl (Nat.le_of_ble_eq_true rfl) rfl (fun p e s m below meth c C hr hlk hP hE => ?_)
  have hi5 : ∀ w ∈ u_ws RX5 TX5 6, w ∈ wsX5_nextInTurn := by decide +kernel
  have lk0 := C.2.2.2.2 (.fieldLink RX5 16 "IdleDispatcherModel" "candidates" "[I") (by decide +kernel)
  have lk1 := C.2.2.2.2 (.fieldLink RX5 7 "IdleDispatcherModel" "now" "[I") (by decide +kernel)
  refine k_iconst (v := 0) C dX5_nextInTurn_0 (by decide) ?_
  refine k_istore_n (lv' := [(3, .int 0), (0, .ref o), (1, .int dsp), (2, .int n)]) C dX5_nextInTurn_1 rfl (by decide) rfl ?_
  obtain ⟨n2, h⟩ := h
  refine k_pc (pc2 := 2) rfl ?_
  refine k_loop1 (wp_X5_nextInTurn_L2 n k cd dsp nw) (fun x1 => P nw hi sv th cd ha) (fun x1 => [(3, .int x1), (0, .ref o), (1, .int dsp), (2, .int n)]) (fun _ h => h) (fun n2 ih2 x1 h => ?_) n2 _ h
  refine k_iload_n C dX5_nextInTurn_2 0 rfl ?_
  refine k_iload_n C dX5_nextInTurn_3 3 rfl ?_
  refine k_icmp_ge (tgt := 38) C dX5_nextInTurn_4 (by decide) (fun c2 => ?_) (fun c2 => ?_)
  · replace h := h.1 c2
    refine k_aload_n C dX5_nextInTurn_38 1 rfl ?_
    refine mg_Mo_candidates C (focM_g F) hE.1 hi5 lk0 dX5_nextInTurn_39 ?_
    refine k_iconst (v := 0) C dX5_nextInTurn_42 (by decide) ?_
    refine mg_cd C (focM_g F) hE.1 (vp_lit (i := 0) (n := 8) (by decide)) dX5_nextInTurn_43 ?_
    exact k_iret C hr hlk dX5_nextInTurn_44 (fun H hP => ⟨h, hP⟩)
  · replace h := h.2 c2
    refine k_aload_n C dX5_nextInTurn_7 1 rfl ?_
    refine mg_Mo_candidates C (focM_g F) hE.1 hi5 lk0 dX5_nextInTurn_8 ?_
    refine k_iload_n C dX5_nextInTurn_11 0 rfl ?_
    obtain ⟨q3, h⟩ := h
    refine mg_cd C (focM_g F) hE.1 q3 dX5_nextInTurn_12 ?_
    refine k_aload_n C dX5_nextInTurn_13 1 rfl ?_
    refine mg_Mo_now C (focM_g F) hE.1 hi5 lk1 dX5_nextInTurn_14 ?_
    refine k_bipush (v := 21) C dX5_nextInTurn_17 (by decide) ?_
    refine k_iload_n C dX5_nextInTurn_19 2 rfl ?_
    refine k_iadd C dX5_nextInTurn_20 ?_
    obtain ⟨q4, h⟩ := h
    refine mg_nw C (focM_g F) hE.1 q4 dX5_nextInTurn_21 ?_
    refine k_icmp_lt (tgt := 32) C dX5_nextInTurn_22 (by decide) (fun c5 => ?_) (fun c5 => ?_)
    · replace h := h.1 c5
      obtain ⟨x6, ex6⟩ : ∃ z : Int32, z = x1 + 1 := ⟨_, rfl⟩
      replace h := h x6 ex6
      refine k_iinc (v := x6) (lv' := [(3, .int x6), (0, .ref o), (1, .int dsp), (2, .int n)]) (j := 0) C dX5_nextInTurn_32 rfl (by rw [ex6]; rfl) (by decide) rfl ?_
      refine k_goto (tgt := 2) C dX5_nextInTurn_35 (by decide) ?_
      refine k_pc (pc2 := 2) rfl ?_
      refine k_sub [0, 1, 2, 3] rfl ?_
      exact ih2 _ h
    · replace h := h.2 c5
      refine k_aload_n C dX5_nextInTurn_25 1 rfl ?_
      refine mg_Mo_candidates C (focM_g F) hE.1 hi5 lk0 dX5_nextInTurn_26 ?_
      refine k_iload_n C dX5_nextInTurn_29 0 rfl ?_
      refine mg_cd C (focM_g F) hE.1 q3 dX5_nextInTurn_30 ?_
      exact k_iret C hr hlk dX5_nextInTurn_31 (fun H hP => ⟨h, hP⟩)
noncomputable def wp_X5_leastKnown_L10 (n : Int32) (k : Int32 → Prop) (dsp : Int32) (cd : Nat → Int32) (nw : Nat → Int32) (fu : Nat) : Int32 → Int32 → Prop := Nat.rec (motive := fun _ => Int32 → Int32 → Prop) (fun _ _ => False) (fun _ rec10 x2 x3 => (n ≤ x2 → (k x3)) ∧ (¬ (n ≤ x2) → ((vp_in x2 8) ∧ ((vp_in ((25 + (8 * dsp)) + (cd x2.toNatClampNeg)) 893) ∧ (∀ x7 : Int32, x7 = (nw ((25 + (8 * dsp)) + (cd x2.toNatClampNeg)).toNatClampNeg) → ((vp_in ((25 + (8 * dsp)) + x3) 893) ∧ (((nw ((25 + (8 * dsp)) + x3).toNatClampNeg) ≤ x7 → (∀ x10 : Int32, x10 = x2 + 1 → (rec10 x10 x3))) ∧ (¬ ((nw ((25 + (8 * dsp)) + x3).toNatClampNeg) ≤ x7) → (∀ x11 : Int32, x11 = (cd x2.toNatClampNeg) → (∀ x12 : Int32, x12 = x2 + 1 → (rec10 x12 x11))))))))))) fu
noncomputable def wp_X5_leastKnown (nw : Nat → Int32) (cd : Nat → Int32) (dsp : Int32) (n : Int32) (k : Int32 → Prop) : Prop := ∀ x1 : Int32, x1 = (cd 0) → (∃ fu, wp_X5_leastKnown_L10 n k dsp cd nw fu 1 x1)
set_option maxRecDepth 100000 in
set_option maxHeartbeats 4000000 in
theorem c_X5_leastKnown (l : Launch) {E : EV} {o : Nat} {P : PM} {A : Nat → Prop} (F : FocM E o P) (hA : ∀ q, inMo o q → A q) (nw : Nat → Int32) (hi : Nat → Int32) (sv : Int32) (th : Int32) (cd : Nat → Int32) (ha : Int64) (dsp : Int32) (n : Int32)  (k : Int32 → Prop) (h : wp_X5_leastKnown nw cd dsp n k) : Met l yX5_leastKnown wsX5_leastKnown { frames := 0, cells := 0, slots := 0, locals := 0 } (va_Pc [.ref o, .int dsp, .int n] (fun U => P nw hi sv th cd ha U.heap ∧ XE E U)) (kQi (fun r H => k r ∧ P nw hi sv th cd ha H) A) 0 0 A := by
  refine k_body (cc := cX5_leastKnown) (own := RX5) (maxL := 6) (ret := (some .int)) (lv0 := [(0, .ref o), (1, .int dsp), (2, .int n)]) (by decide) rfl rfl (Nat.le_of_ble_eq_true rfl) rfl (fun p e s m below meth c C hr hlk hP hE => ?_)
  have hi5 : ∀ w ∈ u_ws RX5 TX5 6, w ∈ wsX5_leastKnown := by decide +kernel
  have lk0 := C.2.2.2.2 (.fieldLink RX5 16 "IdleDispatcherModel" "candidates" "[I") (by decide +kernel)
  have lk1 := C.2.2.2.2 (.fieldLink RX5 7 "IdleDispatcherModel" "now" "[I") (by decide +kernel)
  refine k_aload_n C dX5_leastKnown_0 0 rfl ?_
  refine mg_Mo_candidates C (focM_g F) hE.1 hi5 lk0 dX5_leastKnown_1 ?_
  refine k_iconst (v := 0) C dX5_leastKnown_4 (by decide) ?_
  refine mg_cd C (focM_g F) hE.1 (vp_lit (i := 0) (n := 8) (by decide)) dX5_leastKnown_5 ?_
  refine k_topi (fun x1 ex1 => ?_)
  replace h := h x1 ex1
  refine k_istore_n (lv' := [(3, .int x1), (0, .ref o), (1, .int dsp), (2, .int n)]) C dX5_leastKnown_6 rfl (by decide) rfl ?_
  refine k_iconst (v := 1) C dX5_leastKnown_7 (by decide) ?_
  refine k_istore (lv' := [(4, .int 1), (3, .int x1), (0, .ref o), (1, .int dsp), (2, .int n)]) C dX5_leastKnown_8 (by decide) rfl ?_
  obtain ⟨n10, h⟩ := h
  refine k_pc (pc2 := 10) rfl ?_
  refine k_loop2 (wp_X5_leastKnown_L10 n k dsp cd nw) (fun x2 x3 => P nw hi sv th cd ha) (fun x2 x3 => [(4, .int x2), (3, .int x3), (0, .ref o), (1, .int dsp), (2, .int n)]) (fun _ _ h => h) (fun n10 ih10 x2 x3 h => ?_) n10 _ _ h
  refine k_iload C dX5_leastKnown_10 0 rfl ?_
  refine k_iload_n C dX5_leastKnown_12 4 rfl ?_
  refine k_icmp_ge (tgt := 75) C dX5_leastKnown_13 (by decide) (fun c4 => ?_) (fun c4 => ?_)
  · replace h := h.1 c4
    refine k_iload_n C dX5_leastKnown_75 1 rfl ?_
    exact k_iret C hr hlk dX5_leastKnown_76 (fun H hP => ⟨h, hP⟩)
  · replace h := h.2 c4
    refine k_aload_n C dX5_leastKnown_16 2 rfl ?_
    refine mg_Mo_now C (focM_g F) hE.1 hi5 lk1 dX5_leastKnown_17 ?_
    refine k_bipush (v := 25) C dX5_leastKnown_20 (by decide) ?_
    refine k_bipush (v := 8) C dX5_leastKnown_22 (by decide) ?_
    refine k_iload_n C dX5_leastKnown_24 3 rfl ?_
    refine k_imul C dX5_leastKnown_25 ?_
    refine k_iadd C dX5_leastKnown_26 ?_
    refine k_aload_n C dX5_leastKnown_27 2 rfl ?_
    refine mg_Mo_candidates C (focM_g F) hE.1 hi5 lk0 dX5_leastKnown_28 ?_
    refine k_iload C dX5_leastKnown_31 0 rfl ?_
    obtain ⟨q5, h⟩ := h
    refine mg_cd C (focM_g F) hE.1 q5 dX5_leastKnown_33 ?_
    refine k_iadd C dX5_leastKnown_34 ?_
    obtain ⟨q6, h⟩ := h
    refine mg_nw C (focM_g F) hE.1 q6 dX5_leastKnown_35 ?_
    refine k_topi (fun x7 ex7 => ?_)
    replace h := h x7 ex7
    refine k_istore (lv' := [(5, .int x7), (4, .int x2), (3, .int x3), (0, .ref o), (1, .int dsp), (2, .int n)]) C dX5_leastKnown_36 (by decide) rfl ?_
    refine k_iload C dX5_leastKnown_38 0 rfl ?_
    refine k_aload_n C dX5_leastKnown_40 3 rfl ?_
    refine mg_Mo_now C (focM_g F) hE.1 hi5 lk1 dX5_leastKnown_41 ?_
    refine k_bipush (v := 25) C dX5_leastKnown_44 (by decide) ?_
    refine k_bipush (v := 8) C dX5_leastKnown_46 (by decide) ?_
    refine k_iload_n C dX5_leastKnown_48 4 rfl ?_
    refine k_imul C dX5_leastKnown_49 ?_
    refine k_iadd C dX5_leastKnown_50 ?_
    refine k_iload_n C dX5_leastKnown_51 2 rfl ?_
    refine k_iadd C dX5_leastKnown_52 ?_
    obtain ⟨q8, h⟩ := h
    refine mg_nw C (focM_g F) hE.1 q8 dX5_leastKnown_53 ?_
    refine k_icmp_ge (tgt := 67) C dX5_leastKnown_54 (by decide) (fun c9 => ?_) (fun c9 => ?_)
    · replace h := h.1 c9
      refine k_iload_n C dX5_leastKnown_67 2 rfl ?_
      refine k_istore_n (lv' := [(3, .int x3), (5, .int x7), (4, .int x2), (0, .ref o), (1, .int dsp), (2, .int n)]) C dX5_leastKnown_68 rfl (by decide) rfl ?_
      obtain ⟨x10, ex10⟩ : ∃ z : Int32, z = x2 + 1 := ⟨_, rfl⟩
      replace h := h x10 ex10
      refine k_iinc (v := x10) (lv' := [(4, .int x10), (3, .int x3), (5, .int x7), (0, .ref o), (1, .int dsp), (2, .int n)]) (j := 2) C dX5_leastKnown_69 rfl (by rw [ex10]; rfl) (by decide) rfl ?_
      refine k_goto (tgt := 10) C dX5_leastKnown_72 (by decide) ?_
      refine k_pc (pc2 := 10) rfl ?_
      refine k_sub [0, 1, 3, 4, 5] rfl ?_
      exact ih10 _ _ h
    · replace h := h.2 c9
      refine k_aload_n C dX5_leastKnown_57 3 rfl ?_
      refine mg_Mo_candidates C (focM_g F) hE.1 hi5 lk0 dX5_leastKnown_58 ?_
      refine k_iload C dX5_leastKnown_61 1 rfl ?_
      refine mg_cd C (focM_g F) hE.1 q5 dX5_leastKnown_63 ?_
      refine k_goto (tgt := 68) C dX5_leastKnown_64 (by decide) ?_
      refine k_topi (fun x11 ex11 => ?_)
      replace h := h x11 ex11
      refine k_istore_n (lv' := [(3, .int x11), (5, .int x7), (4, .int x2), (0, .ref o), (1, .int dsp), (2, .int n)]) C dX5_leastKnown_68 rfl (by decide) rfl ?_
      obtain ⟨x12, ex12⟩ : ∃ z : Int32, z = x2 + 1 := ⟨_, rfl⟩
      replace h := h x12 ex12
      refine k_iinc (v := x12) (lv' := [(4, .int x12), (3, .int x11), (5, .int x7), (0, .ref o), (1, .int dsp), (2, .int n)]) (j := 2) C dX5_leastKnown_69 rfl (by rw [ex12]; rfl) (by decide) rfl ?_
      refine k_goto (tgt := 10) C dX5_leastKnown_72 (by decide) ?_
      refine k_pc (pc2 := 10) rfl ?_
      refine k_sub [0, 1, 3, 4, 5] rfl ?_
      exact ih10 _ _ h
noncomputable def wp_X5_twoChoices (nw : Nat → Int32) (cd : Nat → Int32) (n : Int32) (k : Int32 → (Nat → Int32) → Prop) : Prop := wp_X5_draw nw n (fun r1 nw_2 => (vp_in r1 8) ∧ (∀ x4 : Int32, x4 = (cd r1.toNatClampNeg) → (wp_X5_draw nw_2 n (fun r5 nw_6 => (vp_in r5 8) ∧ (∀ x8 : Int32, x8 = (cd r5.toNatClampNeg) → (wp_X5_lengthOf nw_6 x8 (fun r9 => wp_X5_lengthOf nw_6 x4 (fun r10 => (r10 ≤ r9 → (k x4 nw_6)) ∧ (¬ (r10 ≤ r9) → (k x8 nw_6))))))))))
set_option maxRecDepth 100000 in
set_option maxHeartbeats 4000000 in
theorem c_X5_twoChoices (l : Launch) {E : EV} {o : Nat} {P : PM} {A : Nat → Prop} (F : FocM E o P) (hA : ∀ q, inMo o q → A q) (nw : Nat → Int32) (hi : Nat → Int32) (sv : Int32) (th : Int32) (cd : Nat → Int32) (ha : Int64) (n : Int32)  (k : Int32 → (Nat → Int32) → Prop) (h : wp_X5_twoChoices nw cd n k) : Met l yX5_twoChoices wsX5_twoChoices { frames := 2, cells := 0, slots := 0, locals := 45 } (va_Pc [.ref o, .int n] (fun U => P nw hi sv th cd ha U.heap ∧ XE E U)) (kQi (fun r H => ∃ nw9 : Nat → Int32, k r nw9 ∧ P nw9 hi sv th cd ha H) A) 0 0 A := by
  refine k_body (cc := cX5_twoChoices) (own := RX5) (maxL := 4) (ret := (some .int)) (lv0 := [(0, .ref o), (1, .int n)]) (by decide) rfl rfl (Nat.le_of_ble_eq_true rfl) rfl (fun p e s m below meth c C hr hlk hP hE => ?_)
  have hi5 : ∀ w ∈ u_ws RX5 TX5 6, w ∈ wsX5_twoChoices := by decide +kernel
  have lk0 := C.2.2.2.2 (.fieldLink RX5 16 "IdleDispatcherModel" "candidates" "[I") (by decide +kernel)
  refine k_aload_n C dX5_twoChoices_0 0 rfl ?_
  refine mg_Mo_candidates C (focM_g F) hE.1 hi5 lk0 dX5_twoChoices_1 ?_
  refine k_aload_n C dX5_twoChoices_4 0 rfl ?_
  refine k_iload_n C dX5_twoChoices_5 1 rfl ?_
  refine k_callVi (st := [.ref (o + (3))]) C hE (c_X5_draw l F hA nw hi sv th cd ha n  _ h) (cwV 1 C.2.2.2.2 gX5_twoChoices_X5_draw rfl rfl rfl (by decide +kernel) ⟨Nat.le_of_ble_eq_true rfl, Nat.le_of_ble_eq_true rfl⟩) (fun H hP => va_recv hE.1 (k_one (mst_Mo ((focM_g F) H hP))) rfl (q0 := 0) rfl) rfl rfl (Nat.le_of_ble_eq_true rfl) dX5_twoChoices_6 ⟨Nat.zero_le _, Nat.zero_le _⟩ (fun r1 => ?_)
  refine k_ex (fun nw_2 => k_and (fun h => ?_))
  obtain ⟨q3, h⟩ := h
  refine mg_cd C (focM_g F) hE.1 q3 dX5_twoChoices_9 ?_
  refine k_topi (fun x4 ex4 => ?_)
  replace h := h x4 ex4
  refine k_istore_n (lv' := [(2, .int x4), (0, .ref o), (1, .int n)]) C dX5_twoChoices_10 rfl (by decide) rfl ?_
  refine k_aload_n C dX5_twoChoices_11 1 rfl ?_
  refine mg_Mo_candidates C (focM_g F) hE.1 hi5 lk0 dX5_twoChoices_12 ?_
  refine k_aload_n C dX5_twoChoices_15 1 rfl ?_
  refine k_iload_n C dX5_twoChoices_16 2 rfl ?_
  refine k_callVi (st := [.ref (o + (3))]) C hE (c_X5_draw l F hA nw_2 hi sv th cd ha n  _ h) (cwV 1 C.2.2.2.2 gX5_twoChoices_X5_draw rfl rfl rfl (by decide +kernel) ⟨Nat.le_of_ble_eq_true rfl, Nat.le_of_ble_eq_true rfl⟩) (fun H hP => va_recv hE.1 (k_one (mst_Mo ((focM_g F) H hP))) rfl (q0 := 0) rfl) rfl rfl (Nat.le_of_ble_eq_true rfl) dX5_twoChoices_17 ⟨Nat.zero_le _, Nat.zero_le _⟩ (fun r5 => ?_)
  refine k_ex (fun nw_6 => k_and (fun h => ?_))
  obtain ⟨q7, h⟩ := h
  refine mg_cd C (focM_g F) hE.1 q7 dX5_twoChoices_20 ?_
  refine k_topi (fun x8 ex8 => ?_)
  replace h := h x8 ex8
  refine k_istore_n (lv' := [(3, .int x8), (2, .int x4), (0, .ref o), (1, .int n)]) C dX5_twoChoices_21 rfl (by decide) rfl ?_
  refine k_aload_n C dX5_twoChoices_22 2 rfl ?_
  refine k_iload_n C dX5_twoChoices_23 0 rfl ?_
  refine k_callVi (st := []) C hE (c_X5_lengthOf l F hA nw_6 hi sv th cd ha x8  _ h) (cwV 1 C.2.2.2.2 gX5_twoChoices_X5_lengthOf rfl rfl rfl (by decide +kernel) ⟨Nat.le_of_ble_eq_true rfl, Nat.le_of_ble_eq_true rfl⟩) (fun H hP => va_recv hE.1 (k_one (mst_Mo ((focM_g F) H hP))) rfl (q0 := 0) rfl) rfl rfl (Nat.le_of_ble_eq_true rfl) dX5_twoChoices_24 ⟨Nat.zero_le _, Nat.zero_le _⟩ (fun r9 => ?_)
  refine k_and (fun h => ?_)
  refine k_aload_n C dX5_twoChoices_27 2 rfl ?_
  refine k_iload_n C dX5_twoChoices_28 1 rfl ?_
  refine k_callVi (st := [.int r9]) C hE (c_X5_lengthOf l F hA nw_6 hi sv th cd ha x4  _ h) (cwV 1 C.2.2.2.2 gX5_twoChoices_X5_lengthOf rfl rfl rfl (by decide +kernel) ⟨Nat.le_of_ble_eq_true rfl, Nat.le_of_ble_eq_true rfl⟩) (fun H hP => va_recv hE.1 (k_one (mst_Mo ((focM_g F) H hP))) rfl (q0 := 0) rfl) rfl rfl (Nat.le_of_ble_eq_true rfl) dX5_twoChoices_29 ⟨Nat.zero_le _, Nat.zero_le _⟩ (fun r10 => ?_)
  refine k_and (fun h => ?_)
  refine k_icmp_ge (tgt := 39) C dX5_twoChoices_32 (by decide) (fun c11 => ?_) (fun c11 => ?_)
  · replace h := h.1 c11
    refine k_iload_n C dX5_twoChoices_39 1 rfl ?_
    exact k_iret C hr hlk dX5_twoChoices_40 (fun H hP => ⟨nw_6, h, hP⟩)
  · replace h := h.2 c11
    refine k_iload_n C dX5_twoChoices_35 0 rfl ?_
    refine k_goto (tgt := 40) C dX5_twoChoices_36 (by decide) ?_
    exact k_iret C hr hlk dX5_twoChoices_40 (fun H hP => ⟨nw_6, h, hP⟩)
noncomputable def wp_X5_taken (nw : Nat → Int32) (cd : Nat → Int32) (dsp : Int32) (n : Int32) (k : Int32 → (Nat → Int32) → Prop) : Prop := (vp_in (17 + dsp) 893) ∧ (((nw (17 + dsp).toNatClampNeg).toInt = 1 → (wp_X5_nextInTurn nw cd dsp n (fun r3 => (vp_in (21 + dsp) 893) ∧ (∀ nw_5 : Nat → Int32, nw_5 = upd nw (21 + dsp).toNatClampNeg (r3 + 1) → (k r3 nw_5))))) ∧ ((nw (17 + dsp).toNatClampNeg).toInt = 2 → (wp_X5_twoChoices nw cd n (fun r7 nw_8 => k r7 nw_8))) ∧ ((nw (17 + dsp).toNatClampNeg).toInt = 3 → (((nw (17 + dsp).toNatClampNeg) = 3 → ((vp_in (57 + dsp) 893) ∧ (((nw (57 + dsp).toNatClampNeg) ≤ 0 → (wp_X5_draw nw n (fun r18 nw_19 => (vp_in r18 8) ∧ (k (cd r18.toNatClampNeg) nw_19)))) ∧ (¬ ((nw (57 + dsp).toNatClampNeg) ≤ 0) → ((vp_in (61 + (8 * dsp)) 893) ∧ (k (nw (61 + (8 * dsp)).toNatClampNeg) nw)))))) ∧ (¬ (nw (17 + dsp).toNatClampNeg) = 3 → (wp_X5_draw nw n (fun r12 nw_13 => (vp_in r12 8) ∧ (k (cd r12.toNatClampNeg) nw_13)))))) ∧ ((nw (17 + dsp).toNatClampNeg).toInt = 4 → (wp_X5_leastKnown nw cd dsp n (fun r24 => (vp_in ((25 + (8 * dsp)) + r24) 893) ∧ (∀ nw_26 : Nat → Int32, nw_26 = upd nw ((25 + (8 * dsp)) + r24).toNatClampNeg ((nw ((25 + (8 * dsp)) + r24).toNatClampNeg) + 1) → (k r24 nw_26))))) ∧ (((nw (17 + dsp).toNatClampNeg).toInt < 1 ∨ 4 < (nw (17 + dsp).toNatClampNeg).toInt) → (((nw (17 + dsp).toNatClampNeg) = 3 → ((vp_in (57 + dsp) 893) ∧ (((nw (57 + dsp).toNatClampNeg) ≤ 0 → (wp_X5_draw nw n (fun r35 nw_36 => (vp_in r35 8) ∧ (k (cd r35.toNatClampNeg) nw_36)))) ∧ (¬ ((nw (57 + dsp).toNatClampNeg) ≤ 0) → ((vp_in (61 + (8 * dsp)) 893) ∧ (k (nw (61 + (8 * dsp)).toNatClampNeg) nw)))))) ∧ (¬ (nw (17 + dsp).toNatClampNeg) = 3 → (wp_X5_draw nw n (fun r29 nw_30 => (vp_in r29 8) ∧ (k (cd r29.toNatClampNeg) nw_30)))))))
set_option maxRecDepth 100000 in
set_option maxHeartbeats 4000000 in
theorem c_X5_taken (l : Launch) {E : EV} {o : Nat} {P : PM} {A : Nat → Prop} (F : FocM E o P) (hA : ∀ q, inMo o q → A q) (nw : Nat → Int32) (hi : Nat → Int32) (sv : Int32) (th : Int32) (cd : Nat → Int32) (ha : Int64) (dsp : Int32) (n : Int32)  (k : Int32 → (Nat → Int32) → Prop) (h : wp_X5_taken nw cd dsp n k) : Met l yX5_taken wsX5_taken { frames := 3, cells := 0, slots := 0, locals := 68 } (va_Pc [.ref o, .int dsp, .int n] (fun U => P nw hi sv th cd ha U.heap ∧ XE E U)) (kQi (fun r H => ∃ nw9 : Nat → Int32, k r nw9 ∧ P nw9 hi sv th cd ha H) A) 0 0 A := by
  refine k_body (cc := cX5_taken) (own := RX5) (maxL := 5) (ret := (some .int)) (lv0 := [(0, .ref o), (1, .int dsp), (2, .int n)]) (by decide) rfl rfl (Nat.le_of_ble_eq_true rfl) rfl (fun p e s m below meth c C hr hlk hP hE => ?_)
  have hi5 : ∀ w ∈ u_ws RX5 TX5 6, w ∈ wsX5_taken := by decide +kernel
  have lk0 := C.2.2.2.2 (.fieldLink RX5 7 "IdleDispatcherModel" "now" "[I") (by decide +kernel)
  have lk1 := C.2.2.2.2 (.fieldLink RX5 16 "IdleDispatcherModel" "candidates" "[I") (by decide +kernel)
  refine k_aload_n C dX5_taken_0 0 rfl ?_
  refine mg_Mo_now C (focM_g F) hE.1 hi5 lk0 dX5_taken_1 ?_
  refine k_bipush (v := 17) C dX5_taken_4 (by decide) ?_
  refine k_iload_n C dX5_taken_6 1 rfl ?_
  refine k_iadd C dX5_taken_7 ?_
  obtain ⟨q1, h⟩ := h
  refine mg_nw C (focM_g F) hE.1 q1 dX5_taken_8 ?_
  by_cases c2 : (nw (17 + dsp).toNatClampNeg).toInt = 1
  · refine k_tableIn (off := 31) (tgt := 40) C dX5_taken_9 (by omega) (by omega) (by rw [c2]; rfl) (by decide) ?_
    replace h := h.1 c2
    refine k_aload_n C dX5_taken_40 0 rfl ?_
    refine k_iload_n C dX5_taken_41 1 rfl ?_
    refine k_iload_n C dX5_taken_42 2 rfl ?_
    refine k_callVi (st := []) C hE (c_X5_nextInTurn l F hA nw hi sv th cd ha dsp n  _ h) (cwV 2 C.2.2.2.2 gX5_taken_X5_nextInTurn rfl rfl rfl (by decide +kernel) ⟨Nat.le_of_ble_eq_true rfl, Nat.le_of_ble_eq_true rfl⟩) (fun H hP => va_recv hE.1 (k_one (mst_Mo ((focM_g F) H hP))) rfl (q0 := 0) rfl) rfl rfl (Nat.le_of_ble_eq_true rfl) dX5_taken_43 ⟨Nat.zero_le _, Nat.zero_le _⟩ (fun r3 => ?_)
    refine k_and (fun h => ?_)
    refine k_istore_n (lv' := [(3, .int r3), (0, .ref o), (1, .int dsp), (2, .int n)]) C dX5_taken_46 rfl (by decide) rfl ?_
    refine k_aload_n C dX5_taken_47 1 rfl ?_
    refine mg_Mo_now C (focM_g F) hE.1 hi5 lk0 dX5_taken_48 ?_
    refine k_bipush (v := 21) C dX5_taken_51 (by decide) ?_
    refine k_iload_n C dX5_taken_53 2 rfl ?_
    refine k_iadd C dX5_taken_54 ?_
    refine k_iload_n C dX5_taken_55 0 rfl ?_
    refine k_iconst (v := 1) C dX5_taken_56 (by decide) ?_
    refine k_iadd C dX5_taken_57 ?_
    obtain ⟨q4, h⟩ := h
    obtain ⟨nw_5, enw_5⟩ : ∃ z : Nat → Int32, z = upd nw (21 + dsp).toNatClampNeg (r3 + 1) := ⟨_, rfl⟩
    replace h := h nw_5 enw_5
    refine mp_nw C F hA hE.1 q4 enw_5 dX5_taken_58 ?_
    refine k_iload_n C dX5_taken_59 0 rfl ?_
    exact k_iret C hr hlk dX5_taken_60 (fun H hP => ⟨nw_5, h, hP⟩)
  ·
    by_cases c6 : (nw (17 + dsp).toNatClampNeg).toInt = 2
    · refine k_tableIn (off := 52) (tgt := 61) C dX5_taken_9 (by omega) (by omega) (by rw [c6]; rfl) (by decide) ?_
      replace h := h.2.1 c6
      refine k_aload_n C dX5_taken_61 0 rfl ?_
      refine k_iload_n C dX5_taken_62 2 rfl ?_
      refine k_callVi (st := []) C hE (c_X5_twoChoices l F hA nw hi sv th cd ha n  _ h) (cwV 1 C.2.2.2.2 gX5_taken_X5_twoChoices rfl rfl rfl (by decide +kernel) ⟨Nat.le_of_ble_eq_true rfl, Nat.le_of_ble_eq_true rfl⟩) (fun H hP => va_recv hE.1 (k_one (mst_Mo ((focM_g F) H hP))) rfl (q0 := 0) rfl) rfl rfl (Nat.le_of_ble_eq_true rfl) dX5_taken_63 ⟨Nat.zero_le _, Nat.zero_le _⟩ (fun r7 => ?_)
      refine k_ex (fun nw_8 => k_and (fun h => ?_))
      exact k_iret C hr hlk dX5_taken_66 (fun H hP => ⟨nw_8, h, hP⟩)
    ·
      by_cases c9 : (nw (17 + dsp).toNatClampNeg).toInt = 3
      · refine k_tableIn (off := 85) (tgt := 94) C dX5_taken_9 (by omega) (by omega) (by rw [c9]; rfl) (by decide) ?_
        replace h := h.2.2.1 c9
        refine k_aload_n C dX5_taken_94 0 rfl ?_
        refine mg_Mo_now C (focM_g F) hE.1 hi5 lk0 dX5_taken_95 ?_
        refine k_bipush (v := 17) C dX5_taken_98 (by decide) ?_
        refine k_iload_n C dX5_taken_100 1 rfl ?_
        refine k_iadd C dX5_taken_101 ?_
        refine mg_nw C (focM_g F) hE.1 q1 dX5_taken_102 ?_
        refine k_iconst (v := 3) C dX5_taken_103 (by decide) ?_
        refine k_icmp_ne (tgt := 123) C dX5_taken_104 (by decide) (fun c10 => ?_) (fun c10 => ?_)
        · replace h := h.2 c10
          refine k_iconst (v := 0) C dX5_taken_123 (by decide) ?_
          refine k_istore (lv' := [(4, .int 0), (0, .ref o), (1, .int dsp), (2, .int n)]) C dX5_taken_124 (by decide) rfl ?_
          refine k_iload C dX5_taken_126 0 rfl ?_
          refine k_if_eq (tgt := 146) C dX5_taken_128 (by decide) (fun _ => ?_) (fun c11 => absurd (by decide) c11)
          refine k_aload_n C dX5_taken_146 1 rfl ?_
          refine mg_Mo_candidates C (focM_g F) hE.1 hi5 lk1 dX5_taken_147 ?_
          refine k_aload_n C dX5_taken_150 1 rfl ?_
          refine k_iload_n C dX5_taken_151 3 rfl ?_
          refine k_callVi (st := [.ref (o + (3))]) C hE (c_X5_draw l F hA nw hi sv th cd ha n  _ h) (cwV 1 C.2.2.2.2 gX5_taken_X5_draw rfl rfl rfl (by decide +kernel) ⟨Nat.le_of_ble_eq_true rfl, Nat.le_of_ble_eq_true rfl⟩) (fun H hP => va_recv hE.1 (k_one (mst_Mo ((focM_g F) H hP))) rfl (q0 := 0) rfl) rfl rfl (Nat.le_of_ble_eq_true rfl) dX5_taken_152 ⟨Nat.zero_le _, Nat.zero_le _⟩ (fun r12 => ?_)
          refine k_ex (fun nw_13 => k_and (fun h => ?_))
          obtain ⟨q14, h⟩ := h
          refine mg_cd C (focM_g F) hE.1 q14 dX5_taken_155 ?_
          exact k_iret C hr hlk dX5_taken_156 (fun H hP => ⟨nw_13, h, hP⟩)
        · replace h := h.1 c10
          refine k_aload_n C dX5_taken_107 0 rfl ?_
          refine mg_Mo_now C (focM_g F) hE.1 hi5 lk0 dX5_taken_108 ?_
          refine k_bipush (v := 57) C dX5_taken_111 (by decide) ?_
          refine k_iload_n C dX5_taken_113 1 rfl ?_
          refine k_iadd C dX5_taken_114 ?_
          obtain ⟨q15, h⟩ := h
          refine mg_nw C (focM_g F) hE.1 q15 dX5_taken_115 ?_
          refine k_if_le (tgt := 123) C dX5_taken_116 (by decide) (fun c16 => ?_) (fun c16 => ?_)
          · replace h := h.1 c16
            refine k_iconst (v := 0) C dX5_taken_123 (by decide) ?_
            refine k_istore (lv' := [(4, .int 0), (0, .ref o), (1, .int dsp), (2, .int n)]) C dX5_taken_124 (by decide) rfl ?_
            refine k_iload C dX5_taken_126 0 rfl ?_
            refine k_if_eq (tgt := 146) C dX5_taken_128 (by decide) (fun _ => ?_) (fun c17 => absurd (by decide) c17)
            refine k_aload_n C dX5_taken_146 1 rfl ?_
            refine mg_Mo_candidates C (focM_g F) hE.1 hi5 lk1 dX5_taken_147 ?_
            refine k_aload_n C dX5_taken_150 1 rfl ?_
            refine k_iload_n C dX5_taken_151 3 rfl ?_
            refine k_callVi (st := [.ref (o + (3))]) C hE (c_X5_draw l F hA nw hi sv th cd ha n  _ h) (cwV 1 C.2.2.2.2 gX5_taken_X5_draw rfl rfl rfl (by decide +kernel) ⟨Nat.le_of_ble_eq_true rfl, Nat.le_of_ble_eq_true rfl⟩) (fun H hP => va_recv hE.1 (k_one (mst_Mo ((focM_g F) H hP))) rfl (q0 := 0) rfl) rfl rfl (Nat.le_of_ble_eq_true rfl) dX5_taken_152 ⟨Nat.zero_le _, Nat.zero_le _⟩ (fun r18 => ?_)
            refine k_ex (fun nw_19 => k_and (fun h => ?_))
            obtain ⟨q20, h⟩ := h
            refine mg_cd C (focM_g F) hE.1 q20 dX5_taken_155 ?_
            exact k_iret C hr hlk dX5_taken_156 (fun H hP => ⟨nw_19, h, hP⟩)
          · replace h := h.2 c16
            refine k_iconst (v := 1) C dX5_taken_119 (by decide) ?_
            refine k_goto (tgt := 124) C dX5_taken_120 (by decide) ?_
            refine k_istore (lv' := [(4, .int 1), (0, .ref o), (1, .int dsp), (2, .int n)]) C dX5_taken_124 (by decide) rfl ?_
            refine k_iload C dX5_taken_126 0 rfl ?_
            refine k_if_eq (tgt := 146) C dX5_taken_128 (by decide) (fun c21 => absurd c21 (by decide)) (fun _ => ?_)
            refine k_aload_n C dX5_taken_131 1 rfl ?_
            refine mg_Mo_now C (focM_g F) hE.1 hi5 lk0 dX5_taken_132 ?_
            refine k_bipush (v := 61) C dX5_taken_135 (by decide) ?_
            refine k_bipush (v := 8) C dX5_taken_137 (by decide) ?_
            refine k_iload_n C dX5_taken_139 2 rfl ?_
            refine k_imul C dX5_taken_140 ?_
            refine k_iadd C dX5_taken_141 ?_
            obtain ⟨q22, h⟩ := h
            refine mg_nw C (focM_g F) hE.1 q22 dX5_taken_142 ?_
            refine k_goto (tgt := 156) C dX5_taken_143 (by decide) ?_
            exact k_iret C hr hlk dX5_taken_156 (fun H hP => ⟨nw, h, hP⟩)
      ·
        by_cases c23 : (nw (17 + dsp).toNatClampNeg).toInt = 4
        · refine k_tableIn (off := 58) (tgt := 67) C dX5_taken_9 (by omega) (by omega) (by rw [c23]; rfl) (by decide) ?_
          replace h := h.2.2.2.1 c23
          refine k_aload_n C dX5_taken_67 0 rfl ?_
          refine k_iload_n C dX5_taken_68 1 rfl ?_
          refine k_iload_n C dX5_taken_69 2 rfl ?_
          refine k_callVi (st := []) C hE (c_X5_leastKnown l F hA nw hi sv th cd ha dsp n  _ h) (cwV 2 C.2.2.2.2 gX5_taken_X5_leastKnown rfl rfl rfl (by decide +kernel) ⟨Nat.le_of_ble_eq_true rfl, Nat.le_of_ble_eq_true rfl⟩) (fun H hP => va_recv hE.1 (k_one (mst_Mo ((focM_g F) H hP))) rfl (q0 := 0) rfl) rfl rfl (Nat.le_of_ble_eq_true rfl) dX5_taken_70 ⟨Nat.zero_le _, Nat.zero_le _⟩ (fun r24 => ?_)
          refine k_and (fun h => ?_)
          refine k_istore_n (lv' := [(3, .int r24), (0, .ref o), (1, .int dsp), (2, .int n)]) C dX5_taken_73 rfl (by decide) rfl ?_
          refine k_aload_n C dX5_taken_74 1 rfl ?_
          refine mg_Mo_now C (focM_g F) hE.1 hi5 lk0 dX5_taken_75 ?_
          refine k_bipush (v := 25) C dX5_taken_78 (by decide) ?_
          refine k_bipush (v := 8) C dX5_taken_80 (by decide) ?_
          refine k_iload_n C dX5_taken_82 2 rfl ?_
          refine k_imul C dX5_taken_83 ?_
          refine k_iadd C dX5_taken_84 ?_
          refine k_iload_n C dX5_taken_85 0 rfl ?_
          refine k_iadd C dX5_taken_86 ?_
          refine k_dup2_11 C dX5_taken_87 rfl rfl ?_
          obtain ⟨q25, h⟩ := h
          refine mg_nw C (focM_g F) hE.1 q25 dX5_taken_88 ?_
          refine k_iconst (v := 1) C dX5_taken_89 (by decide) ?_
          refine k_iadd C dX5_taken_90 ?_
          obtain ⟨nw_26, enw_26⟩ : ∃ z : Nat → Int32, z = upd nw ((25 + (8 * dsp)) + r24).toNatClampNeg ((nw ((25 + (8 * dsp)) + r24).toNatClampNeg) + 1) := ⟨_, rfl⟩
          replace h := h nw_26 enw_26
          refine mp_nw C F hA hE.1 q25 enw_26 dX5_taken_91 ?_
          refine k_iload_n C dX5_taken_92 0 rfl ?_
          exact k_iret C hr hlk dX5_taken_93 (fun H hP => ⟨nw_26, h, hP⟩)
        ·
          have c40 : (nw (17 + dsp).toNatClampNeg).toInt < 1 ∨ 4 < (nw (17 + dsp).toNatClampNeg).toInt := by omega
          refine k_tableOut (tgt := 94) C dX5_taken_9 c40 (by decide) ?_
          replace h := h.2.2.2.2 c40
          refine k_aload_n C dX5_taken_94 0 rfl ?_
          refine mg_Mo_now C (focM_g F) hE.1 hi5 lk0 dX5_taken_95 ?_
          refine k_bipush (v := 17) C dX5_taken_98 (by decide) ?_
          refine k_iload_n C dX5_taken_100 1 rfl ?_
          refine k_iadd C dX5_taken_101 ?_
          refine mg_nw C (focM_g F) hE.1 q1 dX5_taken_102 ?_
          refine k_iconst (v := 3) C dX5_taken_103 (by decide) ?_
          refine k_icmp_ne (tgt := 123) C dX5_taken_104 (by decide) (fun c27 => ?_) (fun c27 => ?_)
          · replace h := h.2 c27
            refine k_iconst (v := 0) C dX5_taken_123 (by decide) ?_
            refine k_istore (lv' := [(4, .int 0), (0, .ref o), (1, .int dsp), (2, .int n)]) C dX5_taken_124 (by decide) rfl ?_
            refine k_iload C dX5_taken_126 0 rfl ?_
            refine k_if_eq (tgt := 146) C dX5_taken_128 (by decide) (fun _ => ?_) (fun c28 => absurd (by decide) c28)
            refine k_aload_n C dX5_taken_146 1 rfl ?_
            refine mg_Mo_candidates C (focM_g F) hE.1 hi5 lk1 dX5_taken_147 ?_
            refine k_aload_n C dX5_taken_150 1 rfl ?_
            refine k_iload_n C dX5_taken_151 3 rfl ?_
            refine k_callVi (st := [.ref (o + (3))]) C hE (c_X5_draw l F hA nw hi sv th cd ha n  _ h) (cwV 1 C.2.2.2.2 gX5_taken_X5_draw rfl rfl rfl (by decide +kernel) ⟨Nat.le_of_ble_eq_true rfl, Nat.le_of_ble_eq_true rfl⟩) (fun H hP => va_recv hE.1 (k_one (mst_Mo ((focM_g F) H hP))) rfl (q0 := 0) rfl) rfl rfl (Nat.le_of_ble_eq_true rfl) dX5_taken_152 ⟨Nat.zero_le _, Nat.zero_le _⟩ (fun r29 => ?_)
            refine k_ex (fun nw_30 => k_and (fun h => ?_))
            obtain ⟨q31, h⟩ := h
            refine mg_cd C (focM_g F) hE.1 q31 dX5_taken_155 ?_
            exact k_iret C hr hlk dX5_taken_156 (fun H hP => ⟨nw_30, h, hP⟩)
          · replace h := h.1 c27
            refine k_aload_n C dX5_taken_107 0 rfl ?_
            refine mg_Mo_now C (focM_g F) hE.1 hi5 lk0 dX5_taken_108 ?_
            refine k_bipush (v := 57) C dX5_taken_111 (by decide) ?_
            refine k_iload_n C dX5_taken_113 1 rfl ?_
            refine k_iadd C dX5_taken_114 ?_
            obtain ⟨q32, h⟩ := h
            refine mg_nw C (focM_g F) hE.1 q32 dX5_taken_115 ?_
            refine k_if_le (tgt := 123) C dX5_taken_116 (by decide) (fun c33 => ?_) (fun c33 => ?_)
            · replace h := h.1 c33
              refine k_iconst (v := 0) C dX5_taken_123 (by decide) ?_
              refine k_istore (lv' := [(4, .int 0), (0, .ref o), (1, .int dsp), (2, .int n)]) C dX5_taken_124 (by decide) rfl ?_
              refine k_iload C dX5_taken_126 0 rfl ?_
              refine k_if_eq (tgt := 146) C dX5_taken_128 (by decide) (fun _ => ?_) (fun c34 => absurd (by decide) c34)
              refine k_aload_n C dX5_taken_146 1 rfl ?_
              refine mg_Mo_candidates C (focM_g F) hE.1 hi5 lk1 dX5_taken_147 ?_
              refine k_aload_n C dX5_taken_150 1 rfl ?_
              refine k_iload_n C dX5_taken_151 3 rfl ?_
              refine k_callVi (st := [.ref (o + (3))]) C hE (c_X5_draw l F hA nw hi sv th cd ha n  _ h) (cwV 1 C.2.2.2.2 gX5_taken_X5_draw rfl rfl rfl (by decide +kernel) ⟨Nat.le_of_ble_eq_true rfl, Nat.le_of_ble_eq_true rfl⟩) (fun H hP => va_recv hE.1 (k_one (mst_Mo ((focM_g F) H hP))) rfl (q0 := 0) rfl) rfl rfl (Nat.le_of_ble_eq_true rfl) dX5_taken_152 ⟨Nat.zero_le _, Nat.zero_le _⟩ (fun r35 => ?_)
              refine k_ex (fun nw_36 => k_and (fun h => ?_))
              obtain ⟨q37, h⟩ := h
              refine mg_cd C (focM_g F) hE.1 q37 dX5_taken_155 ?_
              exact k_iret C hr hlk dX5_taken_156 (fun H hP => ⟨nw_36, h, hP⟩)
            · replace h := h.2 c33
              refine k_iconst (v := 1) C dX5_taken_119 (by decide) ?_
              refine k_goto (tgt := 124) C dX5_taken_120 (by decide) ?_
              refine k_istore (lv' := [(4, .int 1), (0, .ref o), (1, .int dsp), (2, .int n)]) C dX5_taken_124 (by decide) rfl ?_
              refine k_iload C dX5_taken_126 0 rfl ?_
              refine k_if_eq (tgt := 146) C dX5_taken_128 (by decide) (fun c38 => absurd c38 (by decide)) (fun _ => ?_)
              refine k_aload_n C dX5_taken_131 1 rfl ?_
              refine mg_Mo_now C (focM_g F) hE.1 hi5 lk0 dX5_taken_132 ?_
              refine k_bipush (v := 61) C dX5_taken_135 (by decide) ?_
              refine k_bipush (v := 8) C dX5_taken_137 (by decide) ?_
              refine k_iload_n C dX5_taken_139 2 rfl ?_
              refine k_imul C dX5_taken_140 ?_
              refine k_iadd C dX5_taken_141 ?_
              obtain ⟨q39, h⟩ := h
              refine mg_nw C (focM_g F) hE.1 q39 dX5_taken_142 ?_
              refine k_goto (tgt := 156) C dX5_taken_143 (by decide) ?_
              exact k_iret C hr hlk dX5_taken_156 (fun H hP => ⟨nw, h, hP⟩)
noncomputable def wp_X5_isSomeIdle_L4 (n : Int32) (k : Int32 → Prop) (nw : Nat → Int32) (cd : Nat → Int32) (fu : Nat) : Int32 → Int32 → Prop := Nat.rec (motive := fun _ => Int32 → Int32 → Prop) (fun _ _ => False) (fun _ rec4 x1 x2 => (n ≤ x1 → ((narrow .boolean (.int x2) = .int x2) ∧ (k x2))) ∧ (¬ (n ≤ x1) → ((x2 = 0 → ((vp_in x1 8) ∧ (wp_X5_lengthOf nw (cd x1.toNatClampNeg) (fun r8 => (r8 = 0 → (∀ x11 : Int32, x11 = x1 + 1 → (rec4 x11 1))) ∧ (¬ r8 = 0 → (∀ x10 : Int32, x10 = x1 + 1 → (rec4 x10 0))))))) ∧ (¬ x2 = 0 → (∀ x6 : Int32, x6 = x1 + 1 → (rec4 x6 1)))))) fu
noncomputable def wp_X5_isSomeIdle (nw : Nat → Int32) (cd : Nat → Int32) (n : Int32) (k : Int32 → Prop) : Prop := ∃ fu, wp_X5_isSomeIdle_L4 n k nw cd fu 0 0
set_option maxRecDepth 100000 in
set_option maxHeartbeats 4000000 in
theorem c_X5_isSomeIdle (l : Launch) {E : EV} {o : Nat} {P : PM} {A : Nat → Prop} (F : FocM E o P) (hA : ∀ q, inMo o q → A q) (nw : Nat → Int32) (hi : Nat → Int32) (sv : Int32) (th : Int32) (cd : Nat → Int32) (ha : Int64) (n : Int32)  (k : Int32 → Prop) (h : wp_X5_isSomeIdle nw cd n k) : Met l yX5_isSomeIdle wsX5_isSomeIdle { frames := 2, cells := 0, slots := 0, locals := 45 } (va_Pc [.ref o, .int n] (fun U => P nw hi sv th cd ha U.heap ∧ XE E U)) (kQi (fun r H => k r ∧ P nw hi sv th cd ha H) A) 0 0 A := by
  refine k_body (cc := cX5_isSomeIdle) (own := RX5) (maxL := 4) (ret := (some .boolean)) (lv0 := [(0, .ref o), (1, .int n)]) (by decide) rfl rfl (Nat.le_of_ble_eq_true rfl) rfl (fun p e s m below meth c C hr hlk hP hE => ?_)
  have hi5 : ∀ w ∈ u_ws RX5 TX5 6, w ∈ wsX5_isSomeIdle := by decide +kernel
  have lk0 := C.2.2.2.2 (.fieldLink RX5 16 "IdleDispatcherModel" "candidates" "[I") (by decide +kernel)
  refine k_iconst (v := 0) C dX5_isSomeIdle_0 (by decide) ?_
  refine k_istore_n (lv' := [(2, .int 0), (0, .ref o), (1, .int n)]) C dX5_isSomeIdle_1 rfl (by decide) rfl ?_
  refine k_iconst (v := 0) C dX5_isSomeIdle_2 (by decide) ?_
  refine k_istore_n (lv' := [(3, .int 0), (2, .int 0), (0, .ref o), (1, .int n)]) C dX5_isSomeIdle_3 rfl (by decide) rfl ?_
  obtain ⟨n4, h⟩ := h
  refine k_pc (pc2 := 4) rfl ?_
  refine k_loop2 (wp_X5_isSomeIdle_L4 n k nw cd) (fun x1 x2 => P nw hi sv th cd ha) (fun x1 x2 => [(3, .int x1), (2, .int x2), (0, .ref o), (1, .int n)]) (fun _ _ h => h) (fun n4 ih4 x1 x2 h => ?_) n4 _ _ h
  refine k_iload_n C dX5_isSomeIdle_4 0 rfl ?_
  refine k_iload_n C dX5_isSomeIdle_5 3 rfl ?_
  refine k_icmp_ge (tgt := 38) C dX5_isSomeIdle_6 (by decide) (fun c3 => ?_) (fun c3 => ?_)
  · replace h := h.1 c3
    refine k_iload_n C dX5_isSomeIdle_38 1 rfl ?_
    obtain ⟨q4, h⟩ := h
    exact k_zret C hr hlk q4 dX5_isSomeIdle_39 (fun H hP => ⟨h, hP⟩)
  · replace h := h.2 c3
    refine k_iload_n C dX5_isSomeIdle_9 1 rfl ?_
    refine k_if_ne (tgt := 26) C dX5_isSomeIdle_10 (by decide) (fun c5 => ?_) (fun c5 => ?_)
    · replace h := h.2 c5
      refine k_iconst (v := 1) C dX5_isSomeIdle_26 (by decide) ?_
      refine k_goto (tgt := 31) C dX5_isSomeIdle_27 (by decide) ?_
      refine k_istore_n (lv' := [(2, .int 1), (3, .int x1), (0, .ref o), (1, .int n)]) C dX5_isSomeIdle_31 rfl (by decide) rfl ?_
      obtain ⟨x6, ex6⟩ : ∃ z : Int32, z = x1 + 1 := ⟨_, rfl⟩
      replace h := h x6 ex6
      refine k_iinc (v := x6) (lv' := [(3, .int x6), (2, .int 1), (0, .ref o), (1, .int n)]) (j := 1) C dX5_isSomeIdle_32 rfl (by rw [ex6]; rfl) (by decide) rfl ?_
      refine k_goto (tgt := 4) C dX5_isSomeIdle_35 (by decide) ?_
      refine k_pc (pc2 := 4) rfl ?_
      refine k_sub [0, 1, 2, 3] rfl ?_
      exact ih4 _ _ h
    · replace h := h.1 c5
      refine k_aload_n C dX5_isSomeIdle_13 2 rfl ?_
      refine k_aload_n C dX5_isSomeIdle_14 2 rfl ?_
      refine mg_Mo_candidates C (focM_g F) hE.1 hi5 lk0 dX5_isSomeIdle_15 ?_
      refine k_iload_n C dX5_isSomeIdle_18 0 rfl ?_
      obtain ⟨q7, h⟩ := h
      refine mg_cd C (focM_g F) hE.1 q7 dX5_isSomeIdle_19 ?_
      refine k_callVi (st := []) C hE (c_X5_lengthOf l F hA nw hi sv th cd ha (cd x1.toNatClampNeg)  _ h) (cwV 1 C.2.2.2.2 gX5_isSomeIdle_X5_lengthOf rfl rfl rfl (by decide +kernel) ⟨Nat.le_of_ble_eq_true rfl, Nat.le_of_ble_eq_true rfl⟩) (fun H hP => va_recv hE.1 (k_one (mst_Mo ((focM_g F) H hP))) rfl (q0 := 0) rfl) rfl rfl (Nat.le_of_ble_eq_true rfl) dX5_isSomeIdle_20 ⟨Nat.zero_le _, Nat.zero_le _⟩ (fun r8 => ?_)
      refine k_and (fun h => ?_)
      refine k_if_ne (tgt := 30) C dX5_isSomeIdle_23 (by decide) (fun c9 => ?_) (fun c9 => ?_)
      · replace h := h.2 c9
        refine k_iconst (v := 0) C dX5_isSomeIdle_30 (by decide) ?_
        refine k_istore_n (lv' := [(2, .int 0), (3, .int x1), (0, .ref o), (1, .int n)]) C dX5_isSomeIdle_31 rfl (by decide) rfl ?_
        obtain ⟨x10, ex10⟩ : ∃ z : Int32, z = x1 + 1 := ⟨_, rfl⟩
        replace h := h x10 ex10
        refine k_iinc (v := x10) (lv' := [(3, .int x10), (2, .int 0), (0, .ref o), (1, .int n)]) (j := 1) C dX5_isSomeIdle_32 rfl (by rw [ex10]; rfl) (by decide) rfl ?_
        refine k_goto (tgt := 4) C dX5_isSomeIdle_35 (by decide) ?_
        refine k_pc (pc2 := 4) rfl ?_
        refine k_sub [0, 1, 2, 3] rfl ?_
        exact ih4 _ _ h
      · replace h := h.1 c9
        refine k_iconst (v := 1) C dX5_isSomeIdle_26 (by decide) ?_
        refine k_goto (tgt := 31) C dX5_isSomeIdle_27 (by decide) ?_
        refine k_istore_n (lv' := [(2, .int 1), (3, .int x1), (0, .ref o), (1, .int n)]) C dX5_isSomeIdle_31 rfl (by decide) rfl ?_
        obtain ⟨x11, ex11⟩ : ∃ z : Int32, z = x1 + 1 := ⟨_, rfl⟩
        replace h := h x11 ex11
        refine k_iinc (v := x11) (lv' := [(3, .int x11), (2, .int 1), (0, .ref o), (1, .int n)]) (j := 1) C dX5_isSomeIdle_32 rfl (by rw [ex11]; rfl) (by decide) rfl ?_
        refine k_goto (tgt := 4) C dX5_isSomeIdle_35 (by decide) ?_
        refine k_pc (pc2 := 4) rfl ?_
        refine k_sub [0, 1, 2, 3] rfl ?_
        exact ih4 _ _ h
noncomputable def wp_X5_submit (nw : Nat → Int32) (hi : Nat → Int32) (sv : Int32) (cd : Nat → Int32) (dsp : Int32) (size : Int32) (k : Int32 → (Nat → Int32) → (Nat → Int32) → Int32 → Int32 → (Nat → Int32) → Prop) : Prop := wp_X5_isDispatcher nw dsp (fun r1 => (r1 = 0 → (wp_X5_refuse 1 (fun r3 th_4 => k r3 nw hi sv th_4 cd))) ∧ (¬ (r1 = 0) → (wp_X5_in size 1 20 (fun r5 => (r5 = 0 → (wp_X5_refuse 1 (fun r77 th_78 => k r77 nw hi sv th_78 cd))) ∧ (¬ r5 = 0 → (wp_X5_findCandidates nw cd (fun r7 cd_8 => (r7 = 0 → (wp_X5_refuse 2 (fun r10 th_11 => k r10 nw hi sv th_11 cd_8))) ∧ (¬ (r7 = 0) → (((nw 6) = 200 → (wp_X5_refuse 2 (fun r75 th_76 => k r75 nw hi sv th_76 cd_8))) ∧ (¬ (nw 6) = 200 → (wp_X5_save nw hi sv (fun hi_13 sv_14 => wp_X5_taken nw cd_8 dsp r7 (fun r15 nw_16 => wp_X5_lengthOf nw_16 r15 (fun r17 => (r17 ≤ 0 → (∀ nw_19 : Nat → Int32, nw_19 = upd nw_16 8 ((nw_16 8) + 0) → (wp_X5_leave nw_19 r15 (fun nw_20 => ∀ x21 : Int32, x21 = (nw_20 6) → ((vp_in (93 + x21) 893) ∧ (∀ nw_23 : Nat → Int32, nw_23 = upd nw_20 (93 + x21).toNatClampNeg r15 → ((vp_in (293 + x21) 893) ∧ (∀ nw_25 : Nat → Int32, nw_25 = upd nw_23 (293 + x21).toNatClampNeg size → ((r17 = 0 → ((vp_in (493 + x21) 893) ∧ (∀ nw_33 : Nat → Int32, nw_33 = upd nw_25 (493 + x21).toNatClampNeg 0 → ((vp_in (693 + x21) 893) ∧ (∀ nw_35 : Nat → Int32, nw_35 = upd nw_33 (693 + x21).toNatClampNeg (nw_33 1) → (∀ nw_36 : Nat → Int32, nw_36 = upd nw_35 6 ((nw_35 6) + 1) → (k r15 nw_36 hi_13 sv_14 0 cd_8))))))) ∧ (¬ r17 = 0 → ((vp_in (493 + x21) 893) ∧ (∀ nw_28 : Nat → Int32, nw_28 = upd nw_25 (493 + x21).toNatClampNeg (-1) → ((vp_in (693 + x21) 893) ∧ (∀ nw_30 : Nat → Int32, nw_30 = upd nw_28 (693 + x21).toNatClampNeg (nw_28 1) → (∀ nw_31 : Nat → Int32, nw_31 = upd nw_30 6 ((nw_30 6) + 1) → (k r15 nw_31 hi_13 sv_14 0 cd_8)))))))))))))))) ∧ (¬ (r17 ≤ 0) → (wp_X5_isSomeIdle nw_16 cd_8 r7 (fun r37 => (r37 = 0 → (∀ nw_39 : Nat → Int32, nw_39 = upd nw_16 8 ((nw_16 8) + 0) → (wp_X5_leave nw_39 r15 (fun nw_40 => ∀ x41 : Int32, x41 = (nw_40 6) → ((vp_in (93 + x41) 893) ∧ (∀ nw_43 : Nat → Int32, nw_43 = upd nw_40 (93 + x41).toNatClampNeg r15 → ((vp_in (293 + x41) 893) ∧ (∀ nw_45 : Nat → Int32, nw_45 = upd nw_43 (293 + x41).toNatClampNeg size → ((r17 = 0 → ((vp_in (493 + x41) 893) ∧ (∀ nw_53 : Nat → Int32, nw_53 = upd nw_45 (493 + x41).toNatClampNeg 0 → ((vp_in (693 + x41) 893) ∧ (∀ nw_55 : Nat → Int32, nw_55 = upd nw_53 (693 + x41).toNatClampNeg (nw_53 1) → (∀ nw_56 : Nat → Int32, nw_56 = upd nw_55 6 ((nw_55 6) + 1) → (k r15 nw_56 hi_13 sv_14 0 cd_8))))))) ∧ (¬ r17 = 0 → ((vp_in (493 + x41) 893) ∧ (∀ nw_48 : Nat → Int32, nw_48 = upd nw_45 (493 + x41).toNatClampNeg (-1) → ((vp_in (693 + x41) 893) ∧ (∀ nw_50 : Nat → Int32, nw_50 = upd nw_48 (693 + x41).toNatClampNeg (nw_48 1) → (∀ nw_51 : Nat → Int32, nw_51 = upd nw_50 6 ((nw_50 6) + 1) → (k r15 nw_51 hi_13 sv_14 0 cd_8)))))))))))))))) ∧ (¬ (r37 = 0) → (∀ nw_57 : Nat → Int32, nw_57 = upd nw_16 8 ((nw_16 8) + 1) → (wp_X5_leave nw_57 r15 (fun nw_58 => ∀ x59 : Int32, x59 = (nw_58 6) → ((vp_in (93 + x59) 893) ∧ (∀ nw_61 : Nat → Int32, nw_61 = upd nw_58 (93 + x59).toNatClampNeg r15 → ((vp_in (293 + x59) 893) ∧ (∀ nw_63 : Nat → Int32, nw_63 = upd nw_61 (293 + x59).toNatClampNeg size → ((r17 = 0 → ((vp_in (493 + x59) 893) ∧ (∀ nw_71 : Nat → Int32, nw_71 = upd nw_63 (493 + x59).toNatClampNeg 0 → ((vp_in (693 + x59) 893) ∧ (∀ nw_73 : Nat → Int32, nw_73 = upd nw_71 (693 + x59).toNatClampNeg (nw_71 1) → (∀ nw_74 : Nat → Int32, nw_74 = upd nw_73 6 ((nw_73 6) + 1) → (k r15 nw_74 hi_13 sv_14 0 cd_8))))))) ∧ (¬ r17 = 0 → ((vp_in (493 + x59) 893) ∧ (∀ nw_66 : Nat → Int32, nw_66 = upd nw_63 (493 + x59).toNatClampNeg (-1) → ((vp_in (693 + x59) 893) ∧ (∀ nw_68 : Nat → Int32, nw_68 = upd nw_66 (693 + x59).toNatClampNeg (nw_66 1) → (∀ nw_69 : Nat → Int32, nw_69 = upd nw_68 6 ((nw_68 6) + 1) → (k r15 nw_69 hi_13 sv_14 0 cd_8)))))))))))))))))))))))))))))))))
set_option maxRecDepth 100000 in
set_option maxHeartbeats 4000000 in
theorem c_X5_submit (l : Launch) {E : EV} {o : Nat} {P : PM} {A : Nat → Prop} (F : FocM E o P) (hA : ∀ q, inMo o q → A q) (nw : Nat → Int32) (hi : Nat → Int32) (sv : Int32) (th : Int32) (cd : Nat → Int32) (ha : Int64) (dsp : Int32) (size : Int32)  (k : Int32 → (Nat → Int32) → (Nat → Int32) → Int32 → Int32 → (Nat → Int32) → Prop) (h : wp_X5_submit nw hi sv cd dsp size k) : Met l yX5_submit wsX5_submit { frames := 4, cells := 0, slots := 0, locals := 92 } (va_Pc [.ref o, .int dsp, .int size] (fun U => P nw hi sv th cd ha U.heap ∧ XE E U)) (kQi (fun r H => ∃ nw9 : Nat → Int32, ∃ hi9 : Nat → Int32, ∃ sv9 : Int32, ∃ th9 : Int32, ∃ cd9 : Nat → Int32, k r nw9 hi9 sv9 th9 cd9 ∧ P nw9 hi9 sv9 th9 cd9 ha H) A) 0 0 A := by
  refine k_body (cc := cX5_submit) (own := RX5) (maxL := 7) (ret := (some .int)) (lv0 := [(0, .ref o), (1, .int dsp), (2, .int size)]) (by decide) rfl rfl (Nat.le_of_ble_eq_true rfl) rfl (fun p e s m below meth c C hr hlk hP hE => ?_)
  have hi5 : ∀ w ∈ u_ws RX5 TX5 6, w ∈ wsX5_submit := by decide +kernel
  have lk0 := C.2.2.2.2 (.fieldLink RX5 19 "IdleDispatcherModel" "thrown" "I") (by decide +kernel)
  have lk1 := C.2.2.2.2 (.fieldLink RX5 7 "IdleDispatcherModel" "now" "[I") (by decide +kernel)
  refine k_aload_n C dX5_submit_0 0 rfl ?_
  refine k_iconst (v := 0) C dX5_submit_1 (by decide) ?_
  refine mp_th C F hA hE.1 hi5 lk0 dX5_submit_2 ?_
  refine k_aload_n C dX5_submit_5 0 rfl ?_
  refine k_iload_n C dX5_submit_6 1 rfl ?_
  refine k_callVi (st := []) C hE (c_X5_isDispatcher l F hA nw hi sv 0 cd ha dsp  _ h) (cwV 1 C.2.2.2.2 gX5_submit_X5_isDispatcher rfl rfl rfl (by decide +kernel) ⟨Nat.le_of_ble_eq_true rfl, Nat.le_of_ble_eq_true rfl⟩) (fun H hP => va_recv hE.1 (k_one (mst_Mo ((focM_g F) H hP))) rfl (q0 := 0) rfl) rfl rfl (Nat.le_of_ble_eq_true rfl) dX5_submit_7 ⟨Nat.zero_le _, Nat.zero_le _⟩ (fun r1 => ?_)
  refine k_and (fun h => ?_)
  refine k_if_eq (tgt := 23) C dX5_submit_10 (by decide) (fun c2 => ?_) (fun c2 => ?_)
  · replace h := h.1 c2
    refine k_aload_n C dX5_submit_23 0 rfl ?_
    refine k_iconst (v := 1) C dX5_submit_24 (by decide) ?_
    refine k_callVi (st := []) C hE (c_X5_refuse l F hA nw hi sv 0 cd ha 1  _ h) (cwV 1 C.2.2.2.2 gX5_submit_X5_refuse rfl rfl rfl (by decide +kernel) ⟨Nat.le_of_ble_eq_true rfl, Nat.le_of_ble_eq_true rfl⟩) (fun H hP => va_recv hE.1 (k_one (mst_Mo ((focM_g F) H hP))) rfl (q0 := 0) rfl) rfl rfl (Nat.le_of_ble_eq_true rfl) dX5_submit_25 ⟨Nat.zero_le _, Nat.zero_le _⟩ (fun r3 => ?_)
    refine k_ex (fun th_4 => k_and (fun h => ?_))
    exact k_iret C hr hlk dX5_submit_28 (fun H hP => ⟨nw, hi, sv, th_4, cd, h, hP⟩)
  · replace h := h.2 c2
    refine k_iload_n C dX5_submit_13 2 rfl ?_
    refine k_iconst (v := 1) C dX5_submit_14 (by decide) ?_
    refine k_bipush (v := 20) C dX5_submit_15 (by decide) ?_
    refine k_callSi (st := []) C hE (c_X5_in l (P := P nw hi sv 0 cd ha) (A := A) (E := E) size 1 20 _ h) (va_cwS 3 C.2.2.2.2 gX5_submit_X5_in rfl rfl rfl (by decide +kernel) ⟨Nat.le_of_ble_eq_true rfl, Nat.le_of_ble_eq_true rfl⟩) rfl rfl (Nat.le_of_ble_eq_true rfl) dX5_submit_17 ⟨Nat.zero_le _, Nat.zero_le _⟩ (fun r5 => ?_)
    refine k_and (fun h => ?_)
    refine k_if_ne (tgt := 29) C dX5_submit_20 (by decide) (fun c6 => ?_) (fun c6 => ?_)
    · replace h := h.2 c6
      refine k_aload_n C dX5_submit_29 0 rfl ?_
      refine k_callVi (st := []) C hE (c_X5_findCandidates l F hA nw hi sv 0 cd ha   _ h) (cwV 0 C.2.2.2.2 gX5_submit_X5_findCandidates rfl rfl rfl (by decide +kernel) ⟨Nat.le_of_ble_eq_true rfl, Nat.le_of_ble_eq_true rfl⟩) (fun H hP => va_recv hE.1 (k_one (mst_Mo ((focM_g F) H hP))) rfl (q0 := 0) rfl) rfl rfl (Nat.le_of_ble_eq_true rfl) dX5_submit_30 ⟨Nat.zero_le _, Nat.zero_le _⟩ (fun r7 => ?_)
      refine k_ex (fun cd_8 => k_and (fun h => ?_))
      refine k_istore_n (lv' := [(3, .int r7), (0, .ref o), (1, .int dsp), (2, .int size)]) C dX5_submit_33 rfl (by decide) rfl ?_
      refine k_iload_n C dX5_submit_34 0 rfl ?_
      refine k_if_eq (tgt := 51) C dX5_submit_35 (by decide) (fun c9 => ?_) (fun c9 => ?_)
      · replace h := h.1 c9
        refine k_aload_n C dX5_submit_51 1 rfl ?_
        refine k_iconst (v := 2) C dX5_submit_52 (by decide) ?_
        refine k_callVi (st := []) C hE (c_X5_refuse l F hA nw hi sv 0 cd_8 ha 2  _ h) (cwV 1 C.2.2.2.2 gX5_submit_X5_refuse rfl rfl rfl (by decide +kernel) ⟨Nat.le_of_ble_eq_true rfl, Nat.le_of_ble_eq_true rfl⟩) (fun H hP => va_recv hE.1 (k_one (mst_Mo ((focM_g F) H hP))) rfl (q0 := 0) rfl) rfl rfl (Nat.le_of_ble_eq_true rfl) dX5_submit_53 ⟨Nat.zero_le _, Nat.zero_le _⟩ (fun r10 => ?_)
        refine k_ex (fun th_11 => k_and (fun h => ?_))
        exact k_iret C hr hlk dX5_submit_56 (fun H hP => ⟨nw, hi, sv, th_11, cd_8, h, hP⟩)
      · replace h := h.2 c9
        refine k_aload_n C dX5_submit_38 1 rfl ?_
        refine mg_Mo_now C (focM_g F) hE.1 hi5 lk1 dX5_submit_39 ?_
        refine k_bipush (v := 6) C dX5_submit_42 (by decide) ?_
        refine mg_nw C (focM_g F) hE.1 (vp_lit (i := 6) (n := 893) (by decide)) dX5_submit_44 ?_
        refine k_sipush (v := 200) C dX5_submit_45 (by decide) ?_
        refine k_icmp_ne (tgt := 57) C dX5_submit_48 (by decide) (fun c12 => ?_) (fun c12 => ?_)
        · replace h := h.2 c12
          refine k_aload_n C dX5_submit_57 1 rfl ?_
          refine k_callVv (st := []) C hE (c_X5_save l F hA nw hi sv 0 cd_8 ha   _ h) (cwV 0 C.2.2.2.2 gX5_submit_X5_save rfl rfl rfl (by decide +kernel) ⟨Nat.le_of_ble_eq_true rfl, Nat.le_of_ble_eq_true rfl⟩) (fun H hP => va_recv hE.1 (k_one (mst_Mo ((focM_g F) H hP))) rfl (q0 := 0) rfl) rfl rfl (Nat.le_of_ble_eq_true rfl) dX5_submit_58 ⟨Nat.zero_le _, Nat.zero_le _⟩ (fun _ => ?_)
          refine k_ex (fun hi_13 => k_ex (fun sv_14 => k_and (fun h => ?_)))
          refine k_aload_n C dX5_submit_61 1 rfl ?_
          refine k_iload_n C dX5_submit_62 2 rfl ?_
          refine k_iload_n C dX5_submit_63 0 rfl ?_
          refine k_callVi (st := []) C hE (c_X5_taken l F hA nw hi_13 sv_14 0 cd_8 ha dsp r7  _ h) (cwV 2 C.2.2.2.2 gX5_submit_X5_taken rfl rfl rfl (by decide +kernel) ⟨Nat.le_of_ble_eq_true rfl, Nat.le_of_ble_eq_true rfl⟩) (fun H hP => va_recv hE.1 (k_one (mst_Mo ((focM_g F) H hP))) rfl (q0 := 0) rfl) rfl rfl (Nat.le_of_ble_eq_true rfl) dX5_submit_64 ⟨Nat.zero_le _, Nat.zero_le _⟩ (fun r15 => ?_)
          refine k_ex (fun nw_16 => k_and (fun h => ?_))
          refine k_istore (lv' := [(4, .int r15), (3, .int r7), (0, .ref o), (1, .int dsp), (2, .int size)]) C dX5_submit_67 (by decide) rfl ?_
          refine k_aload_n C dX5_submit_69 2 rfl ?_
          refine k_iload C dX5_submit_70 0 rfl ?_
          refine k_callVi (st := []) C hE (c_X5_lengthOf l F hA nw_16 hi_13 sv_14 0 cd_8 ha r15  _ h) (cwV 1 C.2.2.2.2 gX5_submit_X5_lengthOf rfl rfl rfl (by decide +kernel) ⟨Nat.le_of_ble_eq_true rfl, Nat.le_of_ble_eq_true rfl⟩) (fun H hP => va_recv hE.1 (k_one (mst_Mo ((focM_g F) H hP))) rfl (q0 := 0) rfl) rfl rfl (Nat.le_of_ble_eq_true rfl) dX5_submit_72 ⟨Nat.zero_le _, Nat.zero_le _⟩ (fun r17 => ?_)
          refine k_and (fun h => ?_)
          refine k_istore (lv' := [(5, .int r17), (4, .int r15), (3, .int r7), (0, .ref o), (1, .int dsp), (2, .int size)]) C dX5_submit_75 (by decide) rfl ?_
          refine k_aload_n C dX5_submit_77 3 rfl ?_
          refine mg_Mo_now C (focM_g F) hE.1 hi5 lk1 dX5_submit_78 ?_
          refine k_bipush (v := 8) C dX5_submit_81 (by decide) ?_
          refine k_dup2_11 C dX5_submit_83 rfl rfl ?_
          refine mg_nw C (focM_g F) hE.1 (vp_lit (i := 8) (n := 893) (by decide)) dX5_submit_84 ?_
          refine k_iload C dX5_submit_85 0 rfl ?_
          refine k_if_le (tgt := 102) C dX5_submit_87 (by decide) (fun c18 => ?_) (fun c18 => ?_)
          · replace h := h.1 c18
            refine k_iconst (v := 0) C dX5_submit_102 (by decide) ?_
            refine k_iadd C dX5_submit_103 ?_
            obtain ⟨nw_19, enw_19⟩ : ∃ z : Nat → Int32, z = upd nw_16 8 ((nw_16 8) + 0) := ⟨_, rfl⟩
            replace h := h nw_19 enw_19
            refine mp_nw C F hA hE.1 (vp_lit (i := 8) (n := 893) (by decide)) enw_19 dX5_submit_104 ?_
            refine k_aload_n C dX5_submit_105 3 rfl ?_
            refine k_iload C dX5_submit_106 1 rfl ?_
            refine k_callVv (st := []) C hE (c_X5_leave l F hA nw_19 hi_13 sv_14 0 cd_8 ha r15  _ h) (cwV 1 C.2.2.2.2 gX5_submit_X5_leave rfl rfl rfl (by decide +kernel) ⟨Nat.le_of_ble_eq_true rfl, Nat.le_of_ble_eq_true rfl⟩) (fun H hP => va_recv hE.1 (k_one (mst_Mo ((focM_g F) H hP))) rfl (q0 := 0) rfl) rfl rfl (Nat.le_of_ble_eq_true rfl) dX5_submit_108 ⟨Nat.zero_le _, Nat.zero_le _⟩ (fun _ => ?_)
            refine k_ex (fun nw_20 => k_and (fun h => ?_))
            refine k_aload_n C dX5_submit_111 3 rfl ?_
            refine mg_Mo_now C (focM_g F) hE.1 hi5 lk1 dX5_submit_112 ?_
            refine k_bipush (v := 6) C dX5_submit_115 (by decide) ?_
            refine mg_nw C (focM_g F) hE.1 (vp_lit (i := 6) (n := 893) (by decide)) dX5_submit_117 ?_
            refine k_topi (fun x21 ex21 => ?_)
            replace h := h x21 ex21
            refine k_istore (lv' := [(6, .int x21), (5, .int r17), (4, .int r15), (3, .int r7), (0, .ref o), (1, .int dsp), (2, .int size)]) C dX5_submit_118 (by decide) rfl ?_
            refine k_aload_n C dX5_submit_120 4 rfl ?_
            refine mg_Mo_now C (focM_g F) hE.1 hi5 lk1 dX5_submit_121 ?_
            refine k_bipush (v := 93) C dX5_submit_124 (by decide) ?_
            refine k_iload C dX5_submit_126 0 rfl ?_
            refine k_iadd C dX5_submit_128 ?_
            refine k_iload C dX5_submit_129 2 rfl ?_
            obtain ⟨q22, h⟩ := h
            obtain ⟨nw_23, enw_23⟩ : ∃ z : Nat → Int32, z = upd nw_20 (93 + x21).toNatClampNeg r15 := ⟨_, rfl⟩
            replace h := h nw_23 enw_23
            refine mp_nw C F hA hE.1 q22 enw_23 dX5_submit_131 ?_
            refine k_aload_n C dX5_submit_132 4 rfl ?_
            refine mg_Mo_now C (focM_g F) hE.1 hi5 lk1 dX5_submit_133 ?_
            refine k_sipush (v := 293) C dX5_submit_136 (by decide) ?_
            refine k_iload C dX5_submit_139 0 rfl ?_
            refine k_iadd C dX5_submit_141 ?_
            refine k_iload_n C dX5_submit_142 6 rfl ?_
            obtain ⟨q24, h⟩ := h
            obtain ⟨nw_25, enw_25⟩ : ∃ z : Nat → Int32, z = upd nw_23 (293 + x21).toNatClampNeg size := ⟨_, rfl⟩
            replace h := h nw_25 enw_25
            refine mp_nw C F hA hE.1 q24 enw_25 dX5_submit_143 ?_
            refine k_aload_n C dX5_submit_144 4 rfl ?_
            refine mg_Mo_now C (focM_g F) hE.1 hi5 lk1 dX5_submit_145 ?_
            refine k_sipush (v := 493) C dX5_submit_148 (by decide) ?_
            refine k_iload C dX5_submit_151 0 rfl ?_
            refine k_iadd C dX5_submit_153 ?_
            refine k_iload C dX5_submit_154 1 rfl ?_
            refine k_if_ne (tgt := 163) C dX5_submit_156 (by decide) (fun c26 => ?_) (fun c26 => ?_)
            · replace h := h.2 c26
              refine k_iconst (v := (-1)) C dX5_submit_163 (by decide) ?_
              obtain ⟨q27, h⟩ := h
              obtain ⟨nw_28, enw_28⟩ : ∃ z : Nat → Int32, z = upd nw_25 (493 + x21).toNatClampNeg (-1) := ⟨_, rfl⟩
              replace h := h nw_28 enw_28
              refine mp_nw C F hA hE.1 q27 enw_28 dX5_submit_164 ?_
              refine k_aload_n C dX5_submit_165 4 rfl ?_
              refine mg_Mo_now C (focM_g F) hE.1 hi5 lk1 dX5_submit_166 ?_
              refine k_sipush (v := 693) C dX5_submit_169 (by decide) ?_
              refine k_iload C dX5_submit_172 0 rfl ?_
              refine k_iadd C dX5_submit_174 ?_
              refine k_aload_n C dX5_submit_175 4 rfl ?_
              refine mg_Mo_now C (focM_g F) hE.1 hi5 lk1 dX5_submit_176 ?_
              refine k_iconst (v := 1) C dX5_submit_179 (by decide) ?_
              refine mg_nw C (focM_g F) hE.1 (vp_lit (i := 1) (n := 893) (by decide)) dX5_submit_180 ?_
              obtain ⟨q29, h⟩ := h
              obtain ⟨nw_30, enw_30⟩ : ∃ z : Nat → Int32, z = upd nw_28 (693 + x21).toNatClampNeg (nw_28 1) := ⟨_, rfl⟩
              replace h := h nw_30 enw_30
              refine mp_nw C F hA hE.1 q29 enw_30 dX5_submit_181 ?_
              refine k_aload_n C dX5_submit_182 4 rfl ?_
              refine mg_Mo_now C (focM_g F) hE.1 hi5 lk1 dX5_submit_183 ?_
              refine k_bipush (v := 6) C dX5_submit_186 (by decide) ?_
              refine k_dup2_11 C dX5_submit_188 rfl rfl ?_
              refine mg_nw C (focM_g F) hE.1 (vp_lit (i := 6) (n := 893) (by decide)) dX5_submit_189 ?_
              refine k_iconst (v := 1) C dX5_submit_190 (by decide) ?_
              refine k_iadd C dX5_submit_191 ?_
              obtain ⟨nw_31, enw_31⟩ : ∃ z : Nat → Int32, z = upd nw_30 6 ((nw_30 6) + 1) := ⟨_, rfl⟩
              replace h := h nw_31 enw_31
              refine mp_nw C F hA hE.1 (vp_lit (i := 6) (n := 893) (by decide)) enw_31 dX5_submit_192 ?_
              refine k_iload C dX5_submit_193 2 rfl ?_
              exact k_iret C hr hlk dX5_submit_195 (fun H hP => ⟨nw_31, hi_13, sv_14, 0, cd_8, h, hP⟩)
            · replace h := h.1 c26
              refine k_iconst (v := 0) C dX5_submit_159 (by decide) ?_
              refine k_goto (tgt := 164) C dX5_submit_160 (by decide) ?_
              obtain ⟨q32, h⟩ := h
              obtain ⟨nw_33, enw_33⟩ : ∃ z : Nat → Int32, z = upd nw_25 (493 + x21).toNatClampNeg 0 := ⟨_, rfl⟩
              replace h := h nw_33 enw_33
              refine mp_nw C F hA hE.1 q32 enw_33 dX5_submit_164 ?_
              refine k_aload_n C dX5_submit_165 4 rfl ?_
              refine mg_Mo_now C (focM_g F) hE.1 hi5 lk1 dX5_submit_166 ?_
              refine k_sipush (v := 693) C dX5_submit_169 (by decide) ?_
              refine k_iload C dX5_submit_172 0 rfl ?_
              refine k_iadd C dX5_submit_174 ?_
              refine k_aload_n C dX5_submit_175 4 rfl ?_
              refine mg_Mo_now C (focM_g F) hE.1 hi5 lk1 dX5_submit_176 ?_
              refine k_iconst (v := 1) C dX5_submit_179 (by decide) ?_
              refine mg_nw C (focM_g F) hE.1 (vp_lit (i := 1) (n := 893) (by decide)) dX5_submit_180 ?_
              obtain ⟨q34, h⟩ := h
              obtain ⟨nw_35, enw_35⟩ : ∃ z : Nat → Int32, z = upd nw_33 (693 + x21).toNatClampNeg (nw_33 1) := ⟨_, rfl⟩
              replace h := h nw_35 enw_35
              refine mp_nw C F hA hE.1 q34 enw_35 dX5_submit_181 ?_
              refine k_aload_n C dX5_submit_182 4 rfl ?_
              refine mg_Mo_now C (focM_g F) hE.1 hi5 lk1 dX5_submit_183 ?_
              refine k_bipush (v := 6) C dX5_submit_186 (by decide) ?_
              refine k_dup2_11 C dX5_submit_188 rfl rfl ?_
              refine mg_nw C (focM_g F) hE.1 (vp_lit (i := 6) (n := 893) (by decide)) dX5_submit_189 ?_
              refine k_iconst (v := 1) C dX5_submit_190 (by decide) ?_
              refine k_iadd C dX5_submit_191 ?_
              obtain ⟨nw_36, enw_36⟩ : ∃ z : Nat → Int32, z = upd nw_35 6 ((nw_35 6) + 1) := ⟨_, rfl⟩
              replace h := h nw_36 enw_36
              refine mp_nw C F hA hE.1 (vp_lit (i := 6) (n := 893) (by decide)) enw_36 dX5_submit_192 ?_
              refine k_iload C dX5_submit_193 2 rfl ?_
              exact k_iret C hr hlk dX5_submit_195 (fun H hP => ⟨nw_36, hi_13, sv_14, 0, cd_8, h, hP⟩)
          · replace h := h.2 c18
            refine k_aload_n C dX5_submit_90 3 rfl ?_
            refine k_iload_n C dX5_submit_91 2 rfl ?_
            refine k_callVi (st := [.int (nw_16 8), .int 8, .ref (o + (1))]) C hE (c_X5_isSomeIdle l F hA nw_16 hi_13 sv_14 0 cd_8 ha r7  _ h) (cwV 1 C.2.2.2.2 gX5_submit_X5_isSomeIdle rfl rfl rfl (by decide +kernel) ⟨Nat.le_of_ble_eq_true rfl, Nat.le_of_ble_eq_true rfl⟩) (fun H hP => va_recv hE.1 (k_one (mst_Mo ((focM_g F) H hP))) rfl (q0 := 0) rfl) rfl rfl (Nat.le_of_ble_eq_true rfl) dX5_submit_92 ⟨Nat.zero_le _, Nat.zero_le _⟩ (fun r37 => ?_)
            refine k_and (fun h => ?_)
            refine k_if_eq (tgt := 102) C dX5_submit_95 (by decide) (fun c38 => ?_) (fun c38 => ?_)
            · replace h := h.1 c38
              refine k_iconst (v := 0) C dX5_submit_102 (by decide) ?_
              refine k_iadd C dX5_submit_103 ?_
              obtain ⟨nw_39, enw_39⟩ : ∃ z : Nat → Int32, z = upd nw_16 8 ((nw_16 8) + 0) := ⟨_, rfl⟩
              replace h := h nw_39 enw_39
              refine mp_nw C F hA hE.1 (vp_lit (i := 8) (n := 893) (by decide)) enw_39 dX5_submit_104 ?_
              refine k_aload_n C dX5_submit_105 3 rfl ?_
              refine k_iload C dX5_submit_106 1 rfl ?_
              refine k_callVv (st := []) C hE (c_X5_leave l F hA nw_39 hi_13 sv_14 0 cd_8 ha r15  _ h) (cwV 1 C.2.2.2.2 gX5_submit_X5_leave rfl rfl rfl (by decide +kernel) ⟨Nat.le_of_ble_eq_true rfl, Nat.le_of_ble_eq_true rfl⟩) (fun H hP => va_recv hE.1 (k_one (mst_Mo ((focM_g F) H hP))) rfl (q0 := 0) rfl) rfl rfl (Nat.le_of_ble_eq_true rfl) dX5_submit_108 ⟨Nat.zero_le _, Nat.zero_le _⟩ (fun _ => ?_)
              refine k_ex (fun nw_40 => k_and (fun h => ?_))
              refine k_aload_n C dX5_submit_111 3 rfl ?_
              refine mg_Mo_now C (focM_g F) hE.1 hi5 lk1 dX5_submit_112 ?_
              refine k_bipush (v := 6) C dX5_submit_115 (by decide) ?_
              refine mg_nw C (focM_g F) hE.1 (vp_lit (i := 6) (n := 893) (by decide)) dX5_submit_117 ?_
              refine k_topi (fun x41 ex41 => ?_)
              replace h := h x41 ex41
              refine k_istore (lv' := [(6, .int x41), (5, .int r17), (4, .int r15), (3, .int r7), (0, .ref o), (1, .int dsp), (2, .int size)]) C dX5_submit_118 (by decide) rfl ?_
              refine k_aload_n C dX5_submit_120 4 rfl ?_
              refine mg_Mo_now C (focM_g F) hE.1 hi5 lk1 dX5_submit_121 ?_
              refine k_bipush (v := 93) C dX5_submit_124 (by decide) ?_
              refine k_iload C dX5_submit_126 0 rfl ?_
              refine k_iadd C dX5_submit_128 ?_
              refine k_iload C dX5_submit_129 2 rfl ?_
              obtain ⟨q42, h⟩ := h
              obtain ⟨nw_43, enw_43⟩ : ∃ z : Nat → Int32, z = upd nw_40 (93 + x41).toNatClampNeg r15 := ⟨_, rfl⟩
              replace h := h nw_43 enw_43
              refine mp_nw C F hA hE.1 q42 enw_43 dX5_submit_131 ?_
              refine k_aload_n C dX5_submit_132 4 rfl ?_
              refine mg_Mo_now C (focM_g F) hE.1 hi5 lk1 dX5_submit_133 ?_
              refine k_sipush (v := 293) C dX5_submit_136 (by decide) ?_
              refine k_iload C dX5_submit_139 0 rfl ?_
              refine k_iadd C dX5_submit_141 ?_
              refine k_iload_n C dX5_submit_142 6 rfl ?_
              obtain ⟨q44, h⟩ := h
              obtain ⟨nw_45, enw_45⟩ : ∃ z : Nat → Int32, z = upd nw_43 (293 + x41).toNatClampNeg size := ⟨_, rfl⟩
              replace h := h nw_45 enw_45
              refine mp_nw C F hA hE.1 q44 enw_45 dX5_submit_143 ?_
              refine k_aload_n C dX5_submit_144 4 rfl ?_
              refine mg_Mo_now C (focM_g F) hE.1 hi5 lk1 dX5_submit_145 ?_
              refine k_sipush (v := 493) C dX5_submit_148 (by decide) ?_
              refine k_iload C dX5_submit_151 0 rfl ?_
              refine k_iadd C dX5_submit_153 ?_
              refine k_iload C dX5_submit_154 1 rfl ?_
              refine k_if_ne (tgt := 163) C dX5_submit_156 (by decide) (fun c46 => ?_) (fun c46 => ?_)
              · replace h := h.2 c46
                refine k_iconst (v := (-1)) C dX5_submit_163 (by decide) ?_
                obtain ⟨q47, h⟩ := h
                obtain ⟨nw_48, enw_48⟩ : ∃ z : Nat → Int32, z = upd nw_45 (493 + x41).toNatClampNeg (-1) := ⟨_, rfl⟩
                replace h := h nw_48 enw_48
                refine mp_nw C F hA hE.1 q47 enw_48 dX5_submit_164 ?_
                refine k_aload_n C dX5_submit_165 4 rfl ?_
                refine mg_Mo_now C (focM_g F) hE.1 hi5 lk1 dX5_submit_166 ?_
                refine k_sipush (v := 693) C dX5_submit_169 (by decide) ?_
                refine k_iload C dX5_submit_172 0 rfl ?_
                refine k_iadd C dX5_submit_174 ?_
                refine k_aload_n C dX5_submit_175 4 rfl ?_
                refine mg_Mo_now C (focM_g F) hE.1 hi5 lk1 dX5_submit_176 ?_
                refine k_iconst (v := 1) C dX5_submit_179 (by decide) ?_
                refine mg_nw C (focM_g F) hE.1 (vp_lit (i := 1) (n := 893) (by decide)) dX5_submit_180 ?_
                obtain ⟨q49, h⟩ := h
                obtain ⟨nw_50, enw_50⟩ : ∃ z : Nat → Int32, z = upd nw_48 (693 + x41).toNatClampNeg (nw_48 1) := ⟨_, rfl⟩
                replace h := h nw_50 enw_50
                refine mp_nw C F hA hE.1 q49 enw_50 dX5_submit_181 ?_
                refine k_aload_n C dX5_submit_182 4 rfl ?_
                refine mg_Mo_now C (focM_g F) hE.1 hi5 lk1 dX5_submit_183 ?_
                refine k_bipush (v := 6) C dX5_submit_186 (by decide) ?_
                refine k_dup2_11 C dX5_submit_188 rfl rfl ?_
                refine mg_nw C (focM_g F) hE.1 (vp_lit (i := 6) (n := 893) (by decide)) dX5_submit_189 ?_
                refine k_iconst (v := 1) C dX5_submit_190 (by decide) ?_
                refine k_iadd C dX5_submit_191 ?_
                obtain ⟨nw_51, enw_51⟩ : ∃ z : Nat → Int32, z = upd nw_50 6 ((nw_50 6) + 1) := ⟨_, rfl⟩
                replace h := h nw_51 enw_51
                refine mp_nw C F hA hE.1 (vp_lit (i := 6) (n := 893) (by decide)) enw_51 dX5_submit_192 ?_
                refine k_iload C dX5_submit_193 2 rfl ?_
                exact k_iret C hr hlk dX5_submit_195 (fun H hP => ⟨nw_51, hi_13, sv_14, 0, cd_8, h, hP⟩)
              · replace h := h.1 c46
                refine k_iconst (v := 0) C dX5_submit_159 (by decide) ?_
                refine k_goto (tgt := 164) C dX5_submit_160 (by decide) ?_
                obtain ⟨q52, h⟩ := h
                obtain ⟨nw_53, enw_53⟩ : ∃ z : Nat → Int32, z = upd nw_45 (493 + x41).toNatClampNeg 0 := ⟨_, rfl⟩
                replace h := h nw_53 enw_53
                refine mp_nw C F hA hE.1 q52 enw_53 dX5_submit_164 ?_
                refine k_aload_n C dX5_submit_165 4 rfl ?_
                refine mg_Mo_now C (focM_g F) hE.1 hi5 lk1 dX5_submit_166 ?_
                refine k_sipush (v := 693) C dX5_submit_169 (by decide) ?_
                refine k_iload C dX5_submit_172 0 rfl ?_
                refine k_iadd C dX5_submit_174 ?_
                refine k_aload_n C dX5_submit_175 4 rfl ?_
                refine mg_Mo_now C (focM_g F) hE.1 hi5 lk1 dX5_submit_176 ?_
                refine k_iconst (v := 1) C dX5_submit_179 (by decide) ?_
                refine mg_nw C (focM_g F) hE.1 (vp_lit (i := 1) (n := 893) (by decide)) dX5_submit_180 ?_
                obtain ⟨q54, h⟩ := h
                obtain ⟨nw_55, enw_55⟩ : ∃ z : Nat → Int32, z = upd nw_53 (693 + x41).toNatClampNeg (nw_53 1) := ⟨_, rfl⟩
                replace h := h nw_55 enw_55
                refine mp_nw C F hA hE.1 q54 enw_55 dX5_submit_181 ?_
                refine k_aload_n C dX5_submit_182 4 rfl ?_
                refine mg_Mo_now C (focM_g F) hE.1 hi5 lk1 dX5_submit_183 ?_
                refine k_bipush (v := 6) C dX5_submit_186 (by decide) ?_
                refine k_dup2_11 C dX5_submit_188 rfl rfl ?_
                refine mg_nw C (focM_g F) hE.1 (vp_lit (i := 6) (n := 893) (by decide)) dX5_submit_189 ?_
                refine k_iconst (v := 1) C dX5_submit_190 (by decide) ?_
                refine k_iadd C dX5_submit_191 ?_
                obtain ⟨nw_56, enw_56⟩ : ∃ z : Nat → Int32, z = upd nw_55 6 ((nw_55 6) + 1) := ⟨_, rfl⟩
                replace h := h nw_56 enw_56
                refine mp_nw C F hA hE.1 (vp_lit (i := 6) (n := 893) (by decide)) enw_56 dX5_submit_192 ?_
                refine k_iload C dX5_submit_193 2 rfl ?_
                exact k_iret C hr hlk dX5_submit_195 (fun H hP => ⟨nw_56, hi_13, sv_14, 0, cd_8, h, hP⟩)
            · replace h := h.2 c38
              refine k_iconst (v := 1) C dX5_submit_98 (by decide) ?_
              refine k_goto (tgt := 103) C dX5_submit_99 (by decide) ?_
              refine k_iadd C dX5_submit_103 ?_
              obtain ⟨nw_57, enw_57⟩ : ∃ z : Nat → Int32, z = upd nw_16 8 ((nw_16 8) + 1) := ⟨_, rfl⟩
              replace h := h nw_57 enw_57
              refine mp_nw C F hA hE.1 (vp_lit (i := 8) (n := 893) (by decide)) enw_57 dX5_submit_104 ?_
              refine k_aload_n C dX5_submit_105 3 rfl ?_
              refine k_iload C dX5_submit_106 1 rfl ?_
              refine k_callVv (st := []) C hE (c_X5_leave l F hA nw_57 hi_13 sv_14 0 cd_8 ha r15  _ h) (cwV 1 C.2.2.2.2 gX5_submit_X5_leave rfl rfl rfl (by decide +kernel) ⟨Nat.le_of_ble_eq_true rfl, Nat.le_of_ble_eq_true rfl⟩) (fun H hP => va_recv hE.1 (k_one (mst_Mo ((focM_g F) H hP))) rfl (q0 := 0) rfl) rfl rfl (Nat.le_of_ble_eq_true rfl) dX5_submit_108 ⟨Nat.zero_le _, Nat.zero_le _⟩ (fun _ => ?_)
              refine k_ex (fun nw_58 => k_and (fun h => ?_))
              refine k_aload_n C dX5_submit_111 3 rfl ?_
              refine mg_Mo_now C (focM_g F) hE.1 hi5 lk1 dX5_submit_112 ?_
              refine k_bipush (v := 6) C dX5_submit_115 (by decide) ?_
              refine mg_nw C (focM_g F) hE.1 (vp_lit (i := 6) (n := 893) (by decide)) dX5_submit_117 ?_
              refine k_topi (fun x59 ex59 => ?_)
              replace h := h x59 ex59
              refine k_istore (lv' := [(6, .int x59), (5, .int r17), (4, .int r15), (3, .int r7), (0, .ref o), (1, .int dsp), (2, .int size)]) C dX5_submit_118 (by decide) rfl ?_
              refine k_aload_n C dX5_submit_120 4 rfl ?_
              refine mg_Mo_now C (focM_g F) hE.1 hi5 lk1 dX5_submit_121 ?_
              refine k_bipush (v := 93) C dX5_submit_124 (by decide) ?_
              refine k_iload C dX5_submit_126 0 rfl ?_
              refine k_iadd C dX5_submit_128 ?_
              refine k_iload C dX5_submit_129 2 rfl ?_
              obtain ⟨q60, h⟩ := h
              obtain ⟨nw_61, enw_61⟩ : ∃ z : Nat → Int32, z = upd nw_58 (93 + x59).toNatClampNeg r15 := ⟨_, rfl⟩
              replace h := h nw_61 enw_61
              refine mp_nw C F hA hE.1 q60 enw_61 dX5_submit_131 ?_
              refine k_aload_n C dX5_submit_132 4 rfl ?_
              refine mg_Mo_now C (focM_g F) hE.1 hi5 lk1 dX5_submit_133 ?_
              refine k_sipush (v := 293) C dX5_submit_136 (by decide) ?_
              refine k_iload C dX5_submit_139 0 rfl ?_
              refine k_iadd C dX5_submit_141 ?_
              refine k_iload_n C dX5_submit_142 6 rfl ?_
              obtain ⟨q62, h⟩ := h
              obtain ⟨nw_63, enw_63⟩ : ∃ z : Nat → Int32, z = upd nw_61 (293 + x59).toNatClampNeg size := ⟨_, rfl⟩
              replace h := h nw_63 enw_63
              refine mp_nw C F hA hE.1 q62 enw_63 dX5_submit_143 ?_
              refine k_aload_n C dX5_submit_144 4 rfl ?_
              refine mg_Mo_now C (focM_g F) hE.1 hi5 lk1 dX5_submit_145 ?_
              refine k_sipush (v := 493) C dX5_submit_148 (by decide) ?_
              refine k_iload C dX5_submit_151 0 rfl ?_
              refine k_iadd C dX5_submit_153 ?_
              refine k_iload C dX5_submit_154 1 rfl ?_
              refine k_if_ne (tgt := 163) C dX5_submit_156 (by decide) (fun c64 => ?_) (fun c64 => ?_)
              · replace h := h.2 c64
                refine k_iconst (v := (-1)) C dX5_submit_163 (by decide) ?_
                obtain ⟨q65, h⟩ := h
                obtain ⟨nw_66, enw_66⟩ : ∃ z : Nat → Int32, z = upd nw_63 (493 + x59).toNatClampNeg (-1) := ⟨_, rfl⟩
                replace h := h nw_66 enw_66
                refine mp_nw C F hA hE.1 q65 enw_66 dX5_submit_164 ?_
                refine k_aload_n C dX5_submit_165 4 rfl ?_
                refine mg_Mo_now C (focM_g F) hE.1 hi5 lk1 dX5_submit_166 ?_
                refine k_sipush (v := 693) C dX5_submit_169 (by decide) ?_
                refine k_iload C dX5_submit_172 0 rfl ?_
                refine k_iadd C dX5_submit_174 ?_
                refine k_aload_n C dX5_submit_175 4 rfl ?_
                refine mg_Mo_now C (focM_g F) hE.1 hi5 lk1 dX5_submit_176 ?_
                refine k_iconst (v := 1) C dX5_submit_179 (by decide) ?_
                refine mg_nw C (focM_g F) hE.1 (vp_lit (i := 1) (n := 893) (by decide)) dX5_submit_180 ?_
                obtain ⟨q67, h⟩ := h
                obtain ⟨nw_68, enw_68⟩ : ∃ z : Nat → Int32, z = upd nw_66 (693 + x59).toNatClampNeg (nw_66 1) := ⟨_, rfl⟩
                replace h := h nw_68 enw_68
                refine mp_nw C F hA hE.1 q67 enw_68 dX5_submit_181 ?_
                refine k_aload_n C dX5_submit_182 4 rfl ?_
                refine mg_Mo_now C (focM_g F) hE.1 hi5 lk1 dX5_submit_183 ?_
                refine k_bipush (v := 6) C dX5_submit_186 (by decide) ?_
                refine k_dup2_11 C dX5_submit_188 rfl rfl ?_
                refine mg_nw C (focM_g F) hE.1 (vp_lit (i := 6) (n := 893) (by decide)) dX5_submit_189 ?_
                refine k_iconst (v := 1) C dX5_submit_190 (by decide) ?_
                refine k_iadd C dX5_submit_191 ?_
                obtain ⟨nw_69, enw_69⟩ : ∃ z : Nat → Int32, z = upd nw_68 6 ((nw_68 6) + 1) := ⟨_, rfl⟩
                replace h := h nw_69 enw_69
                refine mp_nw C F hA hE.1 (vp_lit (i := 6) (n := 893) (by decide)) enw_69 dX5_submit_192 ?_
                refine k_iload C dX5_submit_193 2 rfl ?_
                exact k_iret C hr hlk dX5_submit_195 (fun H hP => ⟨nw_69, hi_13, sv_14, 0, cd_8, h, hP⟩)
              · replace h := h.1 c64
                refine k_iconst (v := 0) C dX5_submit_159 (by decide) ?_
                refine k_goto (tgt := 164) C dX5_submit_160 (by decide) ?_
                obtain ⟨q70, h⟩ := h
                obtain ⟨nw_71, enw_71⟩ : ∃ z : Nat → Int32, z = upd nw_63 (493 + x59).toNatClampNeg 0 := ⟨_, rfl⟩
                replace h := h nw_71 enw_71
                refine mp_nw C F hA hE.1 q70 enw_71 dX5_submit_164 ?_
                refine k_aload_n C dX5_submit_165 4 rfl ?_
                refine mg_Mo_now C (focM_g F) hE.1 hi5 lk1 dX5_submit_166 ?_
                refine k_sipush (v := 693) C dX5_submit_169 (by decide) ?_
                refine k_iload C dX5_submit_172 0 rfl ?_
                refine k_iadd C dX5_submit_174 ?_
                refine k_aload_n C dX5_submit_175 4 rfl ?_
                refine mg_Mo_now C (focM_g F) hE.1 hi5 lk1 dX5_submit_176 ?_
                refine k_iconst (v := 1) C dX5_submit_179 (by decide) ?_
                refine mg_nw C (focM_g F) hE.1 (vp_lit (i := 1) (n := 893) (by decide)) dX5_submit_180 ?_
                obtain ⟨q72, h⟩ := h
                obtain ⟨nw_73, enw_73⟩ : ∃ z : Nat → Int32, z = upd nw_71 (693 + x59).toNatClampNeg (nw_71 1) := ⟨_, rfl⟩
                replace h := h nw_73 enw_73
                refine mp_nw C F hA hE.1 q72 enw_73 dX5_submit_181 ?_
                refine k_aload_n C dX5_submit_182 4 rfl ?_
                refine mg_Mo_now C (focM_g F) hE.1 hi5 lk1 dX5_submit_183 ?_
                refine k_bipush (v := 6) C dX5_submit_186 (by decide) ?_
                refine k_dup2_11 C dX5_submit_188 rfl rfl ?_
                refine mg_nw C (focM_g F) hE.1 (vp_lit (i := 6) (n := 893) (by decide)) dX5_submit_189 ?_
                refine k_iconst (v := 1) C dX5_submit_190 (by decide) ?_
                refine k_iadd C dX5_submit_191 ?_
                obtain ⟨nw_74, enw_74⟩ : ∃ z : Nat → Int32, z = upd nw_73 6 ((nw_73 6) + 1) := ⟨_, rfl⟩
                replace h := h nw_74 enw_74
                refine mp_nw C F hA hE.1 (vp_lit (i := 6) (n := 893) (by decide)) enw_74 dX5_submit_192 ?_
                refine k_iload C dX5_submit_193 2 rfl ?_
                exact k_iret C hr hlk dX5_submit_195 (fun H hP => ⟨nw_74, hi_13, sv_14, 0, cd_8, h, hP⟩)
        · replace h := h.1 c12
          refine k_aload_n C dX5_submit_51 1 rfl ?_
          refine k_iconst (v := 2) C dX5_submit_52 (by decide) ?_
          refine k_callVi (st := []) C hE (c_X5_refuse l F hA nw hi sv 0 cd_8 ha 2  _ h) (cwV 1 C.2.2.2.2 gX5_submit_X5_refuse rfl rfl rfl (by decide +kernel) ⟨Nat.le_of_ble_eq_true rfl, Nat.le_of_ble_eq_true rfl⟩) (fun H hP => va_recv hE.1 (k_one (mst_Mo ((focM_g F) H hP))) rfl (q0 := 0) rfl) rfl rfl (Nat.le_of_ble_eq_true rfl) dX5_submit_53 ⟨Nat.zero_le _, Nat.zero_le _⟩ (fun r75 => ?_)
          refine k_ex (fun th_76 => k_and (fun h => ?_))
          exact k_iret C hr hlk dX5_submit_56 (fun H hP => ⟨nw, hi, sv, th_76, cd_8, h, hP⟩)
    · replace h := h.1 c6
      refine k_aload_n C dX5_submit_23 0 rfl ?_
      refine k_iconst (v := 1) C dX5_submit_24 (by decide) ?_
      refine k_callVi (st := []) C hE (c_X5_refuse l F hA nw hi sv 0 cd ha 1  _ h) (cwV 1 C.2.2.2.2 gX5_submit_X5_refuse rfl rfl rfl (by decide +kernel) ⟨Nat.le_of_ble_eq_true rfl, Nat.le_of_ble_eq_true rfl⟩) (fun H hP => va_recv hE.1 (k_one (mst_Mo ((focM_g F) H hP))) rfl (q0 := 0) rfl) rfl rfl (Nat.le_of_ble_eq_true rfl) dX5_submit_25 ⟨Nat.zero_le _, Nat.zero_le _⟩ (fun r77 => ?_)
      refine k_ex (fun th_78 => k_and (fun h => ?_))
      exact k_iret C hr hlk dX5_submit_28 (fun H hP => ⟨nw, hi, sv, th_78, cd, h, hP⟩)
