noncomputable def wp_X5_thrown (th : Int32) (k : Int32 → Prop) : Prop := k th
set_option maxRecDepth 100000 in
set_option maxHeartbeats 4000000 in
theorem c_X5_thrown (l : Launch) {E : EV} {o : Nat} {P : PM} {A : Nat → Prop} (F : FocM E o P) (hA : ∀ q, inMo o q → A q) (nw : Nat → Int32) (hi : Nat → Int32) (sv : Int32) (th : Int32) (cd : Nat → Int32) (ha : Int64)   (k : Int32 → Prop) (h : wp_X5_thrown th  k) : Met l yX5_thrown wsX5_thrown { frames := 0, cells := 0, slots := 0, locals := 0 } (va_Pc [.ref o] (fun U => P nw hi sv th cd ha U.heap ∧ XE E U)) (kQi (fun r H => k r ∧ P nw hi sv th cd ha H) A) 0 0 A := by
  refine k_body (cc := cX5_thrown) (own := RX5) (maxL := 1) (ret := (some .int)) (lv0 := [(0, .ref o)]) (by decide) rfl rfl (Nat.le_of_ble_eq_true rfl) rfl (fun p e s m below meth c C hr hlk hP hE => ?_)
  have hi5 : ∀ w ∈ u_ws RX5 TX5 6, w ∈ wsX5_thrown := by decide +kernel
  have lk0 := C.2.2.2.2 (.fieldLink RX5 19 "IdleDispatcherModel" "thrown" "I") (by decide +kernel)
  refine k_aload_n C dX5_thrown_0 0 rfl ?_
  refine mg_th C (focM_g F) hE.1 hi5 lk0 dX5_thrown_1 ?_
  exact k_iret C hr hlk dX5_thrown_4 (fun H hP => ⟨h, hP⟩)
noncomputable def wp_X5_refuse (code : Int32) (k : Int32 → Int32 → Prop) : Prop := k 0 code
set_option maxRecDepth 100000 in
set_option maxHeartbeats 4000000 in
theorem c_X5_refuse (l : Launch) {E : EV} {o : Nat} {P : PM} {A : Nat → Prop} (F : FocM E o P) (hA : ∀ q, inMo o q → A q) (nw : Nat → Int32) (hi : Nat → Int32) (sv : Int32) (th : Int32) (cd : Nat → Int32) (ha : Int64) (code : Int32)  (k : Int32 → Int32 → Prop) (h : wp_X5_refuse  code k) : Met l yX5_refuse wsX5_refuse { frames := 0, cells := 0, slots := 0, locals := 0 } (va_Pc [.ref o, .int code] (fun U => P nw hi sv th cd ha U.heap ∧ XE E U)) (kQi (fun r H => ∃ th9 : Int32, k r th9 ∧ P nw hi sv th9 cd ha H) A) 0 0 A := by
  refine k_body (cc := cX5_refuse) (own := RX5) (maxL := 2) (ret := (some .int)) (lv0 := [(0, .ref o), (1, .int code)]) (by decide) rfl rfl (Nat.le_of_ble_eq_true rfl) rfl (fun p e s m below meth c C hr hlk hP hE => ?_)
  have hi5 : ∀ w ∈ u_ws RX5 TX5 6, w ∈ wsX5_refuse := by decide +kernel
  have lk0 := C.2.2.2.2 (.fieldLink RX5 19 "IdleDispatcherModel" "thrown" "I") (by decide +kernel)
  refine k_aload_n C dX5_refuse_0 0 rfl ?_
  refine k_iload_n C dX5_refuse_1 1 rfl ?_
  refine mp_th C F hA hE.1 hi5 lk0 dX5_refuse_2 ?_
  refine k_iconst (v := 0) C dX5_refuse_5 (by decide) ?_
  exact k_iret C hr hlk dX5_refuse_6 (fun H hP => ⟨code, h, hP⟩)
noncomputable def wp_X5_in (v : Int32) (least : Int32) (most : Int32) (k : Int32 → Prop) : Prop := (v < least → (k 0)) ∧ (¬ (v < least) → ((most < v → (k 0)) ∧ (¬ (most < v) → (k 1))))
set_option maxRecDepth 100000 in
set_option maxHeartbeats 4000000 in
theorem c_X5_in (l : Launch) {E : EV} {P : Heap → Prop} {A : Nat → Prop} (v : Int32) (least : Int32) (most : Int32)  (k : Int32 → Prop) (h : wp_X5_in  v least most k) : Met l yX5_in wsX5_in { frames := 0, cells := 0, slots := 0, locals := 0 } (va_Pc [.int v, .int least, .int most] (fun U => P U.heap ∧ XE E U)) (kQi (fun r H => k r ∧ P H) A) 0 0 A := by
  refine k_body (cc := cX5_in) (own := RX5) (maxL := 3) (ret := (some .boolean)) (lv0 := [(0, .int v), (1, .int least), (2, .int most)]) (by decide) rfl rfl (Nat.le_of_ble_eq_true rfl) rfl (fun p e s m below meth c C hr hlk hP hE => ?_)
  refine k_iload_n C dX5_in_0 0 rfl ?_
  refine k_iload_n C dX5_in_1 1 rfl ?_
  refine k_icmp_lt (tgt := 14) C dX5_in_2 (by decide) (fun c1 => ?_) (fun c1 => ?_)
  · replace h := h.1 c1
    refine k_iconst (v := 0) C dX5_in_14 (by decide) ?_
    exact k_zret C hr hlk rfl dX5_in_15 (fun H hP => ⟨h, hP⟩)
  · replace h := h.2 c1
    refine k_iload_n C dX5_in_5 0 rfl ?_
    refine k_iload_n C dX5_in_6 2 rfl ?_
    refine k_icmp_gt (tgt := 14) C dX5_in_7 (by decide) (fun c2 => ?_) (fun c2 => ?_)
    · replace h := h.1 c2
      refine k_iconst (v := 0) C dX5_in_14 (by decide) ?_
      exact k_zret C hr hlk rfl dX5_in_15 (fun H hP => ⟨h, hP⟩)
    · replace h := h.2 c2
      refine k_iconst (v := 1) C dX5_in_10 (by decide) ?_
      refine k_goto (tgt := 15) C dX5_in_11 (by decide) ?_
      exact k_zret C hr hlk rfl dX5_in_15 (fun H hP => ⟨h, hP⟩)
noncomputable def wp_X5_isServer (nw : Nat → Int32) (srv : Int32) (k : Int32 → Prop) : Prop := wp_X5_in srv 0 ((nw 4) - 1) (fun r1 => (narrow .boolean (.int r1) = .int r1) ∧ (k r1))
set_option maxRecDepth 100000 in
set_option maxHeartbeats 4000000 in
theorem c_X5_isServer (l : Launch) {E : EV} {o : Nat} {P : PM} {A : Nat → Prop} (F : FocM E o P) (hA : ∀ q, inMo o q → A q) (nw : Nat → Int32) (hi : Nat → Int32) (sv : Int32) (th : Int32) (cd : Nat → Int32) (ha : Int64) (srv : Int32)  (k : Int32 → Prop) (h : wp_X5_isServer nw srv k) : Met l yX5_isServer wsX5_isServer { frames := 1, cells := 0, slots := 0, locals := 22 } (va_Pc [.ref o, .int srv] (fun U => P nw hi sv th cd ha U.heap ∧ XE E U)) (kQi (fun r H => k r ∧ P nw hi sv th cd ha H) A) 0 0 A := by
  refine k_body (cc := cX5_isServer) (own := RX5) (maxL := 2) (ret := (some .boolean)) (lv0 := [(0, .ref o), (1, .int srv)]) (by decide) rfl rfl (Nat.le_of_ble_eq_true rfl) rfl (fun p e s m below meth c C hr hlk hP hE => ?_)
  have hi5 : ∀ w ∈ u_ws RX5 TX5 6, w ∈ wsX5_isServer := by decide +kernel
  have lk0 := C.2.2.2.2 (.fieldLink RX5 7 "IdleDispatcherModel" "now" "[I") (by decide +kernel)
  refine k_iload_n C dX5_isServer_0 1 rfl ?_
  refine k_iconst (v := 0) C dX5_isServer_1 (by decide) ?_
  refine k_aload_n C dX5_isServer_2 0 rfl ?_
  refine mg_Mo_now C (focM_g F) hE.1 hi5 lk0 dX5_isServer_3 ?_
  refine k_iconst (v := 4) C dX5_isServer_6 (by decide) ?_
  refine mg_nw C (focM_g F) hE.1 (vp_lit (i := 4) (n := 893) (by decide)) dX5_isServer_7 ?_
  refine k_iconst (v := 1) C dX5_isServer_8 (by decide) ?_
  refine k_isub C dX5_isServer_9 ?_
  refine k_callSi (st := []) C hE (c_X5_in l (P := P nw hi sv th cd ha) (A := A) (E := E) srv 0 ((nw 4) - 1) _ h) (va_cwS 3 C.2.2.2.2 gX5_isServer_X5_in rfl rfl rfl (by decide +kernel) ⟨Nat.le_of_ble_eq_true rfl, Nat.le_of_ble_eq_true rfl⟩) rfl rfl (Nat.le_of_ble_eq_true rfl) dX5_isServer_10 ⟨Nat.zero_le _, Nat.zero_le _⟩ (fun r1 => ?_)
  refine k_and (fun h => ?_)
  obtain ⟨q2, h⟩ := h
  exact k_zret C hr hlk q2 dX5_isServer_13 (fun H hP => ⟨h, hP⟩)
noncomputable def wp_X5_isDispatcher (nw : Nat → Int32) (dsp : Int32) (k : Int32 → Prop) : Prop := wp_X5_in dsp 0 ((nw 5) - 1) (fun r1 => (narrow .boolean (.int r1) = .int r1) ∧ (k r1))
set_option maxRecDepth 100000 in
set_option maxHeartbeats 4000000 in
theorem c_X5_isDispatcher (l : Launch) {E : EV} {o : Nat} {P : PM} {A : Nat → Prop} (F : FocM E o P) (hA : ∀ q, inMo o q → A q) (nw : Nat → Int32) (hi : Nat → Int32) (sv : Int32) (th : Int32) (cd : Nat → Int32) (ha : Int64) (dsp : Int32)  (k : Int32 → Prop) (h : wp_X5_isDispatcher nw dsp k) : Met l yX5_isDispatcher wsX5_isDispatcher { frames := 1, cells := 0, slots := 0, locals := 22 } (va_Pc [.ref o, .int dsp] (fun U => P nw hi sv th cd ha U.heap ∧ XE E U)) (kQi (fun r H => k r ∧ P nw hi sv th cd ha H) A) 0 0 A := by
  refine k_body (cc := cX5_isDispatcher) (own := RX5) (maxL := 2) (ret := (some .boolean)) (lv0 := [(0, .ref o), (1, .int dsp)]) (by decide) rfl rfl (Nat.le_of_ble_eq_true rfl) rfl (fun p e s m below meth c C hr hlk hP hE => ?_)
  have hi5 : ∀ w ∈ u_ws RX5 TX5 6, w ∈ wsX5_isDispatcher := by decide +kernel
  have lk0 := C.2.2.2.2 (.fieldLink RX5 7 "IdleDispatcherModel" "now" "[I") (by decide +kernel)
  refine k_iload_n C dX5_isDispatcher_0 1 rfl ?_
  refine k_iconst (v := 0) C dX5_isDispatcher_1 (by decide) ?_
  refine k_aload_n C dX5_isDispatcher_2 0 rfl ?_
  refine mg_Mo_now C (focM_g F) hE.1 hi5 lk0 dX5_isDispatcher_3 ?_
  refine k_iconst (v := 5) C dX5_isDispatcher_6 (by decide) ?_
  refine mg_nw C (focM_g F) hE.1 (vp_lit (i := 5) (n := 893) (by decide)) dX5_isDispatcher_7 ?_
  refine k_iconst (v := 1) C dX5_isDispatcher_8 (by decide) ?_
  refine k_isub C dX5_isDispatcher_9 ?_
  refine k_callSi (st := []) C hE (c_X5_in l (P := P nw hi sv th cd ha) (A := A) (E := E) dsp 0 ((nw 5) - 1) _ h) (va_cwS 3 C.2.2.2.2 gX5_isDispatcher_X5_in rfl rfl rfl (by decide +kernel) ⟨Nat.le_of_ble_eq_true rfl, Nat.le_of_ble_eq_true rfl⟩) rfl rfl (Nat.le_of_ble_eq_true rfl) dX5_isDispatcher_10 ⟨Nat.zero_le _, Nat.zero_le _⟩ (fun r1 => ?_)
  refine k_and (fun h => ?_)
  obtain ⟨q2, h⟩ := h
  exact k_zret C hr hlk q2 dX5_isDispatcher_13 (fun H hP => ⟨h, hP⟩)
noncomputable def wp_X5_isJob (nw : Nat → Int32) (job : Int32) (k : Int32 → Prop) : Prop := wp_X5_in job 0 ((nw 6) - 1) (fun r1 => (narrow .boolean (.int r1) = .int r1) ∧ (k r1))
set_option maxRecDepth 100000 in
set_option maxHeartbeats 4000000 in
theorem c_X5_isJob (l : Launch) {E : EV} {o : Nat} {P : PM} {A : Nat → Prop} (F : FocM E o P) (hA : ∀ q, inMo o q → A q) (nw : Nat → Int32) (hi : Nat → Int32) (sv : Int32) (th : Int32) (cd : Nat → Int32) (ha : Int64) (job : Int32)  (k : Int32 → Prop) (h : wp_X5_isJob nw job k) : Met l yX5_isJob wsX5_isJob { frames := 1, cells := 0, slots := 0, locals := 22 } (va_Pc [.ref o, .int job] (fun U => P nw hi sv th cd ha U.heap ∧ XE E U)) (kQi (fun r H => k r ∧ P nw hi sv th cd ha H) A) 0 0 A := by
  refine k_body (cc := cX5_isJob) (own := RX5) (maxL := 2) (ret := (some .boolean)) (lv0 := [(0, .ref o), (1, .int job)]) (by decide) rfl rfl (Nat.le_of_ble_eq_true rfl) rfl (fun p e s m below meth c C hr hlk hP hE => ?_)
  have hi5 : ∀ w ∈ u_ws RX5 TX5 6, w ∈ wsX5_isJob := by decide +kernel
  have lk0 := C.2.2.2.2 (.fieldLink RX5 7 "IdleDispatcherModel" "now" "[I") (by decide +kernel)
  refine k_iload_n C dX5_isJob_0 1 rfl ?_
  refine k_iconst (v := 0) C dX5_isJob_1 (by decide) ?_
  refine k_aload_n C dX5_isJob_2 0 rfl ?_
  refine mg_Mo_now C (focM_g F) hE.1 hi5 lk0 dX5_isJob_3 ?_
  refine k_bipush (v := 6) C dX5_isJob_6 (by decide) ?_
  refine mg_nw C (focM_g F) hE.1 (vp_lit (i := 6) (n := 893) (by decide)) dX5_isJob_8 ?_
  refine k_iconst (v := 1) C dX5_isJob_9 (by decide) ?_
  refine k_isub C dX5_isJob_10 ?_
  refine k_callSi (st := []) C hE (c_X5_in l (P := P nw hi sv th cd ha) (A := A) (E := E) job 0 ((nw 6) - 1) _ h) (va_cwS 3 C.2.2.2.2 gX5_isJob_X5_in rfl rfl rfl (by decide +kernel) ⟨Nat.le_of_ble_eq_true rfl, Nat.le_of_ble_eq_true rfl⟩) rfl rfl (Nat.le_of_ble_eq_true rfl) dX5_isJob_11 ⟨Nat.zero_le _, Nat.zero_le _⟩ (fun r1 => ?_)
  refine k_and (fun h => ?_)
  obtain ⟨q2, h⟩ := h
  exact k_zret C hr hlk q2 dX5_isJob_14 (fun H hP => ⟨h, hP⟩)
noncomputable def wp_X5_save_L51 (sv : Int32) (k : (Nat → Int32) → Int32 → Prop) (nw : Nat → Int32) (fu : Nat) : Int32 → (Nat → Int32) → Prop := Nat.rec (motive := fun _ => Int32 → (Nat → Int32) → Prop) (fun _ _ => False) (fun _ rec51 x2 hi_3 => (893 ≤ x2 → (∀ x5 : Int32, x5 = (sv + 1) → (k hi_3 x5))) ∧ (¬ (893 ≤ x2) → ((vp_in x2 893) ∧ ((vp_in ((893 * sv) + x2) 2679) ∧ (∀ hi_8 : Nat → Int32, hi_8 = upd hi_3 ((893 * sv) + x2).toNatClampNeg (nw x2.toNatClampNeg) → (∀ x9 : Int32, x9 = x2 + 1 → (rec51 x9 hi_8))))))) fu
noncomputable def wp_X5_save_L10 (sv : Int32) (k : (Nat → Int32) → Int32 → Prop) (nw : Nat → Int32) (fu : Nat) : Int32 → (Nat → Int32) → Prop := Nat.rec (motive := fun _ => Int32 → (Nat → Int32) → Prop) (fun _ _ => False) (fun _ rec10 x10 hi_11 => (1786 ≤ x10 → (∀ x13 : Int32, x13 = (sv - 1) → (∃ fu, wp_X5_save_L51 x13 k nw fu 0 hi_11))) ∧ (¬ (1786 ≤ x10) → ((vp_in (x10 + 893) 2679) ∧ ((vp_in x10 2679) ∧ (∀ hi_24 : Nat → Int32, hi_24 = upd hi_11 x10.toNatClampNeg (hi_11 (x10 + 893).toNatClampNeg) → (∀ x25 : Int32, x25 = x10 + 1 → (rec10 x25 hi_24))))))) fu
noncomputable def wp_X5_save (nw : Nat → Int32) (hi : Nat → Int32) (sv : Int32) (k : (Nat → Int32) → Int32 → Prop) : Prop := (sv = 3 → (∃ fu, wp_X5_save_L10 sv k nw fu 0 hi)) ∧ (¬ sv = 3 → (∃ fu, wp_X5_save_L51 sv k nw fu 0 hi))
set_option maxRecDepth 100000 in
set_option maxHeartbeats 4000000 in
theorem c_X5_save (l : Launch) {E : EV} {o : Nat} {P : PM} {A : Nat → Prop} (F : FocM E o P) (hA : ∀ q, inMo o q → A q) (nw : Nat → Int32) (hi : Nat → Int32) (sv : Int32) (th : Int32) (cd : Nat → Int32) (ha : Int64)   (k : (Nat → Int32) → Int32 → Prop) (h : wp_X5_save nw hi sv  k) : Met l yX5_save wsX5_save { frames := 0, cells := 0, slots := 0, locals := 0 } (va_Pc [.ref o] (fun U => P nw hi sv th cd ha U.heap ∧ XE E U)) (kQv (fun H => ∃ hi9 : Nat → Int32, ∃ sv9 : Int32, k hi9 sv9 ∧ P nw hi9 sv9 th cd ha H) A) 0 0 A := by
  refine k_body (cc := cX5_save) (own := RX5) (maxL := 2) (ret := none) (lv0 := [(0, .ref o)]) (by decide) rfl rfl (Nat.le_of_ble_eq_true rfl) rfl (fun p e s m below meth c C hr hlk hP hE => ?_)
  have hi5 : ∀ w ∈ u_ws RX5 TX5 6, w ∈ wsX5_save := by decide +kernel
  have lk0 := C.2.2.2.2 (.fieldLink RX5 27 "IdleDispatcherModel" "saved" "I") (by decide +kernel)
  have lk1 := C.2.2.2.2 (.fieldLink RX5 13 "IdleDispatcherModel" "history" "[I") (by decide +kernel)
  have lk2 := C.2.2.2.2 (.fieldLink RX5 7 "IdleDispatcherModel" "now" "[I") (by decide +kernel)
  refine k_aload_n C dX5_save_0 0 rfl ?_
  refine mg_sv C (focM_g F) hE.1 hi5 lk0 dX5_save_1 ?_
  refine k_iconst (v := 3) C dX5_save_4 (by decide) ?_
  refine k_icmp_ne (tgt := 49) C dX5_save_5 (by decide) (fun c1 => ?_) (fun c1 => ?_)
  · replace h := h.2 c1
    refine k_iconst (v := 0) C dX5_save_49 (by decide) ?_
    refine k_istore_n (lv' := [(1, .int 0), (0, .ref o)]) C dX5_save_50 rfl (by decide) rfl ?_
    obtain ⟨n51, h⟩ := h
    refine k_pc (pc2 := 51) rfl ?_
    refine k_loop2 (wp_X5_save_L51 sv k nw) (fun x2 hi_3 => P nw hi_3 sv th cd ha) (fun x2 hi_3 => [(1, .int x2), (0, .ref o)]) (fun _ _ h => h) (fun n51 ih51 x2 hi_3 h => ?_) n51 _ _ h
    refine k_iload_n C dX5_save_51 0 rfl ?_
    refine k_sipush (v := 893) C dX5_save_52 (by decide) ?_
    refine k_icmp_ge (tgt := 85) C dX5_save_55 (by decide) (fun c4 => ?_) (fun c4 => ?_)
    · replace h := h.1 c4
      refine k_aload_n C dX5_save_85 1 rfl ?_
      refine k_dup C dX5_save_86 rfl ?_
      refine mg_sv C (focM_g F) hE.1 hi5 lk0 dX5_save_87 ?_
      refine k_iconst (v := 1) C dX5_save_90 (by decide) ?_
      refine k_iadd C dX5_save_91 ?_
      refine k_topi (fun x5 ex5 => ?_)
      replace h := h x5 ex5
      refine mp_sv C F hA hE.1 hi5 lk0 dX5_save_92 ?_
      exact k_vret C hr hlk dX5_save_95 (fun H hP => ⟨hi_3, x5, h, hP⟩)
    · replace h := h.2 c4
      refine k_aload_n C dX5_save_58 1 rfl ?_
      refine mg_Mo_history C (focM_g F) hE.1 hi5 lk1 dX5_save_59 ?_
      refine k_sipush (v := 893) C dX5_save_62 (by decide) ?_
      refine k_aload_n C dX5_save_65 1 rfl ?_
      refine mg_sv C (focM_g F) hE.1 hi5 lk0 dX5_save_66 ?_
      refine k_imul C dX5_save_69 ?_
      refine k_iload_n C dX5_save_70 0 rfl ?_
      refine k_iadd C dX5_save_71 ?_
      refine k_aload_n C dX5_save_72 1 rfl ?_
      refine mg_Mo_now C (focM_g F) hE.1 hi5 lk2 dX5_save_73 ?_
      refine k_iload_n C dX5_save_76 0 rfl ?_
      obtain ⟨q6, h⟩ := h
      refine mg_nw C (focM_g F) hE.1 q6 dX5_save_77 ?_
      obtain ⟨q7, h⟩ := h
      obtain ⟨hi_8, ehi_8⟩ : ∃ z : Nat → Int32, z = upd hi_3 ((893 * sv) + x2).toNatClampNeg (nw x2.toNatClampNeg) := ⟨_, rfl⟩
      replace h := h hi_8 ehi_8
      refine mp_hi C F hA hE.1 q7 ehi_8 dX5_save_78 ?_
      obtain ⟨x9, ex9⟩ : ∃ z : Int32, z = x2 + 1 := ⟨_, rfl⟩
      replace h := h x9 ex9
      refine k_iinc (v := x9) (lv' := [(1, .int x9), (0, .ref o)]) (j := 0) C dX5_save_79 rfl (by rw [ex9]; rfl) (by decide) rfl ?_
      refine k_goto (tgt := 51) C dX5_save_82 (by decide) ?_
      refine k_pc (pc2 := 51) rfl ?_
      refine k_sub [0, 1] rfl ?_
      exact ih51 _ _ h
  · replace h := h.1 c1
    refine k_iconst (v := 0) C dX5_save_8 (by decide) ?_
    refine k_istore_n (lv' := [(1, .int 0), (0, .ref o)]) C dX5_save_9 rfl (by decide) rfl ?_
    obtain ⟨n10, h⟩ := h
    refine k_pc (pc2 := 10) rfl ?_
    refine k_loop2 (wp_X5_save_L10 sv k nw) (fun x10 hi_11 => P nw hi_11 sv th cd ha) (fun x10 hi_11 => [(1, .int x10), (0, .ref o)]) (fun _ _ h => h) (fun n10 ih10 x10 hi_11 h => ?_) n10 _ _ h
    refine k_iload_n C dX5_save_10 0 rfl ?_
    refine k_sipush (v := 1786) C dX5_save_11 (by decide) ?_
    refine k_icmp_ge (tgt := 39) C dX5_save_14 (by decide) (fun c12 => ?_) (fun c12 => ?_)
    · replace h := h.1 c12
      refine k_aload_n C dX5_save_39 1 rfl ?_
      refine k_dup C dX5_save_40 rfl ?_
      refine mg_sv C (focM_g F) hE.1 hi5 lk0 dX5_save_41 ?_
      refine k_iconst (v := 1) C dX5_save_44 (by decide) ?_
      refine k_isub C dX5_save_45 ?_
      refine k_topi (fun x13 ex13 => ?_)
      replace h := h x13 ex13
      refine mp_sv C F hA hE.1 hi5 lk0 dX5_save_46 ?_
      refine k_iconst (v := 0) C dX5_save_49 (by decide) ?_
      refine k_istore_n (lv' := [(1, .int 0), (0, .ref o)]) C dX5_save_50 rfl (by decide) rfl ?_
      obtain ⟨n51, h⟩ := h
      refine k_pc (pc2 := 51) rfl ?_
      refine k_loop2 (wp_X5_save_L51 x13 k nw) (fun x14 hi_15 => P nw hi_15 x13 th cd ha) (fun x14 hi_15 => [(1, .int x14), (0, .ref o)]) (fun _ _ h => h) (fun n51 ih51 x14 hi_15 h => ?_) n51 _ _ h
      refine k_iload_n C dX5_save_51 0 rfl ?_
      refine k_sipush (v := 893) C dX5_save_52 (by decide) ?_
      refine k_icmp_ge (tgt := 85) C dX5_save_55 (by decide) (fun c16 => ?_) (fun c16 => ?_)
      · replace h := h.1 c16
        refine k_aload_n C dX5_save_85 1 rfl ?_
        refine k_dup C dX5_save_86 rfl ?_
        refine mg_sv C (focM_g F) hE.1 hi5 lk0 dX5_save_87 ?_
        refine k_iconst (v := 1) C dX5_save_90 (by decide) ?_
        refine k_iadd C dX5_save_91 ?_
        refine k_topi (fun x17 ex17 => ?_)
        replace h := h x17 ex17
        refine mp_sv C F hA hE.1 hi5 lk0 dX5_save_92 ?_
        exact k_vret C hr hlk dX5_save_95 (fun H hP => ⟨hi_15, x17, h, hP⟩)
      · replace h := h.2 c16
        refine k_aload_n C dX5_save_58 1 rfl ?_
        refine mg_Mo_history C (focM_g F) hE.1 hi5 lk1 dX5_save_59 ?_
        refine k_sipush (v := 893) C dX5_save_62 (by decide) ?_
        refine k_aload_n C dX5_save_65 1 rfl ?_
        refine mg_sv C (focM_g F) hE.1 hi5 lk0 dX5_save_66 ?_
        refine k_imul C dX5_save_69 ?_
        refine k_iload_n C dX5_save_70 0 rfl ?_
        refine k_iadd C dX5_save_71 ?_
        refine k_aload_n C dX5_save_72 1 rfl ?_
        refine mg_Mo_now C (focM_g F) hE.1 hi5 lk2 dX5_save_73 ?_
        refine k_iload_n C dX5_save_76 0 rfl ?_
        obtain ⟨q18, h⟩ := h
        refine mg_nw C (focM_g F) hE.1 q18 dX5_save_77 ?_
        obtain ⟨q19, h⟩ := h
        obtain ⟨hi_20, ehi_20⟩ : ∃ z : Nat → Int32, z = upd hi_15 ((893 * x13) + x14).toNatClampNeg (nw x14.toNatClampNeg) := ⟨_, rfl⟩
        replace h := h hi_20 ehi_20
        refine mp_hi C F hA hE.1 q19 ehi_20 dX5_save_78 ?_
        obtain ⟨x21, ex21⟩ : ∃ z : Int32, z = x14 + 1 := ⟨_, rfl⟩
        replace h := h x21 ex21
        refine k_iinc (v := x21) (lv' := [(1, .int x21), (0, .ref o)]) (j := 0) C dX5_save_79 rfl (by rw [ex21]; rfl) (by decide) rfl ?_
        refine k_goto (tgt := 51) C dX5_save_82 (by decide) ?_
        refine k_pc (pc2 := 51) rfl ?_
        refine k_sub [0, 1] rfl ?_
        exact ih51 _ _ h
    · replace h := h.2 c12
      refine k_aload_n C dX5_save_17 1 rfl ?_
      refine mg_Mo_history C (focM_g F) hE.1 hi5 lk1 dX5_save_18 ?_
      refine k_iload_n C dX5_save_21 0 rfl ?_
      refine k_aload_n C dX5_save_22 1 rfl ?_
      refine mg_Mo_history C (focM_g F) hE.1 hi5 lk1 dX5_save_23 ?_
      refine k_iload_n C dX5_save_26 0 rfl ?_
      refine k_sipush (v := 893) C dX5_save_27 (by decide) ?_
      refine k_iadd C dX5_save_30 ?_
      obtain ⟨q22, h⟩ := h
      refine mg_hi C (focM_g F) hE.1 q22 dX5_save_31 ?_
      obtain ⟨q23, h⟩ := h
      obtain ⟨hi_24, ehi_24⟩ : ∃ z : Nat → Int32, z = upd hi_11 x10.toNatClampNeg (hi_11 (x10 + 893).toNatClampNeg) := ⟨_, rfl⟩
      replace h := h hi_24 ehi_24
      refine mp_hi C F hA hE.1 q23 ehi_24 dX5_save_32 ?_
      obtain ⟨x25, ex25⟩ : ∃ z : Int32, z = x10 + 1 := ⟨_, rfl⟩
      replace h := h x25 ex25
      refine k_iinc (v := x25) (lv' := [(1, .int x25), (0, .ref o)]) (j := 0) C dX5_save_33 rfl (by rw [ex25]; rfl) (by decide) rfl ?_
      refine k_goto (tgt := 10) C dX5_save_36 (by decide) ?_
      refine k_pc (pc2 := 10) rfl ?_
      refine k_sub [0, 1] rfl ?_
      exact ih10 _ _ h
noncomputable def wp_X5_draw (nw : Nat → Int32) (n : Int32) (k : Int32 → (Nat → Int32) → Prop) : Prop := ∀ nw_1 : Nat → Int32, nw_1 = upd nw 0 (((((nw 0).toInt64 * (1103515245 : Int64)) + (12345 : Int64)) - (((nw 0).toInt64 * (1103515245 : Int64)) + (12345 : Int64)) / (2147483648 : Int64) * (2147483648 : Int64)).toInt32) → ((¬ n = 0) ∧ (k (((nw_1 0) / 65536) - ((nw_1 0) / 65536) / n * n) nw_1))
set_option maxRecDepth 100000 in
set_option maxHeartbeats 4000000 in
theorem c_X5_draw (l : Launch) {E : EV} {o : Nat} {P : PM} {A : Nat → Prop} (F : FocM E o P) (hA : ∀ q, inMo o q → A q) (nw : Nat → Int32) (hi : Nat → Int32) (sv : Int32) (th : Int32) (cd : Nat → Int32) (ha : Int64) (n : Int32)  (k : Int32 → (Nat → Int32) → Prop) (h : wp_X5_draw nw n k) : Met l yX5_draw wsX5_draw { frames := 0, cells := 0, slots := 0, locals := 0 } (va_Pc [.ref o, .int n] (fun U => P nw hi sv th cd ha U.heap ∧ XE E U)) (kQi (fun r H => ∃ nw9 : Nat → Int32, k r nw9 ∧ P nw9 hi sv th cd ha H) A) 0 0 A := by
  refine k_body (cc := cX5_draw) (own := RX5) (maxL := 2) (ret := (some .int)) (lv0 := [(0, .ref o), (1, .int n)]) (by decide) rfl rfl (Nat.le_of_ble_eq_true rfl) rfl (fun p e s m below meth c C hr hlk hP hE => ?_)
  have hi5 : ∀ w ∈ u_ws RX5 TX5 6, w ∈ wsX5_draw := by decide +kernel
  have lk0 := C.2.2.2.2 (.fieldLink RX5 7 "IdleDispatcherModel" "now" "[I") (by decide +kernel)
  have lk1 := C.2.2.2.2 (.constantLong RX5 30 (1103515245)) (by decide +kernel)
  have lk2 := C.2.2.2.2 (.constantLong RX5 32 (12345)) (by decide +kernel)
  have lk3 := C.2.2.2.2 (.constantLong RX5 34 (2147483648)) (by decide +kernel)
  have lk4 := C.2.2.2.2 (.constant RX5 36 (65536)) (by decide +kernel)
  refine k_aload_n C dX5_draw_0 0 rfl ?_
  refine mg_Mo_now C (focM_g F) hE.1 hi5 lk0 dX5_draw_1 ?_
  refine k_iconst (v := 0) C dX5_draw_4 (by decide) ?_
  refine k_aload_n C dX5_draw_5 0 rfl ?_
  refine mg_Mo_now C (focM_g F) hE.1 hi5 lk0 dX5_draw_6 ?_
  refine k_iconst (v := 0) C dX5_draw_9 (by decide) ?_
  refine mg_nw C (focM_g F) hE.1 (vp_lit (i := 0) (n := 893) (by decide)) dX5_draw_10 ?_
  refine k_i2l C dX5_draw_11 ?_
  refine k_ldc2 C lk1 dX5_draw_12 ?_
  refine k_lmul C dX5_draw_15 ?_
  refine k_ldc2 C lk2 dX5_draw_16 ?_
  refine k_ladd C dX5_draw_19 ?_
  refine k_ldc2 C lk3 dX5_draw_20 ?_
  refine k_lrem C dX5_draw_23 (by decide) ?_
  refine k_l2i C dX5_draw_24 ?_
  obtain ⟨nw_1, enw_1⟩ : ∃ z : Nat → Int32, z = upd nw 0 (((((nw 0).toInt64 * (1103515245 : Int64)) + (12345 : Int64)) - (((nw 0).toInt64 * (1103515245 : Int64)) + (12345 : Int64)) / (2147483648 : Int64) * (2147483648 : Int64)).toInt32) := ⟨_, rfl⟩
  replace h := h nw_1 enw_1
  refine mp_nw C F hA hE.1 (vp_lit (i := 0) (n := 893) (by decide)) enw_1 dX5_draw_25 ?_
  refine k_aload_n C dX5_draw_26 0 rfl ?_
  refine mg_Mo_now C (focM_g F) hE.1 hi5 lk0 dX5_draw_27 ?_
  refine k_iconst (v := 0) C dX5_draw_30 (by decide) ?_
  refine mg_nw C (focM_g F) hE.1 (vp_lit (i := 0) (n := 893) (by decide)) dX5_draw_31 ?_
  refine k_ldc C lk4 dX5_draw_32 ?_
  refine k_idiv C dX5_draw_34 (by decide) ?_
  refine k_iload_n C dX5_draw_35 1 rfl ?_
  obtain ⟨q2, h⟩ := h
  refine k_irem C dX5_draw_36 q2 ?_
  exact k_iret C hr hlk dX5_draw_37 (fun H hP => ⟨nw_1, h, hP⟩)
noncomputable def wp_X5_isUp (nw : Nat → Int32) (srv : Int32) (k : Int32 → Prop) : Prop := (vp_in (9 + srv) 893) ∧ (((nw (9 + srv).toNatClampNeg) = 1 → (k 1)) ∧ (¬ (nw (9 + srv).toNatClampNeg) = 1 → (k 0)))
set_option maxRecDepth 100000 in
set_option maxHeartbeats 4000000 in
theorem c_X5_isUp (l : Launch) {E : EV} {o : Nat} {P : PM} {A : Nat → Prop} (F : FocM E o P) (hA : ∀ q, inMo o q → A q) (nw : Nat → Int32) (hi : Nat → Int32) (sv : Int32) (th : Int32) (cd : Nat → Int32) (ha : Int64) (srv : Int32)  (k : Int32 → Prop) (h : wp_X5_isUp nw srv k) : Met l yX5_isUp wsX5_isUp { frames := 0, cells := 0, slots := 0, locals := 0 } (va_Pc [.ref o, .int srv] (fun U => P nw hi sv th cd ha U.heap ∧ XE E U)) (kQi (fun r H => k r ∧ P nw hi sv th cd ha H) A) 0 0 A := by
  refine k_body (cc := cX5_isUp) (own := RX5) (maxL := 2) (ret := (some .boolean)) (lv0 := [(0, .ref o), (1, .int srv)]) (by decide) rfl rfl (Nat.le_of_ble_eq_true rfl) rfl (fun p e s m below meth c C hr hlk hP hE => ?_)
  have hi5 : ∀ w ∈ u_ws RX5 TX5 6, w ∈ wsX5_isUp := by decide +kernel
  have lk0 := C.2.2.2.2 (.fieldLink RX5 7 "IdleDispatcherModel" "now" "[I") (by decide +kernel)
  refine k_aload_n C dX5_isUp_0 0 rfl ?_
  refine mg_Mo_now C (focM_g F) hE.1 hi5 lk0 dX5_isUp_1 ?_
  refine k_bipush (v := 9) C dX5_isUp_4 (by decide) ?_
  refine k_iload_n C dX5_isUp_6 1 rfl ?_
  refine k_iadd C dX5_isUp_7 ?_
  obtain ⟨q1, h⟩ := h
  refine mg_nw C (focM_g F) hE.1 q1 dX5_isUp_8 ?_
  refine k_iconst (v := 1) C dX5_isUp_9 (by decide) ?_
  refine k_icmp_ne (tgt := 17) C dX5_isUp_10 (by decide) (fun c2 => ?_) (fun c2 => ?_)
  · replace h := h.2 c2
    refine k_iconst (v := 0) C dX5_isUp_17 (by decide) ?_
    exact k_zret C hr hlk rfl dX5_isUp_18 (fun H hP => ⟨h, hP⟩)
  · replace h := h.1 c2
    refine k_iconst (v := 1) C dX5_isUp_13 (by decide) ?_
    refine k_goto (tgt := 18) C dX5_isUp_14 (by decide) ?_
    exact k_zret C hr hlk rfl dX5_isUp_18 (fun H hP => ⟨h, hP⟩)
noncomputable def wp_X5_isQueued (nw : Nat → Int32) (job : Int32) (srv : Int32) (k : Int32 → Prop) : Prop := (vp_in (93 + job) 893) ∧ (((nw (93 + job).toNatClampNeg) = srv → ((vp_in (293 + job) 893) ∧ (((nw (293 + job).toNatClampNeg) ≤ 0 → (k 0)) ∧ (¬ ((nw (293 + job).toNatClampNeg) ≤ 0) → (k 1))))) ∧ (¬ (nw (93 + job).toNatClampNeg) = srv → (k 0)))
set_option maxRecDepth 100000 in
set_option maxHeartbeats 4000000 in
theorem c_X5_isQueued (l : Launch) {E : EV} {o : Nat} {P : PM} {A : Nat → Prop} (F : FocM E o P) (hA : ∀ q, inMo o q → A q) (nw : Nat → Int32) (hi : Nat → Int32) (sv : Int32) (th : Int32) (cd : Nat → Int32) (ha : Int64) (job : Int32) (srv : Int32)  (k : Int32 → Prop) (h : wp_X5_isQueued nw job srv k) : Met l yX5_isQueued wsX5_isQueued { frames := 0, cells := 0, slots := 0, locals := 0 } (va_Pc [.ref o, .int job, .int srv] (fun U => P nw hi sv th cd ha U.heap ∧ XE E U)) (kQi (fun r H => k r ∧ P nw hi sv th cd ha H) A) 0 0 A := by
  refine k_body (cc := cX5_isQueued) (own := RX5) (maxL := 3) (ret := (some .boolean)) (lv0 := [(0, .ref o), (1, .int job), (2, .int srv)]) (by decide) rfl rfl (Nat.le_of_ble_eq_true rfl) rfl (fun p e s m below meth c C hr hlk hP hE => ?_)
  have hi5 : ∀ w ∈ u_ws RX5 TX5 6, w ∈ wsX5_isQueued := by decide +kernel
  have lk0 := C.2.2.2.2 (.fieldLink RX5 7 "IdleDispatcherModel" "now" "[I") (by decide +kernel)
  refine k_aload_n C dX5_isQueued_0 0 rfl ?_
  refine mg_Mo_now C (focM_g F) hE.1 hi5 lk0 dX5_isQueued_1 ?_
  refine k_bipush (v := 93) C dX5_isQueued_4 (by decide) ?_
  refine k_iload_n C dX5_isQueued_6 1 rfl ?_
  refine k_iadd C dX5_isQueued_7 ?_
  obtain ⟨q1, h⟩ := h
  refine mg_nw C (focM_g F) hE.1 q1 dX5_isQueued_8 ?_
  refine k_iload_n C dX5_isQueued_9 2 rfl ?_
  refine k_icmp_ne (tgt := 30) C dX5_isQueued_10 (by decide) (fun c2 => ?_) (fun c2 => ?_)
  · replace h := h.2 c2
    refine k_iconst (v := 0) C dX5_isQueued_30 (by decide) ?_
    exact k_zret C hr hlk rfl dX5_isQueued_31 (fun H hP => ⟨h, hP⟩)
  · replace h := h.1 c2
    refine k_aload_n C dX5_isQueued_13 0 rfl ?_
    refine mg_Mo_now C (focM_g F) hE.1 hi5 lk0 dX5_isQueued_14 ?_
    refine k_sipush (v := 293) C dX5_isQueued_17 (by decide) ?_
    refine k_iload_n C dX5_isQueued_20 1 rfl ?_
    refine k_iadd C dX5_isQueued_21 ?_
    obtain ⟨q3, h⟩ := h
    refine mg_nw C (focM_g F) hE.1 q3 dX5_isQueued_22 ?_
    refine k_if_le (tgt := 30) C dX5_isQueued_23 (by decide) (fun c4 => ?_) (fun c4 => ?_)
    · replace h := h.1 c4
      refine k_iconst (v := 0) C dX5_isQueued_30 (by decide) ?_
      exact k_zret C hr hlk rfl dX5_isQueued_31 (fun H hP => ⟨h, hP⟩)
    · replace h := h.2 c4
      refine k_iconst (v := 1) C dX5_isQueued_26 (by decide) ?_
      refine k_goto (tgt := 31) C dX5_isQueued_27 (by decide) ?_
      exact k_zret C hr hlk rfl dX5_isQueued_31 (fun H hP => ⟨h, hP⟩)
noncomputable def wp_X5_lengthOf_L4 (nw : Nat → Int32) (k : Int32 → Prop) (srv : Int32) (fu : Nat) : Int32 → Int32 → Prop := Nat.rec (motive := fun _ => Int32 → Int32 → Prop) (fun _ _ => False) (fun _ rec4 x1 x2 => ((nw 6) ≤ x1 → (k x2)) ∧ (¬ ((nw 6) ≤ x1) → (wp_X5_isQueued nw x1 srv (fun r4 => (r4 = 0 → (∀ x6 : Int32, x6 = (x2 + 0) → (∀ x7 : Int32, x7 = x1 + 1 → (rec4 x7 x6)))) ∧ (¬ (r4 = 0) → (∀ x8 : Int32, x8 = (x2 + 1) → (∀ x9 : Int32, x9 = x1 + 1 → (rec4 x9 x8)))))))) fu
noncomputable def wp_X5_lengthOf (nw : Nat → Int32) (srv : Int32) (k : Int32 → Prop) : Prop := ∃ fu, wp_X5_lengthOf_L4 nw k srv fu 0 0
set_option maxRecDepth 100000 in
set_option maxHeartbeats 4000000 in
theorem c_X5_lengthOf (l : Launch) {E : EV} {o : Nat} {P : PM} {A : Nat → Prop} (F : FocM E o P) (hA : ∀ q, inMo o q → A q) (nw : Nat → Int32) (hi : Nat → Int32) (sv : Int32) (th : Int32) (cd : Nat → Int32) (ha : Int64) (srv : Int32)  (k : Int32 → Prop) (h : wp_X5_lengthOf nw srv k) : Met l yX5_lengthOf wsX5_lengthOf { frames := 1, cells := 0, slots := 0, locals := 22 } (va_Pc [.ref o, .int srv] (fun U => P nw hi sv th cd ha U.heap ∧ XE E U)) (kQi (fun r H => k r ∧ P nw hi sv th cd ha H) A) 0 0 A := by
  refine k_body (cc := cX5_lengthOf) (own := RX5) (maxL := 4) (ret := (some .int)) (lv0 := [(0, .ref o), (1, .int srv)]) (by decide) rfl rfl (Nat.le_of_ble_eq_true rfl) rfl (fun p e s m below meth c C hr hlk hP hE => ?_)
  have hi5 : ∀ w ∈ u_ws RX5 TX5 6, w ∈ wsX5_lengthOf := by decide +kernel
  have lk0 := C.2.2.2.2 (.fieldLink RX5 7 "IdleDispatcherModel" "now" "[I") (by decide +kernel)
  refine k_iconst (v := 0) C dX5_lengthOf_0 (by decide) ?_
  refine k_istore_n (lv' := [(2, .int 0), (0, .ref o), (1, .int srv)]) C dX5_lengthOf_1 rfl (by decide) rfl ?_
  refine k_iconst (v := 0) C dX5_lengthOf_2 (by decide) ?_
  refine k_istore_n (lv' := [(3, .int 0), (2, .int 0), (0, .ref o), (1, .int srv)]) C dX5_lengthOf_3 rfl (by decide) rfl ?_
  obtain ⟨n4, h⟩ := h
  refine k_pc (pc2 := 4) rfl ?_
  refine k_loop2 (wp_X5_lengthOf_L4 nw k srv) (fun x1 x2 => P nw hi sv th cd ha) (fun x1 x2 => [(3, .int x1), (2, .int x2), (0, .ref o), (1, .int srv)]) (fun _ _ h => h) (fun n4 ih4 x1 x2 h => ?_) n4 _ _ h
  refine k_iload_n C dX5_lengthOf_4 0 rfl ?_
  refine k_aload_n C dX5_lengthOf_5 2 rfl ?_
  refine mg_Mo_now C (focM_g F) hE.1 hi5 lk0 dX5_lengthOf_6 ?_
  refine k_bipush (v := 6) C dX5_lengthOf_9 (by decide) ?_
  refine mg_nw C (focM_g F) hE.1 (vp_lit (i := 6) (n := 893) (by decide)) dX5_lengthOf_11 ?_
  refine k_icmp_ge (tgt := 38) C dX5_lengthOf_12 (by decide) (fun c3 => ?_) (fun c3 => ?_)
  · replace h := h.1 c3
    refine k_iload_n C dX5_lengthOf_38 1 rfl ?_
    exact k_iret C hr hlk dX5_lengthOf_39 (fun H hP => ⟨h, hP⟩)
  · replace h := h.2 c3
    refine k_iload_n C dX5_lengthOf_15 1 rfl ?_
    refine k_aload_n C dX5_lengthOf_16 2 rfl ?_
    refine k_iload_n C dX5_lengthOf_17 0 rfl ?_
    refine k_iload_n C dX5_lengthOf_18 3 rfl ?_
    refine k_callVi (st := [.int x2]) C hE (c_X5_isQueued l F hA nw hi sv th cd ha x1 srv  _ h) (cwV 2 C.2.2.2.2 gX5_lengthOf_X5_isQueued rfl rfl rfl (by decide +kernel) ⟨Nat.le_of_ble_eq_true rfl, Nat.le_of_ble_eq_true rfl⟩) (fun H hP => va_recv hE.1 (k_one (mst_Mo ((focM_g F) H hP))) rfl (q0 := 0) rfl) rfl rfl (Nat.le_of_ble_eq_true rfl) dX5_lengthOf_19 ⟨Nat.zero_le _, Nat.zero_le _⟩ (fun r4 => ?_)
    refine k_and (fun h => ?_)
    refine k_if_eq (tgt := 29) C dX5_lengthOf_22 (by decide) (fun c5 => ?_) (fun c5 => ?_)
    · replace h := h.1 c5
      refine k_iconst (v := 0) C dX5_lengthOf_29 (by decide) ?_
      refine k_iadd C dX5_lengthOf_30 ?_
      refine k_topi (fun x6 ex6 => ?_)
      replace h := h x6 ex6
      refine k_istore_n (lv' := [(2, .int x6), (3, .int x1), (0, .ref o), (1, .int srv)]) C dX5_lengthOf_31 rfl (by decide) rfl ?_
      obtain ⟨x7, ex7⟩ : ∃ z : Int32, z = x1 + 1 := ⟨_, rfl⟩
      replace h := h x7 ex7
      refine k_iinc (v := x7) (lv' := [(3, .int x7), (2, .int x6), (0, .ref o), (1, .int srv)]) (j := 1) C dX5_lengthOf_32 rfl (by rw [ex7]; rfl) (by decide) rfl ?_
      refine k_goto (tgt := 4) C dX5_lengthOf_35 (by decide) ?_
      refine k_pc (pc2 := 4) rfl ?_
      refine k_sub [0, 1, 2, 3] rfl ?_
      exact ih4 _ _ h
    · replace h := h.2 c5
      refine k_iconst (v := 1) C dX5_lengthOf_25 (by decide) ?_
      refine k_goto (tgt := 30) C dX5_lengthOf_26 (by decide) ?_
      refine k_iadd C dX5_lengthOf_30 ?_
      refine k_topi (fun x8 ex8 => ?_)
      replace h := h x8 ex8
      refine k_istore_n (lv' := [(2, .int x8), (3, .int x1), (0, .ref o), (1, .int srv)]) C dX5_lengthOf_31 rfl (by decide) rfl ?_
      obtain ⟨x9, ex9⟩ : ∃ z : Int32, z = x1 + 1 := ⟨_, rfl⟩
      replace h := h x9 ex9
      refine k_iinc (v := x9) (lv' := [(3, .int x9), (2, .int x8), (0, .ref o), (1, .int srv)]) (j := 1) C dX5_lengthOf_32 rfl (by rw [ex9]; rfl) (by decide) rfl ?_
      refine k_goto (tgt := 4) C dX5_lengthOf_35 (by decide) ?_
      refine k_pc (pc2 := 4) rfl ?_
      refine k_sub [0, 1, 2, 3] rfl ?_
      exact ih4 _ _ h
noncomputable def wp_X5_workOf_L4 (nw : Nat → Int32) (k : Int32 → Prop) (srv : Int32) (fu : Nat) : Int32 → Int32 → Prop := Nat.rec (motive := fun _ => Int32 → Int32 → Prop) (fun _ _ => False) (fun _ rec4 x1 x2 => ((nw 6) ≤ x1 → (k x2)) ∧ (¬ ((nw 6) ≤ x1) → (wp_X5_isQueued nw x1 srv (fun r4 => (r4 = 0 → (∀ x6 : Int32, x6 = (x2 + 0) → (∀ x7 : Int32, x7 = x1 + 1 → (rec4 x7 x6)))) ∧ (¬ (r4 = 0) → ((vp_in (293 + x1) 893) ∧ (∀ x9 : Int32, x9 = (x2 + (nw (293 + x1).toNatClampNeg)) → (∀ x10 : Int32, x10 = x1 + 1 → (rec4 x10 x9))))))))) fu
noncomputable def wp_X5_workOf (nw : Nat → Int32) (srv : Int32) (k : Int32 → Prop) : Prop := ∃ fu, wp_X5_workOf_L4 nw k srv fu 0 0
set_option maxRecDepth 100000 in
set_option maxHeartbeats 4000000 in
theorem c_X5_workOf (l : Launch) {E : EV} {o : Nat} {P : PM} {A : Nat → Prop} (F : FocM E o P) (hA : ∀ q, inMo o q → A q) (nw : Nat → Int32) (hi : Nat → Int32) (sv : Int32) (th : Int32) (cd : Nat → Int32) (ha : Int64) (srv : Int32)  (k : Int32 → Prop) (h : wp_X5_workOf nw srv k) : Met l yX5_workOf wsX5_workOf { frames := 1, cells := 0, slots := 0, locals := 22 } (va_Pc [.ref o, .int srv] (fun U => P nw hi sv th cd ha U.heap ∧ XE E U)) (kQi (fun r H => k r ∧ P nw hi sv th cd ha H) A) 0 0 A := by
  refine k_body (cc := cX5_workOf) (own := RX5) (maxL := 4) (ret := (some .int)) (lv0 := [(0, .ref o), (1, .int srv)]) (by decide) rfl rfl (Nat.le_of_ble_eq_true rfl) rfl (fun p e s m below meth c C hr hlk hP hE => ?_)
  have hi5 : ∀ w ∈ u_ws RX5 TX5 6, w ∈ wsX5_workOf := by decide +kernel
  have lk0 := C.2.2.2.2 (.fieldLink RX5 7 "IdleDispatcherModel" "now" "[I") (by decide +kernel)
  refine k_iconst (v := 0) C dX5_workOf_0 (by decide) ?_
  refine k_istore_n (lv' := [(2, .int 0), (0, .ref o), (1, .int srv)]) C dX5_workOf_1 rfl (by decide) rfl ?_
  refine k_iconst (v := 0) C dX5_workOf_2 (by decide) ?_
  refine k_istore_n (lv' := [(3, .int 0), (2, .int 0), (0, .ref o), (1, .int srv)]) C dX5_workOf_3 rfl (by decide) rfl ?_
  obtain ⟨n4, h⟩ := h
  refine k_pc (pc2 := 4) rfl ?_
  refine k_loop2 (wp_X5_workOf_L4 nw k srv) (fun x1 x2 => P nw hi sv th cd ha) (fun x1 x2 => [(3, .int x1), (2, .int x2), (0, .ref o), (1, .int srv)]) (fun _ _ h => h) (fun n4 ih4 x1 x2 h => ?_) n4 _ _ h
  refine k_iload_n C dX5_workOf_4 0 rfl ?_
  refine k_aload_n C dX5_workOf_5 2 rfl ?_
  refine mg_Mo_now C (focM_g F) hE.1 hi5 lk0 dX5_workOf_6 ?_
  refine k_bipush (v := 6) C dX5_workOf_9 (by decide) ?_
  refine mg_nw C (focM_g F) hE.1 (vp_lit (i := 6) (n := 893) (by decide)) dX5_workOf_11 ?_
  refine k_icmp_ge (tgt := 47) C dX5_workOf_12 (by decide) (fun c3 => ?_) (fun c3 => ?_)
  · replace h := h.1 c3
    refine k_iload_n C dX5_workOf_47 1 rfl ?_
    exact k_iret C hr hlk dX5_workOf_48 (fun H hP => ⟨h, hP⟩)
  · replace h := h.2 c3
    refine k_iload_n C dX5_workOf_15 1 rfl ?_
    refine k_aload_n C dX5_workOf_16 2 rfl ?_
    refine k_iload_n C dX5_workOf_17 0 rfl ?_
    refine k_iload_n C dX5_workOf_18 3 rfl ?_
    refine k_callVi (st := [.int x2]) C hE (c_X5_isQueued l F hA nw hi sv th cd ha x1 srv  _ h) (cwV 2 C.2.2.2.2 gX5_workOf_X5_isQueued rfl rfl rfl (by decide +kernel) ⟨Nat.le_of_ble_eq_true rfl, Nat.le_of_ble_eq_true rfl⟩) (fun H hP => va_recv hE.1 (k_one (mst_Mo ((focM_g F) H hP))) rfl (q0 := 0) rfl) rfl rfl (Nat.le_of_ble_eq_true rfl) dX5_workOf_19 ⟨Nat.zero_le _, Nat.zero_le _⟩ (fun r4 => ?_)
    refine k_and (fun h => ?_)
    refine k_if_eq (tgt := 38) C dX5_workOf_22 (by decide) (fun c5 => ?_) (fun c5 => ?_)
    · replace h := h.1 c5
      refine k_iconst (v := 0) C dX5_workOf_38 (by decide) ?_
      refine k_iadd C dX5_workOf_39 ?_
      refine k_topi (fun x6 ex6 => ?_)
      replace h := h x6 ex6
      refine k_istore_n (lv' := [(2, .int x6), (3, .int x1), (0, .ref o), (1, .int srv)]) C dX5_workOf_40 rfl (by decide) rfl ?_
      obtain ⟨x7, ex7⟩ : ∃ z : Int32, z = x1 + 1 := ⟨_, rfl⟩
      replace h := h x7 ex7
      refine k_iinc (v := x7) (lv' := [(3, .int x7), (2, .int x6), (0, .ref o), (1, .int srv)]) (j := 1) C dX5_workOf_41 rfl (by rw [ex7]; rfl) (by decide) rfl ?_
      refine k_goto (tgt := 4) C dX5_workOf_44 (by decide) ?_
      refine k_pc (pc2 := 4) rfl ?_
      refine k_sub [0, 1, 2, 3] rfl ?_
      exact ih4 _ _ h
    · replace h := h.2 c5
      refine k_aload_n C dX5_workOf_25 2 rfl ?_
      refine mg_Mo_now C (focM_g F) hE.1 hi5 lk0 dX5_workOf_26 ?_
      refine k_sipush (v := 293) C dX5_workOf_29 (by decide) ?_
      refine k_iload_n C dX5_workOf_32 0 rfl ?_
      refine k_iadd C dX5_workOf_33 ?_
      obtain ⟨q8, h⟩ := h
      refine mg_nw C (focM_g F) hE.1 q8 dX5_workOf_34 ?_
      refine k_goto (tgt := 39) C dX5_workOf_35 (by decide) ?_
      refine k_iadd C dX5_workOf_39 ?_
      refine k_topi (fun x9 ex9 => ?_)
      replace h := h x9 ex9
      refine k_istore_n (lv' := [(2, .int x9), (3, .int x1), (0, .ref o), (1, .int srv)]) C dX5_workOf_40 rfl (by decide) rfl ?_
      obtain ⟨x10, ex10⟩ : ∃ z : Int32, z = x1 + 1 := ⟨_, rfl⟩
      replace h := h x10 ex10
      refine k_iinc (v := x10) (lv' := [(3, .int x10), (2, .int x9), (0, .ref o), (1, .int srv)]) (j := 1) C dX5_workOf_41 rfl (by rw [ex10]; rfl) (by decide) rfl ?_
      refine k_goto (tgt := 4) C dX5_workOf_44 (by decide) ?_
      refine k_pc (pc2 := 4) rfl ?_
      refine k_sub [0, 1, 2, 3] rfl ?_
      exact ih4 _ _ h
noncomputable def wp_X5_firstJob_L2 (nw : Nat → Int32) (k : Int32 → Prop) (srv : Int32) (fu : Nat) : Int32 → Prop := Nat.rec (motive := fun _ => Int32 → Prop) (fun _ => False) (fun _ rec2 x1 => ((nw 6) ≤ x1 → (k (-1))) ∧ (¬ ((nw 6) ≤ x1) → (wp_X5_isQueued nw x1 srv (fun r3 => (r3 = 0 → (∀ x5 : Int32, x5 = x1 + 1 → (rec2 x5))) ∧ (¬ (r3 = 0) → (k x1)))))) fu
noncomputable def wp_X5_firstJob (nw : Nat → Int32) (srv : Int32) (k : Int32 → Prop) : Prop := ∃ fu, wp_X5_firstJob_L2 nw k srv fu 0
set_option maxRecDepth 100000 in
set_option maxHeartbeats 4000000 in
theorem c_X5_firstJob (l : Launch) {E : EV} {o : Nat} {P : PM} {A : Nat → Prop} (F : FocM E o P) (hA : ∀ q, inMo o q → A q) (nw : Nat → Int32) (hi : Nat → Int32) (sv : Int32) (th : Int32) (cd : Nat → Int32) (ha : Int64) (srv : Int32)  (k : Int32 → Prop) (h : wp_X5_firstJob nw srv k) : Met l yX5_firstJob wsX5_firstJob { frames := 1, cells := 0, slots := 0, locals := 22 } (va_Pc [.ref o, .int srv] (fun U => P nw hi sv th cd ha U.heap ∧ XE E U)) (kQi (fun r H => k r ∧ P nw hi sv th cd ha H) A) 0 0 A := by
  refine k_body (cc := cX5_firstJob) (own := RX5) (maxL := 3) (ret := (some .int)) (lv0 := [(0, .ref o), (1, .int srv)]) (by decide) rfl rfl (Nat.le_of_ble_eq_true rfl) rfl (fun p e s m below meth c C hr hlk hP hE => ?_)
  have hi5 : ∀ w ∈ u_ws RX5 TX5 6, w ∈ wsX5_firstJob := by decide +kernel
  have lk0 := C.2.2.2.2 (.fieldLink RX5 7 "IdleDispatcherModel" "now" "[I") (by decide +kernel)
  refine k_iconst (v := 0) C dX5_firstJob_0 (by decide) ?_
  refine k_istore_n (lv' := [(2, .int 0), (0, .ref o), (1, .int srv)]) C dX5_firstJob_1 rfl (by decide) rfl ?_
  obtain ⟨n2, h⟩ := h
  refine k_pc (pc2 := 2) rfl ?_
  refine k_loop1 (wp_X5_firstJob_L2 nw k srv) (fun x1 => P nw hi sv th cd ha) (fun x1 => [(2, .int x1), (0, .ref o), (1, .int srv)]) (fun _ h => h) (fun n2 ih2 x1 h => ?_) n2 _ h
  refine k_iload_n C dX5_firstJob_2 0 rfl ?_
  refine k_aload_n C dX5_firstJob_3 1 rfl ?_
  refine mg_Mo_now C (focM_g F) hE.1 hi5 lk0 dX5_firstJob_4 ?_
  refine k_bipush (v := 6) C dX5_firstJob_7 (by decide) ?_
  refine mg_nw C (focM_g F) hE.1 (vp_lit (i := 6) (n := 893) (by decide)) dX5_firstJob_9 ?_
  refine k_icmp_ge (tgt := 30) C dX5_firstJob_10 (by decide) (fun c2 => ?_) (fun c2 => ?_)
  · replace h := h.1 c2
    refine k_iconst (v := (-1)) C dX5_firstJob_30 (by decide) ?_
    exact k_iret C hr hlk dX5_firstJob_31 (fun H hP => ⟨h, hP⟩)
  · replace h := h.2 c2
    refine k_aload_n C dX5_firstJob_13 1 rfl ?_
    refine k_iload_n C dX5_firstJob_14 0 rfl ?_
    refine k_iload_n C dX5_firstJob_15 2 rfl ?_
    refine k_callVi (st := []) C hE (c_X5_isQueued l F hA nw hi sv th cd ha x1 srv  _ h) (cwV 2 C.2.2.2.2 gX5_firstJob_X5_isQueued rfl rfl rfl (by decide +kernel) ⟨Nat.le_of_ble_eq_true rfl, Nat.le_of_ble_eq_true rfl⟩) (fun H hP => va_recv hE.1 (k_one (mst_Mo ((focM_g F) H hP))) rfl (q0 := 0) rfl) rfl rfl (Nat.le_of_ble_eq_true rfl) dX5_firstJob_16 ⟨Nat.zero_le _, Nat.zero_le _⟩ (fun r3 => ?_)
    refine k_and (fun h => ?_)
    refine k_if_eq (tgt := 24) C dX5_firstJob_19 (by decide) (fun c4 => ?_) (fun c4 => ?_)
    · replace h := h.1 c4
      obtain ⟨x5, ex5⟩ : ∃ z : Int32, z = x1 + 1 := ⟨_, rfl⟩
      replace h := h x5 ex5
      refine k_iinc (v := x5) (lv' := [(2, .int x5), (0, .ref o), (1, .int srv)]) (j := 0) C dX5_firstJob_24 rfl (by rw [ex5]; rfl) (by decide) rfl ?_
      refine k_goto (tgt := 2) C dX5_firstJob_27 (by decide) ?_
      refine k_pc (pc2 := 2) rfl ?_
      refine k_sub [0, 1, 2] rfl ?_
      exact ih2 _ h
    · replace h := h.2 c4
      refine k_iload_n C dX5_firstJob_22 0 rfl ?_
      exact k_iret C hr hlk dX5_firstJob_23 (fun H hP => ⟨h, hP⟩)
noncomputable def wp_X5_listOf_L17 (x1 : Int32) (nw : Nat → Int32) (rec4 : Int32 → Int32 → Prop) (srv : Int32) (fu : Nat) : Int32 → Int32 → Prop := Nat.rec (motive := fun _ => Int32 → Int32 → Prop) (fun _ _ => False) (fun _ rec17 x4 x5 => (vp_in (57 + x1) 893) ∧ (((nw (57 + x1).toNatClampNeg) ≤ x4 → (∀ x8 : Int32, x8 = x1 + 1 → (rec4 x8 x5))) ∧ (¬ ((nw (57 + x1).toNatClampNeg) ≤ x4) → ((vp_in ((61 + (8 * x1)) + x4) 893) ∧ (((nw ((61 + (8 * x1)) + x4).toNatClampNeg) = srv → (∀ x12 : Int32, x12 = x4 + 1 → (rec17 x12 x1))) ∧ (¬ (nw ((61 + (8 * x1)) + x4).toNatClampNeg) = srv → (∀ x11 : Int32, x11 = x4 + 1 → (rec17 x11 x5)))))))) fu
noncomputable def wp_X5_listOf_L4 (nw : Nat → Int32) (k : Int32 → Prop) (srv : Int32) (fu : Nat) : Int32 → Int32 → Prop := Nat.rec (motive := fun _ => Int32 → Int32 → Prop) (fun _ _ => False) (fun _ rec4 x1 x2 => ((nw 5) ≤ x1 → (k x2)) ∧ (¬ ((nw 5) ≤ x1) → (∃ fu, wp_X5_listOf_L17 x1 nw rec4 srv fu 0 x2))) fu
noncomputable def wp_X5_listOf (nw : Nat → Int32) (srv : Int32) (k : Int32 → Prop) : Prop := ∃ fu, wp_X5_listOf_L4 nw k srv fu 0 (-1)
set_option maxRecDepth 100000 in
set_option maxHeartbeats 4000000 in
theorem c_X5_listOf (l : Launch) {E : EV} {o : Nat} {P : PM} {A : Nat → Prop} (F : FocM E o P) (hA : ∀ q, inMo o q → A q) (nw : Nat → Int32) (hi : Nat → Int32) (sv : Int32) (th : Int32) (cd : Nat → Int32) (ha : Int64) (srv : Int32)  (k : Int32 → Prop) (h : wp_X5_listOf nw srv k) : Met l yX5_listOf wsX5_listOf { frames := 0, cells := 0, slots := 0, locals := 0 } (va_Pc [.ref o, .int srv] (fun U => P nw hi sv th cd ha U.heap ∧ XE E U)) (kQi (fun r H => k r ∧ P nw hi sv th cd ha H) A) 0 0 A := by
  refine k_body (cc := cX5_listOf) (own := RX5) (maxL := 5) (ret := (some .int)) (lv0 := [(0, .ref o), (1, .int srv)]) (by decide) rfl rfl (Nat.le_of_ble_eq_true rfl) rfl (fun p e s m below meth c C hr hlk hP hE => ?_)
  have hi5 : ∀ w ∈ u_ws RX5 TX5 6, w ∈ wsX5_listOf := by decide +kernel
  have lk0 := C.2.2.2.2 (.fieldLink RX5 7 "IdleDispatcherModel" "now" "[I") (by decide +kernel)
  refine k_iconst (v := (-1)) C dX5_listOf_0 (by decide) ?_
  refine k_istore_n (lv' := [(2, .int (-1)), (0, .ref o), (1, .int srv)]) C dX5_listOf_1 rfl (by decide) rfl ?_
  refine k_iconst (v := 0) C dX5_listOf_2 (by decide) ?_
  refine k_istore_n (lv' := [(3, .int 0), (2, .int (-1)), (0, .ref o), (1, .int srv)]) C dX5_listOf_3 rfl (by decide) rfl ?_
  obtain ⟨n4, h⟩ := h
  refine k_pc (pc2 := 4) rfl ?_
  refine k_loop2 (wp_X5_listOf_L4 nw k srv) (fun x1 x2 => P nw hi sv th cd ha) (fun x1 x2 => [(3, .int x1), (2, .int x2), (0, .ref o), (1, .int srv)]) (fun _ _ h => h) (fun n4 ih4 x1 x2 h => ?_) n4 _ _ h
  refine k_iload_n C dX5_listOf_4 0 rfl ?_
  refine k_aload_n C dX5_listOf_5 2 rfl ?_
  refine mg_Mo_now C (focM_g F) hE.1 hi5 lk0 dX5_listOf_6 ?_
  refine k_iconst (v := 5) C dX5_listOf_9 (by decide) ?_
  refine mg_nw C (focM_g F) hE.1 (vp_lit (i := 5) (n := 893) (by decide)) dX5_listOf_10 ?_
  refine k_icmp_ge (tgt := 68) C dX5_listOf_11 (by decide) (fun c3 => ?_) (fun c3 => ?_)
  · replace h := h.1 c3
    refine k_iload_n C dX5_listOf_68 1 rfl ?_
    exact k_iret C hr hlk dX5_listOf_69 (fun H hP => ⟨h, hP⟩)
  · replace h := h.2 c3
    refine k_iconst (v := 0) C dX5_listOf_14 (by decide) ?_
    refine k_istore (lv' := [(4, .int 0), (3, .int x1), (2, .int x2), (0, .ref o), (1, .int srv)]) C dX5_listOf_15 (by decide) rfl ?_
    obtain ⟨n17, h⟩ := h
    refine k_pc (pc2 := 17) rfl ?_
    refine k_loop2 (wp_X5_listOf_L17 x1 nw (wp_X5_listOf_L4 nw k srv n4) srv) (fun x4 x5 => P nw hi sv th cd ha) (fun x4 x5 => [(4, .int x4), (3, .int x1), (2, .int x5), (0, .ref o), (1, .int srv)]) (fun _ _ h => h) (fun n17 ih17 x4 x5 h => ?_) n17 _ _ h
    refine k_iload C dX5_listOf_17 0 rfl ?_
    refine k_aload_n C dX5_listOf_19 3 rfl ?_
    refine mg_Mo_now C (focM_g F) hE.1 hi5 lk0 dX5_listOf_20 ?_
    refine k_bipush (v := 57) C dX5_listOf_23 (by decide) ?_
    refine k_iload_n C dX5_listOf_25 1 rfl ?_
    refine k_iadd C dX5_listOf_26 ?_
    obtain ⟨q6, h⟩ := h
    refine mg_nw C (focM_g F) hE.1 q6 dX5_listOf_27 ?_
    refine k_icmp_ge (tgt := 62) C dX5_listOf_28 (by decide) (fun c7 => ?_) (fun c7 => ?_)
    · replace h := h.1 c7
      obtain ⟨x8, ex8⟩ : ∃ z : Int32, z = x1 + 1 := ⟨_, rfl⟩
      replace h := h x8 ex8
      refine k_iinc (v := x8) (lv' := [(3, .int x8), (4, .int x4), (2, .int x5), (0, .ref o), (1, .int srv)]) (j := 1) C dX5_listOf_62 rfl (by rw [ex8]; rfl) (by decide) rfl ?_
      refine k_goto (tgt := 4) C dX5_listOf_65 (by decide) ?_
      refine k_pc (pc2 := 4) rfl ?_
      refine k_sub [0, 2, 3, 4] rfl ?_
      exact ih4 _ _ h
    · replace h := h.2 c7
      refine k_aload_n C dX5_listOf_31 3 rfl ?_
      refine mg_Mo_now C (focM_g F) hE.1 hi5 lk0 dX5_listOf_32 ?_
      refine k_bipush (v := 61) C dX5_listOf_35 (by decide) ?_
      refine k_bipush (v := 8) C dX5_listOf_37 (by decide) ?_
      refine k_iload_n C dX5_listOf_39 1 rfl ?_
      refine k_imul C dX5_listOf_40 ?_
      refine k_iadd C dX5_listOf_41 ?_
      refine k_iload C dX5_listOf_42 0 rfl ?_
      refine k_iadd C dX5_listOf_44 ?_
      obtain ⟨q9, h⟩ := h
      refine mg_nw C (focM_g F) hE.1 q9 dX5_listOf_45 ?_
      refine k_iload_n C dX5_listOf_46 4 rfl ?_
      refine k_icmp_ne (tgt := 54) C dX5_listOf_47 (by decide) (fun c10 => ?_) (fun c10 => ?_)
      · replace h := h.2 c10
        refine k_iload_n C dX5_listOf_54 2 rfl ?_
        refine k_istore_n (lv' := [(2, .int x5), (4, .int x4), (3, .int x1), (0, .ref o), (1, .int srv)]) C dX5_listOf_55 rfl (by decide) rfl ?_
        obtain ⟨x11, ex11⟩ : ∃ z : Int32, z = x4 + 1 := ⟨_, rfl⟩
        replace h := h x11 ex11
        refine k_iinc (v := x11) (lv' := [(4, .int x11), (2, .int x5), (3, .int x1), (0, .ref o), (1, .int srv)]) (j := 1) C dX5_listOf_56 rfl (by rw [ex11]; rfl) (by decide) rfl ?_
        refine k_goto (tgt := 17) C dX5_listOf_59 (by decide) ?_
        refine k_pc (pc2 := 17) rfl ?_
        refine k_sub [0, 2, 1, 3, 4] rfl ?_
        exact ih17 _ _ h
      · replace h := h.1 c10
        refine k_iload_n C dX5_listOf_50 1 rfl ?_
        refine k_goto (tgt := 55) C dX5_listOf_51 (by decide) ?_
        refine k_istore_n (lv' := [(2, .int x1), (4, .int x4), (3, .int x1), (0, .ref o), (1, .int srv)]) C dX5_listOf_55 rfl (by decide) rfl ?_
        obtain ⟨x12, ex12⟩ : ∃ z : Int32, z = x4 + 1 := ⟨_, rfl⟩
        replace h := h x12 ex12
        refine k_iinc (v := x12) (lv' := [(4, .int x12), (2, .int x1), (3, .int x1), (0, .ref o), (1, .int srv)]) (j := 1) C dX5_listOf_56 rfl (by rw [ex12]; rfl) (by decide) rfl ?_
        refine k_goto (tgt := 17) C dX5_listOf_59 (by decide) ?_
        refine k_pc (pc2 := 17) rfl ?_
        refine k_sub [0, 2, 1, 3, 4] rfl ?_
        exact ih17 _ _ h
noncomputable def wp_X5_register (nw : Nat → Int32) (srv : Int32) (k : (Nat → Int32) → Prop) : Prop := ∀ x1 : Int32, x1 = (nw 5) → ((x1 = 0 → (k nw)) ∧ (¬ x1 = 0 → ((¬ x1 = 0) ∧ (∀ x4 : Int32, x4 = (srv - srv / x1 * x1) → (((nw 2) = 0 → (wp_X5_draw nw x1 (fun r24 nw_25 => (vp_in (57 + r24) 893) ∧ ((vp_in ((61 + (8 * r24)) + (nw_25 (57 + r24).toNatClampNeg)) 893) ∧ (∀ nw_28 : Nat → Int32, nw_28 = upd nw_25 ((61 + (8 * r24)) + (nw_25 (57 + r24).toNatClampNeg)).toNatClampNeg srv → (∀ nw_29 : Nat → Int32, nw_29 = upd nw_28 (57 + r24).toNatClampNeg ((nw_28 (57 + r24).toNatClampNeg) + 1) → (k nw_29))))))) ∧ (¬ (nw 2) = 0 → (((nw 2) = 1 → (wp_X5_draw nw x1 (fun r11 nw_12 => wp_X5_draw nw_12 x1 (fun r13 nw_14 => (vp_in (57 + r13) 893) ∧ ((vp_in (57 + r11) 893) ∧ (((nw_14 (57 + r11).toNatClampNeg) ≤ (nw_14 (57 + r13).toNatClampNeg) → ((vp_in ((61 + (8 * r11)) + (nw_14 (57 + r11).toNatClampNeg)) 893) ∧ (∀ nw_19 : Nat → Int32, nw_19 = upd nw_14 ((61 + (8 * r11)) + (nw_14 (57 + r11).toNatClampNeg)).toNatClampNeg srv → (∀ nw_20 : Nat → Int32, nw_20 = upd nw_19 (57 + r11).toNatClampNeg ((nw_19 (57 + r11).toNatClampNeg) + 1) → (k nw_20))))) ∧ (¬ ((nw_14 (57 + r11).toNatClampNeg) ≤ (nw_14 (57 + r13).toNatClampNeg)) → ((vp_in ((61 + (8 * r13)) + (nw_14 (57 + r13).toNatClampNeg)) 893) ∧ (∀ nw_22 : Nat → Int32, nw_22 = upd nw_14 ((61 + (8 * r13)) + (nw_14 (57 + r13).toNatClampNeg)).toNatClampNeg srv → (∀ nw_23 : Nat → Int32, nw_23 = upd nw_22 (57 + r13).toNatClampNeg ((nw_22 (57 + r13).toNatClampNeg) + 1) → (k nw_23))))))))))) ∧ (¬ (nw 2) = 1 → ((vp_in (57 + x4) 893) ∧ ((vp_in ((61 + (8 * x4)) + (nw (57 + x4).toNatClampNeg)) 893) ∧ (∀ nw_9 : Nat → Int32, nw_9 = upd nw ((61 + (8 * x4)) + (nw (57 + x4).toNatClampNeg)).toNatClampNeg srv → (∀ nw_10 : Nat → Int32, nw_10 = upd nw_9 (57 + x4).toNatClampNeg ((nw_9 (57 + x4).toNatClampNeg) + 1) → (k nw_10)))))))))))))
set_option maxRecDepth 100000 in
set_option maxHeartbeats 4000000 in
theorem c_X5_register (l : Launch) {E : EV} {o : Nat} {P : PM} {A : Nat → Prop} (F : FocM E o P) (hA : ∀ q, inMo o q → A q) (nw : Nat → Int32) (hi : Nat → Int32) (sv : Int32) (th : Int32) (cd : Nat → Int32) (ha : Int64) (srv : Int32)  (k : (Nat → Int32) → Prop) (h : wp_X5_register nw srv k) : Met l yX5_register wsX5_register { frames := 1, cells := 0, slots := 0, locals := 21 } (va_Pc [.ref o, .int srv] (fun U => P nw hi sv th cd ha U.heap ∧ XE E U)) (kQv (fun H => ∃ nw9 : Nat → Int32, k nw9 ∧ P nw9 hi sv th cd ha H) A) 0 0 A := by
  refine k_body (cc := cX5_register) (own := RX5) (maxL := 6) (ret := none) (lv0 := [(0, .ref o), (1, .int srv)]) (by decide) rfl rfl (Nat.le_of_ble_eq_true rfl) rfl (fun p e s m below meth c C hr hlk hP hE => ?_)
  have hi5 : ∀ w ∈ u_ws RX5 TX5 6, w ∈ wsX5_register := by decide +kernel
  have lk0 := C.2.2.2.2 (.fieldLink RX5 7 "IdleDispatcherModel" "now" "[I") (by decide +kernel)
  refine k_aload_n C dX5_register_0 0 rfl ?_
  refine mg_Mo_now C (focM_g F) hE.1 hi5 lk0 dX5_register_1 ?_
  refine k_iconst (v := 5) C dX5_register_4 (by decide) ?_
  refine mg_nw C (focM_g F) hE.1 (vp_lit (i := 5) (n := 893) (by decide)) dX5_register_5 ?_
  refine k_topi (fun x1 ex1 => ?_)
  replace h := h x1 ex1
  refine k_istore_n (lv' := [(2, .int x1), (0, .ref o), (1, .int srv)]) C dX5_register_6 rfl (by decide) rfl ?_
  refine k_iload_n C dX5_register_7 0 rfl ?_
  refine k_if_ne (tgt := 12) C dX5_register_8 (by decide) (fun c2 => ?_) (fun c2 => ?_)
  · replace h := h.2 c2
    refine k_iload_n C dX5_register_12 2 rfl ?_
    refine k_iload_n C dX5_register_13 0 rfl ?_
    obtain ⟨q3, h⟩ := h
    refine k_irem C dX5_register_14 q3 ?_
    refine k_topi (fun x4 ex4 => ?_)
    replace h := h x4 ex4
    refine k_istore_n (lv' := [(3, .int x4), (2, .int x1), (0, .ref o), (1, .int srv)]) C dX5_register_15 rfl (by decide) rfl ?_
    refine k_aload_n C dX5_register_16 2 rfl ?_
    refine mg_Mo_now C (focM_g F) hE.1 hi5 lk0 dX5_register_17 ?_
    refine k_iconst (v := 2) C dX5_register_20 (by decide) ?_
    refine mg_nw C (focM_g F) hE.1 (vp_lit (i := 2) (n := 893) (by decide)) dX5_register_21 ?_
    refine k_if_ne (tgt := 34) C dX5_register_22 (by decide) (fun c5 => ?_) (fun c5 => ?_)
    · replace h := h.2 c5
      refine k_aload_n C dX5_register_34 2 rfl ?_
      refine mg_Mo_now C (focM_g F) hE.1 hi5 lk0 dX5_register_35 ?_
      refine k_iconst (v := 2) C dX5_register_38 (by decide) ?_
      refine mg_nw C (focM_g F) hE.1 (vp_lit (i := 2) (n := 893) (by decide)) dX5_register_39 ?_
      refine k_iconst (v := 1) C dX5_register_40 (by decide) ?_
      refine k_icmp_ne (tgt := 89) C dX5_register_41 (by decide) (fun c6 => ?_) (fun c6 => ?_)
      · replace h := h.2 c6
        refine k_aload_n C dX5_register_89 2 rfl ?_
        refine mg_Mo_now C (focM_g F) hE.1 hi5 lk0 dX5_register_90 ?_
        refine k_bipush (v := 61) C dX5_register_93 (by decide) ?_
        refine k_bipush (v := 8) C dX5_register_95 (by decide) ?_
        refine k_iload_n C dX5_register_97 0 rfl ?_
        refine k_imul C dX5_register_98 ?_
        refine k_iadd C dX5_register_99 ?_
        refine k_aload_n C dX5_register_100 2 rfl ?_
        refine mg_Mo_now C (focM_g F) hE.1 hi5 lk0 dX5_register_101 ?_
        refine k_bipush (v := 57) C dX5_register_104 (by decide) ?_
        refine k_iload_n C dX5_register_106 0 rfl ?_
        refine k_iadd C dX5_register_107 ?_
        obtain ⟨q7, h⟩ := h
        refine mg_nw C (focM_g F) hE.1 q7 dX5_register_108 ?_
        refine k_iadd C dX5_register_109 ?_
        refine k_iload_n C dX5_register_110 3 rfl ?_
        obtain ⟨q8, h⟩ := h
        obtain ⟨nw_9, enw_9⟩ : ∃ z : Nat → Int32, z = upd nw ((61 + (8 * x4)) + (nw (57 + x4).toNatClampNeg)).toNatClampNeg srv := ⟨_, rfl⟩
        replace h := h nw_9 enw_9
        refine mp_nw C F hA hE.1 q8 enw_9 dX5_register_111 ?_
        refine k_aload_n C dX5_register_112 2 rfl ?_
        refine mg_Mo_now C (focM_g F) hE.1 hi5 lk0 dX5_register_113 ?_
        refine k_bipush (v := 57) C dX5_register_116 (by decide) ?_
        refine k_iload_n C dX5_register_118 0 rfl ?_
        refine k_iadd C dX5_register_119 ?_
        refine k_dup2_11 C dX5_register_120 rfl rfl ?_
        refine mg_nw C (focM_g F) hE.1 q7 dX5_register_121 ?_
        refine k_iconst (v := 1) C dX5_register_122 (by decide) ?_
        refine k_iadd C dX5_register_123 ?_
        obtain ⟨nw_10, enw_10⟩ : ∃ z : Nat → Int32, z = upd nw_9 (57 + x4).toNatClampNeg ((nw_9 (57 + x4).toNatClampNeg) + 1) := ⟨_, rfl⟩
        replace h := h nw_10 enw_10
        refine mp_nw C F hA hE.1 q7 enw_10 dX5_register_124 ?_
        exact k_vret C hr hlk dX5_register_125 (fun H hP => ⟨nw_10, h, hP⟩)
      · replace h := h.1 c6
        refine k_aload_n C dX5_register_44 2 rfl ?_
        refine k_iload_n C dX5_register_45 1 rfl ?_
        refine k_callVi (st := []) C hE (c_X5_draw l F hA nw hi sv th cd ha x1  _ h) (cwV 1 C.2.2.2.2 gX5_register_X5_draw rfl rfl rfl (by decide +kernel) ⟨Nat.le_of_ble_eq_true rfl, Nat.le_of_ble_eq_true rfl⟩) (fun H hP => va_recv hE.1 (k_one (mst_Mo ((focM_g F) H hP))) rfl (q0 := 0) rfl) rfl rfl (Nat.le_of_ble_eq_true rfl) dX5_register_46 ⟨Nat.zero_le _, Nat.zero_le _⟩ (fun r11 => ?_)
        refine k_ex (fun nw_12 => k_and (fun h => ?_))
        refine k_istore (lv' := [(4, .int r11), (3, .int x4), (2, .int x1), (0, .ref o), (1, .int srv)]) C dX5_register_49 (by decide) rfl ?_
        refine k_aload_n C dX5_register_51 3 rfl ?_
        refine k_iload_n C dX5_register_52 2 rfl ?_
        refine k_callVi (st := []) C hE (c_X5_draw l F hA nw_12 hi sv th cd ha x1  _ h) (cwV 1 C.2.2.2.2 gX5_register_X5_draw rfl rfl rfl (by decide +kernel) ⟨Nat.le_of_ble_eq_true rfl, Nat.le_of_ble_eq_true rfl⟩) (fun H hP => va_recv hE.1 (k_one (mst_Mo ((focM_g F) H hP))) rfl (q0 := 0) rfl) rfl rfl (Nat.le_of_ble_eq_true rfl) dX5_register_53 ⟨Nat.zero_le _, Nat.zero_le _⟩ (fun r13 => ?_)
        refine k_ex (fun nw_14 => k_and (fun h => ?_))
        refine k_istore (lv' := [(5, .int r13), (4, .int r11), (3, .int x4), (2, .int x1), (0, .ref o), (1, .int srv)]) C dX5_register_56 (by decide) rfl ?_
        refine k_aload_n C dX5_register_58 4 rfl ?_
        refine mg_Mo_now C (focM_g F) hE.1 hi5 lk0 dX5_register_59 ?_
        refine k_bipush (v := 57) C dX5_register_62 (by decide) ?_
        refine k_iload C dX5_register_64 0 rfl ?_
        refine k_iadd C dX5_register_66 ?_
        obtain ⟨q15, h⟩ := h
        refine mg_nw C (focM_g F) hE.1 q15 dX5_register_67 ?_
        refine k_aload_n C dX5_register_68 4 rfl ?_
        refine mg_Mo_now C (focM_g F) hE.1 hi5 lk0 dX5_register_69 ?_
        refine k_bipush (v := 57) C dX5_register_72 (by decide) ?_
        refine k_iload C dX5_register_74 1 rfl ?_
        refine k_iadd C dX5_register_76 ?_
        obtain ⟨q16, h⟩ := h
        refine mg_nw C (focM_g F) hE.1 q16 dX5_register_77 ?_
        refine k_icmp_ge (tgt := 86) C dX5_register_78 (by decide) (fun c17 => ?_) (fun c17 => ?_)
        · replace h := h.1 c17
          refine k_iload C dX5_register_86 1 rfl ?_
          refine k_istore_n (lv' := [(3, .int r11), (5, .int r13), (4, .int r11), (2, .int x1), (0, .ref o), (1, .int srv)]) C dX5_register_88 rfl (by decide) rfl ?_
          refine k_aload_n C dX5_register_89 4 rfl ?_
          refine mg_Mo_now C (focM_g F) hE.1 hi5 lk0 dX5_register_90 ?_
          refine k_bipush (v := 61) C dX5_register_93 (by decide) ?_
          refine k_bipush (v := 8) C dX5_register_95 (by decide) ?_
          refine k_iload_n C dX5_register_97 0 rfl ?_
          refine k_imul C dX5_register_98 ?_
          refine k_iadd C dX5_register_99 ?_
          refine k_aload_n C dX5_register_100 4 rfl ?_
          refine mg_Mo_now C (focM_g F) hE.1 hi5 lk0 dX5_register_101 ?_
          refine k_bipush (v := 57) C dX5_register_104 (by decide) ?_
          refine k_iload_n C dX5_register_106 0 rfl ?_
          refine k_iadd C dX5_register_107 ?_
          refine mg_nw C (focM_g F) hE.1 q16 dX5_register_108 ?_
          refine k_iadd C dX5_register_109 ?_
          refine k_iload_n C dX5_register_110 5 rfl ?_
          obtain ⟨q18, h⟩ := h
          obtain ⟨nw_19, enw_19⟩ : ∃ z : Nat → Int32, z = upd nw_14 ((61 + (8 * r11)) + (nw_14 (57 + r11).toNatClampNeg)).toNatClampNeg srv := ⟨_, rfl⟩
          replace h := h nw_19 enw_19
          refine mp_nw C F hA hE.1 q18 enw_19 dX5_register_111 ?_
          refine k_aload_n C dX5_register_112 4 rfl ?_
          refine mg_Mo_now C (focM_g F) hE.1 hi5 lk0 dX5_register_113 ?_
          refine k_bipush (v := 57) C dX5_register_116 (by decide) ?_
          refine k_iload_n C dX5_register_118 0 rfl ?_
          refine k_iadd C dX5_register_119 ?_
          refine k_dup2_11 C dX5_register_120 rfl rfl ?_
          refine mg_nw C (focM_g F) hE.1 q16 dX5_register_121 ?_
          refine k_iconst (v := 1) C dX5_register_122 (by decide) ?_
          refine k_iadd C dX5_register_123 ?_
          obtain ⟨nw_20, enw_20⟩ : ∃ z : Nat → Int32, z = upd nw_19 (57 + r11).toNatClampNeg ((nw_19 (57 + r11).toNatClampNeg) + 1) := ⟨_, rfl⟩
          replace h := h nw_20 enw_20
          refine mp_nw C F hA hE.1 q16 enw_20 dX5_register_124 ?_
          exact k_vret C hr hlk dX5_register_125 (fun H hP => ⟨nw_20, h, hP⟩)
        · replace h := h.2 c17
          refine k_iload C dX5_register_81 0 rfl ?_
          refine k_goto (tgt := 88) C dX5_register_83 (by decide) ?_
          refine k_istore_n (lv' := [(3, .int r13), (5, .int r13), (4, .int r11), (2, .int x1), (0, .ref o), (1, .int srv)]) C dX5_register_88 rfl (by decide) rfl ?_
          refine k_aload_n C dX5_register_89 4 rfl ?_
          refine mg_Mo_now C (focM_g F) hE.1 hi5 lk0 dX5_register_90 ?_
          refine k_bipush (v := 61) C dX5_register_93 (by decide) ?_
          refine k_bipush (v := 8) C dX5_register_95 (by decide) ?_
          refine k_iload_n C dX5_register_97 0 rfl ?_
          refine k_imul C dX5_register_98 ?_
          refine k_iadd C dX5_register_99 ?_
          refine k_aload_n C dX5_register_100 4 rfl ?_
          refine mg_Mo_now C (focM_g F) hE.1 hi5 lk0 dX5_register_101 ?_
          refine k_bipush (v := 57) C dX5_register_104 (by decide) ?_
          refine k_iload_n C dX5_register_106 0 rfl ?_
          refine k_iadd C dX5_register_107 ?_
          refine mg_nw C (focM_g F) hE.1 q15 dX5_register_108 ?_
          refine k_iadd C dX5_register_109 ?_
          refine k_iload_n C dX5_register_110 5 rfl ?_
          obtain ⟨q21, h⟩ := h
          obtain ⟨nw_22, enw_22⟩ : ∃ z : Nat → Int32, z = upd nw_14 ((61 + (8 * r13)) + (nw_14 (57 + r13).toNatClampNeg)).toNatClampNeg srv := ⟨_, rfl⟩
          replace h := h nw_22 enw_22
          refine mp_nw C F hA hE.1 q21 enw_22 dX5_register_111 ?_
          refine k_aload_n C dX5_register_112 4 rfl ?_
          refine mg_Mo_now C (focM_g F) hE.1 hi5 lk0 dX5_register_113 ?_
          refine k_bipush (v := 57) C dX5_register_116 (by decide) ?_
          refine k_iload_n C dX5_register_118 0 rfl ?_
          refine k_iadd C dX5_register_119 ?_
          refine k_dup2_11 C dX5_register_120 rfl rfl ?_
          refine mg_nw C (focM_g F) hE.1 q15 dX5_register_121 ?_
          refine k_iconst (v := 1) C dX5_register_122 (by decide) ?_
          refine k_iadd C dX5_register_123 ?_
          obtain ⟨nw_23, enw_23⟩ : ∃ z : Nat → Int32, z = upd nw_22 (57 + r13).toNatClampNeg ((nw_22 (57 + r13).toNatClampNeg) + 1) := ⟨_, rfl⟩
          replace h := h nw_23 enw_23
          refine mp_nw C F hA hE.1 q15 enw_23 dX5_register_124 ?_
          exact k_vret C hr hlk dX5_register_125 (fun H hP => ⟨nw_23, h, hP⟩)
    · replace h := h.1 c5
      refine k_aload_n C dX5_register_25 2 rfl ?_
      refine k_iload_n C dX5_register_26 1 rfl ?_
      refine k_callVi (st := []) C hE (c_X5_draw l F hA nw hi sv th cd ha x1  _ h) (cwV 1 C.2.2.2.2 gX5_register_X5_draw rfl rfl rfl (by decide +kernel) ⟨Nat.le_of_ble_eq_true rfl, Nat.le_of_ble_eq_true rfl⟩) (fun H hP => va_recv hE.1 (k_one (mst_Mo ((focM_g F) H hP))) rfl (q0 := 0) rfl) rfl rfl (Nat.le_of_ble_eq_true rfl) dX5_register_27 ⟨Nat.zero_le _, Nat.zero_le _⟩ (fun r24 => ?_)
      refine k_ex (fun nw_25 => k_and (fun h => ?_))
      refine k_istore_n (lv' := [(3, .int r24), (2, .int x1), (0, .ref o), (1, .int srv)]) C dX5_register_30 rfl (by decide) rfl ?_
      refine k_goto (tgt := 89) C dX5_register_31 (by decide) ?_
      refine k_aload_n C dX5_register_89 2 rfl ?_
      refine mg_Mo_now C (focM_g F) hE.1 hi5 lk0 dX5_register_90 ?_
      refine k_bipush (v := 61) C dX5_register_93 (by decide) ?_
      refine k_bipush (v := 8) C dX5_register_95 (by decide) ?_
      refine k_iload_n C dX5_register_97 0 rfl ?_
      refine k_imul C dX5_register_98 ?_
      refine k_iadd C dX5_register_99 ?_
      refine k_aload_n C dX5_register_100 2 rfl ?_
      refine mg_Mo_now C (focM_g F) hE.1 hi5 lk0 dX5_register_101 ?_
      refine k_bipush (v := 57) C dX5_register_104 (by decide) ?_
      refine k_iload_n C dX5_register_106 0 rfl ?_
      refine k_iadd C dX5_register_107 ?_
      obtain ⟨q26, h⟩ := h
      refine mg_nw C (focM_g F) hE.1 q26 dX5_register_108 ?_
      refine k_iadd C dX5_register_109 ?_
      refine k_iload_n C dX5_register_110 3 rfl ?_
      obtain ⟨q27, h⟩ := h
      obtain ⟨nw_28, enw_28⟩ : ∃ z : Nat → Int32, z = upd nw_25 ((61 + (8 * r24)) + (nw_25 (57 + r24).toNatClampNeg)).toNatClampNeg srv := ⟨_, rfl⟩
      replace h := h nw_28 enw_28
      refine mp_nw C F hA hE.1 q27 enw_28 dX5_register_111 ?_
      refine k_aload_n C dX5_register_112 2 rfl ?_
      refine mg_Mo_now C (focM_g F) hE.1 hi5 lk0 dX5_register_113 ?_
      refine k_bipush (v := 57) C dX5_register_116 (by decide) ?_
      refine k_iload_n C dX5_register_118 0 rfl ?_
      refine k_iadd C dX5_register_119 ?_
      refine k_dup2_11 C dX5_register_120 rfl rfl ?_
      refine mg_nw C (focM_g F) hE.1 q26 dX5_register_121 ?_
      refine k_iconst (v := 1) C dX5_register_122 (by decide) ?_
      refine k_iadd C dX5_register_123 ?_
      obtain ⟨nw_29, enw_29⟩ : ∃ z : Nat → Int32, z = upd nw_28 (57 + r24).toNatClampNeg ((nw_28 (57 + r24).toNatClampNeg) + 1) := ⟨_, rfl⟩
      replace h := h nw_29 enw_29
      refine mp_nw C F hA hE.1 q26 enw_29 dX5_register_124 ?_
      exact k_vret C hr hlk dX5_register_125 (fun H hP => ⟨nw_29, h, hP⟩)
  · replace h := h.1 c2
    exact k_vret C hr hlk dX5_register_11 (fun H hP => ⟨nw, h, hP⟩)
noncomputable def wp_X5_leave_L17 (r1 : Int32) (k : (Nat → Int32) → Prop) (srv : Int32) (fu : Nat) : Int32 → Int32 → (Nat → Int32) → Prop := Nat.rec (motive := fun _ => Int32 → Int32 → (Nat → Int32) → Prop) (fun _ _ _ => False) (fun _ rec17 x3 x4 nw_5 => (vp_in (57 + r1) 893) ∧ (((nw_5 (57 + r1).toNatClampNeg) ≤ x3 → (∀ nw_8 : Nat → Int32, nw_8 = upd nw_5 (57 + r1).toNatClampNeg x4 → (k nw_8))) ∧ (¬ ((nw_5 (57 + r1).toNatClampNeg) ≤ x3) → ((vp_in ((61 + (8 * r1)) + x3) 893) ∧ (∀ x10 : Int32, x10 = (nw_5 ((61 + (8 * r1)) + x3).toNatClampNeg) → ((vp_in ((61 + (8 * r1)) + x4) 893) ∧ (∀ nw_12 : Nat → Int32, nw_12 = upd nw_5 ((61 + (8 * r1)) + x4).toNatClampNeg x10 → ((x10 = srv → (∀ x16 : Int32, x16 = (x4 + 0) → (∀ x17 : Int32, x17 = x3 + 1 → (rec17 x17 x16 nw_12)))) ∧ (¬ x10 = srv → (∀ x14 : Int32, x14 = (x4 + 1) → (∀ x15 : Int32, x15 = x3 + 1 → (rec17 x15 x14 nw_12)))))))))))) fu
noncomputable def wp_X5_leave (nw : Nat → Int32) (srv : Int32) (k : (Nat → Int32) → Prop) : Prop := wp_X5_listOf nw srv (fun r1 => (r1 = (-1) → (k nw)) ∧ (¬ r1 = (-1) → (∃ fu, wp_X5_leave_L17 r1 k srv fu 0 0 nw)))
set_option maxRecDepth 100000 in
set_option maxHeartbeats 4000000 in
theorem c_X5_leave (l : Launch) {E : EV} {o : Nat} {P : PM} {A : Nat → Prop} (F : FocM E o P) (hA : ∀ q, inMo o q → A q) (nw : Nat → Int32) (hi : Nat → Int32) (sv : Int32) (th : Int32) (cd : Nat → Int32) (ha : Int64) (srv : Int32)  (k : (Nat → Int32) → Prop) (h : wp_X5_leave nw srv k) : Met l yX5_leave wsX5_leave { frames := 1, cells := 0, slots := 0, locals := 24 } (va_Pc [.ref o, .int srv] (fun U => P nw hi sv th cd ha U.heap ∧ XE E U)) (kQv (fun H => ∃ nw9 : Nat → Int32, k nw9 ∧ P nw9 hi sv th cd ha H) A) 0 0 A := by
  refine k_body (cc := cX5_leave) (own := RX5) (maxL := 6) (ret := none) (lv0 := [(0, .ref o), (1, .int srv)]) (by decide) rfl rfl (Nat.le_of_ble_eq_true rfl) rfl (fun p e s m below meth c C hr hlk hP hE => ?_)
  have hi5 : ∀ w ∈ u_ws RX5 TX5 6, w ∈ wsX5_leave := by decide +kernel
  have lk0 := C.2.2.2.2 (.fieldLink RX5 7 "IdleDispatcherModel" "now" "[I") (by decide +kernel)
  refine k_aload_n C dX5_leave_0 0 rfl ?_
  refine k_iload_n C dX5_leave_1 1 rfl ?_
  refine k_callVi (st := []) C hE (c_X5_listOf l F hA nw hi sv th cd ha srv  _ h) (cwV 1 C.2.2.2.2 gX5_leave_X5_listOf rfl rfl rfl (by decide +kernel) ⟨Nat.le_of_ble_eq_true rfl, Nat.le_of_ble_eq_true rfl⟩) (fun H hP => va_recv hE.1 (k_one (mst_Mo ((focM_g F) H hP))) rfl (q0 := 0) rfl) rfl rfl (Nat.le_of_ble_eq_true rfl) dX5_leave_2 ⟨Nat.zero_le _, Nat.zero_le _⟩ (fun r1 => ?_)
  refine k_and (fun h => ?_)
  refine k_istore_n (lv' := [(2, .int r1), (0, .ref o), (1, .int srv)]) C dX5_leave_5 rfl (by decide) rfl ?_
  refine k_iload_n C dX5_leave_6 0 rfl ?_
  refine k_iconst (v := (-1)) C dX5_leave_7 (by decide) ?_
  refine k_icmp_ne (tgt := 12) C dX5_leave_8 (by decide) (fun c2 => ?_) (fun c2 => ?_)
  · replace h := h.2 c2
    refine k_iconst (v := 0) C dX5_leave_12 (by decide) ?_
    refine k_istore_n (lv' := [(3, .int 0), (2, .int r1), (0, .ref o), (1, .int srv)]) C dX5_leave_13 rfl (by decide) rfl ?_
    refine k_iconst (v := 0) C dX5_leave_14 (by decide) ?_
    refine k_istore (lv' := [(4, .int 0), (3, .int 0), (2, .int r1), (0, .ref o), (1, .int srv)]) C dX5_leave_15 (by decide) rfl ?_
    obtain ⟨n17, h⟩ := h
    refine k_pc (pc2 := 17) rfl ?_
    refine k_loop3 (wp_X5_leave_L17 r1 k srv) (fun x3 x4 nw_5 => P nw_5 hi sv th cd ha) (fun x3 x4 nw_5 => [(4, .int x3), (3, .int x4), (2, .int r1), (0, .ref o), (1, .int srv)]) (fun _ _ _ h => h) (fun n17 ih17 x3 x4 nw_5 h => ?_) n17 _ _ _ h
    refine k_iload C dX5_leave_17 0 rfl ?_
    refine k_aload_n C dX5_leave_19 3 rfl ?_
    refine mg_Mo_now C (focM_g F) hE.1 hi5 lk0 dX5_leave_20 ?_
    refine k_bipush (v := 57) C dX5_leave_23 (by decide) ?_
    refine k_iload_n C dX5_leave_25 2 rfl ?_
    refine k_iadd C dX5_leave_26 ?_
    obtain ⟨q6, h⟩ := h
    refine mg_nw C (focM_g F) hE.1 q6 dX5_leave_27 ?_
    refine k_icmp_ge (tgt := 84) C dX5_leave_28 (by decide) (fun c7 => ?_) (fun c7 => ?_)
    · replace h := h.1 c7
      refine k_aload_n C dX5_leave_84 3 rfl ?_
      refine mg_Mo_now C (focM_g F) hE.1 hi5 lk0 dX5_leave_85 ?_
      refine k_bipush (v := 57) C dX5_leave_88 (by decide) ?_
      refine k_iload_n C dX5_leave_90 2 rfl ?_
      refine k_iadd C dX5_leave_91 ?_
      refine k_iload_n C dX5_leave_92 1 rfl ?_
      obtain ⟨nw_8, enw_8⟩ : ∃ z : Nat → Int32, z = upd nw_5 (57 + r1).toNatClampNeg x4 := ⟨_, rfl⟩
      replace h := h nw_8 enw_8
      refine mp_nw C F hA hE.1 q6 enw_8 dX5_leave_93 ?_
      exact k_vret C hr hlk dX5_leave_94 (fun H hP => ⟨nw_8, h, hP⟩)
    · replace h := h.2 c7
      refine k_aload_n C dX5_leave_31 3 rfl ?_
      refine mg_Mo_now C (focM_g F) hE.1 hi5 lk0 dX5_leave_32 ?_
      refine k_bipush (v := 61) C dX5_leave_35 (by decide) ?_
      refine k_bipush (v := 8) C dX5_leave_37 (by decide) ?_
      refine k_iload_n C dX5_leave_39 2 rfl ?_
      refine k_imul C dX5_leave_40 ?_
      refine k_iadd C dX5_leave_41 ?_
      refine k_iload C dX5_leave_42 0 rfl ?_
      refine k_iadd C dX5_leave_44 ?_
      obtain ⟨q9, h⟩ := h
      refine mg_nw C (focM_g F) hE.1 q9 dX5_leave_45 ?_
      refine k_topi (fun x10 ex10 => ?_)
      replace h := h x10 ex10
      refine k_istore (lv' := [(5, .int x10), (4, .int x3), (3, .int x4), (2, .int r1), (0, .ref o), (1, .int srv)]) C dX5_leave_46 (by decide) rfl ?_
      refine k_aload_n C dX5_leave_48 4 rfl ?_
      refine mg_Mo_now C (focM_g F) hE.1 hi5 lk0 dX5_leave_49 ?_
      refine k_bipush (v := 61) C dX5_leave_52 (by decide) ?_
      refine k_bipush (v := 8) C dX5_leave_54 (by decide) ?_
      refine k_iload_n C dX5_leave_56 3 rfl ?_
      refine k_imul C dX5_leave_57 ?_
      refine k_iadd C dX5_leave_58 ?_
      refine k_iload_n C dX5_leave_59 2 rfl ?_
      refine k_iadd C dX5_leave_60 ?_
      refine k_iload C dX5_leave_61 0 rfl ?_
      obtain ⟨q11, h⟩ := h
      obtain ⟨nw_12, enw_12⟩ : ∃ z : Nat → Int32, z = upd nw_5 ((61 + (8 * r1)) + x4).toNatClampNeg x10 := ⟨_, rfl⟩
      replace h := h nw_12 enw_12
      refine mp_nw C F hA hE.1 q11 enw_12 dX5_leave_63 ?_
      refine k_iload_n C dX5_leave_64 2 rfl ?_
      refine k_iload C dX5_leave_65 0 rfl ?_
      refine k_iload_n C dX5_leave_67 5 rfl ?_
      refine k_icmp_ne (tgt := 75) C dX5_leave_68 (by decide) (fun c13 => ?_) (fun c13 => ?_)
      · replace h := h.2 c13
        refine k_iconst (v := 1) C dX5_leave_75 (by decide) ?_
        refine k_iadd C dX5_leave_76 ?_
        refine k_topi (fun x14 ex14 => ?_)
        replace h := h x14 ex14
        refine k_istore_n (lv' := [(3, .int x14), (5, .int x10), (4, .int x3), (2, .int r1), (0, .ref o), (1, .int srv)]) C dX5_leave_77 rfl (by decide) rfl ?_
        obtain ⟨x15, ex15⟩ : ∃ z : Int32, z = x3 + 1 := ⟨_, rfl⟩
        replace h := h x15 ex15
        refine k_iinc (v := x15) (lv' := [(4, .int x15), (3, .int x14), (5, .int x10), (2, .int r1), (0, .ref o), (1, .int srv)]) (j := 2) C dX5_leave_78 rfl (by rw [ex15]; rfl) (by decide) rfl ?_
        refine k_goto (tgt := 17) C dX5_leave_81 (by decide) ?_
        refine k_pc (pc2 := 17) rfl ?_
        refine k_sub [0, 1, 3, 4, 5] rfl ?_
        exact ih17 _ _ _ h
      · replace h := h.1 c13
        refine k_iconst (v := 0) C dX5_leave_71 (by decide) ?_
        refine k_goto (tgt := 76) C dX5_leave_72 (by decide) ?_
        refine k_iadd C dX5_leave_76 ?_
        refine k_topi (fun x16 ex16 => ?_)
        replace h := h x16 ex16
        refine k_istore_n (lv' := [(3, .int x16), (5, .int x10), (4, .int x3), (2, .int r1), (0, .ref o), (1, .int srv)]) C dX5_leave_77 rfl (by decide) rfl ?_
        obtain ⟨x17, ex17⟩ : ∃ z : Int32, z = x3 + 1 := ⟨_, rfl⟩
        replace h := h x17 ex17
        refine k_iinc (v := x17) (lv' := [(4, .int x17), (3, .int x16), (5, .int x10), (2, .int r1), (0, .ref o), (1, .int srv)]) (j := 2) C dX5_leave_78 rfl (by rw [ex17]; rfl) (by decide) rfl ?_
        refine k_goto (tgt := 17) C dX5_leave_81 (by decide) ?_
        refine k_pc (pc2 := 17) rfl ?_
        refine k_sub [0, 1, 3, 4, 5] rfl ?_
        exact ih17 _ _ _ h
  · replace h := h.1 c2
    exact k_vret C hr hlk dX5_leave_11 (fun H hP => ⟨nw, h, hP⟩)
