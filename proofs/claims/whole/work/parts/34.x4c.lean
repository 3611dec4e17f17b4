noncomputable def wp_X4_length (sc : Int32) (sLen : Nat → Int32) (srv : Int32) (k : Int32 → Prop) (kx : String → Prop) : Prop := wp_X4_requireServer sc srv ((vp_in srv 8) ∧ (k (sLen srv.toNatClampNeg))) kx
set_option maxRecDepth 100000 in
set_option maxHeartbeats 4000000 in
theorem c_X4_length (l : Launch) (hlt : l.stackTraces = false) {E : EV} {b : Nat} {P : XW} {A : Nat → Prop} (FX : FocX E b P) (hA : ∀ q, inX b q → A q) (cur : Nat) (sav : Nat → Nat) (cnt : Int32) (ST : Nat → TT) (now : Int32) (rnd : Int64) (jm : Int32) (rp : Int32) (sc : Int32) (dc : Int32) (cn : Int32) (sUp : Nat → Int32) (sLen : Nat → Int32) (sWrk : Nat → Int32) (sReg : Nat → Int32) (sFst : Nat → Int32) (sLst : Nat → Int32) (dPol : Nat → Int32) (dPtr : Nat → Int32) (dCnt : Nat → Int32) (dIdl : Nat → Nat → Int32) (dKnw : Nat → Nat → Int32) (jCnt : Int32) (jFin : Int32) (jBeg : Int32) (jWs : Int32) (jMis : Int32) (jSrv : Nat → Int32) (jLft : Nat → Int32) (jSub : Nat → Int32) (jWai : Nat → Int32) (jNxt : Nat → Int32) (cnd : Nat → Int32) (hcur : cur < 4) (srv : Int32)  (k : Int32 → Prop) (kx : String → Prop) (h : wp_X4_length sc sLen srv k kx) : vx_Met l yX4_length wsX4_length { frames := 7, cells := 1, slots := 6, locals := 111 } (va_Pc [.ref b, .int srv] (fun U => XF P cur sav cnt ST now rnd jm rp sc dc cn sUp sLen sWrk sReg sFst sLst dPol dPtr dCnt dIdl dKnw jCnt jFin jBeg jWs jMis jSrv jLft jSub jWai jNxt cnd U.heap ∧ XT E A U)) (kQi (fun r H => k r ∧ XF P cur sav cnt ST now rnd jm rp sc dc cn sUp sLen sWrk sReg sFst sLst dPol dPtr dCnt dIdl dKnw jCnt jFin jBeg jWs jMis jSrv jLft jSub jWai jNxt cnd H) A) (kXC (fun X9 H => kx X9 ∧ XF P cur sav cnt ST now rnd jm rp sc dc cn sUp sLen sWrk sReg sFst sLst dPol dPtr dCnt dIdl dKnw jCnt jFin jBeg jWs jMis jSrv jLft jSub jWai jNxt cnd H) A) 1 6 A := by
  refine kx_body (cc := cX4_length) (own := RX4) (maxL := 2) (ret := (some .int)) (lv0 := [(0, .ref b), (1, .int srv)]) (by decide) rfl rfl (Nat.le_of_ble_eq_true rfl) rfl (fun p e s m below meth c C hr hlk htab hP hX => ?_)
  have hE := hX.1
  obtain ⟨a, ea⟩ : ∃ z, z = sa b cur := ⟨_, rfl⟩
  have hAs := in_x hA hcur ea
  have hi4 : ∀ w ∈ u_ws RX4 TX4 3, w ∈ wsX4_length := by decide +kernel
  have hi3 : ∀ w ∈ u_ws RX3 TX3 11, w ∈ wsX4_length := by decide +kernel
  have hi2 : ∀ w ∈ u_ws RX2 TX2 6, w ∈ wsX4_length := by decide +kernel
  have lk0 := C.2.2.2.2 (.fieldLink RX4 10 "IdleDispatcher" "state" "LIdleDispatcher$State;") (by decide +kernel)
  have lk1 := C.2.2.2.2 (.fieldLink RX4 109 "IdleDispatcher$State" "servers" "[LIdleDispatcher$Server;") (by decide +kernel)
  have lk2 := C.2.2.2.2 (.fieldLink RX4 113 "IdleDispatcher$Server" "length" "I") (by decide +kernel)
  refine k_aload_n C dX4_length_0 0 rfl ?_
  refine k_iload_n C dX4_length_1 1 rfl ?_
  refine kx_callVv (st := []) C hX (c_X4_requireServer l hlt FX hA cur sav cnt ST now rnd jm rp sc dc cn sUp sLen sWrk sReg sFst sLst dPol dPtr dCnt dIdl dKnw jCnt jFin jBeg jWs jMis jSrv jLft jSub jWai jNxt cnd hcur srv _ _ h) (cwV 1 C.2.2.2.2 gX4_length_X4_requireServer rfl rfl rfl (by decide +kernel) ⟨Nat.le_of_ble_eq_true rfl, Nat.le_of_ble_eq_true rfl⟩) (fun H hP => va_recv hE.1 (k_one (xf_g FX H hP).1) rfl (q0 := 0) rfl) rfl rfl (Nat.le_of_ble_eq_true rfl) dX4_length_2 ⟨Nat.le_of_ble_eq_true rfl, Nat.le_of_ble_eq_true rfl⟩ htab hlk (Nat.le_of_ble_eq_true rfl) (Nat.le_of_ble_eq_true rfl) (fun _ _ z => z) (fun _ => ?_)
  refine k_and (fun h => ?_)
  refine k_aload_n C dX4_length_5 0 rfl ?_
  refine xg_state C (xf_g FX) hE.1 hi4 ea lk0 dX4_length_6 ?_
  refine g_St_servers C (foc_g (foc_x FX hcur ea)) hE.1 hi3 lk1 dX4_length_9 ?_
  refine k_iload_n C dX4_length_12 1 rfl ?_
  obtain ⟨q1, h⟩ := h
  refine g_SA C (foc_g (foc_x FX hcur ea)) hE.1 q1 dX4_length_13 ?_
  refine g_sLen C (foc_g (foc_x FX hcur ea)) hE.1 hi2 (vp_lt q1) lk2 dX4_length_14 ?_
  exact kx_ret (Nat.le_of_ble_eq_true rfl) (Nat.le_of_ble_eq_true rfl) (k_iret C hr hlk dX4_length_17 (fun H hP => ⟨h, hP⟩))
noncomputable def wp_X4_work (sc : Int32) (sWrk : Nat → Int32) (srv : Int32) (k : Int32 → Prop) (kx : String → Prop) : Prop := wp_X4_requireServer sc srv ((vp_in srv 8) ∧ (k (sWrk srv.toNatClampNeg))) kx
set_option maxRecDepth 100000 in
set_option maxHeartbeats 4000000 in
theorem c_X4_work (l : Launch) (hlt : l.stackTraces = false) {E : EV} {b : Nat} {P : XW} {A : Nat → Prop} (FX : FocX E b P) (hA : ∀ q, inX b q → A q) (cur : Nat) (sav : Nat → Nat) (cnt : Int32) (ST : Nat → TT) (now : Int32) (rnd : Int64) (jm : Int32) (rp : Int32) (sc : Int32) (dc : Int32) (cn : Int32) (sUp : Nat → Int32) (sLen : Nat → Int32) (sWrk : Nat → Int32) (sReg : Nat → Int32) (sFst : Nat → Int32) (sLst : Nat → Int32) (dPol : Nat → Int32) (dPtr : Nat → Int32) (dCnt : Nat → Int32) (dIdl : Nat → Nat → Int32) (dKnw : Nat → Nat → Int32) (jCnt : Int32) (jFin : Int32) (jBeg : Int32) (jWs : Int32) (jMis : Int32) (jSrv : Nat → Int32) (jLft : Nat → Int32) (jSub : Nat → Int32) (jWai : Nat → Int32) (jNxt : Nat → Int32) (cnd : Nat → Int32) (hcur : cur < 4) (srv : Int32)  (k : Int32 → Prop) (kx : String → Prop) (h : wp_X4_work sc sWrk srv k kx) : vx_Met l yX4_work wsX4_work { frames := 7, cells := 1, slots := 6, locals := 111 } (va_Pc [.ref b, .int srv] (fun U => XF P cur sav cnt ST now rnd jm rp sc dc cn sUp sLen sWrk sReg sFst sLst dPol dPtr dCnt dIdl dKnw jCnt jFin jBeg jWs jMis jSrv jLft jSub jWai jNxt cnd U.heap ∧ XT E A U)) (kQi (fun r H => k r ∧ XF P cur sav cnt ST now rnd jm rp sc dc cn sUp sLen sWrk sReg sFst sLst dPol dPtr dCnt dIdl dKnw jCnt jFin jBeg jWs jMis jSrv jLft jSub jWai jNxt cnd H) A) (kXC (fun X9 H => kx X9 ∧ XF P cur sav cnt ST now rnd jm rp sc dc cn sUp sLen sWrk sReg sFst sLst dPol dPtr dCnt dIdl dKnw jCnt jFin jBeg jWs jMis jSrv jLft jSub jWai jNxt cnd H) A) 1 6 A := by
  refine kx_body (cc := cX4_work) (own := RX4) (maxL := 2) (ret := (some .int)) (lv0 := [(0, .ref b), (1, .int srv)]) (by decide) rfl rfl (Nat.le_of_ble_eq_true rfl) rfl (fun p e s m below meth c C hr hlk htab hP hX => ?_)
  have hE := hX.1
  obtain ⟨a, ea⟩ : ∃ z, z = sa b cur := ⟨_, rfl⟩
  have hAs := in_x hA hcur ea
  have hi4 : ∀ w ∈ u_ws RX4 TX4 3, w ∈ wsX4_work := by decide +kernel
  have hi3 : ∀ w ∈ u_ws RX3 TX3 11, w ∈ wsX4_work := by decide +kernel
  have hi2 : ∀ w ∈ u_ws RX2 TX2 6, w ∈ wsX4_work := by decide +kernel
  have lk0 := C.2.2.2.2 (.fieldLink RX4 10 "IdleDispatcher" "state" "LIdleDispatcher$State;") (by decide +kernel)
  have lk1 := C.2.2.2.2 (.fieldLink RX4 109 "IdleDispatcher$State" "servers" "[LIdleDispatcher$Server;") (by decide +kernel)
  have lk2 := C.2.2.2.2 (.fieldLink RX4 118 "IdleDispatcher$Server" "work" "I") (by decide +kernel)
  refine k_aload_n C dX4_work_0 0 rfl ?_
  refine k_iload_n C dX4_work_1 1 rfl ?_
  refine kx_callVv (st := []) C hX (c_X4_requireServer l hlt FX hA cur sav cnt ST now rnd jm rp sc dc cn sUp sLen sWrk sReg sFst sLst dPol dPtr dCnt dIdl dKnw jCnt jFin jBeg jWs jMis jSrv jLft jSub jWai jNxt cnd hcur srv _ _ h) (cwV 1 C.2.2.2.2 gX4_work_X4_requireServer rfl rfl rfl (by decide +kernel) ⟨Nat.le_of_ble_eq_true rfl, Nat.le_of_ble_eq_true rfl⟩) (fun H hP => va_recv hE.1 (k_one (xf_g FX H hP).1) rfl (q0 := 0) rfl) rfl rfl (Nat.le_of_ble_eq_true rfl) dX4_work_2 ⟨Nat.le_of_ble_eq_true rfl, Nat.le_of_ble_eq_true rfl⟩ htab hlk (Nat.le_of_ble_eq_true rfl) (Nat.le_of_ble_eq_true rfl) (fun _ _ z => z) (fun _ => ?_)
  refine k_and (fun h => ?_)
  refine k_aload_n C dX4_work_5 0 rfl ?_
  refine xg_state C (xf_g FX) hE.1 hi4 ea lk0 dX4_work_6 ?_
  refine g_St_servers C (foc_g (foc_x FX hcur ea)) hE.1 hi3 lk1 dX4_work_9 ?_
  refine k_iload_n C dX4_work_12 1 rfl ?_
  obtain ⟨q1, h⟩ := h
  refine g_SA C (foc_g (foc_x FX hcur ea)) hE.1 q1 dX4_work_13 ?_
  refine g_sWrk C (foc_g (foc_x FX hcur ea)) hE.1 hi2 (vp_lt q1) lk2 dX4_work_14 ?_
  exact kx_ret (Nat.le_of_ble_eq_true rfl) (Nat.le_of_ble_eq_true rfl) (k_iret C hr hlk dX4_work_17 (fun H hP => ⟨h, hP⟩))
noncomputable def wp_X4_registeredAt (sc : Int32) (sReg : Nat → Int32) (srv : Int32) (k : Int32 → Prop) (kx : String → Prop) : Prop := wp_X4_requireServer sc srv ((vp_in srv 8) ∧ (k (sReg srv.toNatClampNeg))) kx
set_option maxRecDepth 100000 in
set_option maxHeartbeats 4000000 in
theorem c_X4_registeredAt (l : Launch) (hlt : l.stackTraces = false) {E : EV} {b : Nat} {P : XW} {A : Nat → Prop} (FX : FocX E b P) (hA : ∀ q, inX b q → A q) (cur : Nat) (sav : Nat → Nat) (cnt : Int32) (ST : Nat → TT) (now : Int32) (rnd : Int64) (jm : Int32) (rp : Int32) (sc : Int32) (dc : Int32) (cn : Int32) (sUp : Nat → Int32) (sLen : Nat → Int32) (sWrk : Nat → Int32) (sReg : Nat → Int32) (sFst : Nat → Int32) (sLst : Nat → Int32) (dPol : Nat → Int32) (dPtr : Nat → Int32) (dCnt : Nat → Int32) (dIdl : Nat → Nat → Int32) (dKnw : Nat → Nat → Int32) (jCnt : Int32) (jFin : Int32) (jBeg : Int32) (jWs : Int32) (jMis : Int32) (jSrv : Nat → Int32) (jLft : Nat → Int32) (jSub : Nat → Int32) (jWai : Nat → Int32) (jNxt : Nat → Int32) (cnd : Nat → Int32) (hcur : cur < 4) (srv : Int32)  (k : Int32 → Prop) (kx : String → Prop) (h : wp_X4_registeredAt sc sReg srv k kx) : vx_Met l yX4_registeredAt wsX4_registeredAt { frames := 7, cells := 1, slots := 6, locals := 111 } (va_Pc [.ref b, .int srv] (fun U => XF P cur sav cnt ST now rnd jm rp sc dc cn sUp sLen sWrk sReg sFst sLst dPol dPtr dCnt dIdl dKnw jCnt jFin jBeg jWs jMis jSrv jLft jSub jWai jNxt cnd U.heap ∧ XT E A U)) (kQi (fun r H => k r ∧ XF P cur sav cnt ST now rnd jm rp sc dc cn sUp sLen sWrk sReg sFst sLst dPol dPtr dCnt dIdl dKnw jCnt jFin jBeg jWs jMis jSrv jLft jSub jWai jNxt cnd H) A) (kXC (fun X9 H => kx X9 ∧ XF P cur sav cnt ST now rnd jm rp sc dc cn sUp sLen sWrk sReg sFst sLst dPol dPtr dCnt dIdl dKnw jCnt jFin jBeg jWs jMis jSrv jLft jSub jWai jNxt cnd H) A) 1 6 A := by
  refine kx_body (cc := cX4_registeredAt) (own := RX4) (maxL := 2) (ret := (some .int)) (lv0 := [(0, .ref b), (1, .int srv)]) (by decide) rfl rfl (Nat.le_of_ble_eq_true rfl) rfl (fun p e s m below meth c C hr hlk htab hP hX => ?_)
  have hE := hX.1
  obtain ⟨a, ea⟩ : ∃ z, z = sa b cur := ⟨_, rfl⟩
  have hAs := in_x hA hcur ea
  have hi4 : ∀ w ∈ u_ws RX4 TX4 3, w ∈ wsX4_registeredAt := by decide +kernel
  have hi3 : ∀ w ∈ u_ws RX3 TX3 11, w ∈ wsX4_registeredAt := by decide +kernel
  have hi2 : ∀ w ∈ u_ws RX2 TX2 6, w ∈ wsX4_registeredAt := by decide +kernel
  have lk0 := C.2.2.2.2 (.fieldLink RX4 10 "IdleDispatcher" "state" "LIdleDispatcher$State;") (by decide +kernel)
  have lk1 := C.2.2.2.2 (.fieldLink RX4 109 "IdleDispatcher$State" "servers" "[LIdleDispatcher$Server;") (by decide +kernel)
  have lk2 := C.2.2.2.2 (.fieldLink RX4 121 "IdleDispatcher$Server" "registeredAt" "I") (by decide +kernel)
  refine k_aload_n C dX4_registeredAt_0 0 rfl ?_
  refine k_iload_n C dX4_registeredAt_1 1 rfl ?_
  refine kx_callVv (st := []) C hX (c_X4_requireServer l hlt FX hA cur sav cnt ST now rnd jm rp sc dc cn sUp sLen sWrk sReg sFst sLst dPol dPtr dCnt dIdl dKnw jCnt jFin jBeg jWs jMis jSrv jLft jSub jWai jNxt cnd hcur srv _ _ h) (cwV 1 C.2.2.2.2 gX4_registeredAt_X4_requireServer rfl rfl rfl (by decide +kernel) ⟨Nat.le_of_ble_eq_true rfl, Nat.le_of_ble_eq_true rfl⟩) (fun H hP => va_recv hE.1 (k_one (xf_g FX H hP).1) rfl (q0 := 0) rfl) rfl rfl (Nat.le_of_ble_eq_true rfl) dX4_registeredAt_2 ⟨Nat.le_of_ble_eq_true rfl, Nat.le_of_ble_eq_true rfl⟩ htab hlk (Nat.le_of_ble_eq_true rfl) (Nat.le_of_ble_eq_true rfl) (fun _ _ z => z) (fun _ => ?_)
  refine k_and (fun h => ?_)
  refine k_aload_n C dX4_registeredAt_5 0 rfl ?_
  refine xg_state C (xf_g FX) hE.1 hi4 ea lk0 dX4_registeredAt_6 ?_
  refine g_St_servers C (foc_g (foc_x FX hcur ea)) hE.1 hi3 lk1 dX4_registeredAt_9 ?_
  refine k_iload_n C dX4_registeredAt_12 1 rfl ?_
  obtain ⟨q1, h⟩ := h
  refine g_SA C (foc_g (foc_x FX hcur ea)) hE.1 q1 dX4_registeredAt_13 ?_
  refine g_sReg C (foc_g (foc_x FX hcur ea)) hE.1 hi2 (vp_lt q1) lk2 dX4_registeredAt_14 ?_
  exact kx_ret (Nat.le_of_ble_eq_true rfl) (Nat.le_of_ble_eq_true rfl) (k_iret C hr hlk dX4_registeredAt_17 (fun H hP => ⟨h, hP⟩))
noncomputable def wp_X4_idleCount (dc : Int32) (dCnt : Nat → Int32) (dsp : Int32) (k : Int32 → Prop) (kx : String → Prop) : Prop := wp_X4_requireDispatcher dc dsp ((vp_in dsp 4) ∧ (k (dCnt dsp.toNatClampNeg))) kx
set_option maxRecDepth 100000 in
set_option maxHeartbeats 4000000 in
theorem c_X4_idleCount (l : Launch) (hlt : l.stackTraces = false) {E : EV} {b : Nat} {P : XW} {A : Nat → Prop} (FX : FocX E b P) (hA : ∀ q, inX b q → A q) (cur : Nat) (sav : Nat → Nat) (cnt : Int32) (ST : Nat → TT) (now : Int32) (rnd : Int64) (jm : Int32) (rp : Int32) (sc : Int32) (dc : Int32) (cn : Int32) (sUp : Nat → Int32) (sLen : Nat → Int32) (sWrk : Nat → Int32) (sReg : Nat → Int32) (sFst : Nat → Int32) (sLst : Nat → Int32) (dPol : Nat → Int32) (dPtr : Nat → Int32) (dCnt : Nat → Int32) (dIdl : Nat → Nat → Int32) (dKnw : Nat → Nat → Int32) (jCnt : Int32) (jFin : Int32) (jBeg : Int32) (jWs : Int32) (jMis : Int32) (jSrv : Nat → Int32) (jLft : Nat → Int32) (jSub : Nat → Int32) (jWai : Nat → Int32) (jNxt : Nat → Int32) (cnd : Nat → Int32) (hcur : cur < 4) (dsp : Int32)  (k : Int32 → Prop) (kx : String → Prop) (h : wp_X4_idleCount dc dCnt dsp k kx) : vx_Met l yX4_idleCount wsX4_idleCount { frames := 7, cells := 1, slots := 6, locals := 111 } (va_Pc [.ref b, .int dsp] (fun U => XF P cur sav cnt ST now rnd jm rp sc dc cn sUp sLen sWrk sReg sFst sLst dPol dPtr dCnt dIdl dKnw jCnt jFin jBeg jWs jMis jSrv jLft jSub jWai jNxt cnd U.heap ∧ XT E A U)) (kQi (fun r H => k r ∧ XF P cur sav cnt ST now rnd jm rp sc dc cn sUp sLen sWrk sReg sFst sLst dPol dPtr dCnt dIdl dKnw jCnt jFin jBeg jWs jMis jSrv jLft jSub jWai jNxt cnd H) A) (kXC (fun X9 H => kx X9 ∧ XF P cur sav cnt ST now rnd jm rp sc dc cn sUp sLen sWrk sReg sFst sLst dPol dPtr dCnt dIdl dKnw jCnt jFin jBeg jWs jMis jSrv jLft jSub jWai jNxt cnd H) A) 1 6 A := by
  refine kx_body (cc := cX4_idleCount) (own := RX4) (maxL := 2) (ret := (some .int)) (lv0 := [(0, .ref b), (1, .int dsp)]) (by decide) rfl rfl (Nat.le_of_ble_eq_true rfl) rfl (fun p e s m below meth c C hr hlk htab hP hX => ?_)
  have hE := hX.1
  obtain ⟨a, ea⟩ : ∃ z, z = sa b cur := ⟨_, rfl⟩
  have hAs := in_x hA hcur ea
  have hi4 : ∀ w ∈ u_ws RX4 TX4 3, w ∈ wsX4_idleCount := by decide +kernel
  have hi3 : ∀ w ∈ u_ws RX3 TX3 11, w ∈ wsX4_idleCount := by decide +kernel
  have hi0 : ∀ w ∈ u_ws RX0 TX0 5, w ∈ wsX4_idleCount := by decide +kernel
  have lk0 := C.2.2.2.2 (.fieldLink RX4 10 "IdleDispatcher" "state" "LIdleDispatcher$State;") (by decide +kernel)
  have lk1 := C.2.2.2.2 (.fieldLink RX4 58 "IdleDispatcher$State" "dispatchers" "[LIdleDispatcher$Dispatcher;") (by decide +kernel)
  have lk2 := C.2.2.2.2 (.fieldLink RX4 124 "IdleDispatcher$Dispatcher" "idleCount" "I") (by decide +kernel)
  refine k_aload_n C dX4_idleCount_0 0 rfl ?_
  refine k_iload_n C dX4_idleCount_1 1 rfl ?_
  refine kx_callVv (st := []) C hX (c_X4_requireDispatcher l hlt FX hA cur sav cnt ST now rnd jm rp sc dc cn sUp sLen sWrk sReg sFst sLst dPol dPtr dCnt dIdl dKnw jCnt jFin jBeg jWs jMis jSrv jLft jSub jWai jNxt cnd hcur dsp _ _ h) (cwV 1 C.2.2.2.2 gX4_idleCount_X4_requireDispatcher rfl rfl rfl (by decide +kernel) ⟨Nat.le_of_ble_eq_true rfl, Nat.le_of_ble_eq_true rfl⟩) (fun H hP => va_recv hE.1 (k_one (xf_g FX H hP).1) rfl (q0 := 0) rfl) rfl rfl (Nat.le_of_ble_eq_true rfl) dX4_idleCount_2 ⟨Nat.le_of_ble_eq_true rfl, Nat.le_of_ble_eq_true rfl⟩ htab hlk (Nat.le_of_ble_eq_true rfl) (Nat.le_of_ble_eq_true rfl) (fun _ _ z => z) (fun _ => ?_)
  refine k_and (fun h => ?_)
  refine k_aload_n C dX4_idleCount_5 0 rfl ?_
  refine xg_state C (xf_g FX) hE.1 hi4 ea lk0 dX4_idleCount_6 ?_
  refine g_St_dispatchers C (foc_g (foc_x FX hcur ea)) hE.1 hi3 lk1 dX4_idleCount_9 ?_
  refine k_iload_n C dX4_idleCount_12 1 rfl ?_
  obtain ⟨q1, h⟩ := h
  refine g_DA C (foc_g (foc_x FX hcur ea)) hE.1 q1 dX4_idleCount_13 ?_
  refine g_dCnt C (foc_g (foc_x FX hcur ea)) hE.1 hi0 (vp_lt q1) lk2 dX4_idleCount_14 ?_
  exact kx_ret (Nat.le_of_ble_eq_true rfl) (Nat.le_of_ble_eq_true rfl) (k_iret C hr hlk dX4_idleCount_17 (fun H hP => ⟨h, hP⟩))
noncomputable def wp_X4_idleAt (dc : Int32) (dCnt : Nat → Int32) (dIdl : Nat → Nat → Int32) (dsp : Int32) (index : Int32) (k : Int32 → Prop) (kx : String → Prop) : Prop := wp_X4_requireDispatcher dc dsp ((vp_in dsp 4) ∧ (wp_X4_requireIndex index (dCnt dsp.toNatClampNeg) ((vp_in index 8) ∧ (k (dIdl dsp.toNatClampNeg index.toNatClampNeg))) kx)) kx
set_option maxRecDepth 100000 in
set_option maxHeartbeats 4000000 in
theorem c_X4_idleAt (l : Launch) (hlt : l.stackTraces = false) {E : EV} {b : Nat} {P : XW} {A : Nat → Prop} (FX : FocX E b P) (hA : ∀ q, inX b q → A q) (cur : Nat) (sav : Nat → Nat) (cnt : Int32) (ST : Nat → TT) (now : Int32) (rnd : Int64) (jm : Int32) (rp : Int32) (sc : Int32) (dc : Int32) (cn : Int32) (sUp : Nat → Int32) (sLen : Nat → Int32) (sWrk : Nat → Int32) (sReg : Nat → Int32) (sFst : Nat → Int32) (sLst : Nat → Int32) (dPol : Nat → Int32) (dPtr : Nat → Int32) (dCnt : Nat → Int32) (dIdl : Nat → Nat → Int32) (dKnw : Nat → Nat → Int32) (jCnt : Int32) (jFin : Int32) (jBeg : Int32) (jWs : Int32) (jMis : Int32) (jSrv : Nat → Int32) (jLft : Nat → Int32) (jSub : Nat → Int32) (jWai : Nat → Int32) (jNxt : Nat → Int32) (cnd : Nat → Int32) (hcur : cur < 4) (dsp : Int32) (index : Int32)  (k : Int32 → Prop) (kx : String → Prop) (h : wp_X4_idleAt dc dCnt dIdl dsp index k kx) : vx_Met l yX4_idleAt wsX4_idleAt { frames := 7, cells := 2, slots := 12, locals := 111 } (va_Pc [.ref b, .int dsp, .int index] (fun U => XF P cur sav cnt ST now rnd jm rp sc dc cn sUp sLen sWrk sReg sFst sLst dPol dPtr dCnt dIdl dKnw jCnt jFin jBeg jWs jMis jSrv jLft jSub jWai jNxt cnd U.heap ∧ XT E A U)) (kQi (fun r H => k r ∧ XF P cur sav cnt ST now rnd jm rp sc dc cn sUp sLen sWrk sReg sFst sLst dPol dPtr dCnt dIdl dKnw jCnt jFin jBeg jWs jMis jSrv jLft jSub jWai jNxt cnd H) A) (kXC (fun X9 H => kx X9 ∧ XF P cur sav cnt ST now rnd jm rp sc dc cn sUp sLen sWrk sReg sFst sLst dPol dPtr dCnt dIdl dKnw jCnt jFin jBeg jWs jMis jSrv jLft jSub jWai jNxt cnd H) A) 2 12 A := by
  refine kx_body (cc := cX4_idleAt) (own := RX4) (maxL := 3) (ret := (some .int)) (lv0 := [(0, .ref b), (1, .int dsp), (2, .int index)]) (by decide) rfl rfl (Nat.le_of_ble_eq_true rfl) rfl (fun p e s m below meth c C hr hlk htab hP hX => ?_)
  have hE := hX.1
  obtain ⟨a, ea⟩ : ∃ z, z = sa b cur := ⟨_, rfl⟩
  have hAs := in_x hA hcur ea
  have hi4 : ∀ w ∈ u_ws RX4 TX4 3, w ∈ wsX4_idleAt := by decide +kernel
  have hi3 : ∀ w ∈ u_ws RX3 TX3 11, w ∈ wsX4_idleAt := by decide +kernel
  have hi0 : ∀ w ∈ u_ws RX0 TX0 5, w ∈ wsX4_idleAt := by decide +kernel
  have lk0 := C.2.2.2.2 (.fieldLink RX4 10 "IdleDispatcher" "state" "LIdleDispatcher$State;") (by decide +kernel)
  have lk1 := C.2.2.2.2 (.fieldLink RX4 58 "IdleDispatcher$State" "dispatchers" "[LIdleDispatcher$Dispatcher;") (by decide +kernel)
  have lk2 := C.2.2.2.2 (.fieldLink RX4 124 "IdleDispatcher$Dispatcher" "idleCount" "I") (by decide +kernel)
  have lk3 := C.2.2.2.2 (.fieldLink RX4 131 "IdleDispatcher$Dispatcher" "idle" "[I") (by decide +kernel)
  refine k_aload_n C dX4_idleAt_0 0 rfl ?_
  refine k_iload_n C dX4_idleAt_1 1 rfl ?_
  refine kx_callVv (st := []) C hX (c_X4_requireDispatcher l hlt FX hA cur sav cnt ST now rnd jm rp sc dc cn sUp sLen sWrk sReg sFst sLst dPol dPtr dCnt dIdl dKnw jCnt jFin jBeg jWs jMis jSrv jLft jSub jWai jNxt cnd hcur dsp _ _ h) (cwV 1 C.2.2.2.2 gX4_idleAt_X4_requireDispatcher rfl rfl rfl (by decide +kernel) ⟨Nat.le_of_ble_eq_true rfl, Nat.le_of_ble_eq_true rfl⟩) (fun H hP => va_recv hE.1 (k_one (xf_g FX H hP).1) rfl (q0 := 0) rfl) rfl rfl (Nat.le_of_ble_eq_true rfl) dX4_idleAt_2 ⟨Nat.le_of_ble_eq_true rfl, Nat.le_of_ble_eq_true rfl⟩ htab hlk (Nat.le_of_ble_eq_true rfl) (Nat.le_of_ble_eq_true rfl) (fun _ _ z => z) (fun _ => ?_)
  refine k_and (fun h => ?_)
  refine k_iload_n C dX4_idleAt_5 2 rfl ?_
  refine k_aload_n C dX4_idleAt_6 0 rfl ?_
  refine xg_state C (xf_g FX) hE.1 hi4 ea lk0 dX4_idleAt_7 ?_
  refine g_St_dispatchers C (foc_g (foc_x FX hcur ea)) hE.1 hi3 lk1 dX4_idleAt_10 ?_
  refine k_iload_n C dX4_idleAt_13 1 rfl ?_
  obtain ⟨q1, h⟩ := h
  refine g_DA C (foc_g (foc_x FX hcur ea)) hE.1 q1 dX4_idleAt_14 ?_
  refine g_dCnt C (foc_g (foc_x FX hcur ea)) hE.1 hi0 (vp_lt q1) lk2 dX4_idleAt_15 ?_
  refine kx_callSv (st := []) C hX (c_X4_requireIndex l hlt (P := XF P cur sav cnt ST now rnd jm rp sc dc cn sUp sLen sWrk sReg sFst sLst dPol dPtr dCnt dIdl dKnw jCnt jFin jBeg jWs jMis jSrv jLft jSub jWai jNxt cnd) (A := A) (E := E) (fun _ _ hP hz hk => x_grow FX hP hz hk) index (dCnt dsp.toNatClampNeg) _ _ h) (va_cwS 2 C.2.2.2.2 gX4_idleAt_X4_requireIndex rfl rfl rfl (by decide +kernel) ⟨Nat.le_of_ble_eq_true rfl, Nat.le_of_ble_eq_true rfl⟩) rfl rfl (Nat.le_of_ble_eq_true rfl) dX4_idleAt_18 ⟨Nat.le_of_ble_eq_true rfl, Nat.le_of_ble_eq_true rfl⟩ htab hlk (Nat.le_of_ble_eq_true rfl) (Nat.le_of_ble_eq_true rfl) (fun _ _ z => z) (fun _ => ?_)
  refine k_and (fun h => ?_)
  refine k_aload_n C dX4_idleAt_21 0 rfl ?_
  refine xg_state C (xf_g FX) hE.1 hi4 ea lk0 dX4_idleAt_22 ?_
  refine g_St_dispatchers C (foc_g (foc_x FX hcur ea)) hE.1 hi3 lk1 dX4_idleAt_25 ?_
  refine k_iload_n C dX4_idleAt_28 1 rfl ?_
  refine g_DA C (foc_g (foc_x FX hcur ea)) hE.1 q1 dX4_idleAt_29 ?_
  refine g_Di_idle C (foc_g (foc_x FX hcur ea)) hE.1 hi0 (vp_lt q1) lk3 dX4_idleAt_30 ?_
  refine k_iload_n C dX4_idleAt_33 2 rfl ?_
  obtain ⟨q2, h⟩ := h
  refine g_dIdl C (foc_g (foc_x FX hcur ea)) hE.1 (vp_lt q1) q2 dX4_idleAt_34 ?_
  exact kx_ret (Nat.le_of_ble_eq_true rfl) (Nat.le_of_ble_eq_true rfl) (k_iret C hr hlk dX4_idleAt_35 (fun H hP => ⟨h, hP⟩))
noncomputable def wp_X4_knownLength (sc : Int32) (dc : Int32) (dKnw : Nat → Nat → Int32) (dsp : Int32) (srv : Int32) (k : Int32 → Prop) (kx : String → Prop) : Prop := wp_X4_requireDispatcher dc dsp (wp_X4_requireServer sc srv ((vp_in dsp 4) ∧ ((vp_in srv 8) ∧ (k (dKnw dsp.toNatClampNeg srv.toNatClampNeg)))) kx) kx
set_option maxRecDepth 100000 in
set_option maxHeartbeats 4000000 in
theorem c_X4_knownLength (l : Launch) (hlt : l.stackTraces = false) {E : EV} {b : Nat} {P : XW} {A : Nat → Prop} (FX : FocX E b P) (hA : ∀ q, inX b q → A q) (cur : Nat) (sav : Nat → Nat) (cnt : Int32) (ST : Nat → TT) (now : Int32) (rnd : Int64) (jm : Int32) (rp : Int32) (sc : Int32) (dc : Int32) (cn : Int32) (sUp : Nat → Int32) (sLen : Nat → Int32) (sWrk : Nat → Int32) (sReg : Nat → Int32) (sFst : Nat → Int32) (sLst : Nat → Int32) (dPol : Nat → Int32) (dPtr : Nat → Int32) (dCnt : Nat → Int32) (dIdl : Nat → Nat → Int32) (dKnw : Nat → Nat → Int32) (jCnt : Int32) (jFin : Int32) (jBeg : Int32) (jWs : Int32) (jMis : Int32) (jSrv : Nat → Int32) (jLft : Nat → Int32) (jSub : Nat → Int32) (jWai : Nat → Int32) (jNxt : Nat → Int32) (cnd : Nat → Int32) (hcur : cur < 4) (dsp : Int32) (srv : Int32)  (k : Int32 → Prop) (kx : String → Prop) (h : wp_X4_knownLength sc dc dKnw dsp srv k kx) : vx_Met l yX4_knownLength wsX4_knownLength { frames := 7, cells := 2, slots := 12, locals := 111 } (va_Pc [.ref b, .int dsp, .int srv] (fun U => XF P cur sav cnt ST now rnd jm rp sc dc cn sUp sLen sWrk sReg sFst sLst dPol dPtr dCnt dIdl dKnw jCnt jFin jBeg jWs jMis jSrv jLft jSub jWai jNxt cnd U.heap ∧ XT E A U)) (kQi (fun r H => k r ∧ XF P cur sav cnt ST now rnd jm rp sc dc cn sUp sLen sWrk sReg sFst sLst dPol dPtr dCnt dIdl dKnw jCnt jFin jBeg jWs jMis jSrv jLft jSub jWai jNxt cnd H) A) (kXC (fun X9 H => kx X9 ∧ XF P cur sav cnt ST now rnd jm rp sc dc cn sUp sLen sWrk sReg sFst sLst dPol dPtr dCnt dIdl dKnw jCnt jFin jBeg jWs jMis jSrv jLft jSub jWai jNxt cnd H) A) 2 12 A := by
  refine kx_body (cc := cX4_knownLength) (own := RX4) (maxL := 3) (ret := (some .int)) (lv0 := [(0, .ref b), (1, .int dsp), (2, .int srv)]) (by decide) rfl rfl (Nat.le_of_ble_eq_true rfl) rfl (fun p e s m below meth c C hr hlk htab hP hX => ?_)
  have hE := hX.1
  obtain ⟨a, ea⟩ : ∃ z, z = sa b cur := ⟨_, rfl⟩
  have hAs := in_x hA hcur ea
  have hi4 : ∀ w ∈ u_ws RX4 TX4 3, w ∈ wsX4_knownLength := by decide +kernel
  have hi3 : ∀ w ∈ u_ws RX3 TX3 11, w ∈ wsX4_knownLength := by decide +kernel
  have hi0 : ∀ w ∈ u_ws RX0 TX0 5, w ∈ wsX4_knownLength := by decide +kernel
  have lk0 := C.2.2.2.2 (.fieldLink RX4 10 "IdleDispatcher" "state" "LIdleDispatcher$State;") (by decide +kernel)
  have lk1 := C.2.2.2.2 (.fieldLink RX4 58 "IdleDispatcher$State" "dispatchers" "[LIdleDispatcher$Dispatcher;") (by decide +kernel)
  have lk2 := C.2.2.2.2 (.fieldLink RX4 135 "IdleDispatcher$Dispatcher" "known" "[I") (by decide +kernel)
  refine k_aload_n C dX4_knownLength_0 0 rfl ?_
  refine k_iload_n C dX4_knownLength_1 1 rfl ?_
  refine kx_callVv (st := []) C hX (c_X4_requireDispatcher l hlt FX hA cur sav cnt ST now rnd jm rp sc dc cn sUp sLen sWrk sReg sFst sLst dPol dPtr dCnt dIdl dKnw jCnt jFin jBeg jWs jMis jSrv jLft jSub jWai jNxt cnd hcur dsp _ _ h) (cwV 1 C.2.2.2.2 gX4_knownLength_X4_requireDispatcher rfl rfl rfl (by decide +kernel) ⟨Nat.le_of_ble_eq_true rfl, Nat.le_of_ble_eq_true rfl⟩) (fun H hP => va_recv hE.1 (k_one (xf_g FX H hP).1) rfl (q0 := 0) rfl) rfl rfl (Nat.le_of_ble_eq_true rfl) dX4_knownLength_2 ⟨Nat.le_of_ble_eq_true rfl, Nat.le_of_ble_eq_true rfl⟩ htab hlk (Nat.le_of_ble_eq_true rfl) (Nat.le_of_ble_eq_true rfl) (fun _ _ z => z) (fun _ => ?_)
  refine k_and (fun h => ?_)
  refine k_aload_n C dX4_knownLength_5 0 rfl ?_
  refine k_iload_n C dX4_knownLength_6 2 rfl ?_
  refine kx_callVv (st := []) C hX (c_X4_requireServer l hlt FX hA cur sav cnt ST now rnd jm rp sc dc cn sUp sLen sWrk sReg sFst sLst dPol dPtr dCnt dIdl dKnw jCnt jFin jBeg jWs jMis jSrv jLft jSub jWai jNxt cnd hcur srv _ _ h) (cwV 1 C.2.2.2.2 gX4_knownLength_X4_requireServer rfl rfl rfl (by decide +kernel) ⟨Nat.le_of_ble_eq_true rfl, Nat.le_of_ble_eq_true rfl⟩) (fun H hP => va_recv hE.1 (k_one (xf_g FX H hP).1) rfl (q0 := 0) rfl) rfl rfl (Nat.le_of_ble_eq_true rfl) dX4_knownLength_7 ⟨Nat.le_of_ble_eq_true rfl, Nat.le_of_ble_eq_true rfl⟩ htab hlk (Nat.le_of_ble_eq_true rfl) (Nat.le_of_ble_eq_true rfl) (fun _ _ z => z) (fun _ => ?_)
  refine k_and (fun h => ?_)
  refine k_aload_n C dX4_knownLength_10 0 rfl ?_
  refine xg_state C (xf_g FX) hE.1 hi4 ea lk0 dX4_knownLength_11 ?_
  refine g_St_dispatchers C (foc_g (foc_x FX hcur ea)) hE.1 hi3 lk1 dX4_knownLength_14 ?_
  refine k_iload_n C dX4_knownLength_17 1 rfl ?_
  obtain ⟨q1, h⟩ := h
  refine g_DA C (foc_g (foc_x FX hcur ea)) hE.1 q1 dX4_knownLength_18 ?_
  refine g_Di_known C (foc_g (foc_x FX hcur ea)) hE.1 hi0 (vp_lt q1) lk2 dX4_knownLength_19 ?_
  refine k_iload_n C dX4_knownLength_22 2 rfl ?_
  obtain ⟨q2, h⟩ := h
  refine g_dKnw C (foc_g (foc_x FX hcur ea)) hE.1 (vp_lt q1) q2 dX4_knownLength_23 ?_
  exact kx_ret (Nat.le_of_ble_eq_true rfl) (Nat.le_of_ble_eq_true rfl) (k_iret C hr hlk dX4_knownLength_24 (fun H hP => ⟨h, hP⟩))
noncomputable def wp_X4_expectedLength (dc : Int32) (cn : Int32) (sLen : Nat → Int32) (dPol : Nat → Int32) (dPtr : Nat → Int32) (dCnt : Nat → Int32) (dIdl : Nat → Nat → Int32) (dKnw : Nat → Nat → Int32) (cnd : Nat → Int32) (dsp : Int32) (part : Int32) (k : Int32 → Prop) (kx : String → Prop) : Prop := wp_X4_requireDispatcher dc dsp (wp_X4_requireRange part 0 1 (wp_X4_requireServerUp cn (wp_X3_sumOverOutcomes cn sLen dPol dPtr dCnt dIdl dKnw cnd dsp (fun r1 => wp_X3_countOutcomes cn dPol dPtr dCnt dIdl dKnw cnd dsp (fun r2 => (part = 0 → (wp_X4_commonDivisor r1 r2 (fun r6 => (¬ r6 = 0) ∧ (k (r1 / r6))))) ∧ (¬ part = 0 → (wp_X4_commonDivisor r1 r2 (fun r4 => (¬ r4 = 0) ∧ (k (r2 / r4)))))))) kx) kx) kx
set_option maxRecDepth 100000 in
set_option maxHeartbeats 4000000 in
theorem c_X4_expectedLength (l : Launch) (hlt : l.stackTraces = false) {E : EV} {b : Nat} {P : XW} {A : Nat → Prop} (FX : FocX E b P) (hA : ∀ q, inX b q → A q) (cur : Nat) (sav : Nat → Nat) (cnt : Int32) (ST : Nat → TT) (now : Int32) (rnd : Int64) (jm : Int32) (rp : Int32) (sc : Int32) (dc : Int32) (cn : Int32) (sUp : Nat → Int32) (sLen : Nat → Int32) (sWrk : Nat → Int32) (sReg : Nat → Int32) (sFst : Nat → Int32) (sLst : Nat → Int32) (dPol : Nat → Int32) (dPtr : Nat → Int32) (dCnt : Nat → Int32) (dIdl : Nat → Nat → Int32) (dKnw : Nat → Nat → Int32) (jCnt : Int32) (jFin : Int32) (jBeg : Int32) (jWs : Int32) (jMis : Int32) (jSrv : Nat → Int32) (jLft : Nat → Int32) (jSub : Nat → Int32) (jWai : Nat → Int32) (jNxt : Nat → Int32) (cnd : Nat → Int32) (hcur : cur < 4) (dsp : Int32) (part : Int32)  (k : Int32 → Prop) (kx : String → Prop) (h : wp_X4_expectedLength dc cn sLen dPol dPtr dCnt dIdl dKnw cnd dsp part k kx) : vx_Met l yX4_expectedLength wsX4_expectedLength { frames := 7, cells := 3, slots := 18, locals := 112 } (va_Pc [.ref b, .int dsp, .int part] (fun U => XF P cur sav cnt ST now rnd jm rp sc dc cn sUp sLen sWrk sReg sFst sLst dPol dPtr dCnt dIdl dKnw jCnt jFin jBeg jWs jMis jSrv jLft jSub jWai jNxt cnd U.heap ∧ XT E A U)) (kQi (fun r H => k r ∧ XF P cur sav cnt ST now rnd jm rp sc dc cn sUp sLen sWrk sReg sFst sLst dPol dPtr dCnt dIdl dKnw jCnt jFin jBeg jWs jMis jSrv jLft jSub jWai jNxt cnd H) A) (kXC (fun X9 H => kx X9 ∧ XF P cur sav cnt ST now rnd jm rp sc dc cn sUp sLen sWrk sReg sFst sLst dPol dPtr dCnt dIdl dKnw jCnt jFin jBeg jWs jMis jSrv jLft jSub jWai jNxt cnd H) A) 3 18 A := by
  refine kx_body (cc := cX4_expectedLength) (own := RX4) (maxL := 6) (ret := (some .int)) (lv0 := [(0, .ref b), (1, .int dsp), (2, .int part)]) (by decide) rfl rfl (Nat.le_of_ble_eq_true rfl) rfl (fun p e s m below meth c C hr hlk htab hP hX => ?_)
  have hE := hX.1
  obtain ⟨a, ea⟩ : ∃ z, z = sa b cur := ⟨_, rfl⟩
  have hAs := in_x hA hcur ea
  have hi4 : ∀ w ∈ u_ws RX4 TX4 3, w ∈ wsX4_expectedLength := by decide +kernel
  have lk0 := C.2.2.2.2 (.fieldLink RX4 10 "IdleDispatcher" "state" "LIdleDispatcher$State;") (by decide +kernel)
  refine k_aload_n C dX4_expectedLength_0 0 rfl ?_
  refine k_iload_n C dX4_expectedLength_1 1 rfl ?_
  refine kx_callVv (st := []) C hX (c_X4_requireDispatcher l hlt FX hA cur sav cnt ST now rnd jm rp sc dc cn sUp sLen sWrk sReg sFst sLst dPol dPtr dCnt dIdl dKnw jCnt jFin jBeg jWs jMis jSrv jLft jSub jWai jNxt cnd hcur dsp _ _ h) (cwV 1 C.2.2.2.2 gX4_expectedLength_X4_requireDispatcher rfl rfl rfl (by decide +kernel) ⟨Nat.le_of_ble_eq_true rfl, Nat.le_of_ble_eq_true rfl⟩) (fun H hP => va_recv hE.1 (k_one (xf_g FX H hP).1) rfl (q0 := 0) rfl) rfl rfl (Nat.le_of_ble_eq_true rfl) dX4_expectedLength_2 ⟨Nat.le_of_ble_eq_true rfl, Nat.le_of_ble_eq_true rfl⟩ htab hlk (Nat.le_of_ble_eq_true rfl) (Nat.le_of_ble_eq_true rfl) (fun _ _ z => z) (fun _ => ?_)
  refine k_and (fun h => ?_)
  refine k_iload_n C dX4_expectedLength_5 2 rfl ?_
  refine k_iconst (v := 0) C dX4_expectedLength_6 (by decide) ?_
  refine k_iconst (v := 1) C dX4_expectedLength_7 (by decide) ?_
  refine kx_callSv (st := []) C hX (c_X4_requireRange l hlt (P := XF P cur sav cnt ST now rnd jm rp sc dc cn sUp sLen sWrk sReg sFst sLst dPol dPtr dCnt dIdl dKnw jCnt jFin jBeg jWs jMis jSrv jLft jSub jWai jNxt cnd) (A := A) (E := E) (fun _ _ hP hz hk => x_grow FX hP hz hk) part 0 1 _ _ h) (va_cwS 3 C.2.2.2.2 gX4_expectedLength_X4_requireRange rfl rfl rfl (by decide +kernel) ⟨Nat.le_of_ble_eq_true rfl, Nat.le_of_ble_eq_true rfl⟩) rfl rfl (Nat.le_of_ble_eq_true rfl) dX4_expectedLength_8 ⟨Nat.le_of_ble_eq_true rfl, Nat.le_of_ble_eq_true rfl⟩ htab hlk (Nat.le_of_ble_eq_true rfl) (Nat.le_of_ble_eq_true rfl) (fun _ _ z => z) (fun _ => ?_)
  refine k_and (fun h => ?_)
  refine k_aload_n C dX4_expectedLength_11 0 rfl ?_
  refine kx_callVv (st := []) C hX (c_X4_requireServerUp l hlt FX hA cur sav cnt ST now rnd jm rp sc dc cn sUp sLen sWrk sReg sFst sLst dPol dPtr dCnt dIdl dKnw jCnt jFin jBeg jWs jMis jSrv jLft jSub jWai jNxt cnd hcur  _ _ h) (cwV 0 C.2.2.2.2 gX4_expectedLength_X4_requireServerUp rfl rfl rfl (by decide +kernel) ⟨Nat.le_of_ble_eq_true rfl, Nat.le_of_ble_eq_true rfl⟩) (fun H hP => va_recv hE.1 (k_one (xf_g FX H hP).1) rfl (q0 := 0) rfl) rfl rfl (Nat.le_of_ble_eq_true rfl) dX4_expectedLength_12 ⟨Nat.le_of_ble_eq_true rfl, Nat.le_of_ble_eq_true rfl⟩ htab hlk (Nat.le_of_ble_eq_true rfl) (Nat.le_of_ble_eq_true rfl) (fun _ _ z => z) (fun _ => ?_)
  refine k_and (fun h => ?_)
  refine k_aload_n C dX4_expectedLength_15 0 rfl ?_
  refine xg_state C (xf_g FX) hE.1 hi4 ea lk0 dX4_expectedLength_16 ?_
  refine k_iload_n C dX4_expectedLength_19 1 rfl ?_
  refine k_callVi (st := []) C hE (c_X3_sumOverOutcomes l (foc_x FX hcur ea) hAs now rnd jm rp sc dc cn sUp sLen sWrk sReg sFst sLst dPol dPtr dCnt dIdl dKnw jCnt jFin jBeg jWs jMis jSrv jLft jSub jWai jNxt cnd dsp  _ h) (cwV 1 C.2.2.2.2 gX4_expectedLength_X3_sumOverOutcomes rfl rfl rfl (by decide +kernel) ⟨Nat.le_of_ble_eq_true rfl, Nat.le_of_ble_eq_true rfl⟩) (fun H hP => va_recv hE.1 (k_one (st_St ((foc_g (foc_x FX hcur ea)) H hP))) rfl (q0 := 0) rfl) rfl rfl (Nat.le_of_ble_eq_true rfl) dX4_expectedLength_20 ⟨Nat.le_of_ble_eq_true rfl, Nat.le_of_ble_eq_true rfl⟩ (fun r1 => ?_)
  refine k_and (fun h => ?_)
  refine k_istore_n (lv' := [(3, .int r1), (0, .ref b), (1, .int dsp), (2, .int part)]) C dX4_expectedLength_23 rfl (by decide) rfl ?_
  refine k_aload_n C dX4_expectedLength_24 1 rfl ?_
  refine xg_state C (xf_g FX) hE.1 hi4 ea lk0 dX4_expectedLength_25 ?_
  refine k_iload_n C dX4_expectedLength_28 2 rfl ?_
  refine k_callVi (st := []) C hE (c_X3_countOutcomes l (foc_x FX hcur ea) hAs now rnd jm rp sc dc cn sUp sLen sWrk sReg sFst sLst dPol dPtr dCnt dIdl dKnw jCnt jFin jBeg jWs jMis jSrv jLft jSub jWai jNxt cnd dsp  _ h) (cwV 1 C.2.2.2.2 gX4_expectedLength_X3_countOutcomes rfl rfl rfl (by decide +kernel) ⟨Nat.le_of_ble_eq_true rfl, Nat.le_of_ble_eq_true rfl⟩) (fun H hP => va_recv hE.1 (k_one (st_St ((foc_g (foc_x FX hcur ea)) H hP))) rfl (q0 := 0) rfl) rfl rfl (Nat.le_of_ble_eq_true rfl) dX4_expectedLength_29 ⟨Nat.le_of_ble_eq_true rfl, Nat.le_of_ble_eq_true rfl⟩ (fun r2 => ?_)
  refine k_and (fun h => ?_)
  refine k_istore (lv' := [(4, .int r2), (3, .int r1), (0, .ref b), (1, .int dsp), (2, .int part)]) C dX4_expectedLength_32 (by decide) rfl ?_
  refine k_iload_n C dX4_expectedLength_34 4 rfl ?_
  refine k_if_ne (tgt := 42) C dX4_expectedLength_35 (by decide) (fun c3 => ?_) (fun c3 => ?_)
  · replace h := h.2 c3
    refine k_iload C dX4_expectedLength_42 0 rfl ?_
    refine k_istore (lv' := [(5, .int r2), (4, .int r2), (3, .int r1), (0, .ref b), (1, .int dsp), (2, .int part)]) C dX4_expectedLength_44 (by decide) rfl ?_
    refine k_iload C dX4_expectedLength_46 0 rfl ?_
    refine k_iload_n C dX4_expectedLength_48 2 rfl ?_
    refine k_iload C dX4_expectedLength_49 1 rfl ?_
    refine k_callSi (st := [.int r2]) C hE (c_X4_commonDivisor l (P := XF P cur sav cnt ST now rnd jm rp sc dc cn sUp sLen sWrk sReg sFst sLst dPol dPtr dCnt dIdl dKnw jCnt jFin jBeg jWs jMis jSrv jLft jSub jWai jNxt cnd) (A := A) (E := E) r1 r2 _ h) (va_cwS 2 C.2.2.2.2 gX4_expectedLength_X4_commonDivisor rfl rfl rfl (by decide +kernel) ⟨Nat.le_of_ble_eq_true rfl, Nat.le_of_ble_eq_true rfl⟩) rfl rfl (Nat.le_of_ble_eq_true rfl) dX4_expectedLength_51 ⟨Nat.le_of_ble_eq_true rfl, Nat.le_of_ble_eq_true rfl⟩ (fun r4 => ?_)
    refine k_and (fun h => ?_)
    obtain ⟨q5, h⟩ := h
    refine k_idiv C dX4_expectedLength_54 q5 ?_
    exact kx_ret (Nat.le_of_ble_eq_true rfl) (Nat.le_of_ble_eq_true rfl) (k_iret C hr hlk dX4_expectedLength_55 (fun H hP => ⟨h, hP⟩))
  · replace h := h.1 c3
    refine k_iload_n C dX4_expectedLength_38 1 rfl ?_
    refine k_goto (tgt := 44) C dX4_expectedLength_39 (by decide) ?_
    refine k_istore (lv' := [(5, .int r1), (4, .int r2), (3, .int r1), (0, .ref b), (1, .int dsp), (2, .int part)]) C dX4_expectedLength_44 (by decide) rfl ?_
    refine k_iload C dX4_expectedLength_46 0 rfl ?_
    refine k_iload_n C dX4_expectedLength_48 2 rfl ?_
    refine k_iload C dX4_expectedLength_49 1 rfl ?_
    refine k_callSi (st := [.int r1]) C hE (c_X4_commonDivisor l (P := XF P cur sav cnt ST now rnd jm rp sc dc cn sUp sLen sWrk sReg sFst sLst dPol dPtr dCnt dIdl dKnw jCnt jFin jBeg jWs jMis jSrv jLft jSub jWai jNxt cnd) (A := A) (E := E) r1 r2 _ h) (va_cwS 2 C.2.2.2.2 gX4_expectedLength_X4_commonDivisor rfl rfl rfl (by decide +kernel) ⟨Nat.le_of_ble_eq_true rfl, Nat.le_of_ble_eq_true rfl⟩) rfl rfl (Nat.le_of_ble_eq_true rfl) dX4_expectedLength_51 ⟨Nat.le_of_ble_eq_true rfl, Nat.le_of_ble_eq_true rfl⟩ (fun r6 => ?_)
    refine k_and (fun h => ?_)
    obtain ⟨q7, h⟩ := h
    refine k_idiv C dX4_expectedLength_54 q7 ?_
    exact kx_ret (Nat.le_of_ble_eq_true rfl) (Nat.le_of_ble_eq_true rfl) (k_iret C hr hlk dX4_expectedLength_55 (fun H hP => ⟨h, hP⟩))
noncomputable def wp_X4_submitted (jCnt : Int32) (k : Int32 → Prop) : Prop := k jCnt
set_option maxRecDepth 100000 in
set_option maxHeartbeats 4000000 in
theorem c_X4_submitted (l : Launch) {E : EV} {b : Nat} {P : XW} {A : Nat → Prop} (FX : FocX E b P) (hA : ∀ q, inX b q → A q) (cur : Nat) (sav : Nat → Nat) (cnt : Int32) (ST : Nat → TT) (now : Int32) (rnd : Int64) (jm : Int32) (rp : Int32) (sc : Int32) (dc : Int32) (cn : Int32) (sUp : Nat → Int32) (sLen : Nat → Int32) (sWrk : Nat → Int32) (sReg : Nat → Int32) (sFst : Nat → Int32) (sLst : Nat → Int32) (dPol : Nat → Int32) (dPtr : Nat → Int32) (dCnt : Nat → Int32) (dIdl : Nat → Nat → Int32) (dKnw : Nat → Nat → Int32) (jCnt : Int32) (jFin : Int32) (jBeg : Int32) (jWs : Int32) (jMis : Int32) (jSrv : Nat → Int32) (jLft : Nat → Int32) (jSub : Nat → Int32) (jWai : Nat → Int32) (jNxt : Nat → Int32) (cnd : Nat → Int32) (hcur : cur < 4)   (k : Int32 → Prop) (h : wp_X4_submitted jCnt  k) : Met l yX4_submitted wsX4_submitted { frames := 0, cells := 0, slots := 0, locals := 0 } (va_Pc [.ref b] (fun U => XF P cur sav cnt ST now rnd jm rp sc dc cn sUp sLen sWrk sReg sFst sLst dPol dPtr dCnt dIdl dKnw jCnt jFin jBeg jWs jMis jSrv jLft jSub jWai jNxt cnd U.heap ∧ XE E U)) (kQi (fun r H => k r ∧ XF P cur sav cnt ST now rnd jm rp sc dc cn sUp sLen sWrk sReg sFst sLst dPol dPtr dCnt dIdl dKnw jCnt jFin jBeg jWs jMis jSrv jLft jSub jWai jNxt cnd H) A) 0 0 A := by
  refine k_body (cc := cX4_submitted) (own := RX4) (maxL := 1) (ret := (some .int)) (lv0 := [(0, .ref b)]) (by decide) rfl rfl (Nat.le_of_ble_eq_true rfl) rfl (fun p e s m below meth c C hr hlk hP hE => ?_)
  obtain ⟨a, ea⟩ : ∃ z, z = sa b cur := ⟨_, rfl⟩
  have hAs := in_x hA hcur ea
  have hi4 : ∀ w ∈ u_ws RX4 TX4 3, w ∈ wsX4_submitted := by decide +kernel
  have hi3 : ∀ w ∈ u_ws RX3 TX3 11, w ∈ wsX4_submitted := by decide +kernel
  have hi1 : ∀ w ∈ u_ws RX1 TX1 10, w ∈ wsX4_submitted := by decide +kernel
  have lk0 := C.2.2.2.2 (.fieldLink RX4 10 "IdleDispatcher" "state" "LIdleDispatcher$State;") (by decide +kernel)
  have lk1 := C.2.2.2.2 (.fieldLink RX4 88 "IdleDispatcher$State" "jobs" "LIdleDispatcher$Jobs;") (by decide +kernel)
  have lk2 := C.2.2.2.2 (.fieldLink RX4 92 "IdleDispatcher$Jobs" "count" "I") (by decide +kernel)
  refine k_aload_n C dX4_submitted_0 0 rfl ?_
  refine xg_state C (xf_g FX) hE.1 hi4 ea lk0 dX4_submitted_1 ?_
  refine g_St_jobs C (foc_g (foc_x FX hcur ea)) hE.1 hi3 lk1 dX4_submitted_4 ?_
  refine g_jCnt C (foc_g (foc_x FX hcur ea)) hE.1 hi1 lk2 dX4_submitted_7 ?_
  exact k_iret C hr hlk dX4_submitted_10 (fun H hP => ⟨h, hP⟩)
noncomputable def wp_X4_finished (jFin : Int32) (k : Int32 → Prop) : Prop := k jFin
set_option maxRecDepth 100000 in
set_option maxHeartbeats 4000000 in
theorem c_X4_finished (l : Launch) {E : EV} {b : Nat} {P : XW} {A : Nat → Prop} (FX : FocX E b P) (hA : ∀ q, inX b q → A q) (cur : Nat) (sav : Nat → Nat) (cnt : Int32) (ST : Nat → TT) (now : Int32) (rnd : Int64) (jm : Int32) (rp : Int32) (sc : Int32) (dc : Int32) (cn : Int32) (sUp : Nat → Int32) (sLen : Nat → Int32) (sWrk : Nat → Int32) (sReg : Nat → Int32) (sFst : Nat → Int32) (sLst : Nat → Int32) (dPol : Nat → Int32) (dPtr : Nat → Int32) (dCnt : Nat → Int32) (dIdl : Nat → Nat → Int32) (dKnw : Nat → Nat → Int32) (jCnt : Int32) (jFin : Int32) (jBeg : Int32) (jWs : Int32) (jMis : Int32) (jSrv : Nat → Int32) (jLft : Nat → Int32) (jSub : Nat → Int32) (jWai : Nat → Int32) (jNxt : Nat → Int32) (cnd : Nat → Int32) (hcur : cur < 4)   (k : Int32 → Prop) (h : wp_X4_finished jFin  k) : Met l yX4_finished wsX4_finished { frames := 0, cells := 0, slots := 0, locals := 0 } (va_Pc [.ref b] (fun U => XF P cur sav cnt ST now rnd jm rp sc dc cn sUp sLen sWrk sReg sFst sLst dPol dPtr dCnt dIdl dKnw jCnt jFin jBeg jWs jMis jSrv jLft jSub jWai jNxt cnd U.heap ∧ XE E U)) (kQi (fun r H => k r ∧ XF P cur sav cnt ST now rnd jm rp sc dc cn sUp sLen sWrk sReg sFst sLst dPol dPtr dCnt dIdl dKnw jCnt jFin jBeg jWs jMis jSrv jLft jSub jWai jNxt cnd H) A) 0 0 A := by
  refine k_body (cc := cX4_finished) (own := RX4) (maxL := 1) (ret := (some .int)) (lv0 := [(0, .ref b)]) (by decide) rfl rfl (Nat.le_of_ble_eq_true rfl) rfl (fun p e s m below meth c C hr hlk hP hE => ?_)
  obtain ⟨a, ea⟩ : ∃ z, z = sa b cur := ⟨_, rfl⟩
  have hAs := in_x hA hcur ea
  have hi4 : ∀ w ∈ u_ws RX4 TX4 3, w ∈ wsX4_finished := by decide +kernel
  have hi3 : ∀ w ∈ u_ws RX3 TX3 11, w ∈ wsX4_finished := by decide +kernel
  have hi1 : ∀ w ∈ u_ws RX1 TX1 10, w ∈ wsX4_finished := by decide +kernel
  have lk0 := C.2.2.2.2 (.fieldLink RX4 10 "IdleDispatcher" "state" "LIdleDispatcher$State;") (by decide +kernel)
  have lk1 := C.2.2.2.2 (.fieldLink RX4 88 "IdleDispatcher$State" "jobs" "LIdleDispatcher$Jobs;") (by decide +kernel)
  have lk2 := C.2.2.2.2 (.fieldLink RX4 103 "IdleDispatcher$Jobs" "finished" "I") (by decide +kernel)
  refine k_aload_n C dX4_finished_0 0 rfl ?_
  refine xg_state C (xf_g FX) hE.1 hi4 ea lk0 dX4_finished_1 ?_
  refine g_St_jobs C (foc_g (foc_x FX hcur ea)) hE.1 hi3 lk1 dX4_finished_4 ?_
  refine g_jFin C (foc_g (foc_x FX hcur ea)) hE.1 hi1 lk2 dX4_finished_7 ?_
  exact k_iret C hr hlk dX4_finished_10 (fun H hP => ⟨h, hP⟩)
noncomputable def wp_X4_serverOf (jCnt : Int32) (jSrv : Nat → Int32) (job : Int32) (k : Int32 → Prop) (kx : String → Prop) : Prop := wp_X4_requireIndex job jCnt ((vp_in job 200) ∧ (k (jSrv job.toNatClampNeg))) kx
set_option maxRecDepth 100000 in
set_option maxHeartbeats 4000000 in
theorem c_X4_serverOf (l : Launch) (hlt : l.stackTraces = false) {E : EV} {b : Nat} {P : XW} {A : Nat → Prop} (FX : FocX E b P) (hA : ∀ q, inX b q → A q) (cur : Nat) (sav : Nat → Nat) (cnt : Int32) (ST : Nat → TT) (now : Int32) (rnd : Int64) (jm : Int32) (rp : Int32) (sc : Int32) (dc : Int32) (cn : Int32) (sUp : Nat → Int32) (sLen : Nat → Int32) (sWrk : Nat → Int32) (sReg : Nat → Int32) (sFst : Nat → Int32) (sLst : Nat → Int32) (dPol : Nat → Int32) (dPtr : Nat → Int32) (dCnt : Nat → Int32) (dIdl : Nat → Nat → Int32) (dKnw : Nat → Nat → Int32) (jCnt : Int32) (jFin : Int32) (jBeg : Int32) (jWs : Int32) (jMis : Int32) (jSrv : Nat → Int32) (jLft : Nat → Int32) (jSub : Nat → Int32) (jWai : Nat → Int32) (jNxt : Nat → Int32) (cnd : Nat → Int32) (hcur : cur < 4) (job : Int32)  (k : Int32 → Prop) (kx : String → Prop) (h : wp_X4_serverOf jCnt jSrv job k kx) : vx_Met l yX4_serverOf wsX4_serverOf { frames := 7, cells := 1, slots := 6, locals := 111 } (va_Pc [.ref b, .int job] (fun U => XF P cur sav cnt ST now rnd jm rp sc dc cn sUp sLen sWrk sReg sFst sLst dPol dPtr dCnt dIdl dKnw jCnt jFin jBeg jWs jMis jSrv jLft jSub jWai jNxt cnd U.heap ∧ XT E A U)) (kQi (fun r H => k r ∧ XF P cur sav cnt ST now rnd jm rp sc dc cn sUp sLen sWrk sReg sFst sLst dPol dPtr dCnt dIdl dKnw jCnt jFin jBeg jWs jMis jSrv jLft jSub jWai jNxt cnd H) A) (kXC (fun X9 H => kx X9 ∧ XF P cur sav cnt ST now rnd jm rp sc dc cn sUp sLen sWrk sReg sFst sLst dPol dPtr dCnt dIdl dKnw jCnt jFin jBeg jWs jMis jSrv jLft jSub jWai jNxt cnd H) A) 1 6 A := by
  refine kx_body (cc := cX4_serverOf) (own := RX4) (maxL := 2) (ret := (some .int)) (lv0 := [(0, .ref b), (1, .int job)]) (by decide) rfl rfl (Nat.le_of_ble_eq_true rfl) rfl (fun p e s m below meth c C hr hlk htab hP hX => ?_)
  have hE := hX.1
  obtain ⟨a, ea⟩ : ∃ z, z = sa b cur := ⟨_, rfl⟩
  have hAs := in_x hA hcur ea
  have hi4 : ∀ w ∈ u_ws RX4 TX4 3, w ∈ wsX4_serverOf := by decide +kernel
  have hi3 : ∀ w ∈ u_ws RX3 TX3 11, w ∈ wsX4_serverOf := by decide +kernel
  have hi1 : ∀ w ∈ u_ws RX1 TX1 10, w ∈ wsX4_serverOf := by decide +kernel
  have lk0 := C.2.2.2.2 (.fieldLink RX4 10 "IdleDispatcher" "state" "LIdleDispatcher$State;") (by decide +kernel)
  have lk1 := C.2.2.2.2 (.fieldLink RX4 88 "IdleDispatcher$State" "jobs" "LIdleDispatcher$Jobs;") (by decide +kernel)
  have lk2 := C.2.2.2.2 (.fieldLink RX4 92 "IdleDispatcher$Jobs" "count" "I") (by decide +kernel)
  have lk3 := C.2.2.2.2 (.fieldLink RX4 147 "IdleDispatcher$Jobs" "server" "[I") (by decide +kernel)
  refine k_iload_n C dX4_serverOf_0 1 rfl ?_
  refine k_aload_n C dX4_serverOf_1 0 rfl ?_
  refine xg_state C (xf_g FX) hE.1 hi4 ea lk0 dX4_serverOf_2 ?_
  refine g_St_jobs C (foc_g (foc_x FX hcur ea)) hE.1 hi3 lk1 dX4_serverOf_5 ?_
  refine g_jCnt C (foc_g (foc_x FX hcur ea)) hE.1 hi1 lk2 dX4_serverOf_8 ?_
  refine kx_callSv (st := []) C hX (c_X4_requireIndex l hlt (P := XF P cur sav cnt ST now rnd jm rp sc dc cn sUp sLen sWrk sReg sFst sLst dPol dPtr dCnt dIdl dKnw jCnt jFin jBeg jWs jMis jSrv jLft jSub jWai jNxt cnd) (A := A) (E := E) (fun _ _ hP hz hk => x_grow FX hP hz hk) job jCnt _ _ h) (va_cwS 2 C.2.2.2.2 gX4_serverOf_X4_requireIndex rfl rfl rfl (by decide +kernel) ⟨Nat.le_of_ble_eq_true rfl, Nat.le_of_ble_eq_true rfl⟩) rfl rfl (Nat.le_of_ble_eq_true rfl) dX4_serverOf_11 ⟨Nat.le_of_ble_eq_true rfl, Nat.le_of_ble_eq_true rfl⟩ htab hlk (Nat.le_of_ble_eq_true rfl) (Nat.le_of_ble_eq_true rfl) (fun _ _ z => z) (fun _ => ?_)
  refine k_and (fun h => ?_)
  refine k_aload_n C dX4_serverOf_14 0 rfl ?_
  refine xg_state C (xf_g FX) hE.1 hi4 ea lk0 dX4_serverOf_15 ?_
  refine g_St_jobs C (foc_g (foc_x FX hcur ea)) hE.1 hi3 lk1 dX4_serverOf_18 ?_
  refine g_Jo_server C (foc_g (foc_x FX hcur ea)) hE.1 hi1 lk3 dX4_serverOf_21 ?_
  refine k_iload_n C dX4_serverOf_24 1 rfl ?_
  obtain ⟨q1, h⟩ := h
  refine g_jSrv C (foc_g (foc_x FX hcur ea)) hE.1 q1 dX4_serverOf_25 ?_
  exact kx_ret (Nat.le_of_ble_eq_true rfl) (Nat.le_of_ble_eq_true rfl) (k_iret C hr hlk dX4_serverOf_26 (fun H hP => ⟨h, hP⟩))
noncomputable def wp_X4_waitOf (jCnt : Int32) (jWai : Nat → Int32) (job : Int32) (k : Int32 → Prop) (kx : String → Prop) : Prop := wp_X4_requireIndex job jCnt ((vp_in job 200) ∧ (k (jWai job.toNatClampNeg))) kx
set_option maxRecDepth 100000 in
set_option maxHeartbeats 4000000 in
theorem c_X4_waitOf (l : Launch) (hlt : l.stackTraces = false) {E : EV} {b : Nat} {P : XW} {A : Nat → Prop} (FX : FocX E b P) (hA : ∀ q, inX b q → A q) (cur : Nat) (sav : Nat → Nat) (cnt : Int32) (ST : Nat → TT) (now : Int32) (rnd : Int64) (jm : Int32) (rp : Int32) (sc : Int32) (dc : Int32) (cn : Int32) (sUp : Nat → Int32) (sLen : Nat → Int32) (sWrk : Nat → Int32) (sReg : Nat → Int32) (sFst : Nat → Int32) (sLst : Nat → Int32) (dPol : Nat → Int32) (dPtr : Nat → Int32) (dCnt : Nat → Int32) (dIdl : Nat → Nat → Int32) (dKnw : Nat → Nat → Int32) (jCnt : Int32) (jFin : Int32) (jBeg : Int32) (jWs : Int32) (jMis : Int32) (jSrv : Nat → Int32) (jLft : Nat → Int32) (jSub : Nat → Int32) (jWai : Nat → Int32) (jNxt : Nat → Int32) (cnd : Nat → Int32) (hcur : cur < 4) (job : Int32)  (k : Int32 → Prop) (kx : String → Prop) (h : wp_X4_waitOf jCnt jWai job k kx) : vx_Met l yX4_waitOf wsX4_waitOf { frames := 7, cells := 1, slots := 6, locals := 111 } (va_Pc [.ref b, .int job] (fun U => XF P cur sav cnt ST now rnd jm rp sc dc cn sUp sLen sWrk sReg sFst sLst dPol dPtr dCnt dIdl dKnw jCnt jFin jBeg jWs jMis jSrv jLft jSub jWai jNxt cnd U.heap ∧ XT E A U)) (kQi (fun r H => k r ∧ XF P cur sav cnt ST now rnd jm rp sc dc cn sUp sLen sWrk sReg sFst sLst dPol dPtr dCnt dIdl dKnw jCnt jFin jBeg jWs jMis jSrv jLft jSub jWai jNxt cnd H) A) (kXC (fun X9 H => kx X9 ∧ XF P cur sav cnt ST now rnd jm rp sc dc cn sUp sLen sWrk sReg sFst sLst dPol dPtr dCnt dIdl dKnw jCnt jFin jBeg jWs jMis jSrv jLft jSub jWai jNxt cnd H) A) 1 6 A := by
  refine kx_body (cc := cX4_waitOf) (own := RX4) (maxL := 2) (ret := (some .int)) (lv0 := [(0, .ref b), (1, .int job)]) (by decide) rfl rfl (Nat.le_of_ble_eq_true rfl) rfl (fun p e s m below meth c C hr hlk htab hP hX => ?_)
  have hE := hX.1
  obtain ⟨a, ea⟩ : ∃ z, z = sa b cur := ⟨_, rfl⟩
  have hAs := in_x hA hcur ea
  have hi4 : ∀ w ∈ u_ws RX4 TX4 3, w ∈ wsX4_waitOf := by decide +kernel
  have hi3 : ∀ w ∈ u_ws RX3 TX3 11, w ∈ wsX4_waitOf := by decide +kernel
  have hi1 : ∀ w ∈ u_ws RX1 TX1 10, w ∈ wsX4_waitOf := by decide +kernel
  have lk0 := C.2.2.2.2 (.fieldLink RX4 10 "IdleDispatcher" "state" "LIdleDispatcher$State;") (by decide +kernel)
  have lk1 := C.2.2.2.2 (.fieldLink RX4 88 "IdleDispatcher$State" "jobs" "LIdleDispatcher$Jobs;") (by decide +kernel)
  have lk2 := C.2.2.2.2 (.fieldLink RX4 92 "IdleDispatcher$Jobs" "count" "I") (by decide +kernel)
  have lk3 := C.2.2.2.2 (.fieldLink RX4 150 "IdleDispatcher$Jobs" "wait" "[I") (by decide +kernel)
  refine k_iload_n C dX4_waitOf_0 1 rfl ?_
  refine k_aload_n C dX4_waitOf_1 0 rfl ?_
  refine xg_state C (xf_g FX) hE.1 hi4 ea lk0 dX4_waitOf_2 ?_
  refine g_St_jobs C (foc_g (foc_x FX hcur ea)) hE.1 hi3 lk1 dX4_waitOf_5 ?_
  refine g_jCnt C (foc_g (foc_x FX hcur ea)) hE.1 hi1 lk2 dX4_waitOf_8 ?_
  refine kx_callSv (st := []) C hX (c_X4_requireIndex l hlt (P := XF P cur sav cnt ST now rnd jm rp sc dc cn sUp sLen sWrk sReg sFst sLst dPol dPtr dCnt dIdl dKnw jCnt jFin jBeg jWs jMis jSrv jLft jSub jWai jNxt cnd) (A := A) (E := E) (fun _ _ hP hz hk => x_grow FX hP hz hk) job jCnt _ _ h) (va_cwS 2 C.2.2.2.2 gX4_waitOf_X4_requireIndex rfl rfl rfl (by decide +kernel) ⟨Nat.le_of_ble_eq_true rfl, Nat.le_of_ble_eq_true rfl⟩) rfl rfl (Nat.le_of_ble_eq_true rfl) dX4_waitOf_11 ⟨Nat.le_of_ble_eq_true rfl, Nat.le_of_ble_eq_true rfl⟩ htab hlk (Nat.le_of_ble_eq_true rfl) (Nat.le_of_ble_eq_true rfl) (fun _ _ z => z) (fun _ => ?_)
  refine k_and (fun h => ?_)
  refine k_aload_n C dX4_waitOf_14 0 rfl ?_
  refine xg_state C (xf_g FX) hE.1 hi4 ea lk0 dX4_waitOf_15 ?_
  refine g_St_jobs C (foc_g (foc_x FX hcur ea)) hE.1 hi3 lk1 dX4_waitOf_18 ?_
  refine g_Jo_wait C (foc_g (foc_x FX hcur ea)) hE.1 hi1 lk3 dX4_waitOf_21 ?_
  refine k_iload_n C dX4_waitOf_24 1 rfl ?_
  obtain ⟨q1, h⟩ := h
  refine g_jWai C (foc_g (foc_x FX hcur ea)) hE.1 q1 dX4_waitOf_25 ?_
  exact kx_ret (Nat.le_of_ble_eq_true rfl) (Nat.le_of_ble_eq_true rfl) (k_iret C hr hlk dX4_waitOf_26 (fun H hP => ⟨h, hP⟩))
noncomputable def wp_X4_meanWait (jBeg : Int32) (jWs : Int32) (k : UInt64 → Prop) : Prop := (0 < jBeg → ((vf_n64 (FP.ddiv (FP.i2d jWs) (FP.i2d jBeg))) ∧ (k (FP.ddiv (FP.i2d jWs) (FP.i2d jBeg))))) ∧ (¬ (0 < jBeg) → (k (FP.dconst0)))
set_option maxRecDepth 100000 in
set_option maxHeartbeats 4000000 in
theorem c_X4_meanWait (l : Launch) {E : EV} {b : Nat} {P : XW} {A : Nat → Prop} (FX : FocX E b P) (hA : ∀ q, inX b q → A q) (cur : Nat) (sav : Nat → Nat) (cnt : Int32) (ST : Nat → TT) (now : Int32) (rnd : Int64) (jm : Int32) (rp : Int32) (sc : Int32) (dc : Int32) (cn : Int32) (sUp : Nat → Int32) (sLen : Nat → Int32) (sWrk : Nat → Int32) (sReg : Nat → Int32) (sFst : Nat → Int32) (sLst : Nat → Int32) (dPol : Nat → Int32) (dPtr : Nat → Int32) (dCnt : Nat → Int32) (dIdl : Nat → Nat → Int32) (dKnw : Nat → Nat → Int32) (jCnt : Int32) (jFin : Int32) (jBeg : Int32) (jWs : Int32) (jMis : Int32) (jSrv : Nat → Int32) (jLft : Nat → Int32) (jSub : Nat → Int32) (jWai : Nat → Int32) (jNxt : Nat → Int32) (cnd : Nat → Int32) (hcur : cur < 4)   (k : UInt64 → Prop) (h : wp_X4_meanWait jBeg jWs  k) : Met l yX4_meanWait wsX4_meanWait { frames := 0, cells := 0, slots := 0, locals := 0 } (va_Pc [.ref b] (fun U => XF P cur sav cnt ST now rnd jm rp sc dc cn sUp sLen sWrk sReg sFst sLst dPol dPtr dCnt dIdl dKnw jCnt jFin jBeg jWs jMis jSrv jLft jSub jWai jNxt cnd U.heap ∧ XE E U)) (kQd (fun r H => k r ∧ XF P cur sav cnt ST now rnd jm rp sc dc cn sUp sLen sWrk sReg sFst sLst dPol dPtr dCnt dIdl dKnw jCnt jFin jBeg jWs jMis jSrv jLft jSub jWai jNxt cnd H) A) 0 0 A := by
  refine k_body (cc := cX4_meanWait) (own := RX4) (maxL := 1) (ret := (some .double)) (lv0 := [(0, .ref b)]) (by decide) rfl rfl (Nat.le_of_ble_eq_true rfl) rfl (fun p e s m below meth c C hr hlk hP hE => ?_)
  obtain ⟨a, ea⟩ : ∃ z, z = sa b cur := ⟨_, rfl⟩
  have hAs := in_x hA hcur ea
  have hi4 : ∀ w ∈ u_ws RX4 TX4 3, w ∈ wsX4_meanWait := by decide +kernel
  have hi3 : ∀ w ∈ u_ws RX3 TX3 11, w ∈ wsX4_meanWait := by decide +kernel
  have hi1 : ∀ w ∈ u_ws RX1 TX1 10, w ∈ wsX4_meanWait := by decide +kernel
  have lk0 := C.2.2.2.2 (.fieldLink RX4 10 "IdleDispatcher" "state" "LIdleDispatcher$State;") (by decide +kernel)
  have lk1 := C.2.2.2.2 (.fieldLink RX4 88 "IdleDispatcher$State" "jobs" "LIdleDispatcher$Jobs;") (by decide +kernel)
  have lk2 := C.2.2.2.2 (.fieldLink RX4 153 "IdleDispatcher$Jobs" "begun" "I") (by decide +kernel)
  have lk3 := C.2.2.2.2 (.fieldLink RX4 156 "IdleDispatcher$Jobs" "waitSum" "I") (by decide +kernel)
  refine k_aload_n C dX4_meanWait_0 0 rfl ?_
  refine xg_state C (xf_g FX) hE.1 hi4 ea lk0 dX4_meanWait_1 ?_
  refine g_St_jobs C (foc_g (foc_x FX hcur ea)) hE.1 hi3 lk1 dX4_meanWait_4 ?_
  refine g_jBeg C (foc_g (foc_x FX hcur ea)) hE.1 hi1 lk2 dX4_meanWait_7 ?_
  refine k_if_gt (tgt := 15) C dX4_meanWait_10 (by decide) (fun c1 => ?_) (fun c1 => ?_)
  · replace h := h.1 c1
    refine k_aload_n C dX4_meanWait_15 0 rfl ?_
    refine xg_state C (xf_g FX) hE.1 hi4 ea lk0 dX4_meanWait_16 ?_
    refine g_St_jobs C (foc_g (foc_x FX hcur ea)) hE.1 hi3 lk1 dX4_meanWait_19 ?_
    refine g_jWs C (foc_g (foc_x FX hcur ea)) hE.1 hi1 lk3 dX4_meanWait_22 ?_
    refine k_i2d C dX4_meanWait_25 ?_
    refine k_aload_n C dX4_meanWait_26 0 rfl ?_
    refine xg_state C (xf_g FX) hE.1 hi4 ea lk0 dX4_meanWait_27 ?_
    refine g_St_jobs C (foc_g (foc_x FX hcur ea)) hE.1 hi3 lk1 dX4_meanWait_30 ?_
    refine g_jBeg C (foc_g (foc_x FX hcur ea)) hE.1 hi1 lk2 dX4_meanWait_33 ?_
    refine k_i2d C dX4_meanWait_36 ?_
    obtain ⟨q2, h⟩ := h
    refine k_ddiv C dX4_meanWait_37 q2 ?_
    exact k_dret C hr hlk dX4_meanWait_38 (fun H hP => ⟨h, hP⟩)
  · replace h := h.2 c1
    refine k_dconst0 C dX4_meanWait_13 ?_
    exact k_dret C hr hlk dX4_meanWait_14 (fun H hP => ⟨h, hP⟩)
noncomputable def wp_X4_missed (jMis : Int32) (k : Int32 → Prop) : Prop := k jMis
set_option maxRecDepth 100000 in
set_option maxHeartbeats 4000000 in
theorem c_X4_missed (l : Launch) {E : EV} {b : Nat} {P : XW} {A : Nat → Prop} (FX : FocX E b P) (hA : ∀ q, inX b q → A q) (cur : Nat) (sav : Nat → Nat) (cnt : Int32) (ST : Nat → TT) (now : Int32) (rnd : Int64) (jm : Int32) (rp : Int32) (sc : Int32) (dc : Int32) (cn : Int32) (sUp : Nat → Int32) (sLen : Nat → Int32) (sWrk : Nat → Int32) (sReg : Nat → Int32) (sFst : Nat → Int32) (sLst : Nat → Int32) (dPol : Nat → Int32) (dPtr : Nat → Int32) (dCnt : Nat → Int32) (dIdl : Nat → Nat → Int32) (dKnw : Nat → Nat → Int32) (jCnt : Int32) (jFin : Int32) (jBeg : Int32) (jWs : Int32) (jMis : Int32) (jSrv : Nat → Int32) (jLft : Nat → Int32) (jSub : Nat → Int32) (jWai : Nat → Int32) (jNxt : Nat → Int32) (cnd : Nat → Int32) (hcur : cur < 4)   (k : Int32 → Prop) (h : wp_X4_missed jMis  k) : Met l yX4_missed wsX4_missed { frames := 0, cells := 0, slots := 0, locals := 0 } (va_Pc [.ref b] (fun U => XF P cur sav cnt ST now rnd jm rp sc dc cn sUp sLen sWrk sReg sFst sLst dPol dPtr dCnt dIdl dKnw jCnt jFin jBeg jWs jMis jSrv jLft jSub jWai jNxt cnd U.heap ∧ XE E U)) (kQi (fun r H => k r ∧ XF P cur sav cnt ST now rnd jm rp sc dc cn sUp sLen sWrk sReg sFst sLst dPol dPtr dCnt dIdl dKnw jCnt jFin jBeg jWs jMis jSrv jLft jSub jWai jNxt cnd H) A) 0 0 A := by
  refine k_body (cc := cX4_missed) (own := RX4) (maxL := 1) (ret := (some .int)) (lv0 := [(0, .ref b)]) (by decide) rfl rfl (Nat.le_of_ble_eq_true rfl) rfl (fun p e s m below meth c C hr hlk hP hE => ?_)
  obtain ⟨a, ea⟩ : ∃ z, z = sa b cur := ⟨_, rfl⟩
  have hAs := in_x hA hcur ea
  have hi4 : ∀ w ∈ u_ws RX4 TX4 3, w ∈ wsX4_missed := by decide +kernel
  have hi3 : ∀ w ∈ u_ws RX3 TX3 11, w ∈ wsX4_missed := by decide +kernel
  have hi1 : ∀ w ∈ u_ws RX1 TX1 10, w ∈ wsX4_missed := by decide +kernel
  have lk0 := C.2.2.2.2 (.fieldLink RX4 10 "IdleDispatcher" "state" "LIdleDispatcher$State;") (by decide +kernel)
  have lk1 := C.2.2.2.2 (.fieldLink RX4 88 "IdleDispatcher$State" "jobs" "LIdleDispatcher$Jobs;") (by decide +kernel)
  have lk2 := C.2.2.2.2 (.fieldLink RX4 159 "IdleDispatcher$Jobs" "missed" "I") (by decide +kernel)
  refine k_aload_n C dX4_missed_0 0 rfl ?_
  refine xg_state C (xf_g FX) hE.1 hi4 ea lk0 dX4_missed_1 ?_
  refine g_St_jobs C (foc_g (foc_x FX hcur ea)) hE.1 hi3 lk1 dX4_missed_4 ?_
  refine g_jMis C (foc_g (foc_x FX hcur ea)) hE.1 hi1 lk2 dX4_missed_7 ?_
  exact k_iret C hr hlk dX4_missed_10 (fun H hP => ⟨h, hP⟩)
noncomputable def wp_X4_now (now : Int32) (k : Int32 → Prop) : Prop := k now
set_option maxRecDepth 100000 in
set_option maxHeartbeats 4000000 in
theorem c_X4_now (l : Launch) {E : EV} {b : Nat} {P : XW} {A : Nat → Prop} (FX : FocX E b P) (hA : ∀ q, inX b q → A q) (cur : Nat) (sav : Nat → Nat) (cnt : Int32) (ST : Nat → TT) (now : Int32) (rnd : Int64) (jm : Int32) (rp : Int32) (sc : Int32) (dc : Int32) (cn : Int32) (sUp : Nat → Int32) (sLen : Nat → Int32) (sWrk : Nat → Int32) (sReg : Nat → Int32) (sFst : Nat → Int32) (sLst : Nat → Int32) (dPol : Nat → Int32) (dPtr : Nat → Int32) (dCnt : Nat → Int32) (dIdl : Nat → Nat → Int32) (dKnw : Nat → Nat → Int32) (jCnt : Int32) (jFin : Int32) (jBeg : Int32) (jWs : Int32) (jMis : Int32) (jSrv : Nat → Int32) (jLft : Nat → Int32) (jSub : Nat → Int32) (jWai : Nat → Int32) (jNxt : Nat → Int32) (cnd : Nat → Int32) (hcur : cur < 4)   (k : Int32 → Prop) (h : wp_X4_now now  k) : Met l yX4_now wsX4_now { frames := 0, cells := 0, slots := 0, locals := 0 } (va_Pc [.ref b] (fun U => XF P cur sav cnt ST now rnd jm rp sc dc cn sUp sLen sWrk sReg sFst sLst dPol dPtr dCnt dIdl dKnw jCnt jFin jBeg jWs jMis jSrv jLft jSub jWai jNxt cnd U.heap ∧ XE E U)) (kQi (fun r H => k r ∧ XF P cur sav cnt ST now rnd jm rp sc dc cn sUp sLen sWrk sReg sFst sLst dPol dPtr dCnt dIdl dKnw jCnt jFin jBeg jWs jMis jSrv jLft jSub jWai jNxt cnd H) A) 0 0 A := by
  refine k_body (cc := cX4_now) (own := RX4) (maxL := 1) (ret := (some .int)) (lv0 := [(0, .ref b)]) (by decide) rfl rfl (Nat.le_of_ble_eq_true rfl) rfl (fun p e s m below meth c C hr hlk hP hE => ?_)
  obtain ⟨a, ea⟩ : ∃ z, z = sa b cur := ⟨_, rfl⟩
  have hAs := in_x hA hcur ea
  have hi4 : ∀ w ∈ u_ws RX4 TX4 3, w ∈ wsX4_now := by decide +kernel
  have hi3 : ∀ w ∈ u_ws RX3 TX3 11, w ∈ wsX4_now := by decide +kernel
  have lk0 := C.2.2.2.2 (.fieldLink RX4 10 "IdleDispatcher" "state" "LIdleDispatcher$State;") (by decide +kernel)
  have lk1 := C.2.2.2.2 (.fieldLink RX4 162 "IdleDispatcher$State" "now" "I") (by decide +kernel)
  refine k_aload_n C dX4_now_0 0 rfl ?_
  refine xg_state C (xf_g FX) hE.1 hi4 ea lk0 dX4_now_1 ?_
  refine g_now C (foc_g (foc_x FX hcur ea)) hE.1 hi3 lk1 dX4_now_4 ?_
  exact k_iret C hr hlk dX4_now_7 (fun H hP => ⟨h, hP⟩)
noncomputable def wp_X4_digest (cnt : Int32) (now : Int32) (rnd : Int64) (jm : Int32) (rp : Int32) (sc : Int32) (dc : Int32) (sUp : Nat → Int32) (sLen : Nat → Int32) (sWrk : Nat → Int32) (sReg : Nat → Int32) (dPol : Nat → Int32) (dPtr : Nat → Int32) (dCnt : Nat → Int32) (dIdl : Nat → Nat → Int32) (dKnw : Nat → Nat → Int32) (jCnt : Int32) (jFin : Int32) (jWs : Int32) (jMis : Int32) (k : Int64 → Prop) : Prop := wp_X3_mixAll now rnd jm rp sc dc sUp sLen sWrk sReg dPol dPtr dCnt dIdl dKnw jCnt jFin jWs jMis (2753 : Int64) (fun r1 => wp_X4_mix r1 (cnt.toInt64) (fun r2 => k r2))
set_option maxRecDepth 100000 in
set_option maxHeartbeats 4000000 in
theorem c_X4_digest (l : Launch) {E : EV} {b : Nat} {P : XW} {A : Nat → Prop} (FX : FocX E b P) (hA : ∀ q, inX b q → A q) (cur : Nat) (sav : Nat → Nat) (cnt : Int32) (ST : Nat → TT) (now : Int32) (rnd : Int64) (jm : Int32) (rp : Int32) (sc : Int32) (dc : Int32) (cn : Int32) (sUp : Nat → Int32) (sLen : Nat → Int32) (sWrk : Nat → Int32) (sReg : Nat → Int32) (sFst : Nat → Int32) (sLst : Nat → Int32) (dPol : Nat → Int32) (dPtr : Nat → Int32) (dCnt : Nat → Int32) (dIdl : Nat → Nat → Int32) (dKnw : Nat → Nat → Int32) (jCnt : Int32) (jFin : Int32) (jBeg : Int32) (jWs : Int32) (jMis : Int32) (jSrv : Nat → Int32) (jLft : Nat → Int32) (jSub : Nat → Int32) (jWai : Nat → Int32) (jNxt : Nat → Int32) (cnd : Nat → Int32) (hcur : cur < 4)   (k : Int64 → Prop) (h : wp_X4_digest cnt now rnd jm rp sc dc sUp sLen sWrk sReg dPol dPtr dCnt dIdl dKnw jCnt jFin jWs jMis  k) : Met l yX4_digest wsX4_digest { frames := 3, cells := 0, slots := 0, locals := 74 } (va_Pc [.ref b] (fun U => XF P cur sav cnt ST now rnd jm rp sc dc cn sUp sLen sWrk sReg sFst sLst dPol dPtr dCnt dIdl dKnw jCnt jFin jBeg jWs jMis jSrv jLft jSub jWai jNxt cnd U.heap ∧ XE E U)) (kQl (fun r H => k r ∧ XF P cur sav cnt ST now rnd jm rp sc dc cn sUp sLen sWrk sReg sFst sLst dPol dPtr dCnt dIdl dKnw jCnt jFin jBeg jWs jMis jSrv jLft jSub jWai jNxt cnd H) A) 0 0 A := by
  refine k_body (cc := cX4_digest) (own := RX4) (maxL := 1) (ret := (some .long)) (lv0 := [(0, .ref b)]) (by decide) rfl rfl (Nat.le_of_ble_eq_true rfl) rfl (fun p e s m below meth c C hr hlk hP hE => ?_)
  obtain ⟨a, ea⟩ : ∃ z, z = sa b cur := ⟨_, rfl⟩
  have hAs := in_x hA hcur ea
  have hi4 : ∀ w ∈ u_ws RX4 TX4 3, w ∈ wsX4_digest := by decide +kernel
  have lk0 := C.2.2.2.2 (.fieldLink RX4 10 "IdleDispatcher" "state" "LIdleDispatcher$State;") (by decide +kernel)
  have lk1 := C.2.2.2.2 (.constantLong RX4 167 (2753)) (by decide +kernel)
  have lk2 := C.2.2.2.2 (.fieldLink RX4 20 "IdleDispatcher" "savedCount" "I") (by decide +kernel)
  refine k_aload_n C dX4_digest_0 0 rfl ?_
  refine xg_state C (xf_g FX) hE.1 hi4 ea lk0 dX4_digest_1 ?_
  refine k_ldc2 C lk1 dX4_digest_4 ?_
  refine k_callVl (st := []) C hE (c_X3_mixAll l (foc_x FX hcur ea) hAs now rnd jm rp sc dc cn sUp sLen sWrk sReg sFst sLst dPol dPtr dCnt dIdl dKnw jCnt jFin jBeg jWs jMis jSrv jLft jSub jWai jNxt cnd (2753 : Int64)  _ h) (cwV 1 C.2.2.2.2 gX4_digest_X3_mixAll rfl rfl rfl (by decide +kernel) ⟨Nat.le_of_ble_eq_true rfl, Nat.le_of_ble_eq_true rfl⟩) (fun H hP => va_recv hE.1 (k_one (st_St ((foc_g (foc_x FX hcur ea)) H hP))) rfl (q0 := 0) rfl) rfl rfl (Nat.le_of_ble_eq_true rfl) dX4_digest_7 ⟨Nat.le_of_ble_eq_true rfl, Nat.le_of_ble_eq_true rfl⟩ (fun r1 => ?_)
  refine k_and (fun h => ?_)
  refine k_aload_n C dX4_digest_10 0 rfl ?_
  refine xg_cnt C (xf_g FX) hE.1 hi4 lk2 dX4_digest_11 ?_
  refine k_i2l C dX4_digest_14 ?_
  refine k_callSl (st := []) C hE (c_X4_mix l (P := XF P cur sav cnt ST now rnd jm rp sc dc cn sUp sLen sWrk sReg sFst sLst dPol dPtr dCnt dIdl dKnw jCnt jFin jBeg jWs jMis jSrv jLft jSub jWai jNxt cnd) (A := A) (E := E) r1 (cnt.toInt64) _ h) (va_cwS 2 C.2.2.2.2 gX4_digest_X4_mix rfl rfl rfl (by decide +kernel) ⟨Nat.le_of_ble_eq_true rfl, Nat.le_of_ble_eq_true rfl⟩) rfl rfl (Nat.le_of_ble_eq_true rfl) dX4_digest_15 ⟨Nat.le_of_ble_eq_true rfl, Nat.le_of_ble_eq_true rfl⟩ (fun r2 => ?_)
  refine k_and (fun h => ?_)
  exact k_lret C hr hlk dX4_digest_18 (fun H hP => ⟨h, hP⟩)
