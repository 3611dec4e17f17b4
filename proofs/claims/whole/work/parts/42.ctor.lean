set_option maxRecDepth 100000 in
set_option maxHeartbeats 4000000 in
theorem c_X4_init (l : Launch) {E : EV} {a : Nat} : Met l yX4_init wsX4_init { frames := 3, cells := 121, slots := 4695, locals := 61 } (va_Pc [.ref a] (fun U => CL E a [.inr (4, [.null, .null, .int 0])] U.heap ∧ XI E U)) (kQv (CL E a (.inr (4, [.ref (a + 1), .ref (a + 31), .int 0]) :: ((stL E (a + 1)) ++ (.inl (E.2 3, 3, .inr (.inr (.inr (.inr (va_up (va_up (va_up (fun _ => none) 0 (some (a + 32))) 1 (some (a + 62))) 2 (some (a + 92))))))) :: ((stL E (a + 32)) ++ ((stL E (a + 62)) ++ ((stL E (a + 92)) ++ []))))))) (fun q => a ≤ q)) 121 4695 (fun q => a ≤ q) := by
  refine ki_body (cc := cX4_init) (own := RX4) (maxL := 2) (by decide) rfl rfl rfl (by decide) (fun p e s m below meth c C hr hlk hinm hP hE => ?_)
  have hA : ∀ q, a ≤ q → (fun q => a ≤ q) q := fun _ h => h
  have hi3 : ∀ w ∈ u_ws RX3 TX3 11, w ∈ wsX4_init := by decide +kernel
  have hi4 : ∀ w ∈ u_ws RX4 TX4 3, w ∈ wsX4_init := by decide +kernel
  have lk0 := C.2.2.2.2 (.methodLink RX4 1 objectInit) (by decide +kernel)
  have lk1 := C.2.2.2.2 (.instanceMethod objectInit) (by decide +kernel)
  have lk2 := C.2.2.2.2 (.code objectInit ⟨#[0xb1]⟩ 1 none) (by decide +kernel)
  have lk3 := C.2.2.2.2 (.classLink RX4 7 RX3) (by decide +kernel)
  have lk4 := C.2.2.2.2 (.instantiable RX3 11) (by decide +kernel)
  have lk5 := C.2.2.2.2 (.initialized RX3) (by decide +kernel)
  have lk6 := C.2.2.2.2 (.fieldLink RX4 10 "IdleDispatcher" "state" "LIdleDispatcher$State;") (by decide +kernel)
  have lk7 := C.2.2.2.2 (.fieldLink RX4 16 "IdleDispatcher" "saved" "[LIdleDispatcher$State;") (by decide +kernel)
  have lk8 := C.2.2.2.2 (.fieldLink RX4 20 "IdleDispatcher" "savedCount" "I") (by decide +kernel)
  refine k_aload_n C dX4_init_0 0 rfl ?_
  refine k_objI C lk0 lk1 lk2 dX4_init_1 (Nat.le_of_ble_eq_true rfl) (Nat.le_of_ble_eq_true rfl) ?_
  refine k_aload_n C dX4_init_4 0 rfl ?_
  refine cl_new (es2 := [.inr (4, [.null, .null, .int 0]), .inr (3, [.int 0, .long 0, .int 0, .int 0, .int 0, .int 0, .null, .null, .null, .int 0, .null])]) C hE.1.1 hi3 tyX3_ok lk3 lk4 lk5 rfl df_X3 (Nat.le_of_ble_eq_true rfl) (Nat.le_of_ble_eq_true rfl) dX4_init_5 (n := 1) rfl rfl ?_
  refine k_dup C dX4_init_8 rfl ?_
  refine cl_call (len := 1) (es0 := [.inr (4, [.null, .null, .int 0])]) (es2 := (.inr (4, [.null, .null, .int 0]) :: ((stL E (a + 1)) ++ []))) C hE hA (c_X3_init l (E := E) (a := a + 1)) (cwI 0 C.2.2.2.2 gX4_init_X3_init rfl rfl rfl (C.2.2.2.2 (.initialized RX3) (by decide +kernel)) (C.2.2.2.2 (.methodLink RX4 9 yX3_init) (by decide +kernel)) (C.2.2.2.2 (.instanceMethod yX3_init) (by decide +kernel)) rfl (by decide +kernel) ⟨(Nat.le_of_ble_eq_true rfl), (Nat.le_of_ble_eq_true rfl)⟩) rfl rfl (Nat.le_of_ble_eq_true rfl) dX4_init_9 ⟨(Nat.le_of_ble_eq_true rfl), (Nat.le_of_ble_eq_true rfl)⟩ rfl ?_
  refine cl_put (fs := [.null, .null, .int 0]) (es2 := (.inr (4, [.ref (a + 1), .null, .int 0]) :: ((stL E (a + 1)) ++ []))) C hA hE.1.1 0 rfl rfl hi4 tyX4_ok nmX4 0 (by decide) rfl rfl rfl (by decide : 0 < 3) ⟨rfl, rfl⟩ rfl lk6 dX4_init_12 rfl rfl ?_
  refine k_aload_n C dX4_init_15 0 rfl ?_
  refine k_iconst (v := 3) C dX4_init_16 (by decide) ?_
  refine cl_newq (N := 3) (es2 := (.inr (4, [.ref (a + 1), .null, .int 0]) :: ((stL E (a + 1)) ++ (.inl (E.2 3, 3, .inr (.inr (.inr (.inr (fun _ => none))))) :: [])))) (t0 := 3) C hE.1.1 rfl lk3 hE.2.2.2 (by decide) (by decide) (Nat.le_of_ble_eq_true rfl) (Nat.le_of_ble_eq_true rfl) (Nat.le_of_ble_eq_true rfl) dX4_init_17 (len := 31) rfl rfl ?_
  refine cl_putF (fs := [.ref (a + 1), .null, .int 0]) (es2 := (.inr (4, [.ref (a + 1), .ref (a + 31), .int 0]) :: ((stL E (a + 1)) ++ (.inl (E.2 3, 3, .inr (.inr (.inr (.inr (fun _ => none))))) :: [])))) C hinm hA hE.1.1 0 rfl rfl hi4 tyX4_ok nmX4 1 (by decide) rfl rfl rfl rfl (by decide : 1 < 3) ⟨rfl, rfl⟩ rfl lk7 dX4_init_20 rfl rfl ?_
  refine k_iconst (v := 0) C dX4_init_23 (by decide) ?_
  refine k_istore_n (lv' := [(1, .int 0), (0, .ref a)]) C dX4_init_24 rfl (by decide) rfl ?_
  refine k_iload_n C dX4_init_25 0 rfl ?_
  refine k_iconst (v := 3) C dX4_init_26 (by decide) ?_
  refine k_icmp_ge (tgt := 49) C dX4_init_27 (by decide) (fun q => absurd q (by decide)) (fun _ => ?_)
  refine k_aload_n C dX4_init_30 1 rfl ?_
  refine cl_get C hE.1.1 0 rfl rfl hi4 1 (by decide) rfl ⟨rfl, rfl⟩ rfl lk7 dX4_init_31 rfl ?_
  refine k_iload_n C dX4_init_34 0 rfl ?_
  refine cl_new (es2 := (.inr (4, [.ref (a + 1), .ref (a + 31), .int 0]) :: ((stL E (a + 1)) ++ (.inl (E.2 3, 3, .inr (.inr (.inr (.inr (fun _ => none))))) :: (.inr (3, [.int 0, .long 0, .int 0, .int 0, .int 0, .int 0, .null, .null, .null, .int 0, .null]) :: []))))) C hE.1.1 hi3 tyX3_ok lk3 lk4 lk5 rfl df_X3 (Nat.le_of_ble_eq_true rfl) (Nat.le_of_ble_eq_true rfl) dX4_init_35 (n := 32) rfl rfl ?_
  refine k_dup C dX4_init_38 rfl ?_
  refine cl_call (len := 32) (es0 := (.inr (4, [.ref (a + 1), .ref (a + 31), .int 0]) :: ((stL E (a + 1)) ++ (.inl (E.2 3, 3, .inr (.inr (.inr (.inr (fun _ => none))))) :: [])))) (es2 := (.inr (4, [.ref (a + 1), .ref (a + 31), .int 0]) :: ((stL E (a + 1)) ++ (.inl (E.2 3, 3, .inr (.inr (.inr (.inr (fun _ => none))))) :: ((stL E (a + 32)) ++ []))))) C hE hA (c_X3_init l (E := E) (a := a + 32)) (cwI 0 C.2.2.2.2 gX4_init_X3_init rfl rfl rfl (C.2.2.2.2 (.initialized RX3) (by decide +kernel)) (C.2.2.2.2 (.methodLink RX4 9 yX3_init) (by decide +kernel)) (C.2.2.2.2 (.instanceMethod yX3_init) (by decide +kernel)) rfl (by decide +kernel) ⟨(Nat.le_of_ble_eq_true rfl), (Nat.le_of_ble_eq_true rfl)⟩) rfl rfl (Nat.le_of_ble_eq_true rfl) dX4_init_39 ⟨(Nat.le_of_ble_eq_true rfl), (Nat.le_of_ble_eq_true rfl)⟩ rfl ?_
  refine cl_aast (es2 := (.inr (4, [.ref (a + 1), .ref (a + 31), .int 0]) :: ((stL E (a + 1)) ++ (.inl (E.2 3, 3, .inr (.inr (.inr (.inr (va_up (fun _ => none) 0 (some (a + 32))))))) :: ((stL E (a + 32)) ++ []))))) C hA hE.1.1 31 rfl 3 3 (r := (RX3, TX3, 11)) rfl 32 rfl rfl (vp_lit (by decide)) dX4_init_42 rfl rfl rfl ?_
  refine k_iinc (v := 1) (lv' := [(1, .int 1), (0, .ref a)]) (j := 0) C dX4_init_43 rfl (by decide) (by decide) rfl ?_
  refine k_goto (tgt := 25) C dX4_init_46 (by decide) ?_
  refine k_iload_n C dX4_init_25 0 rfl ?_
  refine k_iconst (v := 3) C dX4_init_26 (by decide) ?_
  refine k_icmp_ge (tgt := 49) C dX4_init_27 (by decide) (fun q => absurd q (by decide)) (fun _ => ?_)
  refine k_aload_n C dX4_init_30 1 rfl ?_
  refine cl_get C hE.1.1 0 rfl rfl hi4 1 (by decide) rfl ⟨rfl, rfl⟩ rfl lk7 dX4_init_31 rfl ?_
  refine k_iload_n C dX4_init_34 0 rfl ?_
  refine cl_new (es2 := (.inr (4, [.ref (a + 1), .ref (a + 31), .int 0]) :: ((stL E (a + 1)) ++ (.inl (E.2 3, 3, .inr (.inr (.inr (.inr (va_up (fun _ => none) 0 (some (a + 32))))))) :: ((stL E (a + 32)) ++ (.inr (3, [.int 0, .long 0, .int 0, .int 0, .int 0, .int 0, .null, .null, .null, .int 0, .null]) :: [])))))) C hE.1.1 hi3 tyX3_ok lk3 lk4 lk5 rfl df_X3 (Nat.le_of_ble_eq_true rfl) (Nat.le_of_ble_eq_true rfl) dX4_init_35 (n := 62) rfl rfl ?_
  refine k_dup C dX4_init_38 rfl ?_
  refine cl_call (len := 62) (es0 := (.inr (4, [.ref (a + 1), .ref (a + 31), .int 0]) :: ((stL E (a + 1)) ++ (.inl (E.2 3, 3, .inr (.inr (.inr (.inr (va_up (fun _ => none) 0 (some (a + 32))))))) :: ((stL E (a + 32)) ++ []))))) (es2 := (.inr (4, [.ref (a + 1), .ref (a + 31), .int 0]) :: ((stL E (a + 1)) ++ (.inl (E.2 3, 3, .inr (.inr (.inr (.inr (va_up (fun _ => none) 0 (some (a + 32))))))) :: ((stL E (a + 32)) ++ ((stL E (a + 62)) ++ [])))))) C hE hA (c_X3_init l (E := E) (a := a + 62)) (cwI 0 C.2.2.2.2 gX4_init_X3_init rfl rfl rfl (C.2.2.2.2 (.initialized RX3) (by decide +kernel)) (C.2.2.2.2 (.methodLink RX4 9 yX3_init) (by decide +kernel)) (C.2.2.2.2 (.instanceMethod yX3_init) (by decide +kernel)) rfl (by decide +kernel) ⟨(Nat.le_of_ble_eq_true rfl), (Nat.le_of_ble_eq_true rfl)⟩) rfl rfl (Nat.le_of_ble_eq_true rfl) dX4_init_39 ⟨(Nat.le_of_ble_eq_true rfl), (Nat.le_of_ble_eq_true rfl)⟩ rfl ?_
  refine cl_aast (es2 := (.inr (4, [.ref (a + 1), .ref (a + 31), .int 0]) :: ((stL E (a + 1)) ++ (.inl (E.2 3, 3, .inr (.inr (.inr (.inr (va_up (va_up (fun _ => none) 0 (some (a + 32))) 1 (some (a + 62))))))) :: ((stL E (a + 32)) ++ ((stL E (a + 62)) ++ [])))))) C hA hE.1.1 31 rfl 3 3 (r := (RX3, TX3, 11)) rfl 62 rfl rfl (vp_lit (by decide)) dX4_init_42 rfl rfl rfl ?_
  refine k_iinc (v := 2) (lv' := [(1, .int 2), (0, .ref a)]) (j := 0) C dX4_init_43 rfl (by decide) (by decide) rfl ?_
  refine k_goto (tgt := 25) C dX4_init_46 (by decide) ?_
  refine k_iload_n C dX4_init_25 0 rfl ?_
  refine k_iconst (v := 3) C dX4_init_26 (by decide) ?_
  refine k_icmp_ge (tgt := 49) C dX4_init_27 (by decide) (fun q => absurd q (by decide)) (fun _ => ?_)
  refine k_aload_n C dX4_init_30 1 rfl ?_
  refine cl_get C hE.1.1 0 rfl rfl hi4 1 (by decide) rfl ⟨rfl, rfl⟩ rfl lk7 dX4_init_31 rfl ?_
  refine k_iload_n C dX4_init_34 0 rfl ?_
  refine cl_new (es2 := (.inr (4, [.ref (a + 1), .ref (a + 31), .int 0]) :: ((stL E (a + 1)) ++ (.inl (E.2 3, 3, .inr (.inr (.inr (.inr (va_up (va_up (fun _ => none) 0 (some (a + 32))) 1 (some (a + 62))))))) :: ((stL E (a + 32)) ++ ((stL E (a + 62)) ++ (.inr (3, [.int 0, .long 0, .int 0, .int 0, .int 0, .int 0, .null, .null, .null, .int 0, .null]) :: []))))))) C hE.1.1 hi3 tyX3_ok lk3 lk4 lk5 rfl df_X3 (Nat.le_of_ble_eq_true rfl) (Nat.le_of_ble_eq_true rfl) dX4_init_35 (n := 92) rfl rfl ?_
  refine k_dup C dX4_init_38 rfl ?_
  refine cl_call (len := 92) (es0 := (.inr (4, [.ref (a + 1), .ref (a + 31), .int 0]) :: ((stL E (a + 1)) ++ (.inl (E.2 3, 3, .inr (.inr (.inr (.inr (va_up (va_up (fun _ => none) 0 (some (a + 32))) 1 (some (a + 62))))))) :: ((stL E (a + 32)) ++ ((stL E (a + 62)) ++ [])))))) (es2 := (.inr (4, [.ref (a + 1), .ref (a + 31), .int 0]) :: ((stL E (a + 1)) ++ (.inl (E.2 3, 3, .inr (.inr (.inr (.inr (va_up (va_up (fun _ => none) 0 (some (a + 32))) 1 (some (a + 62))))))) :: ((stL E (a + 32)) ++ ((stL E (a + 62)) ++ ((stL E (a + 92)) ++ []))))))) C hE hA (c_X3_init l (E := E) (a := a + 92)) (cwI 0 C.2.2.2.2 gX4_init_X3_init rfl rfl rfl (C.2.2.2.2 (.initialized RX3) (by decide +kernel)) (C.2.2.2.2 (.methodLink RX4 9 yX3_init) (by decide +kernel)) (C.2.2.2.2 (.instanceMethod yX3_init) (by decide +kernel)) rfl (by decide +kernel) ⟨(Nat.le_of_ble_eq_true rfl), (Nat.le_of_ble_eq_true rfl)⟩) rfl rfl (Nat.le_of_ble_eq_true rfl) dX4_init_39 ⟨(Nat.le_of_ble_eq_true rfl), (Nat.le_of_ble_eq_true rfl)⟩ rfl ?_
  refine cl_aast (es2 := (.inr (4, [.ref (a + 1), .ref (a + 31), .int 0]) :: ((stL E (a + 1)) ++ (.inl (E.2 3, 3, .inr (.inr (.inr (.inr (va_up (va_up (va_up (fun _ => none) 0 (some (a + 32))) 1 (some (a + 62))) 2 (some (a + 92))))))) :: ((stL E (a + 32)) ++ ((stL E (a + 62)) ++ ((stL E (a + 92)) ++ []))))))) C hA hE.1.1 31 rfl 3 3 (r := (RX3, TX3, 11)) rfl 92 rfl rfl (vp_lit (by decide)) dX4_init_42 rfl rfl rfl ?_
  refine k_iinc (v := 3) (lv' := [(1, .int 3), (0, .ref a)]) (j := 0) C dX4_init_43 rfl (by decide) (by decide) rfl ?_
  refine k_goto (tgt := 25) C dX4_init_46 (by decide) ?_
  refine k_iload_n C dX4_init_25 0 rfl ?_
  refine k_iconst (v := 3) C dX4_init_26 (by decide) ?_
  refine k_icmp_ge (tgt := 49) C dX4_init_27 (by decide) (fun _ => ?_) (fun q => absurd (by decide) q)
  refine k_aload_n C dX4_init_49 1 rfl ?_
  refine k_iconst (v := 0) C dX4_init_50 (by decide) ?_
  refine cl_put (fs := [.ref (a + 1), .ref (a + 31), .int 0]) (es2 := (.inr (4, [.ref (a + 1), .ref (a + 31), .int 0]) :: ((stL E (a + 1)) ++ (.inl (E.2 3, 3, .inr (.inr (.inr (.inr (va_up (va_up (va_up (fun _ => none) 0 (some (a + 32))) 1 (some (a + 62))) 2 (some (a + 92))))))) :: ((stL E (a + 32)) ++ ((stL E (a + 62)) ++ ((stL E (a + 92)) ++ []))))))) C hA hE.1.1 0 rfl rfl hi4 tyX4_ok nmX4 2 (by decide) rfl rfl rfl (by decide : 2 < 3) ⟨rfl, rfl⟩ rfl lk8 dX4_init_51 rfl rfl ?_
  exact ki_ret C hr hlk dX4_init_54 (Nat.le_of_ble_eq_true rfl) (Nat.le_of_ble_eq_true rfl) (fun H hP => hP)
set_option maxRecDepth 100000 in
set_option maxHeartbeats 4000000 in
theorem c_X5_init (l : Launch) {E : EV} {a : Nat} : Met l yX5_init wsX5_init { frames := 1, cells := 3, slots := 3580, locals := 20 } (va_Pc [.ref a] (fun U => CL E a [.inr (5, [.null, .null, .int 0, .int 0, .null, .long 0])] U.heap ∧ XI E U)) (kQv (CL E a [.inr (5, [.ref (a + 1), .ref (a + 2), .int 0, .int 0, .ref (a + 3), .long 0]), .inl (E.2 0, 893, .inl (upd (upd (fun _ => 0) 0 1) 3 8)), .inl (E.2 0, 2679, .inl (fun _ => 0)), .inl (E.2 0, 8, .inl (fun _ => 0))]) (fun q => a ≤ q)) 3 3580 (fun q => a ≤ q) := by
  refine ki_body (cc := cX5_init) (own := RX5) (maxL := 1) (by decide) rfl rfl rfl (by decide) (fun p e s m below meth c C hr hlk hinm hP hE => ?_)
  have hA : ∀ q, a ≤ q → (fun q => a ≤ q) q := fun _ h => h
  have hi5 : ∀ w ∈ u_ws RX5 TX5 6, w ∈ wsX5_init := by decide +kernel
  have lk0 := C.2.2.2.2 (.methodLink RX5 1 objectInit) (by decide +kernel)
  have lk1 := C.2.2.2.2 (.instanceMethod objectInit) (by decide +kernel)
  have lk2 := C.2.2.2.2 (.code objectInit ⟨#[0xb1]⟩ 1 none) (by decide +kernel)
  have lk3 := C.2.2.2.2 (.arrayClass .int) (by decide +kernel)
  have lk4 := C.2.2.2.2 (.fieldLink RX5 7 "IdleDispatcherModel" "now" "[I") (by decide +kernel)
  have lk5 := C.2.2.2.2 (.fieldLink RX5 13 "IdleDispatcherModel" "history" "[I") (by decide +kernel)
  have lk6 := C.2.2.2.2 (.fieldLink RX5 16 "IdleDispatcherModel" "candidates" "[I") (by decide +kernel)
  refine k_aload_n C dX5_init_0 0 rfl ?_
  refine k_objI C lk0 lk1 lk2 dX5_init_1 (Nat.le_of_ble_eq_true rfl) (Nat.le_of_ble_eq_true rfl) ?_
  refine k_aload_n C dX5_init_4 0 rfl ?_
  refine k_sipush (v := 893) C dX5_init_5 (by decide) ?_
  refine cl_newi (N := 893) (es2 := [.inr (5, [.null, .null, .int 0, .int 0, .null, .long 0]), .inl (E.2 0, 893, .inl (fun _ => 0))]) C hE.1.1 lk3 (by decide) (by decide) (Nat.le_of_ble_eq_true rfl) (Nat.le_of_ble_eq_true rfl) (Nat.le_of_ble_eq_true rfl) dX5_init_8 (len := 1) rfl rfl ?_
  refine cl_putF (fs := [.null, .null, .int 0, .int 0, .null, .long 0]) (es2 := [.inr (5, [.ref (a + 1), .null, .int 0, .int 0, .null, .long 0]), .inl (E.2 0, 893, .inl (fun _ => 0))]) C hinm hA hE.1.1 0 rfl rfl hi5 tyX5_ok nmX5 0 (by decide) rfl rfl rfl rfl (by decide : 0 < 6) ⟨rfl, rfl⟩ rfl lk4 dX5_init_10 rfl rfl ?_
  refine k_aload_n C dX5_init_13 0 rfl ?_
  refine k_sipush (v := 2679) C dX5_init_14 (by decide) ?_
  refine cl_newi (N := 2679) (es2 := [.inr (5, [.ref (a + 1), .null, .int 0, .int 0, .null, .long 0]), .inl (E.2 0, 893, .inl (fun _ => 0)), .inl (E.2 0, 2679, .inl (fun _ => 0))]) C hE.1.1 lk3 (by decide) (by decide) (Nat.le_of_ble_eq_true rfl) (Nat.le_of_ble_eq_true rfl) (Nat.le_of_ble_eq_true rfl) dX5_init_17 (len := 2) rfl rfl ?_
  refine cl_putF (fs := [.ref (a + 1), .null, .int 0, .int 0, .null, .long 0]) (es2 := [.inr (5, [.ref (a + 1), .ref (a + 2), .int 0, .int 0, .null, .long 0]), .inl (E.2 0, 893, .inl (fun _ => 0)), .inl (E.2 0, 2679, .inl (fun _ => 0))]) C hinm hA hE.1.1 0 rfl rfl hi5 tyX5_ok nmX5 1 (by decide) rfl rfl rfl rfl (by decide : 1 < 6) ⟨rfl, rfl⟩ rfl lk5 dX5_init_19 rfl rfl ?_
  refine k_aload_n C dX5_init_22 0 rfl ?_
  refine k_bipush (v := 8) C dX5_init_23 (by decide) ?_
  refine cl_newi (N := 8) (es2 := [.inr (5, [.ref (a + 1), .ref (a + 2), .int 0, .int 0, .null, .long 0]), .inl (E.2 0, 893, .inl (fun _ => 0)), .inl (E.2 0, 2679, .inl (fun _ => 0)), .inl (E.2 0, 8, .inl (fun _ => 0))]) C hE.1.1 lk3 (by decide) (by decide) (Nat.le_of_ble_eq_true rfl) (Nat.le_of_ble_eq_true rfl) (Nat.le_of_ble_eq_true rfl) dX5_init_25 (len := 3) rfl rfl ?_
  refine cl_putF (fs := [.ref (a + 1), .ref (a + 2), .int 0, .int 0, .null, .long 0]) (es2 := [.inr (5, [.ref (a + 1), .ref (a + 2), .int 0, .int 0, .ref (a + 3), .long 0]), .inl (E.2 0, 893, .inl (fun _ => 0)), .inl (E.2 0, 2679, .inl (fun _ => 0)), .inl (E.2 0, 8, .inl (fun _ => 0))]) C hinm hA hE.1.1 0 rfl rfl hi5 tyX5_ok nmX5 4 (by decide) rfl rfl rfl rfl (by decide : 4 < 6) ⟨rfl, rfl⟩ rfl lk6 dX5_init_27 rfl rfl ?_
  refine k_aload_n C dX5_init_30 0 rfl ?_
  refine cl_get C hE.1.1 0 rfl rfl hi5 0 (by decide) rfl ⟨rfl, rfl⟩ rfl lk4 dX5_init_31 rfl ?_
  refine k_iconst (v := 0) C dX5_init_34 (by decide) ?_
  refine k_iconst (v := 1) C dX5_init_35 (by decide) ?_
  refine cl_iast (es2 := [.inr (5, [.ref (a + 1), .ref (a + 2), .int 0, .int 0, .ref (a + 3), .long 0]), .inl (E.2 0, 893, .inl (upd (fun _ => 0) 0 1)), .inl (E.2 0, 2679, .inl (fun _ => 0)), .inl (E.2 0, 8, .inl (fun _ => 0))]) C hA hE.1.1 1 rfl (vp_lit (by decide)) dX5_init_36 rfl rfl ?_
  refine k_aload_n C dX5_init_37 0 rfl ?_
  refine cl_get C hE.1.1 0 rfl rfl hi5 0 (by decide) rfl ⟨rfl, rfl⟩ rfl lk4 dX5_init_38 rfl ?_
  refine k_iconst (v := 3) C dX5_init_41 (by decide) ?_
  refine k_bipush (v := 8) C dX5_init_42 (by decide) ?_
  refine cl_iast (es2 := [.inr (5, [.ref (a + 1), .ref (a + 2), .int 0, .int 0, .ref (a + 3), .long 0]), .inl (E.2 0, 893, .inl (upd (upd (fun _ => 0) 0 1) 3 8)), .inl (E.2 0, 2679, .inl (fun _ => 0)), .inl (E.2 0, 8, .inl (fun _ => 0))]) C hA hE.1.1 1 rfl (vp_lit (by decide)) dX5_init_44 rfl rfl ?_
  exact ki_ret C hr hlk dX5_init_45 (Nat.le_of_ble_eq_true rfl) (Nat.le_of_ble_eq_true rfl) (fun H hP => hP)
