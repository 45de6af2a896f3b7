/-! the constructors -/
theorem dc_X0_0 : decode cX0_init 0 = .ok (.aload_n 0, 1) := by decide +kernel
theorem dc_X0_1 : decode cX0_init 1 = .ok (.invokespecial 3, 3) := by decide +kernel
theorem dc_X0_4 : decode cX0_init 4 = .ok (.aload_n 0, 1) := by decide +kernel
theorem dc_X0_5 : decode cX0_init 5 = .ok (.bipush 72, 2) := by decide +kernel
theorem dc_X0_7 : decode cX0_init 7 = .ok (.newarray .int, 2) := by decide +kernel
theorem dc_X0_9 : decode cX0_init 9 = .ok (.putfield 9, 3) := by decide +kernel
theorem dc_X0_12 : decode cX0_init 12 = .ok (.return_, 1) := by decide +kernel
set_option maxHeartbeats 4000000 in
set_option maxRecDepth 20000 in
theorem ct_X0 : CtC yX0_init cX0_init 1 0 1 20 1 72 := by
  refine CtC.intro (plainFor_of_name (by decide +kernel)) rfl (Nat.le_of_ble_eq_true rfl) ?_
  intro p l e R s m args below meth c D I A a0 ls QQ X r1 r2 r3 r4 fin hP hD hl
  have hx := X.1
  have hb := X.2.1
  have hS : va_S A s.heap s.heap [] := va_S.rf
  have hP : va_P D clsU [(a0, .inr (0, [.null, .int 0, .int 0, .int 0]))] s.heap := hP
  have hD : va_D A [(a0, .inr (0, [.null, .int 0, .int 0, .int 0]))] := hD
  refine lv_aload_n hx hb dc_X0_0 rfl (lv_at hl 0 rfl) ?_
  refine k_objI X hl.1 (Nat.le_trans (Nat.le_of_ble_eq_true rfl) r1) (Nat.le_trans (Nat.le_of_ble_eq_true rfl) r2) (wsG_of (i := 258) (by decide +kernel) rfl) dc_X0_1 ?_
  refine lv_aload_n hx hb dc_X0_4 rfl (lv_at hl 0 rfl) ?_
  refine lv_bipush (v := 72) hx hb dc_X0_5 (by decide) ?_
  refine k_newI X hP hD hS (by decide) (N := 72) rfl (by decide) (Nat.le_trans (Nat.le_of_ble_eq_true rfl) r3) (Nat.le_trans (Nat.le_of_ble_eq_true rfl) r4) dc_X0_7 (fun q0 H hP hD hS => ?_)
  have hP : va_P D clsU ([(a0, .inr (0, [.null, .int 0, .int 0, .int 0])), (q0, .inl (I.1, 72, .inl (fun _ => 0)))]) H := hP
  have hD : va_D A ([(a0, .inr (0, [.null, .int 0, .int 0, .int 0])), (q0, .inl (I.1, 72, .inl (fun _ => 0)))]) := hD
  refine k_putF X (kk := 0) ⟨RX0, TX0, 4, rfl, by decide, wsG_of (i := 259) (by decide +kernel) rfl⟩ (fun _ _ _ h => by cases h; exact ⟨rfl, rfl⟩) hP hD hS rfl rfl (Nat.le_of_ble_eq_true rfl) dc_X0_9 (fun H locs hP hD hS => ?_)
  have hP : va_P D clsU ([(a0, .inr (0, [.ref q0, .int 0, .int 0, .int 0])), (q0, .inl (I.1, 72, .inl (fun _ => 0)))]) H := hP
  have hD : va_D A ([(a0, .inr (0, [.ref q0, .int 0, .int 0, .int 0])), (q0, .inl (I.1, 72, .inl (fun _ => 0)))]) := hD
  exact fin _ _ _ (adL a0 [(0, q0)]) 12 dc_X0_12 rfl hP hD hS
theorem dc_X1_0 : decode cX1_init 0 = .ok (.aload_n 0, 1) := by decide +kernel
theorem dc_X1_1 : decode cX1_init 1 = .ok (.invokespecial 3, 3) := by decide +kernel
theorem dc_X1_4 : decode cX1_init 4 = .ok (.aload_n 0, 1) := by decide +kernel
theorem dc_X1_5 : decode cX1_init 5 = .ok (.iconst 2, 1) := by decide +kernel
theorem dc_X1_6 : decode cX1_init 6 = .ok (.putfield 9, 3) := by decide +kernel
theorem dc_X1_9 : decode cX1_init 9 = .ok (.aload_n 0, 1) := by decide +kernel
theorem dc_X1_10 : decode cX1_init 10 = .ok (.bipush 6, 2) := by decide +kernel
theorem dc_X1_12 : decode cX1_init 12 = .ok (.putfield 15, 3) := by decide +kernel
theorem dc_X1_15 : decode cX1_init 15 = .ok (.aload_n 0, 1) := by decide +kernel
theorem dc_X1_16 : decode cX1_init 16 = .ok (.bipush 48, 2) := by decide +kernel
theorem dc_X1_18 : decode cX1_init 18 = .ok (.newarray .boolean, 2) := by decide +kernel
theorem dc_X1_20 : decode cX1_init 20 = .ok (.putfield 18, 3) := by decide +kernel
theorem dc_X1_23 : decode cX1_init 23 = .ok (.aload_n 0, 1) := by decide +kernel
theorem dc_X1_24 : decode cX1_init 24 = .ok (.bipush 6, 2) := by decide +kernel
theorem dc_X1_26 : decode cX1_init 26 = .ok (.newarray .boolean, 2) := by decide +kernel
theorem dc_X1_28 : decode cX1_init 28 = .ok (.putfield 22, 3) := by decide +kernel
theorem dc_X1_31 : decode cX1_init 31 = .ok (.aload_n 0, 1) := by decide +kernel
theorem dc_X1_32 : decode cX1_init 32 = .ok (.bipush 6, 2) := by decide +kernel
theorem dc_X1_34 : decode cX1_init 34 = .ok (.newarray .int, 2) := by decide +kernel
theorem dc_X1_36 : decode cX1_init 36 = .ok (.putfield 25, 3) := by decide +kernel
theorem dc_X1_39 : decode cX1_init 39 = .ok (.aload_n 0, 1) := by decide +kernel
theorem dc_X1_40 : decode cX1_init 40 = .ok (.bipush 6, 2) := by decide +kernel
theorem dc_X1_42 : decode cX1_init 42 = .ok (.newarray .int, 2) := by decide +kernel
theorem dc_X1_44 : decode cX1_init 44 = .ok (.putfield 29, 3) := by decide +kernel
theorem dc_X1_47 : decode cX1_init 47 = .ok (.aload_n 0, 1) := by decide +kernel
theorem dc_X1_48 : decode cX1_init 48 = .ok (.bipush 6, 2) := by decide +kernel
theorem dc_X1_50 : decode cX1_init 50 = .ok (.newarray .int, 2) := by decide +kernel
theorem dc_X1_52 : decode cX1_init 52 = .ok (.putfield 32, 3) := by decide +kernel
theorem dc_X1_55 : decode cX1_init 55 = .ok (.aload_n 0, 1) := by decide +kernel
theorem dc_X1_56 : decode cX1_init 56 = .ok (.bipush 6, 2) := by decide +kernel
theorem dc_X1_58 : decode cX1_init 58 = .ok (.newarray .int, 2) := by decide +kernel
theorem dc_X1_60 : decode cX1_init 60 = .ok (.putfield 35, 3) := by decide +kernel
theorem dc_X1_63 : decode cX1_init 63 = .ok (.aload_n 0, 1) := by decide +kernel
theorem dc_X1_64 : decode cX1_init 64 = .ok (.bipush 6, 2) := by decide +kernel
theorem dc_X1_66 : decode cX1_init 66 = .ok (.newarray .int, 2) := by decide +kernel
theorem dc_X1_68 : decode cX1_init 68 = .ok (.putfield 38, 3) := by decide +kernel
theorem dc_X1_71 : decode cX1_init 71 = .ok (.aload_n 0, 1) := by decide +kernel
theorem dc_X1_72 : decode cX1_init 72 = .ok (.bipush 6, 2) := by decide +kernel
theorem dc_X1_74 : decode cX1_init 74 = .ok (.newarray .int, 2) := by decide +kernel
theorem dc_X1_76 : decode cX1_init 76 = .ok (.putfield 41, 3) := by decide +kernel
theorem dc_X1_79 : decode cX1_init 79 = .ok (.aload_n 0, 1) := by decide +kernel
theorem dc_X1_80 : decode cX1_init 80 = .ok (.bipush 60, 2) := by decide +kernel
theorem dc_X1_82 : decode cX1_init 82 = .ok (.newarray .int, 2) := by decide +kernel
theorem dc_X1_84 : decode cX1_init 84 = .ok (.putfield 44, 3) := by decide +kernel
theorem dc_X1_87 : decode cX1_init 87 = .ok (.return_, 1) := by decide +kernel
set_option maxHeartbeats 4000000 in
set_option maxRecDepth 20000 in
theorem ct_X1 : CtC yX1_init cX1_init 1 1 1 20 9 150 := by
  refine CtC.intro (plainFor_of_name (by decide +kernel)) rfl (Nat.le_of_ble_eq_true rfl) ?_
  intro p l e R s m args below meth c D I A a0 ls QQ X r1 r2 r3 r4 fin hP hD hl
  have hx := X.1
  have hb := X.2.1
  have hS : va_S A s.heap s.heap [] := va_S.rf
  have hP : va_P D clsU [(a0, .inr (1, [.int 0, .int 0, .null, .null, .null, .null, .null, .null, .null, .null, .null]))] s.heap := hP
  have hD : va_D A [(a0, .inr (1, [.int 0, .int 0, .null, .null, .null, .null, .null, .null, .null, .null, .null]))] := hD
  refine lv_aload_n hx hb dc_X1_0 rfl (lv_at hl 0 rfl) ?_
  refine k_objI X hl.1 (Nat.le_trans (Nat.le_of_ble_eq_true rfl) r1) (Nat.le_trans (Nat.le_of_ble_eq_true rfl) r2) (wsG_of (i := 61) (by decide +kernel) rfl) dc_X1_1 ?_
  refine lv_aload_n hx hb dc_X1_4 rfl (lv_at hl 0 rfl) ?_
  refine lv_iconst (v := 2) hx hb dc_X1_5 (by decide) ?_
  refine k_put X (kk := 0) ⟨RX1, TX1, 11, rfl, by decide, wsG_of (i := 62) (by decide +kernel) rfl⟩ (fun _ _ _ h => by cases h; rfl) hP hD hS rfl rfl (Nat.le_of_ble_eq_true rfl) dc_X1_6 (fun H locs hP hD hS => ?_)
  have hP : va_P D clsU ([(a0, .inr (1, [.int 2, .int 0, .null, .null, .null, .null, .null, .null, .null, .null, .null]))]) H := hP
  have hD : va_D A ([(a0, .inr (1, [.int 2, .int 0, .null, .null, .null, .null, .null, .null, .null, .null, .null]))]) := hD
  refine lv_aload_n hx hb dc_X1_9 rfl (lv_at hl 0 rfl) ?_
  refine lv_bipush (v := 6) hx hb dc_X1_10 (by decide) ?_
  refine k_put X (kk := 1) ⟨RX1, TX1, 11, rfl, by decide, wsG_of (i := 66) (by decide +kernel) rfl⟩ (fun _ _ _ h => by cases h; rfl) hP hD hS rfl rfl (Nat.le_of_ble_eq_true rfl) dc_X1_12 (fun H locs hP hD hS => ?_)
  have hP : va_P D clsU ([(a0, .inr (1, [.int 2, .int 6, .null, .null, .null, .null, .null, .null, .null, .null, .null]))]) H := hP
  have hD : va_D A ([(a0, .inr (1, [.int 2, .int 6, .null, .null, .null, .null, .null, .null, .null, .null, .null]))]) := hD
  refine lv_aload_n hx hb dc_X1_15 rfl (lv_at hl 0 rfl) ?_
  refine lv_bipush (v := 48) hx hb dc_X1_16 (by decide) ?_
  refine k_newZ X hP hD hS (by decide) (N := 48) rfl (by decide) (Nat.le_trans (Nat.le_of_ble_eq_true rfl) r3) (Nat.le_trans (Nat.le_of_ble_eq_true rfl) r4) dc_X1_18 (fun q0 H hP hD hS => ?_)
  have hP : va_P D clsU ([(a0, .inr (1, [.int 2, .int 6, .null, .null, .null, .null, .null, .null, .null, .null, .null])), (q0, .inl (I.2.1, 48, .inl (fun _ => 0)))]) H := hP
  have hD : va_D A ([(a0, .inr (1, [.int 2, .int 6, .null, .null, .null, .null, .null, .null, .null, .null, .null])), (q0, .inl (I.2.1, 48, .inl (fun _ => 0)))]) := hD
  refine k_putF X (kk := 2) ⟨RX1, TX1, 11, rfl, by decide, wsG_of (i := 70) (by decide +kernel) rfl⟩ (fun _ _ _ h => by cases h; exact ⟨rfl, rfl⟩) hP hD hS rfl rfl (Nat.le_of_ble_eq_true rfl) dc_X1_20 (fun H locs hP hD hS => ?_)
  have hP : va_P D clsU ([(a0, .inr (1, [.int 2, .int 6, .ref q0, .null, .null, .null, .null, .null, .null, .null, .null])), (q0, .inl (I.2.1, 48, .inl (fun _ => 0)))]) H := hP
  have hD : va_D A ([(a0, .inr (1, [.int 2, .int 6, .ref q0, .null, .null, .null, .null, .null, .null, .null, .null])), (q0, .inl (I.2.1, 48, .inl (fun _ => 0)))]) := hD
  refine lv_aload_n hx hb dc_X1_23 rfl (lv_at hl 0 rfl) ?_
  refine lv_bipush (v := 6) hx hb dc_X1_24 (by decide) ?_
  refine k_newZ X hP hD hS (by decide) (N := 6) rfl (by decide) (Nat.le_trans (Nat.le_of_ble_eq_true rfl) r3) (Nat.le_trans (Nat.le_of_ble_eq_true rfl) r4) dc_X1_26 (fun q1 H hP hD hS => ?_)
  have hP : va_P D clsU ([(a0, .inr (1, [.int 2, .int 6, .ref q0, .null, .null, .null, .null, .null, .null, .null, .null])), (q0, .inl (I.2.1, 48, .inl (fun _ => 0))), (q1, .inl (I.2.1, 6, .inl (fun _ => 0)))]) H := hP
  have hD : va_D A ([(a0, .inr (1, [.int 2, .int 6, .ref q0, .null, .null, .null, .null, .null, .null, .null, .null])), (q0, .inl (I.2.1, 48, .inl (fun _ => 0))), (q1, .inl (I.2.1, 6, .inl (fun _ => 0)))]) := hD
  refine k_putF X (kk := 3) ⟨RX1, TX1, 11, rfl, by decide, wsG_of (i := 71) (by decide +kernel) rfl⟩ (fun _ _ _ h => by cases h; exact ⟨rfl, rfl⟩) hP hD hS rfl rfl (Nat.le_of_ble_eq_true rfl) dc_X1_28 (fun H locs hP hD hS => ?_)
  have hP : va_P D clsU ([(a0, .inr (1, [.int 2, .int 6, .ref q0, .ref q1, .null, .null, .null, .null, .null, .null, .null])), (q0, .inl (I.2.1, 48, .inl (fun _ => 0))), (q1, .inl (I.2.1, 6, .inl (fun _ => 0)))]) H := hP
  have hD : va_D A ([(a0, .inr (1, [.int 2, .int 6, .ref q0, .ref q1, .null, .null, .null, .null, .null, .null, .null])), (q0, .inl (I.2.1, 48, .inl (fun _ => 0))), (q1, .inl (I.2.1, 6, .inl (fun _ => 0)))]) := hD
  refine lv_aload_n hx hb dc_X1_31 rfl (lv_at hl 0 rfl) ?_
  refine lv_bipush (v := 6) hx hb dc_X1_32 (by decide) ?_
  refine k_newI X hP hD hS (by decide) (N := 6) rfl (by decide) (Nat.le_trans (Nat.le_of_ble_eq_true rfl) r3) (Nat.le_trans (Nat.le_of_ble_eq_true rfl) r4) dc_X1_34 (fun q2 H hP hD hS => ?_)
  have hP : va_P D clsU ([(a0, .inr (1, [.int 2, .int 6, .ref q0, .ref q1, .null, .null, .null, .null, .null, .null, .null])), (q0, .inl (I.2.1, 48, .inl (fun _ => 0))), (q1, .inl (I.2.1, 6, .inl (fun _ => 0))), (q2, .inl (I.1, 6, .inl (fun _ => 0)))]) H := hP
  have hD : va_D A ([(a0, .inr (1, [.int 2, .int 6, .ref q0, .ref q1, .null, .null, .null, .null, .null, .null, .null])), (q0, .inl (I.2.1, 48, .inl (fun _ => 0))), (q1, .inl (I.2.1, 6, .inl (fun _ => 0))), (q2, .inl (I.1, 6, .inl (fun _ => 0)))]) := hD
  refine k_putF X (kk := 4) ⟨RX1, TX1, 11, rfl, by decide, wsG_of (i := 74) (by decide +kernel) rfl⟩ (fun _ _ _ h => by cases h; exact ⟨rfl, rfl⟩) hP hD hS rfl rfl (Nat.le_of_ble_eq_true rfl) dc_X1_36 (fun H locs hP hD hS => ?_)
  have hP : va_P D clsU ([(a0, .inr (1, [.int 2, .int 6, .ref q0, .ref q1, .ref q2, .null, .null, .null, .null, .null, .null])), (q0, .inl (I.2.1, 48, .inl (fun _ => 0))), (q1, .inl (I.2.1, 6, .inl (fun _ => 0))), (q2, .inl (I.1, 6, .inl (fun _ => 0)))]) H := hP
  have hD : va_D A ([(a0, .inr (1, [.int 2, .int 6, .ref q0, .ref q1, .ref q2, .null, .null, .null, .null, .null, .null])), (q0, .inl (I.2.1, 48, .inl (fun _ => 0))), (q1, .inl (I.2.1, 6, .inl (fun _ => 0))), (q2, .inl (I.1, 6, .inl (fun _ => 0)))]) := hD
  refine lv_aload_n hx hb dc_X1_39 rfl (lv_at hl 0 rfl) ?_
  refine lv_bipush (v := 6) hx hb dc_X1_40 (by decide) ?_
  refine k_newI X hP hD hS (by decide) (N := 6) rfl (by decide) (Nat.le_trans (Nat.le_of_ble_eq_true rfl) r3) (Nat.le_trans (Nat.le_of_ble_eq_true rfl) r4) dc_X1_42 (fun q3 H hP hD hS => ?_)
  have hP : va_P D clsU ([(a0, .inr (1, [.int 2, .int 6, .ref q0, .ref q1, .ref q2, .null, .null, .null, .null, .null, .null])), (q0, .inl (I.2.1, 48, .inl (fun _ => 0))), (q1, .inl (I.2.1, 6, .inl (fun _ => 0))), (q2, .inl (I.1, 6, .inl (fun _ => 0))), (q3, .inl (I.1, 6, .inl (fun _ => 0)))]) H := hP
  have hD : va_D A ([(a0, .inr (1, [.int 2, .int 6, .ref q0, .ref q1, .ref q2, .null, .null, .null, .null, .null, .null])), (q0, .inl (I.2.1, 48, .inl (fun _ => 0))), (q1, .inl (I.2.1, 6, .inl (fun _ => 0))), (q2, .inl (I.1, 6, .inl (fun _ => 0))), (q3, .inl (I.1, 6, .inl (fun _ => 0)))]) := hD
  refine k_putF X (kk := 5) ⟨RX1, TX1, 11, rfl, by decide, wsG_of (i := 76) (by decide +kernel) rfl⟩ (fun _ _ _ h => by cases h; exact ⟨rfl, rfl⟩) hP hD hS rfl rfl (Nat.le_of_ble_eq_true rfl) dc_X1_44 (fun H locs hP hD hS => ?_)
  have hP : va_P D clsU ([(a0, .inr (1, [.int 2, .int 6, .ref q0, .ref q1, .ref q2, .ref q3, .null, .null, .null, .null, .null])), (q0, .inl (I.2.1, 48, .inl (fun _ => 0))), (q1, .inl (I.2.1, 6, .inl (fun _ => 0))), (q2, .inl (I.1, 6, .inl (fun _ => 0))), (q3, .inl (I.1, 6, .inl (fun _ => 0)))]) H := hP
  have hD : va_D A ([(a0, .inr (1, [.int 2, .int 6, .ref q0, .ref q1, .ref q2, .ref q3, .null, .null, .null, .null, .null])), (q0, .inl (I.2.1, 48, .inl (fun _ => 0))), (q1, .inl (I.2.1, 6, .inl (fun _ => 0))), (q2, .inl (I.1, 6, .inl (fun _ => 0))), (q3, .inl (I.1, 6, .inl (fun _ => 0)))]) := hD
  refine lv_aload_n hx hb dc_X1_47 rfl (lv_at hl 0 rfl) ?_
  refine lv_bipush (v := 6) hx hb dc_X1_48 (by decide) ?_
  refine k_newI X hP hD hS (by decide) (N := 6) rfl (by decide) (Nat.le_trans (Nat.le_of_ble_eq_true rfl) r3) (Nat.le_trans (Nat.le_of_ble_eq_true rfl) r4) dc_X1_50 (fun q4 H hP hD hS => ?_)
  have hP : va_P D clsU ([(a0, .inr (1, [.int 2, .int 6, .ref q0, .ref q1, .ref q2, .ref q3, .null, .null, .null, .null, .null])), (q0, .inl (I.2.1, 48, .inl (fun _ => 0))), (q1, .inl (I.2.1, 6, .inl (fun _ => 0))), (q2, .inl (I.1, 6, .inl (fun _ => 0))), (q3, .inl (I.1, 6, .inl (fun _ => 0))), (q4, .inl (I.1, 6, .inl (fun _ => 0)))]) H := hP
  have hD : va_D A ([(a0, .inr (1, [.int 2, .int 6, .ref q0, .ref q1, .ref q2, .ref q3, .null, .null, .null, .null, .null])), (q0, .inl (I.2.1, 48, .inl (fun _ => 0))), (q1, .inl (I.2.1, 6, .inl (fun _ => 0))), (q2, .inl (I.1, 6, .inl (fun _ => 0))), (q3, .inl (I.1, 6, .inl (fun _ => 0))), (q4, .inl (I.1, 6, .inl (fun _ => 0)))]) := hD
  refine k_putF X (kk := 6) ⟨RX1, TX1, 11, rfl, by decide, wsG_of (i := 78) (by decide +kernel) rfl⟩ (fun _ _ _ h => by cases h; exact ⟨rfl, rfl⟩) hP hD hS rfl rfl (Nat.le_of_ble_eq_true rfl) dc_X1_52 (fun H locs hP hD hS => ?_)
  have hP : va_P D clsU ([(a0, .inr (1, [.int 2, .int 6, .ref q0, .ref q1, .ref q2, .ref q3, .ref q4, .null, .null, .null, .null])), (q0, .inl (I.2.1, 48, .inl (fun _ => 0))), (q1, .inl (I.2.1, 6, .inl (fun _ => 0))), (q2, .inl (I.1, 6, .inl (fun _ => 0))), (q3, .inl (I.1, 6, .inl (fun _ => 0))), (q4, .inl (I.1, 6, .inl (fun _ => 0)))]) H := hP
  have hD : va_D A ([(a0, .inr (1, [.int 2, .int 6, .ref q0, .ref q1, .ref q2, .ref q3, .ref q4, .null, .null, .null, .null])), (q0, .inl (I.2.1, 48, .inl (fun _ => 0))), (q1, .inl (I.2.1, 6, .inl (fun _ => 0))), (q2, .inl (I.1, 6, .inl (fun _ => 0))), (q3, .inl (I.1, 6, .inl (fun _ => 0))), (q4, .inl (I.1, 6, .inl (fun _ => 0)))]) := hD
  refine lv_aload_n hx hb dc_X1_55 rfl (lv_at hl 0 rfl) ?_
  refine lv_bipush (v := 6) hx hb dc_X1_56 (by decide) ?_
  refine k_newI X hP hD hS (by decide) (N := 6) rfl (by decide) (Nat.le_trans (Nat.le_of_ble_eq_true rfl) r3) (Nat.le_trans (Nat.le_of_ble_eq_true rfl) r4) dc_X1_58 (fun q5 H hP hD hS => ?_)
  have hP : va_P D clsU ([(a0, .inr (1, [.int 2, .int 6, .ref q0, .ref q1, .ref q2, .ref q3, .ref q4, .null, .null, .null, .null])), (q0, .inl (I.2.1, 48, .inl (fun _ => 0))), (q1, .inl (I.2.1, 6, .inl (fun _ => 0))), (q2, .inl (I.1, 6, .inl (fun _ => 0))), (q3, .inl (I.1, 6, .inl (fun _ => 0))), (q4, .inl (I.1, 6, .inl (fun _ => 0))), (q5, .inl (I.1, 6, .inl (fun _ => 0)))]) H := hP
  have hD : va_D A ([(a0, .inr (1, [.int 2, .int 6, .ref q0, .ref q1, .ref q2, .ref q3, .ref q4, .null, .null, .null, .null])), (q0, .inl (I.2.1, 48, .inl (fun _ => 0))), (q1, .inl (I.2.1, 6, .inl (fun _ => 0))), (q2, .inl (I.1, 6, .inl (fun _ => 0))), (q3, .inl (I.1, 6, .inl (fun _ => 0))), (q4, .inl (I.1, 6, .inl (fun _ => 0))), (q5, .inl (I.1, 6, .inl (fun _ => 0)))]) := hD
  refine k_putF X (kk := 7) ⟨RX1, TX1, 11, rfl, by decide, wsG_of (i := 80) (by decide +kernel) rfl⟩ (fun _ _ _ h => by cases h; exact ⟨rfl, rfl⟩) hP hD hS rfl rfl (Nat.le_of_ble_eq_true rfl) dc_X1_60 (fun H locs hP hD hS => ?_)
  have hP : va_P D clsU ([(a0, .inr (1, [.int 2, .int 6, .ref q0, .ref q1, .ref q2, .ref q3, .ref q4, .ref q5, .null, .null, .null])), (q0, .inl (I.2.1, 48, .inl (fun _ => 0))), (q1, .inl (I.2.1, 6, .inl (fun _ => 0))), (q2, .inl (I.1, 6, .inl (fun _ => 0))), (q3, .inl (I.1, 6, .inl (fun _ => 0))), (q4, .inl (I.1, 6, .inl (fun _ => 0))), (q5, .inl (I.1, 6, .inl (fun _ => 0)))]) H := hP
  have hD : va_D A ([(a0, .inr (1, [.int 2, .int 6, .ref q0, .ref q1, .ref q2, .ref q3, .ref q4, .ref q5, .null, .null, .null])), (q0, .inl (I.2.1, 48, .inl (fun _ => 0))), (q1, .inl (I.2.1, 6, .inl (fun _ => 0))), (q2, .inl (I.1, 6, .inl (fun _ => 0))), (q3, .inl (I.1, 6, .inl (fun _ => 0))), (q4, .inl (I.1, 6, .inl (fun _ => 0))), (q5, .inl (I.1, 6, .inl (fun _ => 0)))]) := hD
  refine lv_aload_n hx hb dc_X1_63 rfl (lv_at hl 0 rfl) ?_
  refine lv_bipush (v := 6) hx hb dc_X1_64 (by decide) ?_
  refine k_newI X hP hD hS (by decide) (N := 6) rfl (by decide) (Nat.le_trans (Nat.le_of_ble_eq_true rfl) r3) (Nat.le_trans (Nat.le_of_ble_eq_true rfl) r4) dc_X1_66 (fun q6 H hP hD hS => ?_)
  have hP : va_P D clsU ([(a0, .inr (1, [.int 2, .int 6, .ref q0, .ref q1, .ref q2, .ref q3, .ref q4, .ref q5, .null, .null, .null])), (q0, .inl (I.2.1, 48, .inl (fun _ => 0))), (q1, .inl (I.2.1, 6, .inl (fun _ => 0))), (q2, .inl (I.1, 6, .inl (fun _ => 0))), (q3, .inl (I.1, 6, .inl (fun _ => 0))), (q4, .inl (I.1, 6, .inl (fun _ => 0))), (q5, .inl (I.1, 6, .inl (fun _ => 0))), (q6, .inl (I.1, 6, .inl (fun _ => 0)))]) H := hP
  have hD : va_D A ([(a0, .inr (1, [.int 2, .int 6, .ref q0, .ref q1, .ref q2, .ref q3, .ref q4, .ref q5, .null, .null, .null])), (q0, .inl (I.2.1, 48, .inl (fun _ => 0))), (q1, .inl (I.2.1, 6, .inl (fun _ => 0))), (q2, .inl (I.1, 6, .inl (fun _ => 0))), (q3, .inl (I.1, 6, .inl (fun _ => 0))), (q4, .inl (I.1, 6, .inl (fun _ => 0))), (q5, .inl (I.1, 6, .inl (fun _ => 0))), (q6, .inl (I.1, 6, .inl (fun _ => 0)))]) := hD
  refine k_putF X (kk := 8) ⟨RX1, TX1, 11, rfl, by decide, wsG_of (i := 82) (by decide +kernel) rfl⟩ (fun _ _ _ h => by cases h; exact ⟨rfl, rfl⟩) hP hD hS rfl rfl (Nat.le_of_ble_eq_true rfl) dc_X1_68 (fun H locs hP hD hS => ?_)
  have hP : va_P D clsU ([(a0, .inr (1, [.int 2, .int 6, .ref q0, .ref q1, .ref q2, .ref q3, .ref q4, .ref q5, .ref q6, .null, .null])), (q0, .inl (I.2.1, 48, .inl (fun _ => 0))), (q1, .inl (I.2.1, 6, .inl (fun _ => 0))), (q2, .inl (I.1, 6, .inl (fun _ => 0))), (q3, .inl (I.1, 6, .inl (fun _ => 0))), (q4, .inl (I.1, 6, .inl (fun _ => 0))), (q5, .inl (I.1, 6, .inl (fun _ => 0))), (q6, .inl (I.1, 6, .inl (fun _ => 0)))]) H := hP
  have hD : va_D A ([(a0, .inr (1, [.int 2, .int 6, .ref q0, .ref q1, .ref q2, .ref q3, .ref q4, .ref q5, .ref q6, .null, .null])), (q0, .inl (I.2.1, 48, .inl (fun _ => 0))), (q1, .inl (I.2.1, 6, .inl (fun _ => 0))), (q2, .inl (I.1, 6, .inl (fun _ => 0))), (q3, .inl (I.1, 6, .inl (fun _ => 0))), (q4, .inl (I.1, 6, .inl (fun _ => 0))), (q5, .inl (I.1, 6, .inl (fun _ => 0))), (q6, .inl (I.1, 6, .inl (fun _ => 0)))]) := hD
  refine lv_aload_n hx hb dc_X1_71 rfl (lv_at hl 0 rfl) ?_
  refine lv_bipush (v := 6) hx hb dc_X1_72 (by decide) ?_
  refine k_newI X hP hD hS (by decide) (N := 6) rfl (by decide) (Nat.le_trans (Nat.le_of_ble_eq_true rfl) r3) (Nat.le_trans (Nat.le_of_ble_eq_true rfl) r4) dc_X1_74 (fun q7 H hP hD hS => ?_)
  have hP : va_P D clsU ([(a0, .inr (1, [.int 2, .int 6, .ref q0, .ref q1, .ref q2, .ref q3, .ref q4, .ref q5, .ref q6, .null, .null])), (q0, .inl (I.2.1, 48, .inl (fun _ => 0))), (q1, .inl (I.2.1, 6, .inl (fun _ => 0))), (q2, .inl (I.1, 6, .inl (fun _ => 0))), (q3, .inl (I.1, 6, .inl (fun _ => 0))), (q4, .inl (I.1, 6, .inl (fun _ => 0))), (q5, .inl (I.1, 6, .inl (fun _ => 0))), (q6, .inl (I.1, 6, .inl (fun _ => 0))), (q7, .inl (I.1, 6, .inl (fun _ => 0)))]) H := hP
  have hD : va_D A ([(a0, .inr (1, [.int 2, .int 6, .ref q0, .ref q1, .ref q2, .ref q3, .ref q4, .ref q5, .ref q6, .null, .null])), (q0, .inl (I.2.1, 48, .inl (fun _ => 0))), (q1, .inl (I.2.1, 6, .inl (fun _ => 0))), (q2, .inl (I.1, 6, .inl (fun _ => 0))), (q3, .inl (I.1, 6, .inl (fun _ => 0))), (q4, .inl (I.1, 6, .inl (fun _ => 0))), (q5, .inl (I.1, 6, .inl (fun _ => 0))), (q6, .inl (I.1, 6, .inl (fun _ => 0))), (q7, .inl (I.1, 6, .inl (fun _ => 0)))]) := hD
  refine k_putF X (kk := 9) ⟨RX1, TX1, 11, rfl, by decide, wsG_of (i := 86) (by decide +kernel) rfl⟩ (fun _ _ _ h => by cases h; exact ⟨rfl, rfl⟩) hP hD hS rfl rfl (Nat.le_of_ble_eq_true rfl) dc_X1_76 (fun H locs hP hD hS => ?_)
  have hP : va_P D clsU ([(a0, .inr (1, [.int 2, .int 6, .ref q0, .ref q1, .ref q2, .ref q3, .ref q4, .ref q5, .ref q6, .ref q7, .null])), (q0, .inl (I.2.1, 48, .inl (fun _ => 0))), (q1, .inl (I.2.1, 6, .inl (fun _ => 0))), (q2, .inl (I.1, 6, .inl (fun _ => 0))), (q3, .inl (I.1, 6, .inl (fun _ => 0))), (q4, .inl (I.1, 6, .inl (fun _ => 0))), (q5, .inl (I.1, 6, .inl (fun _ => 0))), (q6, .inl (I.1, 6, .inl (fun _ => 0))), (q7, .inl (I.1, 6, .inl (fun _ => 0)))]) H := hP
  have hD : va_D A ([(a0, .inr (1, [.int 2, .int 6, .ref q0, .ref q1, .ref q2, .ref q3, .ref q4, .ref q5, .ref q6, .ref q7, .null])), (q0, .inl (I.2.1, 48, .inl (fun _ => 0))), (q1, .inl (I.2.1, 6, .inl (fun _ => 0))), (q2, .inl (I.1, 6, .inl (fun _ => 0))), (q3, .inl (I.1, 6, .inl (fun _ => 0))), (q4, .inl (I.1, 6, .inl (fun _ => 0))), (q5, .inl (I.1, 6, .inl (fun _ => 0))), (q6, .inl (I.1, 6, .inl (fun _ => 0))), (q7, .inl (I.1, 6, .inl (fun _ => 0)))]) := hD
  refine lv_aload_n hx hb dc_X1_79 rfl (lv_at hl 0 rfl) ?_
  refine lv_bipush (v := 60) hx hb dc_X1_80 (by decide) ?_
  refine k_newI X hP hD hS (by decide) (N := 60) rfl (by decide) (Nat.le_trans (Nat.le_of_ble_eq_true rfl) r3) (Nat.le_trans (Nat.le_of_ble_eq_true rfl) r4) dc_X1_82 (fun q8 H hP hD hS => ?_)
  have hP : va_P D clsU ([(a0, .inr (1, [.int 2, .int 6, .ref q0, .ref q1, .ref q2, .ref q3, .ref q4, .ref q5, .ref q6, .ref q7, .null])), (q0, .inl (I.2.1, 48, .inl (fun _ => 0))), (q1, .inl (I.2.1, 6, .inl (fun _ => 0))), (q2, .inl (I.1, 6, .inl (fun _ => 0))), (q3, .inl (I.1, 6, .inl (fun _ => 0))), (q4, .inl (I.1, 6, .inl (fun _ => 0))), (q5, .inl (I.1, 6, .inl (fun _ => 0))), (q6, .inl (I.1, 6, .inl (fun _ => 0))), (q7, .inl (I.1, 6, .inl (fun _ => 0))), (q8, .inl (I.1, 60, .inl (fun _ => 0)))]) H := hP
  have hD : va_D A ([(a0, .inr (1, [.int 2, .int 6, .ref q0, .ref q1, .ref q2, .ref q3, .ref q4, .ref q5, .ref q6, .ref q7, .null])), (q0, .inl (I.2.1, 48, .inl (fun _ => 0))), (q1, .inl (I.2.1, 6, .inl (fun _ => 0))), (q2, .inl (I.1, 6, .inl (fun _ => 0))), (q3, .inl (I.1, 6, .inl (fun _ => 0))), (q4, .inl (I.1, 6, .inl (fun _ => 0))), (q5, .inl (I.1, 6, .inl (fun _ => 0))), (q6, .inl (I.1, 6, .inl (fun _ => 0))), (q7, .inl (I.1, 6, .inl (fun _ => 0))), (q8, .inl (I.1, 60, .inl (fun _ => 0)))]) := hD
  refine k_putF X (kk := 10) ⟨RX1, TX1, 11, rfl, by decide, wsG_of (i := 88) (by decide +kernel) rfl⟩ (fun _ _ _ h => by cases h; exact ⟨rfl, rfl⟩) hP hD hS rfl rfl (Nat.le_of_ble_eq_true rfl) dc_X1_84 (fun H locs hP hD hS => ?_)
  have hP : va_P D clsU ([(a0, .inr (1, [.int 2, .int 6, .ref q0, .ref q1, .ref q2, .ref q3, .ref q4, .ref q5, .ref q6, .ref q7, .ref q8])), (q0, .inl (I.2.1, 48, .inl (fun _ => 0))), (q1, .inl (I.2.1, 6, .inl (fun _ => 0))), (q2, .inl (I.1, 6, .inl (fun _ => 0))), (q3, .inl (I.1, 6, .inl (fun _ => 0))), (q4, .inl (I.1, 6, .inl (fun _ => 0))), (q5, .inl (I.1, 6, .inl (fun _ => 0))), (q6, .inl (I.1, 6, .inl (fun _ => 0))), (q7, .inl (I.1, 6, .inl (fun _ => 0))), (q8, .inl (I.1, 60, .inl (fun _ => 0)))]) H := hP
  have hD : va_D A ([(a0, .inr (1, [.int 2, .int 6, .ref q0, .ref q1, .ref q2, .ref q3, .ref q4, .ref q5, .ref q6, .ref q7, .ref q8])), (q0, .inl (I.2.1, 48, .inl (fun _ => 0))), (q1, .inl (I.2.1, 6, .inl (fun _ => 0))), (q2, .inl (I.1, 6, .inl (fun _ => 0))), (q3, .inl (I.1, 6, .inl (fun _ => 0))), (q4, .inl (I.1, 6, .inl (fun _ => 0))), (q5, .inl (I.1, 6, .inl (fun _ => 0))), (q6, .inl (I.1, 6, .inl (fun _ => 0))), (q7, .inl (I.1, 6, .inl (fun _ => 0))), (q8, .inl (I.1, 60, .inl (fun _ => 0)))]) := hD
  exact fin _ _ _ (adL a0 [(2, q0), (3, q1), (4, q2), (5, q3), (6, q4), (7, q5), (8, q6), (9, q7), (10, q8)]) 87 dc_X1_87 rfl hP hD hS
theorem dc_X2_0 : decode cX2_init 0 = .ok (.aload_n 0, 1) := by decide +kernel
theorem dc_X2_1 : decode cX2_init 1 = .ok (.invokespecial 3, 3) := by decide +kernel
theorem dc_X2_4 : decode cX2_init 4 = .ok (.aload_n 0, 1) := by decide +kernel
theorem dc_X2_5 : decode cX2_init 5 = .ok (.bipush 8, 2) := by decide +kernel
theorem dc_X2_7 : decode cX2_init 7 = .ok (.newarray .int, 2) := by decide +kernel
theorem dc_X2_9 : decode cX2_init 9 = .ok (.putfield 11, 3) := by decide +kernel
theorem dc_X2_12 : decode cX2_init 12 = .ok (.aload_n 0, 1) := by decide +kernel
theorem dc_X2_13 : decode cX2_init 13 = .ok (.bipush 8, 2) := by decide +kernel
theorem dc_X2_15 : decode cX2_init 15 = .ok (.newarray .int, 2) := by decide +kernel
theorem dc_X2_17 : decode cX2_init 17 = .ok (.putfield 15, 3) := by decide +kernel
theorem dc_X2_20 : decode cX2_init 20 = .ok (.aload_n 0, 1) := by decide +kernel
theorem dc_X2_21 : decode cX2_init 21 = .ok (.bipush 8, 2) := by decide +kernel
theorem dc_X2_23 : decode cX2_init 23 = .ok (.newarray .int, 2) := by decide +kernel
theorem dc_X2_25 : decode cX2_init 25 = .ok (.putfield 18, 3) := by decide +kernel
theorem dc_X2_28 : decode cX2_init 28 = .ok (.aload_n 0, 1) := by decide +kernel
theorem dc_X2_29 : decode cX2_init 29 = .ok (.bipush 8, 2) := by decide +kernel
theorem dc_X2_31 : decode cX2_init 31 = .ok (.newarray .int, 2) := by decide +kernel
theorem dc_X2_33 : decode cX2_init 33 = .ok (.putfield 21, 3) := by decide +kernel
theorem dc_X2_36 : decode cX2_init 36 = .ok (.aload_n 0, 1) := by decide +kernel
theorem dc_X2_37 : decode cX2_init 37 = .ok (.bipush 20, 2) := by decide +kernel
theorem dc_X2_39 : decode cX2_init 39 = .ok (.newarray .int, 2) := by decide +kernel
theorem dc_X2_41 : decode cX2_init 41 = .ok (.putfield 24, 3) := by decide +kernel
theorem dc_X2_44 : decode cX2_init 44 = .ok (.return_, 1) := by decide +kernel
set_option maxHeartbeats 4000000 in
set_option maxRecDepth 20000 in
theorem ct_X2 : CtC yX2_init cX2_init 1 2 1 20 5 52 := by
  refine CtC.intro (plainFor_of_name (by decide +kernel)) rfl (Nat.le_of_ble_eq_true rfl) ?_
  intro p l e R s m args below meth c D I A a0 ls QQ X r1 r2 r3 r4 fin hP hD hl
  have hx := X.1
  have hb := X.2.1
  have hS : va_S A s.heap s.heap [] := va_S.rf
  have hP : va_P D clsU [(a0, .inr (2, [.int 0, .null, .null, .null, .null, .null]))] s.heap := hP
  have hD : va_D A [(a0, .inr (2, [.int 0, .null, .null, .null, .null, .null]))] := hD
  refine lv_aload_n hx hb dc_X2_0 rfl (lv_at hl 0 rfl) ?_
  refine k_objI X hl.1 (Nat.le_trans (Nat.le_of_ble_eq_true rfl) r1) (Nat.le_trans (Nat.le_of_ble_eq_true rfl) r2) (wsG_of (i := 231) (by decide +kernel) rfl) dc_X2_1 ?_
  refine lv_aload_n hx hb dc_X2_4 rfl (lv_at hl 0 rfl) ?_
  refine lv_bipush (v := 8) hx hb dc_X2_5 (by decide) ?_
  refine k_newI X hP hD hS (by decide) (N := 8) rfl (by decide) (Nat.le_trans (Nat.le_of_ble_eq_true rfl) r3) (Nat.le_trans (Nat.le_of_ble_eq_true rfl) r4) dc_X2_7 (fun q0 H hP hD hS => ?_)
  have hP : va_P D clsU ([(a0, .inr (2, [.int 0, .null, .null, .null, .null, .null])), (q0, .inl (I.1, 8, .inl (fun _ => 0)))]) H := hP
  have hD : va_D A ([(a0, .inr (2, [.int 0, .null, .null, .null, .null, .null])), (q0, .inl (I.1, 8, .inl (fun _ => 0)))]) := hD
  refine k_putF X (kk := 1) ⟨RX2, TX2, 6, rfl, by decide, wsG_of (i := 234) (by decide +kernel) rfl⟩ (fun _ _ _ h => by cases h; exact ⟨rfl, rfl⟩) hP hD hS rfl rfl (Nat.le_of_ble_eq_true rfl) dc_X2_9 (fun H locs hP hD hS => ?_)
  have hP : va_P D clsU ([(a0, .inr (2, [.int 0, .ref q0, .null, .null, .null, .null])), (q0, .inl (I.1, 8, .inl (fun _ => 0)))]) H := hP
  have hD : va_D A ([(a0, .inr (2, [.int 0, .ref q0, .null, .null, .null, .null])), (q0, .inl (I.1, 8, .inl (fun _ => 0)))]) := hD
  refine lv_aload_n hx hb dc_X2_12 rfl (lv_at hl 0 rfl) ?_
  refine lv_bipush (v := 8) hx hb dc_X2_13 (by decide) ?_
  refine k_newI X hP hD hS (by decide) (N := 8) rfl (by decide) (Nat.le_trans (Nat.le_of_ble_eq_true rfl) r3) (Nat.le_trans (Nat.le_of_ble_eq_true rfl) r4) dc_X2_15 (fun q1 H hP hD hS => ?_)
  have hP : va_P D clsU ([(a0, .inr (2, [.int 0, .ref q0, .null, .null, .null, .null])), (q0, .inl (I.1, 8, .inl (fun _ => 0))), (q1, .inl (I.1, 8, .inl (fun _ => 0)))]) H := hP
  have hD : va_D A ([(a0, .inr (2, [.int 0, .ref q0, .null, .null, .null, .null])), (q0, .inl (I.1, 8, .inl (fun _ => 0))), (q1, .inl (I.1, 8, .inl (fun _ => 0)))]) := hD
  refine k_putF X (kk := 2) ⟨RX2, TX2, 6, rfl, by decide, wsG_of (i := 236) (by decide +kernel) rfl⟩ (fun _ _ _ h => by cases h; exact ⟨rfl, rfl⟩) hP hD hS rfl rfl (Nat.le_of_ble_eq_true rfl) dc_X2_17 (fun H locs hP hD hS => ?_)
  have hP : va_P D clsU ([(a0, .inr (2, [.int 0, .ref q0, .ref q1, .null, .null, .null])), (q0, .inl (I.1, 8, .inl (fun _ => 0))), (q1, .inl (I.1, 8, .inl (fun _ => 0)))]) H := hP
  have hD : va_D A ([(a0, .inr (2, [.int 0, .ref q0, .ref q1, .null, .null, .null])), (q0, .inl (I.1, 8, .inl (fun _ => 0))), (q1, .inl (I.1, 8, .inl (fun _ => 0)))]) := hD
  refine lv_aload_n hx hb dc_X2_20 rfl (lv_at hl 0 rfl) ?_
  refine lv_bipush (v := 8) hx hb dc_X2_21 (by decide) ?_
  refine k_newI X hP hD hS (by decide) (N := 8) rfl (by decide) (Nat.le_trans (Nat.le_of_ble_eq_true rfl) r3) (Nat.le_trans (Nat.le_of_ble_eq_true rfl) r4) dc_X2_23 (fun q2 H hP hD hS => ?_)
  have hP : va_P D clsU ([(a0, .inr (2, [.int 0, .ref q0, .ref q1, .null, .null, .null])), (q0, .inl (I.1, 8, .inl (fun _ => 0))), (q1, .inl (I.1, 8, .inl (fun _ => 0))), (q2, .inl (I.1, 8, .inl (fun _ => 0)))]) H := hP
  have hD : va_D A ([(a0, .inr (2, [.int 0, .ref q0, .ref q1, .null, .null, .null])), (q0, .inl (I.1, 8, .inl (fun _ => 0))), (q1, .inl (I.1, 8, .inl (fun _ => 0))), (q2, .inl (I.1, 8, .inl (fun _ => 0)))]) := hD
  refine k_putF X (kk := 3) ⟨RX2, TX2, 6, rfl, by decide, wsG_of (i := 237) (by decide +kernel) rfl⟩ (fun _ _ _ h => by cases h; exact ⟨rfl, rfl⟩) hP hD hS rfl rfl (Nat.le_of_ble_eq_true rfl) dc_X2_25 (fun H locs hP hD hS => ?_)
  have hP : va_P D clsU ([(a0, .inr (2, [.int 0, .ref q0, .ref q1, .ref q2, .null, .null])), (q0, .inl (I.1, 8, .inl (fun _ => 0))), (q1, .inl (I.1, 8, .inl (fun _ => 0))), (q2, .inl (I.1, 8, .inl (fun _ => 0)))]) H := hP
  have hD : va_D A ([(a0, .inr (2, [.int 0, .ref q0, .ref q1, .ref q2, .null, .null])), (q0, .inl (I.1, 8, .inl (fun _ => 0))), (q1, .inl (I.1, 8, .inl (fun _ => 0))), (q2, .inl (I.1, 8, .inl (fun _ => 0)))]) := hD
  refine lv_aload_n hx hb dc_X2_28 rfl (lv_at hl 0 rfl) ?_
  refine lv_bipush (v := 8) hx hb dc_X2_29 (by decide) ?_
  refine k_newI X hP hD hS (by decide) (N := 8) rfl (by decide) (Nat.le_trans (Nat.le_of_ble_eq_true rfl) r3) (Nat.le_trans (Nat.le_of_ble_eq_true rfl) r4) dc_X2_31 (fun q3 H hP hD hS => ?_)
  have hP : va_P D clsU ([(a0, .inr (2, [.int 0, .ref q0, .ref q1, .ref q2, .null, .null])), (q0, .inl (I.1, 8, .inl (fun _ => 0))), (q1, .inl (I.1, 8, .inl (fun _ => 0))), (q2, .inl (I.1, 8, .inl (fun _ => 0))), (q3, .inl (I.1, 8, .inl (fun _ => 0)))]) H := hP
  have hD : va_D A ([(a0, .inr (2, [.int 0, .ref q0, .ref q1, .ref q2, .null, .null])), (q0, .inl (I.1, 8, .inl (fun _ => 0))), (q1, .inl (I.1, 8, .inl (fun _ => 0))), (q2, .inl (I.1, 8, .inl (fun _ => 0))), (q3, .inl (I.1, 8, .inl (fun _ => 0)))]) := hD
  refine k_putF X (kk := 4) ⟨RX2, TX2, 6, rfl, by decide, wsG_of (i := 238) (by decide +kernel) rfl⟩ (fun _ _ _ h => by cases h; exact ⟨rfl, rfl⟩) hP hD hS rfl rfl (Nat.le_of_ble_eq_true rfl) dc_X2_33 (fun H locs hP hD hS => ?_)
  have hP : va_P D clsU ([(a0, .inr (2, [.int 0, .ref q0, .ref q1, .ref q2, .ref q3, .null])), (q0, .inl (I.1, 8, .inl (fun _ => 0))), (q1, .inl (I.1, 8, .inl (fun _ => 0))), (q2, .inl (I.1, 8, .inl (fun _ => 0))), (q3, .inl (I.1, 8, .inl (fun _ => 0)))]) H := hP
  have hD : va_D A ([(a0, .inr (2, [.int 0, .ref q0, .ref q1, .ref q2, .ref q3, .null])), (q0, .inl (I.1, 8, .inl (fun _ => 0))), (q1, .inl (I.1, 8, .inl (fun _ => 0))), (q2, .inl (I.1, 8, .inl (fun _ => 0))), (q3, .inl (I.1, 8, .inl (fun _ => 0)))]) := hD
  refine lv_aload_n hx hb dc_X2_36 rfl (lv_at hl 0 rfl) ?_
  refine lv_bipush (v := 20) hx hb dc_X2_37 (by decide) ?_
  refine k_newI X hP hD hS (by decide) (N := 20) rfl (by decide) (Nat.le_trans (Nat.le_of_ble_eq_true rfl) r3) (Nat.le_trans (Nat.le_of_ble_eq_true rfl) r4) dc_X2_39 (fun q4 H hP hD hS => ?_)
  have hP : va_P D clsU ([(a0, .inr (2, [.int 0, .ref q0, .ref q1, .ref q2, .ref q3, .null])), (q0, .inl (I.1, 8, .inl (fun _ => 0))), (q1, .inl (I.1, 8, .inl (fun _ => 0))), (q2, .inl (I.1, 8, .inl (fun _ => 0))), (q3, .inl (I.1, 8, .inl (fun _ => 0))), (q4, .inl (I.1, 20, .inl (fun _ => 0)))]) H := hP
  have hD : va_D A ([(a0, .inr (2, [.int 0, .ref q0, .ref q1, .ref q2, .ref q3, .null])), (q0, .inl (I.1, 8, .inl (fun _ => 0))), (q1, .inl (I.1, 8, .inl (fun _ => 0))), (q2, .inl (I.1, 8, .inl (fun _ => 0))), (q3, .inl (I.1, 8, .inl (fun _ => 0))), (q4, .inl (I.1, 20, .inl (fun _ => 0)))]) := hD
  refine k_putF X (kk := 5) ⟨RX2, TX2, 6, rfl, by decide, wsG_of (i := 239) (by decide +kernel) rfl⟩ (fun _ _ _ h => by cases h; exact ⟨rfl, rfl⟩) hP hD hS rfl rfl (Nat.le_of_ble_eq_true rfl) dc_X2_41 (fun H locs hP hD hS => ?_)
  have hP : va_P D clsU ([(a0, .inr (2, [.int 0, .ref q0, .ref q1, .ref q2, .ref q3, .ref q4])), (q0, .inl (I.1, 8, .inl (fun _ => 0))), (q1, .inl (I.1, 8, .inl (fun _ => 0))), (q2, .inl (I.1, 8, .inl (fun _ => 0))), (q3, .inl (I.1, 8, .inl (fun _ => 0))), (q4, .inl (I.1, 20, .inl (fun _ => 0)))]) H := hP
  have hD : va_D A ([(a0, .inr (2, [.int 0, .ref q0, .ref q1, .ref q2, .ref q3, .ref q4])), (q0, .inl (I.1, 8, .inl (fun _ => 0))), (q1, .inl (I.1, 8, .inl (fun _ => 0))), (q2, .inl (I.1, 8, .inl (fun _ => 0))), (q3, .inl (I.1, 8, .inl (fun _ => 0))), (q4, .inl (I.1, 20, .inl (fun _ => 0)))]) := hD
  exact fin _ _ _ (adL a0 [(1, q0), (2, q1), (3, q2), (4, q3), (5, q4)]) 44 dc_X2_44 rfl hP hD hS
theorem dc_X3_0 : decode cX3_init 0 = .ok (.aload_n 0, 1) := by decide +kernel
theorem dc_X3_1 : decode cX3_init 1 = .ok (.invokespecial 3, 3) := by decide +kernel
theorem dc_X3_4 : decode cX3_init 4 = .ok (.aload_n 0, 1) := by decide +kernel
theorem dc_X3_5 : decode cX3_init 5 = .ok (.sipush 200, 3) := by decide +kernel
theorem dc_X3_8 : decode cX3_init 8 = .ok (.newarray .int, 2) := by decide +kernel
theorem dc_X3_10 : decode cX3_init 10 = .ok (.putfield 11, 3) := by decide +kernel
theorem dc_X3_13 : decode cX3_init 13 = .ok (.aload_n 0, 1) := by decide +kernel
theorem dc_X3_14 : decode cX3_init 14 = .ok (.bipush 7, 2) := by decide +kernel
theorem dc_X3_16 : decode cX3_init 16 = .ok (.newarray .int, 2) := by decide +kernel
theorem dc_X3_18 : decode cX3_init 18 = .ok (.putfield 17, 3) := by decide +kernel
theorem dc_X3_21 : decode cX3_init 21 = .ok (.return_, 1) := by decide +kernel
set_option maxHeartbeats 4000000 in
set_option maxRecDepth 20000 in
theorem ct_X3 : CtC yX3_init cX3_init 1 3 1 20 2 207 := by
  refine CtC.intro (plainFor_of_name (by decide +kernel)) rfl (Nat.le_of_ble_eq_true rfl) ?_
  intro p l e R s m args below meth c D I A a0 ls QQ X r1 r2 r3 r4 fin hP hD hl
  have hx := X.1
  have hb := X.2.1
  have hS : va_S A s.heap s.heap [] := va_S.rf
  have hP : va_P D clsU [(a0, .inr (3, [.null, .null, .int 0, .int 0, .int 0, .int 0, .int 0]))] s.heap := hP
  have hD : va_D A [(a0, .inr (3, [.null, .null, .int 0, .int 0, .int 0, .int 0, .int 0]))] := hD
  refine lv_aload_n hx hb dc_X3_0 rfl (lv_at hl 0 rfl) ?_
  refine k_objI X hl.1 (Nat.le_trans (Nat.le_of_ble_eq_true rfl) r1) (Nat.le_trans (Nat.le_of_ble_eq_true rfl) r2) (wsG_of (i := 119) (by decide +kernel) rfl) dc_X3_1 ?_
  refine lv_aload_n hx hb dc_X3_4 rfl (lv_at hl 0 rfl) ?_
  refine lv_sipush (v := 200) hx hb dc_X3_5 (by decide) ?_
  refine k_newI X hP hD hS (by decide) (N := 200) rfl (by decide) (Nat.le_trans (Nat.le_of_ble_eq_true rfl) r3) (Nat.le_trans (Nat.le_of_ble_eq_true rfl) r4) dc_X3_8 (fun q0 H hP hD hS => ?_)
  have hP : va_P D clsU ([(a0, .inr (3, [.null, .null, .int 0, .int 0, .int 0, .int 0, .int 0])), (q0, .inl (I.1, 200, .inl (fun _ => 0)))]) H := hP
  have hD : va_D A ([(a0, .inr (3, [.null, .null, .int 0, .int 0, .int 0, .int 0, .int 0])), (q0, .inl (I.1, 200, .inl (fun _ => 0)))]) := hD
  refine k_putF X (kk := 0) ⟨RX3, TX3, 7, rfl, by decide, wsG_of (i := 120) (by decide +kernel) rfl⟩ (fun _ _ _ h => by cases h; exact ⟨rfl, rfl⟩) hP hD hS rfl rfl (Nat.le_of_ble_eq_true rfl) dc_X3_10 (fun H locs hP hD hS => ?_)
  have hP : va_P D clsU ([(a0, .inr (3, [.ref q0, .null, .int 0, .int 0, .int 0, .int 0, .int 0])), (q0, .inl (I.1, 200, .inl (fun _ => 0)))]) H := hP
  have hD : va_D A ([(a0, .inr (3, [.ref q0, .null, .int 0, .int 0, .int 0, .int 0, .int 0])), (q0, .inl (I.1, 200, .inl (fun _ => 0)))]) := hD
  refine lv_aload_n hx hb dc_X3_13 rfl (lv_at hl 0 rfl) ?_
  refine lv_bipush (v := 7) hx hb dc_X3_14 (by decide) ?_
  refine k_newI X hP hD hS (by decide) (N := 7) rfl (by decide) (Nat.le_trans (Nat.le_of_ble_eq_true rfl) r3) (Nat.le_trans (Nat.le_of_ble_eq_true rfl) r4) dc_X3_16 (fun q1 H hP hD hS => ?_)
  have hP : va_P D clsU ([(a0, .inr (3, [.ref q0, .null, .int 0, .int 0, .int 0, .int 0, .int 0])), (q0, .inl (I.1, 200, .inl (fun _ => 0))), (q1, .inl (I.1, 7, .inl (fun _ => 0)))]) H := hP
  have hD : va_D A ([(a0, .inr (3, [.ref q0, .null, .int 0, .int 0, .int 0, .int 0, .int 0])), (q0, .inl (I.1, 200, .inl (fun _ => 0))), (q1, .inl (I.1, 7, .inl (fun _ => 0)))]) := hD
  refine k_putF X (kk := 1) ⟨RX3, TX3, 7, rfl, by decide, wsG_of (i := 121) (by decide +kernel) rfl⟩ (fun _ _ _ h => by cases h; exact ⟨rfl, rfl⟩) hP hD hS rfl rfl (Nat.le_of_ble_eq_true rfl) dc_X3_18 (fun H locs hP hD hS => ?_)
  have hP : va_P D clsU ([(a0, .inr (3, [.ref q0, .ref q1, .int 0, .int 0, .int 0, .int 0, .int 0])), (q0, .inl (I.1, 200, .inl (fun _ => 0))), (q1, .inl (I.1, 7, .inl (fun _ => 0)))]) H := hP
  have hD : va_D A ([(a0, .inr (3, [.ref q0, .ref q1, .int 0, .int 0, .int 0, .int 0, .int 0])), (q0, .inl (I.1, 200, .inl (fun _ => 0))), (q1, .inl (I.1, 7, .inl (fun _ => 0)))]) := hD
  exact fin _ _ _ (adL a0 [(0, q0), (1, q1)]) 21 dc_X3_21 rfl hP hD hS
theorem dc_X5_0 : decode cX5_init 0 = .ok (.aload_n 0, 1) := by decide +kernel
theorem dc_X5_1 : decode cX5_init 1 = .ok (.invokespecial 3, 3) := by decide +kernel
theorem dc_X5_4 : decode cX5_init 4 = .ok (.aload_n 0, 1) := by decide +kernel
theorem dc_X5_5 : decode cX5_init 5 = .ok (.bipush 6, 2) := by decide +kernel
theorem dc_X5_7 : decode cX5_init 7 = .ok (.newarray .int, 2) := by decide +kernel
theorem dc_X5_9 : decode cX5_init 9 = .ok (.putfield 9, 3) := by decide +kernel
theorem dc_X5_12 : decode cX5_init 12 = .ok (.aload_n 0, 1) := by decide +kernel
theorem dc_X5_13 : decode cX5_init 13 = .ok (.bipush 6, 2) := by decide +kernel
theorem dc_X5_15 : decode cX5_init 15 = .ok (.newarray .boolean, 2) := by decide +kernel
theorem dc_X5_17 : decode cX5_init 17 = .ok (.putfield 15, 3) := by decide +kernel
theorem dc_X5_20 : decode cX5_init 20 = .ok (.aload_n 0, 1) := by decide +kernel
theorem dc_X5_21 : decode cX5_init 21 = .ok (.bipush 6, 2) := by decide +kernel
theorem dc_X5_23 : decode cX5_init 23 = .ok (.newarray .int, 2) := by decide +kernel
theorem dc_X5_25 : decode cX5_init 25 = .ok (.putfield 19, 3) := by decide +kernel
theorem dc_X5_28 : decode cX5_init 28 = .ok (.aload_n 0, 1) := by decide +kernel
theorem dc_X5_29 : decode cX5_init 29 = .ok (.bipush 6, 2) := by decide +kernel
theorem dc_X5_31 : decode cX5_init 31 = .ok (.newarray .int, 2) := by decide +kernel
theorem dc_X5_33 : decode cX5_init 33 = .ok (.putfield 22, 3) := by decide +kernel
theorem dc_X5_36 : decode cX5_init 36 = .ok (.aload_n 0, 1) := by decide +kernel
theorem dc_X5_37 : decode cX5_init 37 = .ok (.bipush 6, 2) := by decide +kernel
theorem dc_X5_39 : decode cX5_init 39 = .ok (.newarray .int, 2) := by decide +kernel
theorem dc_X5_41 : decode cX5_init 41 = .ok (.putfield 25, 3) := by decide +kernel
theorem dc_X5_44 : decode cX5_init 44 = .ok (.aload_n 0, 1) := by decide +kernel
theorem dc_X5_45 : decode cX5_init 45 = .ok (.getfield 9, 3) := by decide +kernel
theorem dc_X5_48 : decode cX5_init 48 = .ok (.iconst (-1), 1) := by decide +kernel
theorem dc_X5_49 : decode cX5_init 49 = .ok (.invokestatic 28, 3) := by decide +kernel
theorem dc_X5_52 : decode cX5_init 52 = .ok (.return_, 1) := by decide +kernel
set_option maxHeartbeats 4000000 in
set_option maxRecDepth 20000 in
theorem ct_X5 : CtC yX5_init cX5_init 1 5 1 23 5 30 := by
  refine CtC.intro (plainFor_of_name (by decide +kernel)) rfl (Nat.le_of_ble_eq_true rfl) ?_
  intro p l e R s m args below meth c D I A a0 ls QQ X r1 r2 r3 r4 fin hP hD hl
  have hx := X.1
  have hb := X.2.1
  have hS : va_S A s.heap s.heap [] := va_S.rf
  have hP : va_P D clsU [(a0, .inr (5, [.int 0, .int 0, .int 0, .null, .null, .null, .null, .null]))] s.heap := hP
  have hD : va_D A [(a0, .inr (5, [.int 0, .int 0, .int 0, .null, .null, .null, .null, .null]))] := hD
  refine lv_aload_n hx hb dc_X5_0 rfl (lv_at hl 0 rfl) ?_
  refine k_objI X hl.1 (Nat.le_trans (Nat.le_of_ble_eq_true rfl) r1) (Nat.le_trans (Nat.le_of_ble_eq_true rfl) r2) (wsG_of (i := 149) (by decide +kernel) rfl) dc_X5_1 ?_
  refine lv_aload_n hx hb dc_X5_4 rfl (lv_at hl 0 rfl) ?_
  refine lv_bipush (v := 6) hx hb dc_X5_5 (by decide) ?_
  refine k_newI X hP hD hS (by decide) (N := 6) rfl (by decide) (Nat.le_trans (Nat.le_of_ble_eq_true rfl) r3) (Nat.le_trans (Nat.le_of_ble_eq_true rfl) r4) dc_X5_7 (fun q0 H hP hD hS => ?_)
  have hP : va_P D clsU ([(a0, .inr (5, [.int 0, .int 0, .int 0, .null, .null, .null, .null, .null])), (q0, .inl (I.1, 6, .inl (fun _ => 0)))]) H := hP
  have hD : va_D A ([(a0, .inr (5, [.int 0, .int 0, .int 0, .null, .null, .null, .null, .null])), (q0, .inl (I.1, 6, .inl (fun _ => 0)))]) := hD
  refine k_putF X (kk := 3) ⟨RX5, TX5, 8, rfl, by decide, wsG_of (i := 158) (by decide +kernel) rfl⟩ (fun _ _ _ h => by cases h; exact ⟨rfl, rfl⟩) hP hD hS rfl rfl (Nat.le_of_ble_eq_true rfl) dc_X5_9 (fun H locs hP hD hS => ?_)
  have hP : va_P D clsU ([(a0, .inr (5, [.int 0, .int 0, .int 0, .ref q0, .null, .null, .null, .null])), (q0, .inl (I.1, 6, .inl (fun _ => 0)))]) H := hP
  have hD : va_D A ([(a0, .inr (5, [.int 0, .int 0, .int 0, .ref q0, .null, .null, .null, .null])), (q0, .inl (I.1, 6, .inl (fun _ => 0)))]) := hD
  refine lv_aload_n hx hb dc_X5_12 rfl (lv_at hl 0 rfl) ?_
  refine lv_bipush (v := 6) hx hb dc_X5_13 (by decide) ?_
  refine k_newZ X hP hD hS (by decide) (N := 6) rfl (by decide) (Nat.le_trans (Nat.le_of_ble_eq_true rfl) r3) (Nat.le_trans (Nat.le_of_ble_eq_true rfl) r4) dc_X5_15 (fun q1 H hP hD hS => ?_)
  have hP : va_P D clsU ([(a0, .inr (5, [.int 0, .int 0, .int 0, .ref q0, .null, .null, .null, .null])), (q0, .inl (I.1, 6, .inl (fun _ => 0))), (q1, .inl (I.2.1, 6, .inl (fun _ => 0)))]) H := hP
  have hD : va_D A ([(a0, .inr (5, [.int 0, .int 0, .int 0, .ref q0, .null, .null, .null, .null])), (q0, .inl (I.1, 6, .inl (fun _ => 0))), (q1, .inl (I.2.1, 6, .inl (fun _ => 0)))]) := hD
  refine k_putF X (kk := 4) ⟨RX5, TX5, 8, rfl, by decide, wsG_of (i := 161) (by decide +kernel) rfl⟩ (fun _ _ _ h => by cases h; exact ⟨rfl, rfl⟩) hP hD hS rfl rfl (Nat.le_of_ble_eq_true rfl) dc_X5_17 (fun H locs hP hD hS => ?_)
  have hP : va_P D clsU ([(a0, .inr (5, [.int 0, .int 0, .int 0, .ref q0, .ref q1, .null, .null, .null])), (q0, .inl (I.1, 6, .inl (fun _ => 0))), (q1, .inl (I.2.1, 6, .inl (fun _ => 0)))]) H := hP
  have hD : va_D A ([(a0, .inr (5, [.int 0, .int 0, .int 0, .ref q0, .ref q1, .null, .null, .null])), (q0, .inl (I.1, 6, .inl (fun _ => 0))), (q1, .inl (I.2.1, 6, .inl (fun _ => 0)))]) := hD
  refine lv_aload_n hx hb dc_X5_20 rfl (lv_at hl 0 rfl) ?_
  refine lv_bipush (v := 6) hx hb dc_X5_21 (by decide) ?_
  refine k_newI X hP hD hS (by decide) (N := 6) rfl (by decide) (Nat.le_trans (Nat.le_of_ble_eq_true rfl) r3) (Nat.le_trans (Nat.le_of_ble_eq_true rfl) r4) dc_X5_23 (fun q2 H hP hD hS => ?_)
  have hP : va_P D clsU ([(a0, .inr (5, [.int 0, .int 0, .int 0, .ref q0, .ref q1, .null, .null, .null])), (q0, .inl (I.1, 6, .inl (fun _ => 0))), (q1, .inl (I.2.1, 6, .inl (fun _ => 0))), (q2, .inl (I.1, 6, .inl (fun _ => 0)))]) H := hP
  have hD : va_D A ([(a0, .inr (5, [.int 0, .int 0, .int 0, .ref q0, .ref q1, .null, .null, .null])), (q0, .inl (I.1, 6, .inl (fun _ => 0))), (q1, .inl (I.2.1, 6, .inl (fun _ => 0))), (q2, .inl (I.1, 6, .inl (fun _ => 0)))]) := hD
  refine k_putF X (kk := 5) ⟨RX5, TX5, 8, rfl, by decide, wsG_of (i := 163) (by decide +kernel) rfl⟩ (fun _ _ _ h => by cases h; exact ⟨rfl, rfl⟩) hP hD hS rfl rfl (Nat.le_of_ble_eq_true rfl) dc_X5_25 (fun H locs hP hD hS => ?_)
  have hP : va_P D clsU ([(a0, .inr (5, [.int 0, .int 0, .int 0, .ref q0, .ref q1, .ref q2, .null, .null])), (q0, .inl (I.1, 6, .inl (fun _ => 0))), (q1, .inl (I.2.1, 6, .inl (fun _ => 0))), (q2, .inl (I.1, 6, .inl (fun _ => 0)))]) H := hP
  have hD : va_D A ([(a0, .inr (5, [.int 0, .int 0, .int 0, .ref q0, .ref q1, .ref q2, .null, .null])), (q0, .inl (I.1, 6, .inl (fun _ => 0))), (q1, .inl (I.2.1, 6, .inl (fun _ => 0))), (q2, .inl (I.1, 6, .inl (fun _ => 0)))]) := hD
  refine lv_aload_n hx hb dc_X5_28 rfl (lv_at hl 0 rfl) ?_
  refine lv_bipush (v := 6) hx hb dc_X5_29 (by decide) ?_
  refine k_newI X hP hD hS (by decide) (N := 6) rfl (by decide) (Nat.le_trans (Nat.le_of_ble_eq_true rfl) r3) (Nat.le_trans (Nat.le_of_ble_eq_true rfl) r4) dc_X5_31 (fun q3 H hP hD hS => ?_)
  have hP : va_P D clsU ([(a0, .inr (5, [.int 0, .int 0, .int 0, .ref q0, .ref q1, .ref q2, .null, .null])), (q0, .inl (I.1, 6, .inl (fun _ => 0))), (q1, .inl (I.2.1, 6, .inl (fun _ => 0))), (q2, .inl (I.1, 6, .inl (fun _ => 0))), (q3, .inl (I.1, 6, .inl (fun _ => 0)))]) H := hP
  have hD : va_D A ([(a0, .inr (5, [.int 0, .int 0, .int 0, .ref q0, .ref q1, .ref q2, .null, .null])), (q0, .inl (I.1, 6, .inl (fun _ => 0))), (q1, .inl (I.2.1, 6, .inl (fun _ => 0))), (q2, .inl (I.1, 6, .inl (fun _ => 0))), (q3, .inl (I.1, 6, .inl (fun _ => 0)))]) := hD
  refine k_putF X (kk := 6) ⟨RX5, TX5, 8, rfl, by decide, wsG_of (i := 167) (by decide +kernel) rfl⟩ (fun _ _ _ h => by cases h; exact ⟨rfl, rfl⟩) hP hD hS rfl rfl (Nat.le_of_ble_eq_true rfl) dc_X5_33 (fun H locs hP hD hS => ?_)
  have hP : va_P D clsU ([(a0, .inr (5, [.int 0, .int 0, .int 0, .ref q0, .ref q1, .ref q2, .ref q3, .null])), (q0, .inl (I.1, 6, .inl (fun _ => 0))), (q1, .inl (I.2.1, 6, .inl (fun _ => 0))), (q2, .inl (I.1, 6, .inl (fun _ => 0))), (q3, .inl (I.1, 6, .inl (fun _ => 0)))]) H := hP
  have hD : va_D A ([(a0, .inr (5, [.int 0, .int 0, .int 0, .ref q0, .ref q1, .ref q2, .ref q3, .null])), (q0, .inl (I.1, 6, .inl (fun _ => 0))), (q1, .inl (I.2.1, 6, .inl (fun _ => 0))), (q2, .inl (I.1, 6, .inl (fun _ => 0))), (q3, .inl (I.1, 6, .inl (fun _ => 0)))]) := hD
  refine lv_aload_n hx hb dc_X5_36 rfl (lv_at hl 0 rfl) ?_
  refine lv_bipush (v := 6) hx hb dc_X5_37 (by decide) ?_
  refine k_newI X hP hD hS (by decide) (N := 6) rfl (by decide) (Nat.le_trans (Nat.le_of_ble_eq_true rfl) r3) (Nat.le_trans (Nat.le_of_ble_eq_true rfl) r4) dc_X5_39 (fun q4 H hP hD hS => ?_)
  have hP : va_P D clsU ([(a0, .inr (5, [.int 0, .int 0, .int 0, .ref q0, .ref q1, .ref q2, .ref q3, .null])), (q0, .inl (I.1, 6, .inl (fun _ => 0))), (q1, .inl (I.2.1, 6, .inl (fun _ => 0))), (q2, .inl (I.1, 6, .inl (fun _ => 0))), (q3, .inl (I.1, 6, .inl (fun _ => 0))), (q4, .inl (I.1, 6, .inl (fun _ => 0)))]) H := hP
  have hD : va_D A ([(a0, .inr (5, [.int 0, .int 0, .int 0, .ref q0, .ref q1, .ref q2, .ref q3, .null])), (q0, .inl (I.1, 6, .inl (fun _ => 0))), (q1, .inl (I.2.1, 6, .inl (fun _ => 0))), (q2, .inl (I.1, 6, .inl (fun _ => 0))), (q3, .inl (I.1, 6, .inl (fun _ => 0))), (q4, .inl (I.1, 6, .inl (fun _ => 0)))]) := hD
  refine k_putF X (kk := 7) ⟨RX5, TX5, 8, rfl, by decide, wsG_of (i := 170) (by decide +kernel) rfl⟩ (fun _ _ _ h => by cases h; exact ⟨rfl, rfl⟩) hP hD hS rfl rfl (Nat.le_of_ble_eq_true rfl) dc_X5_41 (fun H locs hP hD hS => ?_)
  have hP : va_P D clsU ([(a0, .inr (5, [.int 0, .int 0, .int 0, .ref q0, .ref q1, .ref q2, .ref q3, .ref q4])), (q0, .inl (I.1, 6, .inl (fun _ => 0))), (q1, .inl (I.2.1, 6, .inl (fun _ => 0))), (q2, .inl (I.1, 6, .inl (fun _ => 0))), (q3, .inl (I.1, 6, .inl (fun _ => 0))), (q4, .inl (I.1, 6, .inl (fun _ => 0)))]) H := hP
  have hD : va_D A ([(a0, .inr (5, [.int 0, .int 0, .int 0, .ref q0, .ref q1, .ref q2, .ref q3, .ref q4])), (q0, .inl (I.1, 6, .inl (fun _ => 0))), (q1, .inl (I.2.1, 6, .inl (fun _ => 0))), (q2, .inl (I.1, 6, .inl (fun _ => 0))), (q3, .inl (I.1, 6, .inl (fun _ => 0))), (q4, .inl (I.1, 6, .inl (fun _ => 0)))]) := hD
  refine lv_aload_n hx hb dc_X5_44 rfl (lv_at hl 0 rfl) ?_
  refine va_get (D := D) (cl := clsU) (tys := T3 I) (ci := 5) (v := .ref q0) (C := RX5) (T := TX5) (N := 8) hx hb X.2.2.2.2.1 iwX5 X.2.2.2.1 X.2.2.2.2.2.1 hP 0 rfl rfl 3 (by decide) (X.2.2.2.2.1 _ (wsG_of (i := 158) (by decide +kernel) rfl)) (fun _ h9 => h9) rfl dc_X5_45 ?_
  refine lv_iconst (v := -1) hx hb dc_X5_48 (by decide) ?_
  have hPc := hP.sub (ws' := [(q0, .inl (I.1, 6, .inl (fun _ => 0)))]) [1] rfl
  have hDc := hD.sub (ws' := [(q0, .inl (I.1, 6, .inl (fun _ => 0)))]) [1] (by decide) rfl
  have hFc := va_free (wc := [(q0, .inl (I.1, 6, .inl (fun _ => 0)))]) hD hS X.2.2.2.2.2.2.2.2 [1] rfl
  have hK := X.2.2.2.2.2.1
  refine va_callv (va_runS (As := [.ref q0, .int (-1)]) (rest := []) ⟨hx, hb, X.2.2.1, X.2.2.2.1, X.2.2.2.2.1⟩ (fillC (D := D) (I := I) l q0 H.size 6 (by decide) (fun _ => 0) (-1)) ⟨callB_of 2 X.2.2.2.2.1 (good_wsM ms_Ar_fill.1.1) rfl rfl rfl (X.2.2.2.2.1 _ ms_Ar_fill.1.2.1) (X.2.2.2.2.1 _ (wsG_of (i := 150) (by decide +kernel) rfl)) ms_Ar_fill.1.2.2 ⟨Nat.le_trans (Nat.le_of_ble_eq_true rfl) r1, Nat.le_trans (Nat.le_of_ble_eq_true rfl) r2⟩, X.2.2.2.2.1 _ ms_Ar_fill.2⟩ ⟨fun a U g mk z => ⟨z.1, z.2.1, z.2.2.1, va_K.moved (u := U) (U := U.calling g mk a) (Vm.Alike.refl U.vm) z.2.2.2.1, z.2.2.2.2⟩, fun U hU hW => ⟨rfl, by rw [hU], by rw [hU]; exact hPc, va_K.moved hW.alike hK, hDc.weaken (fun _ _ _ _ => trivial)⟩⟩ rfl rfl hl.1 rfl (lv_room (Nat.le_of_ble_eq_true rfl)) dc_X5_49 ⟨Nat.le_trans (Nat.le_of_ble_eq_true rfl) r3, Nat.le_trans (Nat.le_of_ble_eq_true rfl) r4⟩) hS (fun q _ h => hFc q h) hFc (fun u t H1 locs ht hvm hw hB hz1 hk1 hS => ?_)
  obtain ⟨hP1, hD1⟩ := hB
  rw [ht] at hP1
  obtain ⟨hP, hD⟩ := va_join (wr := [(a0, .inr (5, [.int 0, .int 0, .int 0, .ref q0, .ref q1, .ref q2, .ref q3, .ref q4])), (q1, .inl (I.2.1, 6, .inl (fun _ => 0))), (q2, .inl (I.1, 6, .inl (fun _ => 0))), (q3, .inl (I.1, 6, .inl (fun _ => 0))), (q4, .inl (I.1, 6, .inl (fun _ => 0)))]) hP hD [1] [0, 2, 3, 4, 5] rfl rfl (by decide) (by decide) hk1 hFc hP1 hD1
  have hP := hP.sub (ws' := [(a0, .inr (5, [.int 0, .int 0, .int 0, .ref q0, .ref q1, .ref q2, .ref q3, .ref q4])), (q0, .inl (I.1, 6, .inl (fun _ => -1))), (q1, .inl (I.2.1, 6, .inl (fun _ => 0))), (q2, .inl (I.1, 6, .inl (fun _ => 0))), (q3, .inl (I.1, 6, .inl (fun _ => 0))), (q4, .inl (I.1, 6, .inl (fun _ => 0)))]) [0, 5, 1, 2, 3, 4] rfl
  have hD := hD.sub (ws' := [(a0, .inr (5, [.int 0, .int 0, .int 0, .ref q0, .ref q1, .ref q2, .ref q3, .ref q4])), (q0, .inl (I.1, 6, .inl (fun _ => -1))), (q1, .inl (I.2.1, 6, .inl (fun _ => 0))), (q2, .inl (I.1, 6, .inl (fun _ => 0))), (q3, .inl (I.1, 6, .inl (fun _ => 0))), (q4, .inl (I.1, 6, .inl (fun _ => 0)))]) [0, 5, 1, 2, 3, 4] (by decide) rfl
  exact fin _ _ _ (adL a0 [(3, q0), (4, q1), (5, q2), (6, q3), (7, q4)]) 52 dc_X5_52 rfl hP hD hS
theorem dc_X7_0 : decode cX7_init 0 = .ok (.aload_n 0, 1) := by decide +kernel
theorem dc_X7_1 : decode cX7_init 1 = .ok (.invokespecial 1, 3) := by decide +kernel
theorem dc_X7_4 : decode cX7_init 4 = .ok (.aload_n 0, 1) := by decide +kernel
theorem dc_X7_5 : decode cX7_init 5 = .ok (.iconst 2, 1) := by decide +kernel
theorem dc_X7_6 : decode cX7_init 6 = .ok (.putfield 7, 3) := by decide +kernel
theorem dc_X7_9 : decode cX7_init 9 = .ok (.aload_n 0, 1) := by decide +kernel
theorem dc_X7_10 : decode cX7_init 10 = .ok (.bipush 6, 2) := by decide +kernel
theorem dc_X7_12 : decode cX7_init 12 = .ok (.putfield 13, 3) := by decide +kernel
theorem dc_X7_15 : decode cX7_init 15 = .ok (.aload_n 0, 1) := by decide +kernel
theorem dc_X7_16 : decode cX7_init 16 = .ok (.bipush 36, 2) := by decide +kernel
theorem dc_X7_18 : decode cX7_init 18 = .ok (.newarray .int, 2) := by decide +kernel
theorem dc_X7_20 : decode cX7_init 20 = .ok (.putfield 16, 3) := by decide +kernel
theorem dc_X7_23 : decode cX7_init 23 = .ok (.aload_n 0, 1) := by decide +kernel
theorem dc_X7_24 : decode cX7_init 24 = .ok (.bipush 60, 2) := by decide +kernel
theorem dc_X7_26 : decode cX7_init 26 = .ok (.newarray .int, 2) := by decide +kernel
theorem dc_X7_28 : decode cX7_init 28 = .ok (.putfield 20, 3) := by decide +kernel
theorem dc_X7_31 : decode cX7_init 31 = .ok (.aload_n 0, 1) := by decide +kernel
theorem dc_X7_32 : decode cX7_init 32 = .ok (.sipush 200, 3) := by decide +kernel
theorem dc_X7_35 : decode cX7_init 35 = .ok (.newarray .int, 2) := by decide +kernel
theorem dc_X7_37 : decode cX7_init 37 = .ok (.putfield 23, 3) := by decide +kernel
theorem dc_X7_40 : decode cX7_init 40 = .ok (.aload_n 0, 1) := by decide +kernel
theorem dc_X7_41 : decode cX7_init 41 = .ok (.bipush 64, 2) := by decide +kernel
theorem dc_X7_43 : decode cX7_init 43 = .ok (.newarray .int, 2) := by decide +kernel
theorem dc_X7_45 : decode cX7_init 45 = .ok (.putfield 26, 3) := by decide +kernel
theorem dc_X7_48 : decode cX7_init 48 = .ok (.aload_n 0, 1) := by decide +kernel
theorem dc_X7_49 : decode cX7_init 49 = .ok (.bipush 26, 2) := by decide +kernel
theorem dc_X7_51 : decode cX7_init 51 = .ok (.newarray .int, 2) := by decide +kernel
theorem dc_X7_53 : decode cX7_init 53 = .ok (.putfield 29, 3) := by decide +kernel
theorem dc_X7_56 : decode cX7_init 56 = .ok (.aload_n 0, 1) := by decide +kernel
theorem dc_X7_57 : decode cX7_init 57 = .ok (.bipush 26, 2) := by decide +kernel
theorem dc_X7_59 : decode cX7_init 59 = .ok (.newarray .int, 2) := by decide +kernel
theorem dc_X7_61 : decode cX7_init 61 = .ok (.putfield 32, 3) := by decide +kernel
theorem dc_X7_64 : decode cX7_init 64 = .ok (.aload_n 0, 1) := by decide +kernel
theorem dc_X7_65 : decode cX7_init 65 = .ok (.bipush 52, 2) := by decide +kernel
theorem dc_X7_67 : decode cX7_init 67 = .ok (.newarray .int, 2) := by decide +kernel
theorem dc_X7_69 : decode cX7_init 69 = .ok (.putfield 35, 3) := by decide +kernel
theorem dc_X7_72 : decode cX7_init 72 = .ok (.aload_n 0, 1) := by decide +kernel
theorem dc_X7_73 : decode cX7_init 73 = .ok (.iconst 2, 1) := by decide +kernel
theorem dc_X7_74 : decode cX7_init 74 = .ok (.newarray .boolean, 2) := by decide +kernel
theorem dc_X7_76 : decode cX7_init 76 = .ok (.putfield 38, 3) := by decide +kernel
theorem dc_X7_79 : decode cX7_init 79 = .ok (.aload_n 0, 1) := by decide +kernel
theorem dc_X7_80 : decode cX7_init 80 = .ok (.bipush 6, 2) := by decide +kernel
theorem dc_X7_82 : decode cX7_init 82 = .ok (.newarray .int, 2) := by decide +kernel
theorem dc_X7_84 : decode cX7_init 84 = .ok (.putfield 42, 3) := by decide +kernel
theorem dc_X7_87 : decode cX7_init 87 = .ok (.aload_n 0, 1) := by decide +kernel
theorem dc_X7_88 : decode cX7_init 88 = .ok (.sipush 360, 3) := by decide +kernel
theorem dc_X7_91 : decode cX7_init 91 = .ok (.newarray .int, 2) := by decide +kernel
theorem dc_X7_93 : decode cX7_init 93 = .ok (.putfield 45, 3) := by decide +kernel
theorem dc_X7_96 : decode cX7_init 96 = .ok (.aload_n 0, 1) := by decide +kernel
theorem dc_X7_97 : decode cX7_init 97 = .ok (.bipush 72, 2) := by decide +kernel
theorem dc_X7_99 : decode cX7_init 99 = .ok (.newarray .int, 2) := by decide +kernel
theorem dc_X7_101 : decode cX7_init 101 = .ok (.putfield 48, 3) := by decide +kernel
theorem dc_X7_104 : decode cX7_init 104 = .ok (.aload_n 0, 1) := by decide +kernel
theorem dc_X7_105 : decode cX7_init 105 = .ok (.bipush 24, 2) := by decide +kernel
theorem dc_X7_107 : decode cX7_init 107 = .ok (.newarray .int, 2) := by decide +kernel
theorem dc_X7_109 : decode cX7_init 109 = .ok (.putfield 51, 3) := by decide +kernel
theorem dc_X7_112 : decode cX7_init 112 = .ok (.aload_n 0, 1) := by decide +kernel
theorem dc_X7_113 : decode cX7_init 113 = .ok (.bipush 8, 2) := by decide +kernel
theorem dc_X7_115 : decode cX7_init 115 = .ok (.newarray .int, 2) := by decide +kernel
theorem dc_X7_117 : decode cX7_init 117 = .ok (.putfield 54, 3) := by decide +kernel
theorem dc_X7_120 : decode cX7_init 120 = .ok (.aload_n 0, 1) := by decide +kernel
theorem dc_X7_121 : decode cX7_init 121 = .ok (.bipush 20, 2) := by decide +kernel
theorem dc_X7_123 : decode cX7_init 123 = .ok (.newarray .int, 2) := by decide +kernel
theorem dc_X7_125 : decode cX7_init 125 = .ok (.putfield 57, 3) := by decide +kernel
theorem dc_X7_128 : decode cX7_init 128 = .ok (.aload_n 0, 1) := by decide +kernel
theorem dc_X7_129 : decode cX7_init 129 = .ok (.bipush 6, 2) := by decide +kernel
theorem dc_X7_131 : decode cX7_init 131 = .ok (.newarray .int, 2) := by decide +kernel
theorem dc_X7_133 : decode cX7_init 133 = .ok (.putfield 60, 3) := by decide +kernel
theorem dc_X7_136 : decode cX7_init 136 = .ok (.aload_n 0, 1) := by decide +kernel
theorem dc_X7_137 : decode cX7_init 137 = .ok (.sipush 324, 3) := by decide +kernel
theorem dc_X7_140 : decode cX7_init 140 = .ok (.newarray .int, 2) := by decide +kernel
theorem dc_X7_142 : decode cX7_init 142 = .ok (.putfield 63, 3) := by decide +kernel
theorem dc_X7_145 : decode cX7_init 145 = .ok (.return_, 1) := by decide +kernel
set_option maxHeartbeats 4000000 in
set_option maxRecDepth 20000 in
theorem ct_X7 : CtC yX7_init cX7_init 1 7 1 20 16 1286 := by
  refine CtC.intro (plainFor_of_name (by decide +kernel)) rfl (Nat.le_of_ble_eq_true rfl) ?_
  intro p l e R s m args below meth c D I A a0 ls QQ X r1 r2 r3 r4 fin hP hD hl
  have hx := X.1
  have hb := X.2.1
  have hS : va_S A s.heap s.heap [] := va_S.rf
  have hP : va_P D clsU [(a0, .inr (7, [.int 0, .int 0, .long 0, .int 0, .null, .null, .int 0, .null, .int 0, .int 0, .long 0, .int 0, .int 0, .int 0, .int 0, .null, .int 0, .int 0, .null, .null, .null, .null, .null, .null, .null, .int 0, .null, .null, .null, .null, .null]))] s.heap := hP
  have hD : va_D A [(a0, .inr (7, [.int 0, .int 0, .long 0, .int 0, .null, .null, .int 0, .null, .int 0, .int 0, .long 0, .int 0, .int 0, .int 0, .int 0, .null, .int 0, .int 0, .null, .null, .null, .null, .null, .null, .null, .int 0, .null, .null, .null, .null, .null]))] := hD
  refine lv_aload_n hx hb dc_X7_0 rfl (lv_at hl 0 rfl) ?_
  refine k_objI X hl.1 (Nat.le_trans (Nat.le_of_ble_eq_true rfl) r1) (Nat.le_trans (Nat.le_of_ble_eq_true rfl) r2) (wsG_of (i := 799) (by decide +kernel) rfl) dc_X7_1 ?_
  refine lv_aload_n hx hb dc_X7_4 rfl (lv_at hl 0 rfl) ?_
  refine lv_iconst (v := 2) hx hb dc_X7_5 (by decide) ?_
  refine k_put X (kk := 0) ⟨RX7, TX7, 31, rfl, by decide, wsG_of (i := 800) (by decide +kernel) rfl⟩ (fun _ _ _ h => by cases h; rfl) hP hD hS rfl rfl (Nat.le_of_ble_eq_true rfl) dc_X7_6 (fun H locs hP hD hS => ?_)
  have hP : va_P D clsU ([(a0, .inr (7, [.int 2, .int 0, .long 0, .int 0, .null, .null, .int 0, .null, .int 0, .int 0, .long 0, .int 0, .int 0, .int 0, .int 0, .null, .int 0, .int 0, .null, .null, .null, .null, .null, .null, .null, .int 0, .null, .null, .null, .null, .null]))]) H := hP
  have hD : va_D A ([(a0, .inr (7, [.int 2, .int 0, .long 0, .int 0, .null, .null, .int 0, .null, .int 0, .int 0, .long 0, .int 0, .int 0, .int 0, .int 0, .null, .int 0, .int 0, .null, .null, .null, .null, .null, .null, .null, .int 0, .null, .null, .null, .null, .null]))]) := hD
  refine lv_aload_n hx hb dc_X7_9 rfl (lv_at hl 0 rfl) ?_
  refine lv_bipush (v := 6) hx hb dc_X7_10 (by decide) ?_
  refine k_put X (kk := 1) ⟨RX7, TX7, 31, rfl, by decide, wsG_of (i := 801) (by decide +kernel) rfl⟩ (fun _ _ _ h => by cases h; rfl) hP hD hS rfl rfl (Nat.le_of_ble_eq_true rfl) dc_X7_12 (fun H locs hP hD hS => ?_)
  have hP : va_P D clsU ([(a0, .inr (7, [.int 2, .int 6, .long 0, .int 0, .null, .null, .int 0, .null, .int 0, .int 0, .long 0, .int 0, .int 0, .int 0, .int 0, .null, .int 0, .int 0, .null, .null, .null, .null, .null, .null, .null, .int 0, .null, .null, .null, .null, .null]))]) H := hP
  have hD : va_D A ([(a0, .inr (7, [.int 2, .int 6, .long 0, .int 0, .null, .null, .int 0, .null, .int 0, .int 0, .long 0, .int 0, .int 0, .int 0, .int 0, .null, .int 0, .int 0, .null, .null, .null, .null, .null, .null, .null, .int 0, .null, .null, .null, .null, .null]))]) := hD
  refine lv_aload_n hx hb dc_X7_15 rfl (lv_at hl 0 rfl) ?_
  refine lv_bipush (v := 36) hx hb dc_X7_16 (by decide) ?_
  refine k_newI X hP hD hS (by decide) (N := 36) rfl (by decide) (Nat.le_trans (Nat.le_of_ble_eq_true rfl) r3) (Nat.le_trans (Nat.le_of_ble_eq_true rfl) r4) dc_X7_18 (fun q0 H hP hD hS => ?_)
  have hP : va_P D clsU ([(a0, .inr (7, [.int 2, .int 6, .long 0, .int 0, .null, .null, .int 0, .null, .int 0, .int 0, .long 0, .int 0, .int 0, .int 0, .int 0, .null, .int 0, .int 0, .null, .null, .null, .null, .null, .null, .null, .int 0, .null, .null, .null, .null, .null])), (q0, .inl (I.1, 36, .inl (fun _ => 0)))]) H := hP
  have hD : va_D A ([(a0, .inr (7, [.int 2, .int 6, .long 0, .int 0, .null, .null, .int 0, .null, .int 0, .int 0, .long 0, .int 0, .int 0, .int 0, .int 0, .null, .int 0, .int 0, .null, .null, .null, .null, .null, .null, .null, .int 0, .null, .null, .null, .null, .null])), (q0, .inl (I.1, 36, .inl (fun _ => 0)))]) := hD
  refine k_putF X (kk := 4) ⟨RX7, TX7, 31, rfl, by decide, wsG_of (i := 804) (by decide +kernel) rfl⟩ (fun _ _ _ h => by cases h; exact ⟨rfl, rfl⟩) hP hD hS rfl rfl (Nat.le_of_ble_eq_true rfl) dc_X7_20 (fun H locs hP hD hS => ?_)
  have hP : va_P D clsU ([(a0, .inr (7, [.int 2, .int 6, .long 0, .int 0, .ref q0, .null, .int 0, .null, .int 0, .int 0, .long 0, .int 0, .int 0, .int 0, .int 0, .null, .int 0, .int 0, .null, .null, .null, .null, .null, .null, .null, .int 0, .null, .null, .null, .null, .null])), (q0, .inl (I.1, 36, .inl (fun _ => 0)))]) H := hP
  have hD : va_D A ([(a0, .inr (7, [.int 2, .int 6, .long 0, .int 0, .ref q0, .null, .int 0, .null, .int 0, .int 0, .long 0, .int 0, .int 0, .int 0, .int 0, .null, .int 0, .int 0, .null, .null, .null, .null, .null, .null, .null, .int 0, .null, .null, .null, .null, .null])), (q0, .inl (I.1, 36, .inl (fun _ => 0)))]) := hD
  refine lv_aload_n hx hb dc_X7_23 rfl (lv_at hl 0 rfl) ?_
  refine lv_bipush (v := 60) hx hb dc_X7_24 (by decide) ?_
  refine k_newI X hP hD hS (by decide) (N := 60) rfl (by decide) (Nat.le_trans (Nat.le_of_ble_eq_true rfl) r3) (Nat.le_trans (Nat.le_of_ble_eq_true rfl) r4) dc_X7_26 (fun q1 H hP hD hS => ?_)
  have hP : va_P D clsU ([(a0, .inr (7, [.int 2, .int 6, .long 0, .int 0, .ref q0, .null, .int 0, .null, .int 0, .int 0, .long 0, .int 0, .int 0, .int 0, .int 0, .null, .int 0, .int 0, .null, .null, .null, .null, .null, .null, .null, .int 0, .null, .null, .null, .null, .null])), (q0, .inl (I.1, 36, .inl (fun _ => 0))), (q1, .inl (I.1, 60, .inl (fun _ => 0)))]) H := hP
  have hD : va_D A ([(a0, .inr (7, [.int 2, .int 6, .long 0, .int 0, .ref q0, .null, .int 0, .null, .int 0, .int 0, .long 0, .int 0, .int 0, .int 0, .int 0, .null, .int 0, .int 0, .null, .null, .null, .null, .null, .null, .null, .int 0, .null, .null, .null, .null, .null])), (q0, .inl (I.1, 36, .inl (fun _ => 0))), (q1, .inl (I.1, 60, .inl (fun _ => 0)))]) := hD
  refine k_putF X (kk := 5) ⟨RX7, TX7, 31, rfl, by decide, wsG_of (i := 805) (by decide +kernel) rfl⟩ (fun _ _ _ h => by cases h; exact ⟨rfl, rfl⟩) hP hD hS rfl rfl (Nat.le_of_ble_eq_true rfl) dc_X7_28 (fun H locs hP hD hS => ?_)
  have hP : va_P D clsU ([(a0, .inr (7, [.int 2, .int 6, .long 0, .int 0, .ref q0, .ref q1, .int 0, .null, .int 0, .int 0, .long 0, .int 0, .int 0, .int 0, .int 0, .null, .int 0, .int 0, .null, .null, .null, .null, .null, .null, .null, .int 0, .null, .null, .null, .null, .null])), (q0, .inl (I.1, 36, .inl (fun _ => 0))), (q1, .inl (I.1, 60, .inl (fun _ => 0)))]) H := hP
  have hD : va_D A ([(a0, .inr (7, [.int 2, .int 6, .long 0, .int 0, .ref q0, .ref q1, .int 0, .null, .int 0, .int 0, .long 0, .int 0, .int 0, .int 0, .int 0, .null, .int 0, .int 0, .null, .null, .null, .null, .null, .null, .null, .int 0, .null, .null, .null, .null, .null])), (q0, .inl (I.1, 36, .inl (fun _ => 0))), (q1, .inl (I.1, 60, .inl (fun _ => 0)))]) := hD
  refine lv_aload_n hx hb dc_X7_31 rfl (lv_at hl 0 rfl) ?_
  refine lv_sipush (v := 200) hx hb dc_X7_32 (by decide) ?_
  refine k_newI X hP hD hS (by decide) (N := 200) rfl (by decide) (Nat.le_trans (Nat.le_of_ble_eq_true rfl) r3) (Nat.le_trans (Nat.le_of_ble_eq_true rfl) r4) dc_X7_35 (fun q2 H hP hD hS => ?_)
  have hP : va_P D clsU ([(a0, .inr (7, [.int 2, .int 6, .long 0, .int 0, .ref q0, .ref q1, .int 0, .null, .int 0, .int 0, .long 0, .int 0, .int 0, .int 0, .int 0, .null, .int 0, .int 0, .null, .null, .null, .null, .null, .null, .null, .int 0, .null, .null, .null, .null, .null])), (q0, .inl (I.1, 36, .inl (fun _ => 0))), (q1, .inl (I.1, 60, .inl (fun _ => 0))), (q2, .inl (I.1, 200, .inl (fun _ => 0)))]) H := hP
  have hD : va_D A ([(a0, .inr (7, [.int 2, .int 6, .long 0, .int 0, .ref q0, .ref q1, .int 0, .null, .int 0, .int 0, .long 0, .int 0, .int 0, .int 0, .int 0, .null, .int 0, .int 0, .null, .null, .null, .null, .null, .null, .null, .int 0, .null, .null, .null, .null, .null])), (q0, .inl (I.1, 36, .inl (fun _ => 0))), (q1, .inl (I.1, 60, .inl (fun _ => 0))), (q2, .inl (I.1, 200, .inl (fun _ => 0)))]) := hD
  refine k_putF X (kk := 7) ⟨RX7, TX7, 31, rfl, by decide, wsG_of (i := 807) (by decide +kernel) rfl⟩ (fun _ _ _ h => by cases h; exact ⟨rfl, rfl⟩) hP hD hS rfl rfl (Nat.le_of_ble_eq_true rfl) dc_X7_37 (fun H locs hP hD hS => ?_)
  have hP : va_P D clsU ([(a0, .inr (7, [.int 2, .int 6, .long 0, .int 0, .ref q0, .ref q1, .int 0, .ref q2, .int 0, .int 0, .long 0, .int 0, .int 0, .int 0, .int 0, .null, .int 0, .int 0, .null, .null, .null, .null, .null, .null, .null, .int 0, .null, .null, .null, .null, .null])), (q0, .inl (I.1, 36, .inl (fun _ => 0))), (q1, .inl (I.1, 60, .inl (fun _ => 0))), (q2, .inl (I.1, 200, .inl (fun _ => 0)))]) H := hP
  have hD : va_D A ([(a0, .inr (7, [.int 2, .int 6, .long 0, .int 0, .ref q0, .ref q1, .int 0, .ref q2, .int 0, .int 0, .long 0, .int 0, .int 0, .int 0, .int 0, .null, .int 0, .int 0, .null, .null, .null, .null, .null, .null, .null, .int 0, .null, .null, .null, .null, .null])), (q0, .inl (I.1, 36, .inl (fun _ => 0))), (q1, .inl (I.1, 60, .inl (fun _ => 0))), (q2, .inl (I.1, 200, .inl (fun _ => 0)))]) := hD
  refine lv_aload_n hx hb dc_X7_40 rfl (lv_at hl 0 rfl) ?_
  refine lv_bipush (v := 64) hx hb dc_X7_41 (by decide) ?_
  refine k_newI X hP hD hS (by decide) (N := 64) rfl (by decide) (Nat.le_trans (Nat.le_of_ble_eq_true rfl) r3) (Nat.le_trans (Nat.le_of_ble_eq_true rfl) r4) dc_X7_43 (fun q3 H hP hD hS => ?_)
  have hP : va_P D clsU ([(a0, .inr (7, [.int 2, .int 6, .long 0, .int 0, .ref q0, .ref q1, .int 0, .ref q2, .int 0, .int 0, .long 0, .int 0, .int 0, .int 0, .int 0, .null, .int 0, .int 0, .null, .null, .null, .null, .null, .null, .null, .int 0, .null, .null, .null, .null, .null])), (q0, .inl (I.1, 36, .inl (fun _ => 0))), (q1, .inl (I.1, 60, .inl (fun _ => 0))), (q2, .inl (I.1, 200, .inl (fun _ => 0))), (q3, .inl (I.1, 64, .inl (fun _ => 0)))]) H := hP
  have hD : va_D A ([(a0, .inr (7, [.int 2, .int 6, .long 0, .int 0, .ref q0, .ref q1, .int 0, .ref q2, .int 0, .int 0, .long 0, .int 0, .int 0, .int 0, .int 0, .null, .int 0, .int 0, .null, .null, .null, .null, .null, .null, .null, .int 0, .null, .null, .null, .null, .null])), (q0, .inl (I.1, 36, .inl (fun _ => 0))), (q1, .inl (I.1, 60, .inl (fun _ => 0))), (q2, .inl (I.1, 200, .inl (fun _ => 0))), (q3, .inl (I.1, 64, .inl (fun _ => 0)))]) := hD
  refine k_putF X (kk := 15) ⟨RX7, TX7, 31, rfl, by decide, wsG_of (i := 815) (by decide +kernel) rfl⟩ (fun _ _ _ h => by cases h; exact ⟨rfl, rfl⟩) hP hD hS rfl rfl (Nat.le_of_ble_eq_true rfl) dc_X7_45 (fun H locs hP hD hS => ?_)
  have hP : va_P D clsU ([(a0, .inr (7, [.int 2, .int 6, .long 0, .int 0, .ref q0, .ref q1, .int 0, .ref q2, .int 0, .int 0, .long 0, .int 0, .int 0, .int 0, .int 0, .ref q3, .int 0, .int 0, .null, .null, .null, .null, .null, .null, .null, .int 0, .null, .null, .null, .null, .null])), (q0, .inl (I.1, 36, .inl (fun _ => 0))), (q1, .inl (I.1, 60, .inl (fun _ => 0))), (q2, .inl (I.1, 200, .inl (fun _ => 0))), (q3, .inl (I.1, 64, .inl (fun _ => 0)))]) H := hP
  have hD : va_D A ([(a0, .inr (7, [.int 2, .int 6, .long 0, .int 0, .ref q0, .ref q1, .int 0, .ref q2, .int 0, .int 0, .long 0, .int 0, .int 0, .int 0, .int 0, .ref q3, .int 0, .int 0, .null, .null, .null, .null, .null, .null, .null, .int 0, .null, .null, .null, .null, .null])), (q0, .inl (I.1, 36, .inl (fun _ => 0))), (q1, .inl (I.1, 60, .inl (fun _ => 0))), (q2, .inl (I.1, 200, .inl (fun _ => 0))), (q3, .inl (I.1, 64, .inl (fun _ => 0)))]) := hD
  refine lv_aload_n hx hb dc_X7_48 rfl (lv_at hl 0 rfl) ?_
  refine lv_bipush (v := 26) hx hb dc_X7_49 (by decide) ?_
  refine k_newI X hP hD hS (by decide) (N := 26) rfl (by decide) (Nat.le_trans (Nat.le_of_ble_eq_true rfl) r3) (Nat.le_trans (Nat.le_of_ble_eq_true rfl) r4) dc_X7_51 (fun q4 H hP hD hS => ?_)
  have hP : va_P D clsU ([(a0, .inr (7, [.int 2, .int 6, .long 0, .int 0, .ref q0, .ref q1, .int 0, .ref q2, .int 0, .int 0, .long 0, .int 0, .int 0, .int 0, .int 0, .ref q3, .int 0, .int 0, .null, .null, .null, .null, .null, .null, .null, .int 0, .null, .null, .null, .null, .null])), (q0, .inl (I.1, 36, .inl (fun _ => 0))), (q1, .inl (I.1, 60, .inl (fun _ => 0))), (q2, .inl (I.1, 200, .inl (fun _ => 0))), (q3, .inl (I.1, 64, .inl (fun _ => 0))), (q4, .inl (I.1, 26, .inl (fun _ => 0)))]) H := hP
  have hD : va_D A ([(a0, .inr (7, [.int 2, .int 6, .long 0, .int 0, .ref q0, .ref q1, .int 0, .ref q2, .int 0, .int 0, .long 0, .int 0, .int 0, .int 0, .int 0, .ref q3, .int 0, .int 0, .null, .null, .null, .null, .null, .null, .null, .int 0, .null, .null, .null, .null, .null])), (q0, .inl (I.1, 36, .inl (fun _ => 0))), (q1, .inl (I.1, 60, .inl (fun _ => 0))), (q2, .inl (I.1, 200, .inl (fun _ => 0))), (q3, .inl (I.1, 64, .inl (fun _ => 0))), (q4, .inl (I.1, 26, .inl (fun _ => 0)))]) := hD
  refine k_putF X (kk := 18) ⟨RX7, TX7, 31, rfl, by decide, wsG_of (i := 818) (by decide +kernel) rfl⟩ (fun _ _ _ h => by cases h; exact ⟨rfl, rfl⟩) hP hD hS rfl rfl (Nat.le_of_ble_eq_true rfl) dc_X7_53 (fun H locs hP hD hS => ?_)
  have hP : va_P D clsU ([(a0, .inr (7, [.int 2, .int 6, .long 0, .int 0, .ref q0, .ref q1, .int 0, .ref q2, .int 0, .int 0, .long 0, .int 0, .int 0, .int 0, .int 0, .ref q3, .int 0, .int 0, .ref q4, .null, .null, .null, .null, .null, .null, .int 0, .null, .null, .null, .null, .null])), (q0, .inl (I.1, 36, .inl (fun _ => 0))), (q1, .inl (I.1, 60, .inl (fun _ => 0))), (q2, .inl (I.1, 200, .inl (fun _ => 0))), (q3, .inl (I.1, 64, .inl (fun _ => 0))), (q4, .inl (I.1, 26, .inl (fun _ => 0)))]) H := hP
  have hD : va_D A ([(a0, .inr (7, [.int 2, .int 6, .long 0, .int 0, .ref q0, .ref q1, .int 0, .ref q2, .int 0, .int 0, .long 0, .int 0, .int 0, .int 0, .int 0, .ref q3, .int 0, .int 0, .ref q4, .null, .null, .null, .null, .null, .null, .int 0, .null, .null, .null, .null, .null])), (q0, .inl (I.1, 36, .inl (fun _ => 0))), (q1, .inl (I.1, 60, .inl (fun _ => 0))), (q2, .inl (I.1, 200, .inl (fun _ => 0))), (q3, .inl (I.1, 64, .inl (fun _ => 0))), (q4, .inl (I.1, 26, .inl (fun _ => 0)))]) := hD
  refine lv_aload_n hx hb dc_X7_56 rfl (lv_at hl 0 rfl) ?_
  refine lv_bipush (v := 26) hx hb dc_X7_57 (by decide) ?_
  refine k_newI X hP hD hS (by decide) (N := 26) rfl (by decide) (Nat.le_trans (Nat.le_of_ble_eq_true rfl) r3) (Nat.le_trans (Nat.le_of_ble_eq_true rfl) r4) dc_X7_59 (fun q5 H hP hD hS => ?_)
  have hP : va_P D clsU ([(a0, .inr (7, [.int 2, .int 6, .long 0, .int 0, .ref q0, .ref q1, .int 0, .ref q2, .int 0, .int 0, .long 0, .int 0, .int 0, .int 0, .int 0, .ref q3, .int 0, .int 0, .ref q4, .null, .null, .null, .null, .null, .null, .int 0, .null, .null, .null, .null, .null])), (q0, .inl (I.1, 36, .inl (fun _ => 0))), (q1, .inl (I.1, 60, .inl (fun _ => 0))), (q2, .inl (I.1, 200, .inl (fun _ => 0))), (q3, .inl (I.1, 64, .inl (fun _ => 0))), (q4, .inl (I.1, 26, .inl (fun _ => 0))), (q5, .inl (I.1, 26, .inl (fun _ => 0)))]) H := hP
  have hD : va_D A ([(a0, .inr (7, [.int 2, .int 6, .long 0, .int 0, .ref q0, .ref q1, .int 0, .ref q2, .int 0, .int 0, .long 0, .int 0, .int 0, .int 0, .int 0, .ref q3, .int 0, .int 0, .ref q4, .null, .null, .null, .null, .null, .null, .int 0, .null, .null, .null, .null, .null])), (q0, .inl (I.1, 36, .inl (fun _ => 0))), (q1, .inl (I.1, 60, .inl (fun _ => 0))), (q2, .inl (I.1, 200, .inl (fun _ => 0))), (q3, .inl (I.1, 64, .inl (fun _ => 0))), (q4, .inl (I.1, 26, .inl (fun _ => 0))), (q5, .inl (I.1, 26, .inl (fun _ => 0)))]) := hD
  refine k_putF X (kk := 19) ⟨RX7, TX7, 31, rfl, by decide, wsG_of (i := 819) (by decide +kernel) rfl⟩ (fun _ _ _ h => by cases h; exact ⟨rfl, rfl⟩) hP hD hS rfl rfl (Nat.le_of_ble_eq_true rfl) dc_X7_61 (fun H locs hP hD hS => ?_)
  have hP : va_P D clsU ([(a0, .inr (7, [.int 2, .int 6, .long 0, .int 0, .ref q0, .ref q1, .int 0, .ref q2, .int 0, .int 0, .long 0, .int 0, .int 0, .int 0, .int 0, .ref q3, .int 0, .int 0, .ref q4, .ref q5, .null, .null, .null, .null, .null, .int 0, .null, .null, .null, .null, .null])), (q0, .inl (I.1, 36, .inl (fun _ => 0))), (q1, .inl (I.1, 60, .inl (fun _ => 0))), (q2, .inl (I.1, 200, .inl (fun _ => 0))), (q3, .inl (I.1, 64, .inl (fun _ => 0))), (q4, .inl (I.1, 26, .inl (fun _ => 0))), (q5, .inl (I.1, 26, .inl (fun _ => 0)))]) H := hP
  have hD : va_D A ([(a0, .inr (7, [.int 2, .int 6, .long 0, .int 0, .ref q0, .ref q1, .int 0, .ref q2, .int 0, .int 0, .long 0, .int 0, .int 0, .int 0, .int 0, .ref q3, .int 0, .int 0, .ref q4, .ref q5, .null, .null, .null, .null, .null, .int 0, .null, .null, .null, .null, .null])), (q0, .inl (I.1, 36, .inl (fun _ => 0))), (q1, .inl (I.1, 60, .inl (fun _ => 0))), (q2, .inl (I.1, 200, .inl (fun _ => 0))), (q3, .inl (I.1, 64, .inl (fun _ => 0))), (q4, .inl (I.1, 26, .inl (fun _ => 0))), (q5, .inl (I.1, 26, .inl (fun _ => 0)))]) := hD
  refine lv_aload_n hx hb dc_X7_64 rfl (lv_at hl 0 rfl) ?_
  refine lv_bipush (v := 52) hx hb dc_X7_65 (by decide) ?_
  refine k_newI X hP hD hS (by decide) (N := 52) rfl (by decide) (Nat.le_trans (Nat.le_of_ble_eq_true rfl) r3) (Nat.le_trans (Nat.le_of_ble_eq_true rfl) r4) dc_X7_67 (fun q6 H hP hD hS => ?_)
  have hP : va_P D clsU ([(a0, .inr (7, [.int 2, .int 6, .long 0, .int 0, .ref q0, .ref q1, .int 0, .ref q2, .int 0, .int 0, .long 0, .int 0, .int 0, .int 0, .int 0, .ref q3, .int 0, .int 0, .ref q4, .ref q5, .null, .null, .null, .null, .null, .int 0, .null, .null, .null, .null, .null])), (q0, .inl (I.1, 36, .inl (fun _ => 0))), (q1, .inl (I.1, 60, .inl (fun _ => 0))), (q2, .inl (I.1, 200, .inl (fun _ => 0))), (q3, .inl (I.1, 64, .inl (fun _ => 0))), (q4, .inl (I.1, 26, .inl (fun _ => 0))), (q5, .inl (I.1, 26, .inl (fun _ => 0))), (q6, .inl (I.1, 52, .inl (fun _ => 0)))]) H := hP
  have hD : va_D A ([(a0, .inr (7, [.int 2, .int 6, .long 0, .int 0, .ref q0, .ref q1, .int 0, .ref q2, .int 0, .int 0, .long 0, .int 0, .int 0, .int 0, .int 0, .ref q3, .int 0, .int 0, .ref q4, .ref q5, .null, .null, .null, .null, .null, .int 0, .null, .null, .null, .null, .null])), (q0, .inl (I.1, 36, .inl (fun _ => 0))), (q1, .inl (I.1, 60, .inl (fun _ => 0))), (q2, .inl (I.1, 200, .inl (fun _ => 0))), (q3, .inl (I.1, 64, .inl (fun _ => 0))), (q4, .inl (I.1, 26, .inl (fun _ => 0))), (q5, .inl (I.1, 26, .inl (fun _ => 0))), (q6, .inl (I.1, 52, .inl (fun _ => 0)))]) := hD
  refine k_putF X (kk := 20) ⟨RX7, TX7, 31, rfl, by decide, wsG_of (i := 820) (by decide +kernel) rfl⟩ (fun _ _ _ h => by cases h; exact ⟨rfl, rfl⟩) hP hD hS rfl rfl (Nat.le_of_ble_eq_true rfl) dc_X7_69 (fun H locs hP hD hS => ?_)
  have hP : va_P D clsU ([(a0, .inr (7, [.int 2, .int 6, .long 0, .int 0, .ref q0, .ref q1, .int 0, .ref q2, .int 0, .int 0, .long 0, .int 0, .int 0, .int 0, .int 0, .ref q3, .int 0, .int 0, .ref q4, .ref q5, .ref q6, .null, .null, .null, .null, .int 0, .null, .null, .null, .null, .null])), (q0, .inl (I.1, 36, .inl (fun _ => 0))), (q1, .inl (I.1, 60, .inl (fun _ => 0))), (q2, .inl (I.1, 200, .inl (fun _ => 0))), (q3, .inl (I.1, 64, .inl (fun _ => 0))), (q4, .inl (I.1, 26, .inl (fun _ => 0))), (q5, .inl (I.1, 26, .inl (fun _ => 0))), (q6, .inl (I.1, 52, .inl (fun _ => 0)))]) H := hP
  have hD : va_D A ([(a0, .inr (7, [.int 2, .int 6, .long 0, .int 0, .ref q0, .ref q1, .int 0, .ref q2, .int 0, .int 0, .long 0, .int 0, .int 0, .int 0, .int 0, .ref q3, .int 0, .int 0, .ref q4, .ref q5, .ref q6, .null, .null, .null, .null, .int 0, .null, .null, .null, .null, .null])), (q0, .inl (I.1, 36, .inl (fun _ => 0))), (q1, .inl (I.1, 60, .inl (fun _ => 0))), (q2, .inl (I.1, 200, .inl (fun _ => 0))), (q3, .inl (I.1, 64, .inl (fun _ => 0))), (q4, .inl (I.1, 26, .inl (fun _ => 0))), (q5, .inl (I.1, 26, .inl (fun _ => 0))), (q6, .inl (I.1, 52, .inl (fun _ => 0)))]) := hD
  refine lv_aload_n hx hb dc_X7_72 rfl (lv_at hl 0 rfl) ?_
  refine lv_iconst (v := 2) hx hb dc_X7_73 (by decide) ?_
  refine k_newZ X hP hD hS (by decide) (N := 2) rfl (by decide) (Nat.le_trans (Nat.le_of_ble_eq_true rfl) r3) (Nat.le_trans (Nat.le_of_ble_eq_true rfl) r4) dc_X7_74 (fun q7 H hP hD hS => ?_)
  have hP : va_P D clsU ([(a0, .inr (7, [.int 2, .int 6, .long 0, .int 0, .ref q0, .ref q1, .int 0, .ref q2, .int 0, .int 0, .long 0, .int 0, .int 0, .int 0, .int 0, .ref q3, .int 0, .int 0, .ref q4, .ref q5, .ref q6, .null, .null, .null, .null, .int 0, .null, .null, .null, .null, .null])), (q0, .inl (I.1, 36, .inl (fun _ => 0))), (q1, .inl (I.1, 60, .inl (fun _ => 0))), (q2, .inl (I.1, 200, .inl (fun _ => 0))), (q3, .inl (I.1, 64, .inl (fun _ => 0))), (q4, .inl (I.1, 26, .inl (fun _ => 0))), (q5, .inl (I.1, 26, .inl (fun _ => 0))), (q6, .inl (I.1, 52, .inl (fun _ => 0))), (q7, .inl (I.2.1, 2, .inl (fun _ => 0)))]) H := hP
  have hD : va_D A ([(a0, .inr (7, [.int 2, .int 6, .long 0, .int 0, .ref q0, .ref q1, .int 0, .ref q2, .int 0, .int 0, .long 0, .int 0, .int 0, .int 0, .int 0, .ref q3, .int 0, .int 0, .ref q4, .ref q5, .ref q6, .null, .null, .null, .null, .int 0, .null, .null, .null, .null, .null])), (q0, .inl (I.1, 36, .inl (fun _ => 0))), (q1, .inl (I.1, 60, .inl (fun _ => 0))), (q2, .inl (I.1, 200, .inl (fun _ => 0))), (q3, .inl (I.1, 64, .inl (fun _ => 0))), (q4, .inl (I.1, 26, .inl (fun _ => 0))), (q5, .inl (I.1, 26, .inl (fun _ => 0))), (q6, .inl (I.1, 52, .inl (fun _ => 0))), (q7, .inl (I.2.1, 2, .inl (fun _ => 0)))]) := hD
  refine k_putF X (kk := 21) ⟨RX7, TX7, 31, rfl, by decide, wsG_of (i := 821) (by decide +kernel) rfl⟩ (fun _ _ _ h => by cases h; exact ⟨rfl, rfl⟩) hP hD hS rfl rfl (Nat.le_of_ble_eq_true rfl) dc_X7_76 (fun H locs hP hD hS => ?_)
  have hP : va_P D clsU ([(a0, .inr (7, [.int 2, .int 6, .long 0, .int 0, .ref q0, .ref q1, .int 0, .ref q2, .int 0, .int 0, .long 0, .int 0, .int 0, .int 0, .int 0, .ref q3, .int 0, .int 0, .ref q4, .ref q5, .ref q6, .ref q7, .null, .null, .null, .int 0, .null, .null, .null, .null, .null])), (q0, .inl (I.1, 36, .inl (fun _ => 0))), (q1, .inl (I.1, 60, .inl (fun _ => 0))), (q2, .inl (I.1, 200, .inl (fun _ => 0))), (q3, .inl (I.1, 64, .inl (fun _ => 0))), (q4, .inl (I.1, 26, .inl (fun _ => 0))), (q5, .inl (I.1, 26, .inl (fun _ => 0))), (q6, .inl (I.1, 52, .inl (fun _ => 0))), (q7, .inl (I.2.1, 2, .inl (fun _ => 0)))]) H := hP
  have hD : va_D A ([(a0, .inr (7, [.int 2, .int 6, .long 0, .int 0, .ref q0, .ref q1, .int 0, .ref q2, .int 0, .int 0, .long 0, .int 0, .int 0, .int 0, .int 0, .ref q3, .int 0, .int 0, .ref q4, .ref q5, .ref q6, .ref q7, .null, .null, .null, .int 0, .null, .null, .null, .null, .null])), (q0, .inl (I.1, 36, .inl (fun _ => 0))), (q1, .inl (I.1, 60, .inl (fun _ => 0))), (q2, .inl (I.1, 200, .inl (fun _ => 0))), (q3, .inl (I.1, 64, .inl (fun _ => 0))), (q4, .inl (I.1, 26, .inl (fun _ => 0))), (q5, .inl (I.1, 26, .inl (fun _ => 0))), (q6, .inl (I.1, 52, .inl (fun _ => 0))), (q7, .inl (I.2.1, 2, .inl (fun _ => 0)))]) := hD
  refine lv_aload_n hx hb dc_X7_79 rfl (lv_at hl 0 rfl) ?_
  refine lv_bipush (v := 6) hx hb dc_X7_80 (by decide) ?_
  refine k_newI X hP hD hS (by decide) (N := 6) rfl (by decide) (Nat.le_trans (Nat.le_of_ble_eq_true rfl) r3) (Nat.le_trans (Nat.le_of_ble_eq_true rfl) r4) dc_X7_82 (fun q8 H hP hD hS => ?_)
  have hP : va_P D clsU ([(a0, .inr (7, [.int 2, .int 6, .long 0, .int 0, .ref q0, .ref q1, .int 0, .ref q2, .int 0, .int 0, .long 0, .int 0, .int 0, .int 0, .int 0, .ref q3, .int 0, .int 0, .ref q4, .ref q5, .ref q6, .ref q7, .null, .null, .null, .int 0, .null, .null, .null, .null, .null])), (q0, .inl (I.1, 36, .inl (fun _ => 0))), (q1, .inl (I.1, 60, .inl (fun _ => 0))), (q2, .inl (I.1, 200, .inl (fun _ => 0))), (q3, .inl (I.1, 64, .inl (fun _ => 0))), (q4, .inl (I.1, 26, .inl (fun _ => 0))), (q5, .inl (I.1, 26, .inl (fun _ => 0))), (q6, .inl (I.1, 52, .inl (fun _ => 0))), (q7, .inl (I.2.1, 2, .inl (fun _ => 0))), (q8, .inl (I.1, 6, .inl (fun _ => 0)))]) H := hP
  have hD : va_D A ([(a0, .inr (7, [.int 2, .int 6, .long 0, .int 0, .ref q0, .ref q1, .int 0, .ref q2, .int 0, .int 0, .long 0, .int 0, .int 0, .int 0, .int 0, .ref q3, .int 0, .int 0, .ref q4, .ref q5, .ref q6, .ref q7, .null, .null, .null, .int 0, .null, .null, .null, .null, .null])), (q0, .inl (I.1, 36, .inl (fun _ => 0))), (q1, .inl (I.1, 60, .inl (fun _ => 0))), (q2, .inl (I.1, 200, .inl (fun _ => 0))), (q3, .inl (I.1, 64, .inl (fun _ => 0))), (q4, .inl (I.1, 26, .inl (fun _ => 0))), (q5, .inl (I.1, 26, .inl (fun _ => 0))), (q6, .inl (I.1, 52, .inl (fun _ => 0))), (q7, .inl (I.2.1, 2, .inl (fun _ => 0))), (q8, .inl (I.1, 6, .inl (fun _ => 0)))]) := hD
  refine k_putF X (kk := 22) ⟨RX7, TX7, 31, rfl, by decide, wsG_of (i := 822) (by decide +kernel) rfl⟩ (fun _ _ _ h => by cases h; exact ⟨rfl, rfl⟩) hP hD hS rfl rfl (Nat.le_of_ble_eq_true rfl) dc_X7_84 (fun H locs hP hD hS => ?_)
  have hP : va_P D clsU ([(a0, .inr (7, [.int 2, .int 6, .long 0, .int 0, .ref q0, .ref q1, .int 0, .ref q2, .int 0, .int 0, .long 0, .int 0, .int 0, .int 0, .int 0, .ref q3, .int 0, .int 0, .ref q4, .ref q5, .ref q6, .ref q7, .ref q8, .null, .null, .int 0, .null, .null, .null, .null, .null])), (q0, .inl (I.1, 36, .inl (fun _ => 0))), (q1, .inl (I.1, 60, .inl (fun _ => 0))), (q2, .inl (I.1, 200, .inl (fun _ => 0))), (q3, .inl (I.1, 64, .inl (fun _ => 0))), (q4, .inl (I.1, 26, .inl (fun _ => 0))), (q5, .inl (I.1, 26, .inl (fun _ => 0))), (q6, .inl (I.1, 52, .inl (fun _ => 0))), (q7, .inl (I.2.1, 2, .inl (fun _ => 0))), (q8, .inl (I.1, 6, .inl (fun _ => 0)))]) H := hP
  have hD : va_D A ([(a0, .inr (7, [.int 2, .int 6, .long 0, .int 0, .ref q0, .ref q1, .int 0, .ref q2, .int 0, .int 0, .long 0, .int 0, .int 0, .int 0, .int 0, .ref q3, .int 0, .int 0, .ref q4, .ref q5, .ref q6, .ref q7, .ref q8, .null, .null, .int 0, .null, .null, .null, .null, .null])), (q0, .inl (I.1, 36, .inl (fun _ => 0))), (q1, .inl (I.1, 60, .inl (fun _ => 0))), (q2, .inl (I.1, 200, .inl (fun _ => 0))), (q3, .inl (I.1, 64, .inl (fun _ => 0))), (q4, .inl (I.1, 26, .inl (fun _ => 0))), (q5, .inl (I.1, 26, .inl (fun _ => 0))), (q6, .inl (I.1, 52, .inl (fun _ => 0))), (q7, .inl (I.2.1, 2, .inl (fun _ => 0))), (q8, .inl (I.1, 6, .inl (fun _ => 0)))]) := hD
  refine lv_aload_n hx hb dc_X7_87 rfl (lv_at hl 0 rfl) ?_
  refine lv_sipush (v := 360) hx hb dc_X7_88 (by decide) ?_
  refine k_newI X hP hD hS (by decide) (N := 360) rfl (by decide) (Nat.le_trans (Nat.le_of_ble_eq_true rfl) r3) (Nat.le_trans (Nat.le_of_ble_eq_true rfl) r4) dc_X7_91 (fun q9 H hP hD hS => ?_)
  have hP : va_P D clsU ([(a0, .inr (7, [.int 2, .int 6, .long 0, .int 0, .ref q0, .ref q1, .int 0, .ref q2, .int 0, .int 0, .long 0, .int 0, .int 0, .int 0, .int 0, .ref q3, .int 0, .int 0, .ref q4, .ref q5, .ref q6, .ref q7, .ref q8, .null, .null, .int 0, .null, .null, .null, .null, .null])), (q0, .inl (I.1, 36, .inl (fun _ => 0))), (q1, .inl (I.1, 60, .inl (fun _ => 0))), (q2, .inl (I.1, 200, .inl (fun _ => 0))), (q3, .inl (I.1, 64, .inl (fun _ => 0))), (q4, .inl (I.1, 26, .inl (fun _ => 0))), (q5, .inl (I.1, 26, .inl (fun _ => 0))), (q6, .inl (I.1, 52, .inl (fun _ => 0))), (q7, .inl (I.2.1, 2, .inl (fun _ => 0))), (q8, .inl (I.1, 6, .inl (fun _ => 0))), (q9, .inl (I.1, 360, .inl (fun _ => 0)))]) H := hP
  have hD : va_D A ([(a0, .inr (7, [.int 2, .int 6, .long 0, .int 0, .ref q0, .ref q1, .int 0, .ref q2, .int 0, .int 0, .long 0, .int 0, .int 0, .int 0, .int 0, .ref q3, .int 0, .int 0, .ref q4, .ref q5, .ref q6, .ref q7, .ref q8, .null, .null, .int 0, .null, .null, .null, .null, .null])), (q0, .inl (I.1, 36, .inl (fun _ => 0))), (q1, .inl (I.1, 60, .inl (fun _ => 0))), (q2, .inl (I.1, 200, .inl (fun _ => 0))), (q3, .inl (I.1, 64, .inl (fun _ => 0))), (q4, .inl (I.1, 26, .inl (fun _ => 0))), (q5, .inl (I.1, 26, .inl (fun _ => 0))), (q6, .inl (I.1, 52, .inl (fun _ => 0))), (q7, .inl (I.2.1, 2, .inl (fun _ => 0))), (q8, .inl (I.1, 6, .inl (fun _ => 0))), (q9, .inl (I.1, 360, .inl (fun _ => 0)))]) := hD
  refine k_putF X (kk := 23) ⟨RX7, TX7, 31, rfl, by decide, wsG_of (i := 823) (by decide +kernel) rfl⟩ (fun _ _ _ h => by cases h; exact ⟨rfl, rfl⟩) hP hD hS rfl rfl (Nat.le_of_ble_eq_true rfl) dc_X7_93 (fun H locs hP hD hS => ?_)
  have hP : va_P D clsU ([(a0, .inr (7, [.int 2, .int 6, .long 0, .int 0, .ref q0, .ref q1, .int 0, .ref q2, .int 0, .int 0, .long 0, .int 0, .int 0, .int 0, .int 0, .ref q3, .int 0, .int 0, .ref q4, .ref q5, .ref q6, .ref q7, .ref q8, .ref q9, .null, .int 0, .null, .null, .null, .null, .null])), (q0, .inl (I.1, 36, .inl (fun _ => 0))), (q1, .inl (I.1, 60, .inl (fun _ => 0))), (q2, .inl (I.1, 200, .inl (fun _ => 0))), (q3, .inl (I.1, 64, .inl (fun _ => 0))), (q4, .inl (I.1, 26, .inl (fun _ => 0))), (q5, .inl (I.1, 26, .inl (fun _ => 0))), (q6, .inl (I.1, 52, .inl (fun _ => 0))), (q7, .inl (I.2.1, 2, .inl (fun _ => 0))), (q8, .inl (I.1, 6, .inl (fun _ => 0))), (q9, .inl (I.1, 360, .inl (fun _ => 0)))]) H := hP
  have hD : va_D A ([(a0, .inr (7, [.int 2, .int 6, .long 0, .int 0, .ref q0, .ref q1, .int 0, .ref q2, .int 0, .int 0, .long 0, .int 0, .int 0, .int 0, .int 0, .ref q3, .int 0, .int 0, .ref q4, .ref q5, .ref q6, .ref q7, .ref q8, .ref q9, .null, .int 0, .null, .null, .null, .null, .null])), (q0, .inl (I.1, 36, .inl (fun _ => 0))), (q1, .inl (I.1, 60, .inl (fun _ => 0))), (q2, .inl (I.1, 200, .inl (fun _ => 0))), (q3, .inl (I.1, 64, .inl (fun _ => 0))), (q4, .inl (I.1, 26, .inl (fun _ => 0))), (q5, .inl (I.1, 26, .inl (fun _ => 0))), (q6, .inl (I.1, 52, .inl (fun _ => 0))), (q7, .inl (I.2.1, 2, .inl (fun _ => 0))), (q8, .inl (I.1, 6, .inl (fun _ => 0))), (q9, .inl (I.1, 360, .inl (fun _ => 0)))]) := hD
  refine lv_aload_n hx hb dc_X7_96 rfl (lv_at hl 0 rfl) ?_
  refine lv_bipush (v := 72) hx hb dc_X7_97 (by decide) ?_
  refine k_newI X hP hD hS (by decide) (N := 72) rfl (by decide) (Nat.le_trans (Nat.le_of_ble_eq_true rfl) r3) (Nat.le_trans (Nat.le_of_ble_eq_true rfl) r4) dc_X7_99 (fun q10 H hP hD hS => ?_)
  have hP : va_P D clsU ([(a0, .inr (7, [.int 2, .int 6, .long 0, .int 0, .ref q0, .ref q1, .int 0, .ref q2, .int 0, .int 0, .long 0, .int 0, .int 0, .int 0, .int 0, .ref q3, .int 0, .int 0, .ref q4, .ref q5, .ref q6, .ref q7, .ref q8, .ref q9, .null, .int 0, .null, .null, .null, .null, .null])), (q0, .inl (I.1, 36, .inl (fun _ => 0))), (q1, .inl (I.1, 60, .inl (fun _ => 0))), (q2, .inl (I.1, 200, .inl (fun _ => 0))), (q3, .inl (I.1, 64, .inl (fun _ => 0))), (q4, .inl (I.1, 26, .inl (fun _ => 0))), (q5, .inl (I.1, 26, .inl (fun _ => 0))), (q6, .inl (I.1, 52, .inl (fun _ => 0))), (q7, .inl (I.2.1, 2, .inl (fun _ => 0))), (q8, .inl (I.1, 6, .inl (fun _ => 0))), (q9, .inl (I.1, 360, .inl (fun _ => 0))), (q10, .inl (I.1, 72, .inl (fun _ => 0)))]) H := hP
  have hD : va_D A ([(a0, .inr (7, [.int 2, .int 6, .long 0, .int 0, .ref q0, .ref q1, .int 0, .ref q2, .int 0, .int 0, .long 0, .int 0, .int 0, .int 0, .int 0, .ref q3, .int 0, .int 0, .ref q4, .ref q5, .ref q6, .ref q7, .ref q8, .ref q9, .null, .int 0, .null, .null, .null, .null, .null])), (q0, .inl (I.1, 36, .inl (fun _ => 0))), (q1, .inl (I.1, 60, .inl (fun _ => 0))), (q2, .inl (I.1, 200, .inl (fun _ => 0))), (q3, .inl (I.1, 64, .inl (fun _ => 0))), (q4, .inl (I.1, 26, .inl (fun _ => 0))), (q5, .inl (I.1, 26, .inl (fun _ => 0))), (q6, .inl (I.1, 52, .inl (fun _ => 0))), (q7, .inl (I.2.1, 2, .inl (fun _ => 0))), (q8, .inl (I.1, 6, .inl (fun _ => 0))), (q9, .inl (I.1, 360, .inl (fun _ => 0))), (q10, .inl (I.1, 72, .inl (fun _ => 0)))]) := hD
  refine k_putF X (kk := 24) ⟨RX7, TX7, 31, rfl, by decide, wsG_of (i := 824) (by decide +kernel) rfl⟩ (fun _ _ _ h => by cases h; exact ⟨rfl, rfl⟩) hP hD hS rfl rfl (Nat.le_of_ble_eq_true rfl) dc_X7_101 (fun H locs hP hD hS => ?_)
  have hP : va_P D clsU ([(a0, .inr (7, [.int 2, .int 6, .long 0, .int 0, .ref q0, .ref q1, .int 0, .ref q2, .int 0, .int 0, .long 0, .int 0, .int 0, .int 0, .int 0, .ref q3, .int 0, .int 0, .ref q4, .ref q5, .ref q6, .ref q7, .ref q8, .ref q9, .ref q10, .int 0, .null, .null, .null, .null, .null])), (q0, .inl (I.1, 36, .inl (fun _ => 0))), (q1, .inl (I.1, 60, .inl (fun _ => 0))), (q2, .inl (I.1, 200, .inl (fun _ => 0))), (q3, .inl (I.1, 64, .inl (fun _ => 0))), (q4, .inl (I.1, 26, .inl (fun _ => 0))), (q5, .inl (I.1, 26, .inl (fun _ => 0))), (q6, .inl (I.1, 52, .inl (fun _ => 0))), (q7, .inl (I.2.1, 2, .inl (fun _ => 0))), (q8, .inl (I.1, 6, .inl (fun _ => 0))), (q9, .inl (I.1, 360, .inl (fun _ => 0))), (q10, .inl (I.1, 72, .inl (fun _ => 0)))]) H := hP
  have hD : va_D A ([(a0, .inr (7, [.int 2, .int 6, .long 0, .int 0, .ref q0, .ref q1, .int 0, .ref q2, .int 0, .int 0, .long 0, .int 0, .int 0, .int 0, .int 0, .ref q3, .int 0, .int 0, .ref q4, .ref q5, .ref q6, .ref q7, .ref q8, .ref q9, .ref q10, .int 0, .null, .null, .null, .null, .null])), (q0, .inl (I.1, 36, .inl (fun _ => 0))), (q1, .inl (I.1, 60, .inl (fun _ => 0))), (q2, .inl (I.1, 200, .inl (fun _ => 0))), (q3, .inl (I.1, 64, .inl (fun _ => 0))), (q4, .inl (I.1, 26, .inl (fun _ => 0))), (q5, .inl (I.1, 26, .inl (fun _ => 0))), (q6, .inl (I.1, 52, .inl (fun _ => 0))), (q7, .inl (I.2.1, 2, .inl (fun _ => 0))), (q8, .inl (I.1, 6, .inl (fun _ => 0))), (q9, .inl (I.1, 360, .inl (fun _ => 0))), (q10, .inl (I.1, 72, .inl (fun _ => 0)))]) := hD
  refine lv_aload_n hx hb dc_X7_104 rfl (lv_at hl 0 rfl) ?_
  refine lv_bipush (v := 24) hx hb dc_X7_105 (by decide) ?_
  refine k_newI X hP hD hS (by decide) (N := 24) rfl (by decide) (Nat.le_trans (Nat.le_of_ble_eq_true rfl) r3) (Nat.le_trans (Nat.le_of_ble_eq_true rfl) r4) dc_X7_107 (fun q11 H hP hD hS => ?_)
  have hP : va_P D clsU ([(a0, .inr (7, [.int 2, .int 6, .long 0, .int 0, .ref q0, .ref q1, .int 0, .ref q2, .int 0, .int 0, .long 0, .int 0, .int 0, .int 0, .int 0, .ref q3, .int 0, .int 0, .ref q4, .ref q5, .ref q6, .ref q7, .ref q8, .ref q9, .ref q10, .int 0, .null, .null, .null, .null, .null])), (q0, .inl (I.1, 36, .inl (fun _ => 0))), (q1, .inl (I.1, 60, .inl (fun _ => 0))), (q2, .inl (I.1, 200, .inl (fun _ => 0))), (q3, .inl (I.1, 64, .inl (fun _ => 0))), (q4, .inl (I.1, 26, .inl (fun _ => 0))), (q5, .inl (I.1, 26, .inl (fun _ => 0))), (q6, .inl (I.1, 52, .inl (fun _ => 0))), (q7, .inl (I.2.1, 2, .inl (fun _ => 0))), (q8, .inl (I.1, 6, .inl (fun _ => 0))), (q9, .inl (I.1, 360, .inl (fun _ => 0))), (q10, .inl (I.1, 72, .inl (fun _ => 0))), (q11, .inl (I.1, 24, .inl (fun _ => 0)))]) H := hP
  have hD : va_D A ([(a0, .inr (7, [.int 2, .int 6, .long 0, .int 0, .ref q0, .ref q1, .int 0, .ref q2, .int 0, .int 0, .long 0, .int 0, .int 0, .int 0, .int 0, .ref q3, .int 0, .int 0, .ref q4, .ref q5, .ref q6, .ref q7, .ref q8, .ref q9, .ref q10, .int 0, .null, .null, .null, .null, .null])), (q0, .inl (I.1, 36, .inl (fun _ => 0))), (q1, .inl (I.1, 60, .inl (fun _ => 0))), (q2, .inl (I.1, 200, .inl (fun _ => 0))), (q3, .inl (I.1, 64, .inl (fun _ => 0))), (q4, .inl (I.1, 26, .inl (fun _ => 0))), (q5, .inl (I.1, 26, .inl (fun _ => 0))), (q6, .inl (I.1, 52, .inl (fun _ => 0))), (q7, .inl (I.2.1, 2, .inl (fun _ => 0))), (q8, .inl (I.1, 6, .inl (fun _ => 0))), (q9, .inl (I.1, 360, .inl (fun _ => 0))), (q10, .inl (I.1, 72, .inl (fun _ => 0))), (q11, .inl (I.1, 24, .inl (fun _ => 0)))]) := hD
  refine k_putF X (kk := 26) ⟨RX7, TX7, 31, rfl, by decide, wsG_of (i := 826) (by decide +kernel) rfl⟩ (fun _ _ _ h => by cases h; exact ⟨rfl, rfl⟩) hP hD hS rfl rfl (Nat.le_of_ble_eq_true rfl) dc_X7_109 (fun H locs hP hD hS => ?_)
  have hP : va_P D clsU ([(a0, .inr (7, [.int 2, .int 6, .long 0, .int 0, .ref q0, .ref q1, .int 0, .ref q2, .int 0, .int 0, .long 0, .int 0, .int 0, .int 0, .int 0, .ref q3, .int 0, .int 0, .ref q4, .ref q5, .ref q6, .ref q7, .ref q8, .ref q9, .ref q10, .int 0, .ref q11, .null, .null, .null, .null])), (q0, .inl (I.1, 36, .inl (fun _ => 0))), (q1, .inl (I.1, 60, .inl (fun _ => 0))), (q2, .inl (I.1, 200, .inl (fun _ => 0))), (q3, .inl (I.1, 64, .inl (fun _ => 0))), (q4, .inl (I.1, 26, .inl (fun _ => 0))), (q5, .inl (I.1, 26, .inl (fun _ => 0))), (q6, .inl (I.1, 52, .inl (fun _ => 0))), (q7, .inl (I.2.1, 2, .inl (fun _ => 0))), (q8, .inl (I.1, 6, .inl (fun _ => 0))), (q9, .inl (I.1, 360, .inl (fun _ => 0))), (q10, .inl (I.1, 72, .inl (fun _ => 0))), (q11, .inl (I.1, 24, .inl (fun _ => 0)))]) H := hP
  have hD : va_D A ([(a0, .inr (7, [.int 2, .int 6, .long 0, .int 0, .ref q0, .ref q1, .int 0, .ref q2, .int 0, .int 0, .long 0, .int 0, .int 0, .int 0, .int 0, .ref q3, .int 0, .int 0, .ref q4, .ref q5, .ref q6, .ref q7, .ref q8, .ref q9, .ref q10, .int 0, .ref q11, .null, .null, .null, .null])), (q0, .inl (I.1, 36, .inl (fun _ => 0))), (q1, .inl (I.1, 60, .inl (fun _ => 0))), (q2, .inl (I.1, 200, .inl (fun _ => 0))), (q3, .inl (I.1, 64, .inl (fun _ => 0))), (q4, .inl (I.1, 26, .inl (fun _ => 0))), (q5, .inl (I.1, 26, .inl (fun _ => 0))), (q6, .inl (I.1, 52, .inl (fun _ => 0))), (q7, .inl (I.2.1, 2, .inl (fun _ => 0))), (q8, .inl (I.1, 6, .inl (fun _ => 0))), (q9, .inl (I.1, 360, .inl (fun _ => 0))), (q10, .inl (I.1, 72, .inl (fun _ => 0))), (q11, .inl (I.1, 24, .inl (fun _ => 0)))]) := hD
  refine lv_aload_n hx hb dc_X7_112 rfl (lv_at hl 0 rfl) ?_
  refine lv_bipush (v := 8) hx hb dc_X7_113 (by decide) ?_
  refine k_newI X hP hD hS (by decide) (N := 8) rfl (by decide) (Nat.le_trans (Nat.le_of_ble_eq_true rfl) r3) (Nat.le_trans (Nat.le_of_ble_eq_true rfl) r4) dc_X7_115 (fun q12 H hP hD hS => ?_)
  have hP : va_P D clsU ([(a0, .inr (7, [.int 2, .int 6, .long 0, .int 0, .ref q0, .ref q1, .int 0, .ref q2, .int 0, .int 0, .long 0, .int 0, .int 0, .int 0, .int 0, .ref q3, .int 0, .int 0, .ref q4, .ref q5, .ref q6, .ref q7, .ref q8, .ref q9, .ref q10, .int 0, .ref q11, .null, .null, .null, .null])), (q0, .inl (I.1, 36, .inl (fun _ => 0))), (q1, .inl (I.1, 60, .inl (fun _ => 0))), (q2, .inl (I.1, 200, .inl (fun _ => 0))), (q3, .inl (I.1, 64, .inl (fun _ => 0))), (q4, .inl (I.1, 26, .inl (fun _ => 0))), (q5, .inl (I.1, 26, .inl (fun _ => 0))), (q6, .inl (I.1, 52, .inl (fun _ => 0))), (q7, .inl (I.2.1, 2, .inl (fun _ => 0))), (q8, .inl (I.1, 6, .inl (fun _ => 0))), (q9, .inl (I.1, 360, .inl (fun _ => 0))), (q10, .inl (I.1, 72, .inl (fun _ => 0))), (q11, .inl (I.1, 24, .inl (fun _ => 0))), (q12, .inl (I.1, 8, .inl (fun _ => 0)))]) H := hP
  have hD : va_D A ([(a0, .inr (7, [.int 2, .int 6, .long 0, .int 0, .ref q0, .ref q1, .int 0, .ref q2, .int 0, .int 0, .long 0, .int 0, .int 0, .int 0, .int 0, .ref q3, .int 0, .int 0, .ref q4, .ref q5, .ref q6, .ref q7, .ref q8, .ref q9, .ref q10, .int 0, .ref q11, .null, .null, .null, .null])), (q0, .inl (I.1, 36, .inl (fun _ => 0))), (q1, .inl (I.1, 60, .inl (fun _ => 0))), (q2, .inl (I.1, 200, .inl (fun _ => 0))), (q3, .inl (I.1, 64, .inl (fun _ => 0))), (q4, .inl (I.1, 26, .inl (fun _ => 0))), (q5, .inl (I.1, 26, .inl (fun _ => 0))), (q6, .inl (I.1, 52, .inl (fun _ => 0))), (q7, .inl (I.2.1, 2, .inl (fun _ => 0))), (q8, .inl (I.1, 6, .inl (fun _ => 0))), (q9, .inl (I.1, 360, .inl (fun _ => 0))), (q10, .inl (I.1, 72, .inl (fun _ => 0))), (q11, .inl (I.1, 24, .inl (fun _ => 0))), (q12, .inl (I.1, 8, .inl (fun _ => 0)))]) := hD
  refine k_putF X (kk := 27) ⟨RX7, TX7, 31, rfl, by decide, wsG_of (i := 827) (by decide +kernel) rfl⟩ (fun _ _ _ h => by cases h; exact ⟨rfl, rfl⟩) hP hD hS rfl rfl (Nat.le_of_ble_eq_true rfl) dc_X7_117 (fun H locs hP hD hS => ?_)
  have hP : va_P D clsU ([(a0, .inr (7, [.int 2, .int 6, .long 0, .int 0, .ref q0, .ref q1, .int 0, .ref q2, .int 0, .int 0, .long 0, .int 0, .int 0, .int 0, .int 0, .ref q3, .int 0, .int 0, .ref q4, .ref q5, .ref q6, .ref q7, .ref q8, .ref q9, .ref q10, .int 0, .ref q11, .ref q12, .null, .null, .null])), (q0, .inl (I.1, 36, .inl (fun _ => 0))), (q1, .inl (I.1, 60, .inl (fun _ => 0))), (q2, .inl (I.1, 200, .inl (fun _ => 0))), (q3, .inl (I.1, 64, .inl (fun _ => 0))), (q4, .inl (I.1, 26, .inl (fun _ => 0))), (q5, .inl (I.1, 26, .inl (fun _ => 0))), (q6, .inl (I.1, 52, .inl (fun _ => 0))), (q7, .inl (I.2.1, 2, .inl (fun _ => 0))), (q8, .inl (I.1, 6, .inl (fun _ => 0))), (q9, .inl (I.1, 360, .inl (fun _ => 0))), (q10, .inl (I.1, 72, .inl (fun _ => 0))), (q11, .inl (I.1, 24, .inl (fun _ => 0))), (q12, .inl (I.1, 8, .inl (fun _ => 0)))]) H := hP
  have hD : va_D A ([(a0, .inr (7, [.int 2, .int 6, .long 0, .int 0, .ref q0, .ref q1, .int 0, .ref q2, .int 0, .int 0, .long 0, .int 0, .int 0, .int 0, .int 0, .ref q3, .int 0, .int 0, .ref q4, .ref q5, .ref q6, .ref q7, .ref q8, .ref q9, .ref q10, .int 0, .ref q11, .ref q12, .null, .null, .null])), (q0, .inl (I.1, 36, .inl (fun _ => 0))), (q1, .inl (I.1, 60, .inl (fun _ => 0))), (q2, .inl (I.1, 200, .inl (fun _ => 0))), (q3, .inl (I.1, 64, .inl (fun _ => 0))), (q4, .inl (I.1, 26, .inl (fun _ => 0))), (q5, .inl (I.1, 26, .inl (fun _ => 0))), (q6, .inl (I.1, 52, .inl (fun _ => 0))), (q7, .inl (I.2.1, 2, .inl (fun _ => 0))), (q8, .inl (I.1, 6, .inl (fun _ => 0))), (q9, .inl (I.1, 360, .inl (fun _ => 0))), (q10, .inl (I.1, 72, .inl (fun _ => 0))), (q11, .inl (I.1, 24, .inl (fun _ => 0))), (q12, .inl (I.1, 8, .inl (fun _ => 0)))]) := hD
  refine lv_aload_n hx hb dc_X7_120 rfl (lv_at hl 0 rfl) ?_
  refine lv_bipush (v := 20) hx hb dc_X7_121 (by decide) ?_
  refine k_newI X hP hD hS (by decide) (N := 20) rfl (by decide) (Nat.le_trans (Nat.le_of_ble_eq_true rfl) r3) (Nat.le_trans (Nat.le_of_ble_eq_true rfl) r4) dc_X7_123 (fun q13 H hP hD hS => ?_)
  have hP : va_P D clsU ([(a0, .inr (7, [.int 2, .int 6, .long 0, .int 0, .ref q0, .ref q1, .int 0, .ref q2, .int 0, .int 0, .long 0, .int 0, .int 0, .int 0, .int 0, .ref q3, .int 0, .int 0, .ref q4, .ref q5, .ref q6, .ref q7, .ref q8, .ref q9, .ref q10, .int 0, .ref q11, .ref q12, .null, .null, .null])), (q0, .inl (I.1, 36, .inl (fun _ => 0))), (q1, .inl (I.1, 60, .inl (fun _ => 0))), (q2, .inl (I.1, 200, .inl (fun _ => 0))), (q3, .inl (I.1, 64, .inl (fun _ => 0))), (q4, .inl (I.1, 26, .inl (fun _ => 0))), (q5, .inl (I.1, 26, .inl (fun _ => 0))), (q6, .inl (I.1, 52, .inl (fun _ => 0))), (q7, .inl (I.2.1, 2, .inl (fun _ => 0))), (q8, .inl (I.1, 6, .inl (fun _ => 0))), (q9, .inl (I.1, 360, .inl (fun _ => 0))), (q10, .inl (I.1, 72, .inl (fun _ => 0))), (q11, .inl (I.1, 24, .inl (fun _ => 0))), (q12, .inl (I.1, 8, .inl (fun _ => 0))), (q13, .inl (I.1, 20, .inl (fun _ => 0)))]) H := hP
  have hD : va_D A ([(a0, .inr (7, [.int 2, .int 6, .long 0, .int 0, .ref q0, .ref q1, .int 0, .ref q2, .int 0, .int 0, .long 0, .int 0, .int 0, .int 0, .int 0, .ref q3, .int 0, .int 0, .ref q4, .ref q5, .ref q6, .ref q7, .ref q8, .ref q9, .ref q10, .int 0, .ref q11, .ref q12, .null, .null, .null])), (q0, .inl (I.1, 36, .inl (fun _ => 0))), (q1, .inl (I.1, 60, .inl (fun _ => 0))), (q2, .inl (I.1, 200, .inl (fun _ => 0))), (q3, .inl (I.1, 64, .inl (fun _ => 0))), (q4, .inl (I.1, 26, .inl (fun _ => 0))), (q5, .inl (I.1, 26, .inl (fun _ => 0))), (q6, .inl (I.1, 52, .inl (fun _ => 0))), (q7, .inl (I.2.1, 2, .inl (fun _ => 0))), (q8, .inl (I.1, 6, .inl (fun _ => 0))), (q9, .inl (I.1, 360, .inl (fun _ => 0))), (q10, .inl (I.1, 72, .inl (fun _ => 0))), (q11, .inl (I.1, 24, .inl (fun _ => 0))), (q12, .inl (I.1, 8, .inl (fun _ => 0))), (q13, .inl (I.1, 20, .inl (fun _ => 0)))]) := hD
  refine k_putF X (kk := 28) ⟨RX7, TX7, 31, rfl, by decide, wsG_of (i := 828) (by decide +kernel) rfl⟩ (fun _ _ _ h => by cases h; exact ⟨rfl, rfl⟩) hP hD hS rfl rfl (Nat.le_of_ble_eq_true rfl) dc_X7_125 (fun H locs hP hD hS => ?_)
  have hP : va_P D clsU ([(a0, .inr (7, [.int 2, .int 6, .long 0, .int 0, .ref q0, .ref q1, .int 0, .ref q2, .int 0, .int 0, .long 0, .int 0, .int 0, .int 0, .int 0, .ref q3, .int 0, .int 0, .ref q4, .ref q5, .ref q6, .ref q7, .ref q8, .ref q9, .ref q10, .int 0, .ref q11, .ref q12, .ref q13, .null, .null])), (q0, .inl (I.1, 36, .inl (fun _ => 0))), (q1, .inl (I.1, 60, .inl (fun _ => 0))), (q2, .inl (I.1, 200, .inl (fun _ => 0))), (q3, .inl (I.1, 64, .inl (fun _ => 0))), (q4, .inl (I.1, 26, .inl (fun _ => 0))), (q5, .inl (I.1, 26, .inl (fun _ => 0))), (q6, .inl (I.1, 52, .inl (fun _ => 0))), (q7, .inl (I.2.1, 2, .inl (fun _ => 0))), (q8, .inl (I.1, 6, .inl (fun _ => 0))), (q9, .inl (I.1, 360, .inl (fun _ => 0))), (q10, .inl (I.1, 72, .inl (fun _ => 0))), (q11, .inl (I.1, 24, .inl (fun _ => 0))), (q12, .inl (I.1, 8, .inl (fun _ => 0))), (q13, .inl (I.1, 20, .inl (fun _ => 0)))]) H := hP
  have hD : va_D A ([(a0, .inr (7, [.int 2, .int 6, .long 0, .int 0, .ref q0, .ref q1, .int 0, .ref q2, .int 0, .int 0, .long 0, .int 0, .int 0, .int 0, .int 0, .ref q3, .int 0, .int 0, .ref q4, .ref q5, .ref q6, .ref q7, .ref q8, .ref q9, .ref q10, .int 0, .ref q11, .ref q12, .ref q13, .null, .null])), (q0, .inl (I.1, 36, .inl (fun _ => 0))), (q1, .inl (I.1, 60, .inl (fun _ => 0))), (q2, .inl (I.1, 200, .inl (fun _ => 0))), (q3, .inl (I.1, 64, .inl (fun _ => 0))), (q4, .inl (I.1, 26, .inl (fun _ => 0))), (q5, .inl (I.1, 26, .inl (fun _ => 0))), (q6, .inl (I.1, 52, .inl (fun _ => 0))), (q7, .inl (I.2.1, 2, .inl (fun _ => 0))), (q8, .inl (I.1, 6, .inl (fun _ => 0))), (q9, .inl (I.1, 360, .inl (fun _ => 0))), (q10, .inl (I.1, 72, .inl (fun _ => 0))), (q11, .inl (I.1, 24, .inl (fun _ => 0))), (q12, .inl (I.1, 8, .inl (fun _ => 0))), (q13, .inl (I.1, 20, .inl (fun _ => 0)))]) := hD
  refine lv_aload_n hx hb dc_X7_128 rfl (lv_at hl 0 rfl) ?_
  refine lv_bipush (v := 6) hx hb dc_X7_129 (by decide) ?_
  refine k_newI X hP hD hS (by decide) (N := 6) rfl (by decide) (Nat.le_trans (Nat.le_of_ble_eq_true rfl) r3) (Nat.le_trans (Nat.le_of_ble_eq_true rfl) r4) dc_X7_131 (fun q14 H hP hD hS => ?_)
  have hP : va_P D clsU ([(a0, .inr (7, [.int 2, .int 6, .long 0, .int 0, .ref q0, .ref q1, .int 0, .ref q2, .int 0, .int 0, .long 0, .int 0, .int 0, .int 0, .int 0, .ref q3, .int 0, .int 0, .ref q4, .ref q5, .ref q6, .ref q7, .ref q8, .ref q9, .ref q10, .int 0, .ref q11, .ref q12, .ref q13, .null, .null])), (q0, .inl (I.1, 36, .inl (fun _ => 0))), (q1, .inl (I.1, 60, .inl (fun _ => 0))), (q2, .inl (I.1, 200, .inl (fun _ => 0))), (q3, .inl (I.1, 64, .inl (fun _ => 0))), (q4, .inl (I.1, 26, .inl (fun _ => 0))), (q5, .inl (I.1, 26, .inl (fun _ => 0))), (q6, .inl (I.1, 52, .inl (fun _ => 0))), (q7, .inl (I.2.1, 2, .inl (fun _ => 0))), (q8, .inl (I.1, 6, .inl (fun _ => 0))), (q9, .inl (I.1, 360, .inl (fun _ => 0))), (q10, .inl (I.1, 72, .inl (fun _ => 0))), (q11, .inl (I.1, 24, .inl (fun _ => 0))), (q12, .inl (I.1, 8, .inl (fun _ => 0))), (q13, .inl (I.1, 20, .inl (fun _ => 0))), (q14, .inl (I.1, 6, .inl (fun _ => 0)))]) H := hP
  have hD : va_D A ([(a0, .inr (7, [.int 2, .int 6, .long 0, .int 0, .ref q0, .ref q1, .int 0, .ref q2, .int 0, .int 0, .long 0, .int 0, .int 0, .int 0, .int 0, .ref q3, .int 0, .int 0, .ref q4, .ref q5, .ref q6, .ref q7, .ref q8, .ref q9, .ref q10, .int 0, .ref q11, .ref q12, .ref q13, .null, .null])), (q0, .inl (I.1, 36, .inl (fun _ => 0))), (q1, .inl (I.1, 60, .inl (fun _ => 0))), (q2, .inl (I.1, 200, .inl (fun _ => 0))), (q3, .inl (I.1, 64, .inl (fun _ => 0))), (q4, .inl (I.1, 26, .inl (fun _ => 0))), (q5, .inl (I.1, 26, .inl (fun _ => 0))), (q6, .inl (I.1, 52, .inl (fun _ => 0))), (q7, .inl (I.2.1, 2, .inl (fun _ => 0))), (q8, .inl (I.1, 6, .inl (fun _ => 0))), (q9, .inl (I.1, 360, .inl (fun _ => 0))), (q10, .inl (I.1, 72, .inl (fun _ => 0))), (q11, .inl (I.1, 24, .inl (fun _ => 0))), (q12, .inl (I.1, 8, .inl (fun _ => 0))), (q13, .inl (I.1, 20, .inl (fun _ => 0))), (q14, .inl (I.1, 6, .inl (fun _ => 0)))]) := hD
  refine k_putF X (kk := 29) ⟨RX7, TX7, 31, rfl, by decide, wsG_of (i := 829) (by decide +kernel) rfl⟩ (fun _ _ _ h => by cases h; exact ⟨rfl, rfl⟩) hP hD hS rfl rfl (Nat.le_of_ble_eq_true rfl) dc_X7_133 (fun H locs hP hD hS => ?_)
  have hP : va_P D clsU ([(a0, .inr (7, [.int 2, .int 6, .long 0, .int 0, .ref q0, .ref q1, .int 0, .ref q2, .int 0, .int 0, .long 0, .int 0, .int 0, .int 0, .int 0, .ref q3, .int 0, .int 0, .ref q4, .ref q5, .ref q6, .ref q7, .ref q8, .ref q9, .ref q10, .int 0, .ref q11, .ref q12, .ref q13, .ref q14, .null])), (q0, .inl (I.1, 36, .inl (fun _ => 0))), (q1, .inl (I.1, 60, .inl (fun _ => 0))), (q2, .inl (I.1, 200, .inl (fun _ => 0))), (q3, .inl (I.1, 64, .inl (fun _ => 0))), (q4, .inl (I.1, 26, .inl (fun _ => 0))), (q5, .inl (I.1, 26, .inl (fun _ => 0))), (q6, .inl (I.1, 52, .inl (fun _ => 0))), (q7, .inl (I.2.1, 2, .inl (fun _ => 0))), (q8, .inl (I.1, 6, .inl (fun _ => 0))), (q9, .inl (I.1, 360, .inl (fun _ => 0))), (q10, .inl (I.1, 72, .inl (fun _ => 0))), (q11, .inl (I.1, 24, .inl (fun _ => 0))), (q12, .inl (I.1, 8, .inl (fun _ => 0))), (q13, .inl (I.1, 20, .inl (fun _ => 0))), (q14, .inl (I.1, 6, .inl (fun _ => 0)))]) H := hP
  have hD : va_D A ([(a0, .inr (7, [.int 2, .int 6, .long 0, .int 0, .ref q0, .ref q1, .int 0, .ref q2, .int 0, .int 0, .long 0, .int 0, .int 0, .int 0, .int 0, .ref q3, .int 0, .int 0, .ref q4, .ref q5, .ref q6, .ref q7, .ref q8, .ref q9, .ref q10, .int 0, .ref q11, .ref q12, .ref q13, .ref q14, .null])), (q0, .inl (I.1, 36, .inl (fun _ => 0))), (q1, .inl (I.1, 60, .inl (fun _ => 0))), (q2, .inl (I.1, 200, .inl (fun _ => 0))), (q3, .inl (I.1, 64, .inl (fun _ => 0))), (q4, .inl (I.1, 26, .inl (fun _ => 0))), (q5, .inl (I.1, 26, .inl (fun _ => 0))), (q6, .inl (I.1, 52, .inl (fun _ => 0))), (q7, .inl (I.2.1, 2, .inl (fun _ => 0))), (q8, .inl (I.1, 6, .inl (fun _ => 0))), (q9, .inl (I.1, 360, .inl (fun _ => 0))), (q10, .inl (I.1, 72, .inl (fun _ => 0))), (q11, .inl (I.1, 24, .inl (fun _ => 0))), (q12, .inl (I.1, 8, .inl (fun _ => 0))), (q13, .inl (I.1, 20, .inl (fun _ => 0))), (q14, .inl (I.1, 6, .inl (fun _ => 0)))]) := hD
  refine lv_aload_n hx hb dc_X7_136 rfl (lv_at hl 0 rfl) ?_
  refine lv_sipush (v := 324) hx hb dc_X7_137 (by decide) ?_
  refine k_newI X hP hD hS (by decide) (N := 324) rfl (by decide) (Nat.le_trans (Nat.le_of_ble_eq_true rfl) r3) (Nat.le_trans (Nat.le_of_ble_eq_true rfl) r4) dc_X7_140 (fun q15 H hP hD hS => ?_)
  have hP : va_P D clsU ([(a0, .inr (7, [.int 2, .int 6, .long 0, .int 0, .ref q0, .ref q1, .int 0, .ref q2, .int 0, .int 0, .long 0, .int 0, .int 0, .int 0, .int 0, .ref q3, .int 0, .int 0, .ref q4, .ref q5, .ref q6, .ref q7, .ref q8, .ref q9, .ref q10, .int 0, .ref q11, .ref q12, .ref q13, .ref q14, .null])), (q0, .inl (I.1, 36, .inl (fun _ => 0))), (q1, .inl (I.1, 60, .inl (fun _ => 0))), (q2, .inl (I.1, 200, .inl (fun _ => 0))), (q3, .inl (I.1, 64, .inl (fun _ => 0))), (q4, .inl (I.1, 26, .inl (fun _ => 0))), (q5, .inl (I.1, 26, .inl (fun _ => 0))), (q6, .inl (I.1, 52, .inl (fun _ => 0))), (q7, .inl (I.2.1, 2, .inl (fun _ => 0))), (q8, .inl (I.1, 6, .inl (fun _ => 0))), (q9, .inl (I.1, 360, .inl (fun _ => 0))), (q10, .inl (I.1, 72, .inl (fun _ => 0))), (q11, .inl (I.1, 24, .inl (fun _ => 0))), (q12, .inl (I.1, 8, .inl (fun _ => 0))), (q13, .inl (I.1, 20, .inl (fun _ => 0))), (q14, .inl (I.1, 6, .inl (fun _ => 0))), (q15, .inl (I.1, 324, .inl (fun _ => 0)))]) H := hP
  have hD : va_D A ([(a0, .inr (7, [.int 2, .int 6, .long 0, .int 0, .ref q0, .ref q1, .int 0, .ref q2, .int 0, .int 0, .long 0, .int 0, .int 0, .int 0, .int 0, .ref q3, .int 0, .int 0, .ref q4, .ref q5, .ref q6, .ref q7, .ref q8, .ref q9, .ref q10, .int 0, .ref q11, .ref q12, .ref q13, .ref q14, .null])), (q0, .inl (I.1, 36, .inl (fun _ => 0))), (q1, .inl (I.1, 60, .inl (fun _ => 0))), (q2, .inl (I.1, 200, .inl (fun _ => 0))), (q3, .inl (I.1, 64, .inl (fun _ => 0))), (q4, .inl (I.1, 26, .inl (fun _ => 0))), (q5, .inl (I.1, 26, .inl (fun _ => 0))), (q6, .inl (I.1, 52, .inl (fun _ => 0))), (q7, .inl (I.2.1, 2, .inl (fun _ => 0))), (q8, .inl (I.1, 6, .inl (fun _ => 0))), (q9, .inl (I.1, 360, .inl (fun _ => 0))), (q10, .inl (I.1, 72, .inl (fun _ => 0))), (q11, .inl (I.1, 24, .inl (fun _ => 0))), (q12, .inl (I.1, 8, .inl (fun _ => 0))), (q13, .inl (I.1, 20, .inl (fun _ => 0))), (q14, .inl (I.1, 6, .inl (fun _ => 0))), (q15, .inl (I.1, 324, .inl (fun _ => 0)))]) := hD
  refine k_putF X (kk := 30) ⟨RX7, TX7, 31, rfl, by decide, wsG_of (i := 830) (by decide +kernel) rfl⟩ (fun _ _ _ h => by cases h; exact ⟨rfl, rfl⟩) hP hD hS rfl rfl (Nat.le_of_ble_eq_true rfl) dc_X7_142 (fun H locs hP hD hS => ?_)
  have hP : va_P D clsU ([(a0, .inr (7, [.int 2, .int 6, .long 0, .int 0, .ref q0, .ref q1, .int 0, .ref q2, .int 0, .int 0, .long 0, .int 0, .int 0, .int 0, .int 0, .ref q3, .int 0, .int 0, .ref q4, .ref q5, .ref q6, .ref q7, .ref q8, .ref q9, .ref q10, .int 0, .ref q11, .ref q12, .ref q13, .ref q14, .ref q15])), (q0, .inl (I.1, 36, .inl (fun _ => 0))), (q1, .inl (I.1, 60, .inl (fun _ => 0))), (q2, .inl (I.1, 200, .inl (fun _ => 0))), (q3, .inl (I.1, 64, .inl (fun _ => 0))), (q4, .inl (I.1, 26, .inl (fun _ => 0))), (q5, .inl (I.1, 26, .inl (fun _ => 0))), (q6, .inl (I.1, 52, .inl (fun _ => 0))), (q7, .inl (I.2.1, 2, .inl (fun _ => 0))), (q8, .inl (I.1, 6, .inl (fun _ => 0))), (q9, .inl (I.1, 360, .inl (fun _ => 0))), (q10, .inl (I.1, 72, .inl (fun _ => 0))), (q11, .inl (I.1, 24, .inl (fun _ => 0))), (q12, .inl (I.1, 8, .inl (fun _ => 0))), (q13, .inl (I.1, 20, .inl (fun _ => 0))), (q14, .inl (I.1, 6, .inl (fun _ => 0))), (q15, .inl (I.1, 324, .inl (fun _ => 0)))]) H := hP
  have hD : va_D A ([(a0, .inr (7, [.int 2, .int 6, .long 0, .int 0, .ref q0, .ref q1, .int 0, .ref q2, .int 0, .int 0, .long 0, .int 0, .int 0, .int 0, .int 0, .ref q3, .int 0, .int 0, .ref q4, .ref q5, .ref q6, .ref q7, .ref q8, .ref q9, .ref q10, .int 0, .ref q11, .ref q12, .ref q13, .ref q14, .ref q15])), (q0, .inl (I.1, 36, .inl (fun _ => 0))), (q1, .inl (I.1, 60, .inl (fun _ => 0))), (q2, .inl (I.1, 200, .inl (fun _ => 0))), (q3, .inl (I.1, 64, .inl (fun _ => 0))), (q4, .inl (I.1, 26, .inl (fun _ => 0))), (q5, .inl (I.1, 26, .inl (fun _ => 0))), (q6, .inl (I.1, 52, .inl (fun _ => 0))), (q7, .inl (I.2.1, 2, .inl (fun _ => 0))), (q8, .inl (I.1, 6, .inl (fun _ => 0))), (q9, .inl (I.1, 360, .inl (fun _ => 0))), (q10, .inl (I.1, 72, .inl (fun _ => 0))), (q11, .inl (I.1, 24, .inl (fun _ => 0))), (q12, .inl (I.1, 8, .inl (fun _ => 0))), (q13, .inl (I.1, 20, .inl (fun _ => 0))), (q14, .inl (I.1, 6, .inl (fun _ => 0))), (q15, .inl (I.1, 324, .inl (fun _ => 0)))]) := hD
  exact fin _ _ _ (adL a0 [(4, q0), (5, q1), (7, q2), (15, q3), (18, q4), (19, q5), (20, q6), (21, q7), (22, q8), (23, q9), (24, q10), (26, q11), (27, q12), (28, q13), (29, q14), (30, q15)]) 145 dc_X7_145 rfl hP hD hS
