/-! the constructors of a trial and of the class -/
theorem at_app {w1 w2 : va_W} {q : Nat × va_E} (h : w2[0]? = some q) : (w1 ++ w2)[w1.length]? = some q := by
  rw [List.getElem?_append_right (Nat.le_refl _), Nat.sub_self]; exact h
theorem va_P.arrW {D : va_G} {x : Nat × va_E} {a n : Nat} {cA : ClassId} {f g : Nat → Option Nat} {ws : va_W} {H : Heap} (h : va_P D clsU (x :: (a, .inl (cA, n, .inr (.inr (.inr (.inr f))))) :: ws) H) (e : ∀ j, j < n → f j = g j) : va_P D clsU (x :: (a, .inl (cA, n, .inr (.inr (.inr (.inr g))))) :: ws) H := by
  intro k q hk
  match k, hk with
  | 0, hk => exact h 0 q hk
  | 1, hk =>
    have h0 := h 1 _ rfl
    have hq : q = (a, .inl (cA, n, .inr (.inr (.inr (.inr g))))) := (Option.some.inj hk).symm
    subst hq
    have h1 : H[a]? = some (vp_cell cA (n, .inr (.inr (.inr (.inr f))))) := h0
    show H[a]? = some (vp_cell cA (n, .inr (.inr (.inr (.inr g)))))
    rw [h1, vp_cell_q, vp_cell_q]
    exact congrArg some (arrV_same (fun j hj => by rw [e j hj]))
  | k + 2, hk => exact h (k + 2) q hk
theorem va_D.arrW {A : Nat → Prop} {x : Nat × va_E} {a : Nat} {e1 e2 : va_E} {ws : va_W} (h : va_D A (x :: (a, e1) :: ws)) : va_D A (x :: (a, e2) :: ws) := by
  have := h.set (p := 1) (e := e2) rfl
  exact this
theorem dc_X4_0 : decode cX4_init 0 = .ok (.aload_n 0, 1) := by decide +kernel
theorem dc_X4_1 : decode cX4_init 1 = .ok (.invokespecial 3, 3) := by decide +kernel
theorem dc_X4_4 : decode cX4_init 4 = .ok (.aload_n 0, 1) := by decide +kernel
theorem dc_X4_5 : decode cX4_init 5 = .ok (.new 9, 3) := by decide +kernel
theorem dc_X4_8 : decode cX4_init 8 = .ok (.dup, 1) := by decide +kernel
theorem dc_X4_9 : decode cX4_init 9 = .ok (.invokespecial 11, 3) := by decide +kernel
theorem dc_X4_12 : decode cX4_init 12 = .ok (.putfield 12, 3) := by decide +kernel
theorem dc_X4_15 : decode cX4_init 15 = .ok (.aload_n 0, 1) := by decide +kernel
theorem dc_X4_16 : decode cX4_init 16 = .ok (.new 18, 3) := by decide +kernel
theorem dc_X4_19 : decode cX4_init 19 = .ok (.dup, 1) := by decide +kernel
theorem dc_X4_20 : decode cX4_init 20 = .ok (.invokespecial 20, 3) := by decide +kernel
theorem dc_X4_23 : decode cX4_init 23 = .ok (.putfield 21, 3) := by decide +kernel
theorem dc_X4_26 : decode cX4_init 26 = .ok (.aload_n 0, 1) := by decide +kernel
theorem dc_X4_27 : decode cX4_init 27 = .ok (.sipush 324, 3) := by decide +kernel
theorem dc_X4_30 : decode cX4_init 30 = .ok (.newarray .int, 2) := by decide +kernel
theorem dc_X4_32 : decode cX4_init 32 = .ok (.putfield 25, 3) := by decide +kernel
theorem dc_X4_35 : decode cX4_init 35 = .ok (.return_, 1) := by decide +kernel
theorem cw_X4_9 : CtW yX4_init.cls 9 11 yX1_init cX1_init 1 1 11 := ⟨⟨TX1, rfl⟩, wsG_of (i := 196) (by decide +kernel) rfl, wsG_of (i := 57) (by decide +kernel) rfl, wsG_of (i := 35) (by decide +kernel) rfl, Or.inr ⟨RX6, by decide +kernel⟩, wsG_of (i := 59) (by decide +kernel) rfl, wsG_of (i := 60) (by decide +kernel) rfl, by decide +kernel, rfl⟩
theorem cw_X4_18 : CtW yX4_init.cls 18 20 yX5_init cX5_init 1 5 8 := ⟨⟨TX5, rfl⟩, wsG_of (i := 198) (by decide +kernel) rfl, wsG_of (i := 145) (by decide +kernel) rfl, wsG_of (i := 37) (by decide +kernel) rfl, Or.inl (wsG_of (i := 199) (by decide +kernel) rfl), wsG_of (i := 147) (by decide +kernel) rfl, wsG_of (i := 148) (by decide +kernel) rfl, by decide +kernel, rfl⟩
set_option maxHeartbeats 4000000 in
set_option maxRecDepth 20000 in
theorem ct_X4 : CtC yX4_init cX4_init 1 4 2 43 17 523 := by
  refine CtC.intro (plainFor_of_name (by decide +kernel)) rfl (Nat.le_of_ble_eq_true rfl) ?_
  intro p l e R s m args below meth c D I A a0 ls QQ X r1 r2 r3 r4 fin hP hD hl
  have hx := X.1
  have hb := X.2.1
  have hS : va_S A s.heap s.heap [] := va_S.rf
  have hP : va_P D clsU [(a0, .inr (4, [.null, .null, .null, .int 0, .int 0, .int 0, .int 0]))] s.heap := hP
  have hD : va_D A [(a0, .inr (4, [.null, .null, .null, .int 0, .int 0, .int 0, .int 0]))] := hD
  refine lv_aload_n hx hb dc_X4_0 rfl (lv_at hl 0 rfl) ?_
  refine k_objI X hl.1 (Nat.le_trans (Nat.le_of_ble_eq_true rfl) r1) (Nat.le_trans (Nat.le_of_ble_eq_true rfl) r2) (wsG_of (i := 195) (by decide +kernel) rfl) dc_X4_1 ?_
  refine lv_aload_n hx hb dc_X4_4 rfl (lv_at hl 0 rfl) ?_
  refine k_child X ct_X1 cw_X4_9 (Nat.le_trans (Nat.le_of_ble_eq_true rfl) r1) (Nat.le_trans (Nat.le_of_ble_eq_true rfl) r2) (Nat.le_trans (Nat.le_of_ble_eq_true rfl) r3) (Nat.le_trans (Nat.le_of_ble_eq_true rfl) r4) hP hD hS (Nat.le_of_ble_eq_true rfl) hl.1 dc_X4_5 dc_X4_8 dc_X4_9 (fun a1 H locs hP hD hS => ?_)
  generalize hL1 : (trU 1).map (celI I a1) = L1 at hP hD
  have hP : va_P D clsU ((a0, .inr (4, [.null, .null, .null, .int 0, .int 0, .int 0, .int 0])) :: L1) H := hP
  have hD : va_D A ((a0, .inr (4, [.null, .null, .null, .int 0, .int 0, .int 0, .int 0])) :: L1) := hD
  refine k_putF X (kk := 0) ⟨RX4, TX4, 7, rfl, by decide, wsG_of (i := 200) (by decide +kernel) rfl⟩ (fun _ _ _ h => by cases h; exact ⟨rfl, rfl⟩) hP hD hS rfl rfl (Nat.le_of_ble_eq_true rfl) dc_X4_12 (fun H locs hP hD hS => ?_)
  have hP : va_P D clsU ((a0, .inr (4, [.ref (a1 []), .null, .null, .int 0, .int 0, .int 0, .int 0])) :: L1) H := hP
  have hD : va_D A ((a0, .inr (4, [.ref (a1 []), .null, .null, .int 0, .int 0, .int 0, .int 0])) :: L1) := hD
  refine lv_aload_n hx hb dc_X4_15 rfl (lv_at hl 0 rfl) ?_
  refine k_child X ct_X5 cw_X4_18 (Nat.le_trans (Nat.le_of_ble_eq_true rfl) r1) (Nat.le_trans (Nat.le_of_ble_eq_true rfl) r2) (Nat.le_trans (Nat.le_of_ble_eq_true rfl) r3) (Nat.le_trans (Nat.le_of_ble_eq_true rfl) r4) hP hD hS (Nat.le_of_ble_eq_true rfl) hl.1 dc_X4_16 dc_X4_19 dc_X4_20 (fun a2 H locs hP hD hS => ?_)
  generalize hL2 : (trU 5).map (celI I a2) = L2 at hP hD
  have hP : va_P D clsU ((a0, .inr (4, [.ref (a1 []), .null, .null, .int 0, .int 0, .int 0, .int 0])) :: (L1 ++ L2)) H := hP
  have hD : va_D A ((a0, .inr (4, [.ref (a1 []), .null, .null, .int 0, .int 0, .int 0, .int 0])) :: (L1 ++ L2)) := hD
  refine k_putF X (kk := 1) ⟨RX4, TX4, 7, rfl, by decide, wsG_of (i := 201) (by decide +kernel) rfl⟩ (fun _ _ _ h => by cases h; exact ⟨rfl, rfl⟩) hP hD hS rfl rfl (Nat.le_of_ble_eq_true rfl) dc_X4_23 (fun H locs hP hD hS => ?_)
  have hP : va_P D clsU ((a0, .inr (4, [.ref (a1 []), .ref (a2 []), .null, .int 0, .int 0, .int 0, .int 0])) :: (L1 ++ L2)) H := hP
  have hD : va_D A ((a0, .inr (4, [.ref (a1 []), .ref (a2 []), .null, .int 0, .int 0, .int 0, .int 0])) :: (L1 ++ L2)) := hD
  refine lv_aload_n hx hb dc_X4_26 rfl (lv_at hl 0 rfl) ?_
  refine lv_sipush (v := 324) hx hb dc_X4_27 (by decide) ?_
  refine k_newI X hP hD hS (by decide) (N := 324) rfl (by decide) (Nat.le_trans (Nat.le_of_ble_eq_true rfl) r3) (Nat.le_trans (Nat.le_of_ble_eq_true rfl) r4) dc_X4_30 (fun q0 H hP hD hS => ?_)
  have hP : va_P D clsU ((a0, .inr (4, [.ref (a1 []), .ref (a2 []), .null, .int 0, .int 0, .int 0, .int 0])) :: ((L1 ++ L2) ++ [(q0, .inl (I.1, 324, .inl (fun _ => 0)))])) H := hP
  have hD : va_D A ((a0, .inr (4, [.ref (a1 []), .ref (a2 []), .null, .int 0, .int 0, .int 0, .int 0])) :: ((L1 ++ L2) ++ [(q0, .inl (I.1, 324, .inl (fun _ => 0)))])) := hD
  refine k_putF X (kk := 2) ⟨RX4, TX4, 7, rfl, by decide, wsG_of (i := 202) (by decide +kernel) rfl⟩ (fun _ _ _ h => by cases h; exact ⟨rfl, rfl⟩) hP hD hS rfl rfl (Nat.le_of_ble_eq_true rfl) dc_X4_32 (fun H locs hP hD hS => ?_)
  have hP : va_P D clsU ((a0, .inr (4, [.ref (a1 []), .ref (a2 []), .ref q0, .int 0, .int 0, .int 0, .int 0])) :: ((L1 ++ L2) ++ [(q0, .inl (I.1, 324, .inl (fun _ => 0)))])) H := hP
  have hD : va_D A ((a0, .inr (4, [.ref (a1 []), .ref (a2 []), .ref q0, .int 0, .int 0, .int 0, .int 0])) :: ((L1 ++ L2) ++ [(q0, .inl (I.1, 324, .inl (fun _ => 0)))])) := hD
  have e : (trU 4).map (celI I (glue a0 (fun k => match k with | 0 => a1 | 1 => a2 | _ => fun _ => q0))) = (a0, .inr (4, [.ref (a1 []), .ref (a2 []), .ref q0, .int 0, .int 0, .int 0, .int 0])) :: ((L1 ++ L2) ++ [(q0, .inl (I.1, 324, .inl (fun _ => 0)))]) := by
    show tr4.map _ = _
    rw [tr4, List.map_cons, List.map_append, List.map_append, shL_map (b := a1) (fun p => glue_c p 0), shL_map (b := a2) (fun p => glue_c p 1), ← hL1, ← hL2]
    rfl
  refine fin _ _ _ (glue a0 (fun k => match k with | 0 => a1 | 1 => a2 | _ => fun _ => q0)) 35 dc_X4_35 rfl ?_ ?_ hS
  · rw [e]; exact hP
  · rw [e]; exact hD
theorem dc_X6_0 : decode cX6_init 0 = .ok (.aload_n 0, 1) := by decide +kernel
theorem dc_X6_1 : decode cX6_init 1 = .ok (.invokespecial 3, 3) := by decide +kernel
theorem dc_X6_4 : decode cX6_init 4 = .ok (.aload_n 0, 1) := by decide +kernel
theorem dc_X6_5 : decode cX6_init 5 = .ok (.new 9, 3) := by decide +kernel
theorem dc_X6_8 : decode cX6_init 8 = .ok (.dup, 1) := by decide +kernel
theorem dc_X6_9 : decode cX6_init 9 = .ok (.invokespecial 11, 3) := by decide +kernel
theorem dc_X6_12 : decode cX6_init 12 = .ok (.putfield 12, 3) := by decide +kernel
theorem dc_X6_15 : decode cX6_init 15 = .ok (.aload_n 0, 1) := by decide +kernel
theorem dc_X6_16 : decode cX6_init 16 = .ok (.new 9, 3) := by decide +kernel
theorem dc_X6_19 : decode cX6_init 19 = .ok (.dup, 1) := by decide +kernel
theorem dc_X6_20 : decode cX6_init 20 = .ok (.invokespecial 11, 3) := by decide +kernel
theorem dc_X6_23 : decode cX6_init 23 = .ok (.putfield 16, 3) := by decide +kernel
theorem dc_X6_26 : decode cX6_init 26 = .ok (.aload_n 0, 1) := by decide +kernel
theorem dc_X6_27 : decode cX6_init 27 = .ok (.new 19, 3) := by decide +kernel
theorem dc_X6_30 : decode cX6_init 30 = .ok (.dup, 1) := by decide +kernel
theorem dc_X6_31 : decode cX6_init 31 = .ok (.invokespecial 21, 3) := by decide +kernel
theorem dc_X6_34 : decode cX6_init 34 = .ok (.putfield 22, 3) := by decide +kernel
theorem dc_X6_37 : decode cX6_init 37 = .ok (.aload_n 0, 1) := by decide +kernel
theorem dc_X6_38 : decode cX6_init 38 = .ok (.new 26, 3) := by decide +kernel
theorem dc_X6_41 : decode cX6_init 41 = .ok (.dup, 1) := by decide +kernel
theorem dc_X6_42 : decode cX6_init 42 = .ok (.invokespecial 28, 3) := by decide +kernel
theorem dc_X6_45 : decode cX6_init 45 = .ok (.putfield 29, 3) := by decide +kernel
theorem dc_X6_48 : decode cX6_init 48 = .ok (.aload_n 0, 1) := by decide +kernel
theorem dc_X6_49 : decode cX6_init 49 = .ok (.new 26, 3) := by decide +kernel
theorem dc_X6_52 : decode cX6_init 52 = .ok (.dup, 1) := by decide +kernel
theorem dc_X6_53 : decode cX6_init 53 = .ok (.invokespecial 28, 3) := by decide +kernel
theorem dc_X6_56 : decode cX6_init 56 = .ok (.putfield 33, 3) := by decide +kernel
theorem dc_X6_59 : decode cX6_init 59 = .ok (.aload_n 0, 1) := by decide +kernel
theorem dc_X6_60 : decode cX6_init 60 = .ok (.iconst 2, 1) := by decide +kernel
theorem dc_X6_61 : decode cX6_init 61 = .ok (.anewarray 26, 3) := by decide +kernel
theorem dc_X6_64 : decode cX6_init 64 = .ok (.putfield 36, 3) := by decide +kernel
theorem dc_X6_67 : decode cX6_init 67 = .ok (.aload_n 0, 1) := by decide +kernel
theorem dc_X6_68 : decode cX6_init 68 = .ok (.new 40, 3) := by decide +kernel
theorem dc_X6_71 : decode cX6_init 71 = .ok (.dup, 1) := by decide +kernel
theorem dc_X6_72 : decode cX6_init 72 = .ok (.invokespecial 42, 3) := by decide +kernel
theorem dc_X6_75 : decode cX6_init 75 = .ok (.putfield 43, 3) := by decide +kernel
theorem dc_X6_78 : decode cX6_init 78 = .ok (.aload_n 0, 1) := by decide +kernel
theorem dc_X6_79 : decode cX6_init 79 = .ok (.new 47, 3) := by decide +kernel
theorem dc_X6_82 : decode cX6_init 82 = .ok (.dup, 1) := by decide +kernel
theorem dc_X6_83 : decode cX6_init 83 = .ok (.invokespecial 49, 3) := by decide +kernel
theorem dc_X6_86 : decode cX6_init 86 = .ok (.putfield 50, 3) := by decide +kernel
theorem dc_X6_89 : decode cX6_init 89 = .ok (.aload_n 0, 1) := by decide +kernel
theorem dc_X6_90 : decode cX6_init 90 = .ok (.new 54, 3) := by decide +kernel
theorem dc_X6_93 : decode cX6_init 93 = .ok (.dup, 1) := by decide +kernel
theorem dc_X6_94 : decode cX6_init 94 = .ok (.invokespecial 56, 3) := by decide +kernel
theorem dc_X6_97 : decode cX6_init 97 = .ok (.putfield 57, 3) := by decide +kernel
theorem dc_X6_100 : decode cX6_init 100 = .ok (.iconst 0, 1) := by decide +kernel
theorem dc_X6_101 : decode cX6_init 101 = .ok (.istore_n 1, 1) := by decide +kernel
theorem dc_X6_102 : decode cX6_init 102 = .ok (.iload_n 1, 1) := by decide +kernel
theorem dc_X6_103 : decode cX6_init 103 = .ok (.aload_n 0, 1) := by decide +kernel
theorem dc_X6_104 : decode cX6_init 104 = .ok (.getfield 36, 3) := by decide +kernel
theorem dc_X6_107 : decode cX6_init 107 = .ok (.arraylength, 1) := by decide +kernel
theorem dc_X6_108 : decode cX6_init 108 = .ok (.if_icmp .ge 22, 3) := by decide +kernel
theorem dc_X6_111 : decode cX6_init 111 = .ok (.aload_n 0, 1) := by decide +kernel
theorem dc_X6_112 : decode cX6_init 112 = .ok (.getfield 36, 3) := by decide +kernel
theorem dc_X6_115 : decode cX6_init 115 = .ok (.iload_n 1, 1) := by decide +kernel
theorem dc_X6_116 : decode cX6_init 116 = .ok (.new 26, 3) := by decide +kernel
theorem dc_X6_119 : decode cX6_init 119 = .ok (.dup, 1) := by decide +kernel
theorem dc_X6_120 : decode cX6_init 120 = .ok (.invokespecial 28, 3) := by decide +kernel
theorem dc_X6_123 : decode cX6_init 123 = .ok (.aastore, 1) := by decide +kernel
theorem dc_X6_124 : decode cX6_init 124 = .ok (.iinc 1 1, 3) := by decide +kernel
theorem dc_X6_127 : decode cX6_init 127 = .ok (.goto (-25), 3) := by decide +kernel
theorem dc_X6_130 : decode cX6_init 130 = .ok (.return_, 1) := by decide +kernel
theorem cw_X6_9 : CtW yX6_init.cls 9 11 yX1_init cX1_init 1 1 11 := ⟨⟨TX1, rfl⟩, wsG_of (i := 56) (by decide +kernel) rfl, wsG_of (i := 57) (by decide +kernel) rfl, wsG_of (i := 35) (by decide +kernel) rfl, Or.inr ⟨RX6, by decide +kernel⟩, wsG_of (i := 59) (by decide +kernel) rfl, wsG_of (i := 60) (by decide +kernel) rfl, by decide +kernel, rfl⟩
theorem cw_X6_19 : CtW yX6_init.cls 19 21 yX3_init cX3_init 1 3 7 := ⟨⟨TX3, rfl⟩, wsG_of (i := 114) (by decide +kernel) rfl, wsG_of (i := 115) (by decide +kernel) rfl, wsG_of (i := 36) (by decide +kernel) rfl, Or.inr ⟨RX6, by decide +kernel⟩, wsG_of (i := 117) (by decide +kernel) rfl, wsG_of (i := 118) (by decide +kernel) rfl, by decide +kernel, rfl⟩
theorem cw_X6_26 : CtW yX6_init.cls 26 28 yX5_init cX5_init 1 5 8 := ⟨⟨TX5, rfl⟩, wsG_of (i := 144) (by decide +kernel) rfl, wsG_of (i := 145) (by decide +kernel) rfl, wsG_of (i := 37) (by decide +kernel) rfl, Or.inl (wsG_of (i := 146) (by decide +kernel) rfl), wsG_of (i := 147) (by decide +kernel) rfl, wsG_of (i := 148) (by decide +kernel) rfl, by decide +kernel, rfl⟩
theorem cw_X6_40 : CtW yX6_init.cls 40 42 yX4_init cX4_init 1 4 7 := ⟨⟨TX4, rfl⟩, wsG_of (i := 190) (by decide +kernel) rfl, wsG_of (i := 191) (by decide +kernel) rfl, wsG_of (i := 39) (by decide +kernel) rfl, Or.inr ⟨RX6, by decide +kernel⟩, wsG_of (i := 193) (by decide +kernel) rfl, wsG_of (i := 194) (by decide +kernel) rfl, by decide +kernel, rfl⟩
theorem cw_X6_47 : CtW yX6_init.cls 47 49 yX2_init cX2_init 1 2 6 := ⟨⟨TX2, rfl⟩, wsG_of (i := 226) (by decide +kernel) rfl, wsG_of (i := 227) (by decide +kernel) rfl, wsG_of (i := 40) (by decide +kernel) rfl, Or.inr ⟨RX6, by decide +kernel⟩, wsG_of (i := 229) (by decide +kernel) rfl, wsG_of (i := 230) (by decide +kernel) rfl, by decide +kernel, rfl⟩
theorem cw_X6_54 : CtW yX6_init.cls 54 56 yX0_init cX0_init 1 0 4 := ⟨⟨TX0, rfl⟩, wsG_of (i := 253) (by decide +kernel) rfl, wsG_of (i := 254) (by decide +kernel) rfl, wsG_of (i := 41) (by decide +kernel) rfl, Or.inr ⟨RX6, by decide +kernel⟩, wsG_of (i := 256) (by decide +kernel) rfl, wsG_of (i := 257) (by decide +kernel) rfl, by decide +kernel, rfl⟩
set_option maxHeartbeats 4000000 in
set_option maxRecDepth 20000 in
theorem ct_X6 : CtC yX6_init cX6_init 2 6 3 63 74 1354 := by
  refine CtC.intro (plainFor_of_name (by decide +kernel)) rfl (Nat.le_of_ble_eq_true rfl) ?_
  intro p l e R s m args below meth c D I A a0 ls QQ X r1 r2 r3 r4 fin hP hD hl
  have hx := X.1
  have hb := X.2.1
  have hS : va_S A s.heap s.heap [] := va_S.rf
  have hP : va_P D clsU [(a0, .inr (6, [.null, .null, .null, .null, .null, .null, .null, .null, .null]))] s.heap := hP
  have hD : va_D A [(a0, .inr (6, [.null, .null, .null, .null, .null, .null, .null, .null, .null]))] := hD
  refine lv_aload_n hx hb dc_X6_0 rfl (lv_at hl 0 rfl) ?_
  refine k_objI X hl.1 (Nat.le_trans (Nat.le_of_ble_eq_true rfl) r1) (Nat.le_trans (Nat.le_of_ble_eq_true rfl) r2) (wsG_of (i := 53) (by decide +kernel) rfl) dc_X6_1 ?_
  refine lv_aload_n hx hb dc_X6_4 rfl (lv_at hl 0 rfl) ?_
  refine k_child X ct_X1 cw_X6_9 (Nat.le_trans (Nat.le_of_ble_eq_true rfl) r1) (Nat.le_trans (Nat.le_of_ble_eq_true rfl) r2) (Nat.le_trans (Nat.le_of_ble_eq_true rfl) r3) (Nat.le_trans (Nat.le_of_ble_eq_true rfl) r4) hP hD hS (Nat.le_of_ble_eq_true rfl) hl.1 dc_X6_5 dc_X6_8 dc_X6_9 (fun a1 H locs hP hD hS => ?_)
  generalize hL1 : (trU 1).map (celI I a1) = L1 at hP hD
  have hP : va_P D clsU ((a0, .inr (6, [.null, .null, .null, .null, .null, .null, .null, .null, .null])) :: L1) H := hP
  have hD : va_D A ((a0, .inr (6, [.null, .null, .null, .null, .null, .null, .null, .null, .null])) :: L1) := hD
  refine k_putF X (kk := 0) ⟨RX6, TX6, 9, rfl, by decide, wsG_of (i := 275) (by decide +kernel) rfl⟩ (fun _ _ _ h => by cases h; exact ⟨rfl, rfl⟩) hP hD hS rfl rfl (Nat.le_of_ble_eq_true rfl) dc_X6_12 (fun H locs hP hD hS => ?_)
  have hP : va_P D clsU ((a0, .inr (6, [.ref (a1 []), .null, .null, .null, .null, .null, .null, .null, .null])) :: L1) H := hP
  have hD : va_D A ((a0, .inr (6, [.ref (a1 []), .null, .null, .null, .null, .null, .null, .null, .null])) :: L1) := hD
  refine lv_aload_n hx hb dc_X6_15 rfl (lv_at hl 0 rfl) ?_
  refine k_child X ct_X1 cw_X6_9 (Nat.le_trans (Nat.le_of_ble_eq_true rfl) r1) (Nat.le_trans (Nat.le_of_ble_eq_true rfl) r2) (Nat.le_trans (Nat.le_of_ble_eq_true rfl) r3) (Nat.le_trans (Nat.le_of_ble_eq_true rfl) r4) hP hD hS (Nat.le_of_ble_eq_true rfl) hl.1 dc_X6_16 dc_X6_19 dc_X6_20 (fun a2 H locs hP hD hS => ?_)
  generalize hL2 : (trU 1).map (celI I a2) = L2 at hP hD
  have hP : va_P D clsU ((a0, .inr (6, [.ref (a1 []), .null, .null, .null, .null, .null, .null, .null, .null])) :: (L1 ++ L2)) H := hP
  have hD : va_D A ((a0, .inr (6, [.ref (a1 []), .null, .null, .null, .null, .null, .null, .null, .null])) :: (L1 ++ L2)) := hD
  refine k_putF X (kk := 1) ⟨RX6, TX6, 9, rfl, by decide, wsG_of (i := 276) (by decide +kernel) rfl⟩ (fun _ _ _ h => by cases h; exact ⟨rfl, rfl⟩) hP hD hS rfl rfl (Nat.le_of_ble_eq_true rfl) dc_X6_23 (fun H locs hP hD hS => ?_)
  have hP : va_P D clsU ((a0, .inr (6, [.ref (a1 []), .ref (a2 []), .null, .null, .null, .null, .null, .null, .null])) :: (L1 ++ L2)) H := hP
  have hD : va_D A ((a0, .inr (6, [.ref (a1 []), .ref (a2 []), .null, .null, .null, .null, .null, .null, .null])) :: (L1 ++ L2)) := hD
  refine lv_aload_n hx hb dc_X6_26 rfl (lv_at hl 0 rfl) ?_
  refine k_child X ct_X3 cw_X6_19 (Nat.le_trans (Nat.le_of_ble_eq_true rfl) r1) (Nat.le_trans (Nat.le_of_ble_eq_true rfl) r2) (Nat.le_trans (Nat.le_of_ble_eq_true rfl) r3) (Nat.le_trans (Nat.le_of_ble_eq_true rfl) r4) hP hD hS (Nat.le_of_ble_eq_true rfl) hl.1 dc_X6_27 dc_X6_30 dc_X6_31 (fun a3 H locs hP hD hS => ?_)
  generalize hL3 : (trU 3).map (celI I a3) = L3 at hP hD
  have hP : va_P D clsU ((a0, .inr (6, [.ref (a1 []), .ref (a2 []), .null, .null, .null, .null, .null, .null, .null])) :: ((L1 ++ L2) ++ L3)) H := hP
  have hD : va_D A ((a0, .inr (6, [.ref (a1 []), .ref (a2 []), .null, .null, .null, .null, .null, .null, .null])) :: ((L1 ++ L2) ++ L3)) := hD
  refine k_putF X (kk := 2) ⟨RX6, TX6, 9, rfl, by decide, wsG_of (i := 277) (by decide +kernel) rfl⟩ (fun _ _ _ h => by cases h; exact ⟨rfl, rfl⟩) hP hD hS rfl rfl (Nat.le_of_ble_eq_true rfl) dc_X6_34 (fun H locs hP hD hS => ?_)
  have hP : va_P D clsU ((a0, .inr (6, [.ref (a1 []), .ref (a2 []), .ref (a3 []), .null, .null, .null, .null, .null, .null])) :: ((L1 ++ L2) ++ L3)) H := hP
  have hD : va_D A ((a0, .inr (6, [.ref (a1 []), .ref (a2 []), .ref (a3 []), .null, .null, .null, .null, .null, .null])) :: ((L1 ++ L2) ++ L3)) := hD
  refine lv_aload_n hx hb dc_X6_37 rfl (lv_at hl 0 rfl) ?_
  refine k_child X ct_X5 cw_X6_26 (Nat.le_trans (Nat.le_of_ble_eq_true rfl) r1) (Nat.le_trans (Nat.le_of_ble_eq_true rfl) r2) (Nat.le_trans (Nat.le_of_ble_eq_true rfl) r3) (Nat.le_trans (Nat.le_of_ble_eq_true rfl) r4) hP hD hS (Nat.le_of_ble_eq_true rfl) hl.1 dc_X6_38 dc_X6_41 dc_X6_42 (fun a4 H locs hP hD hS => ?_)
  generalize hL4 : (trU 5).map (celI I a4) = L4 at hP hD
  have hP : va_P D clsU ((a0, .inr (6, [.ref (a1 []), .ref (a2 []), .ref (a3 []), .null, .null, .null, .null, .null, .null])) :: (((L1 ++ L2) ++ L3) ++ L4)) H := hP
  have hD : va_D A ((a0, .inr (6, [.ref (a1 []), .ref (a2 []), .ref (a3 []), .null, .null, .null, .null, .null, .null])) :: (((L1 ++ L2) ++ L3) ++ L4)) := hD
  refine k_putF X (kk := 3) ⟨RX6, TX6, 9, rfl, by decide, wsG_of (i := 278) (by decide +kernel) rfl⟩ (fun _ _ _ h => by cases h; exact ⟨rfl, rfl⟩) hP hD hS rfl rfl (Nat.le_of_ble_eq_true rfl) dc_X6_45 (fun H locs hP hD hS => ?_)
  have hP : va_P D clsU ((a0, .inr (6, [.ref (a1 []), .ref (a2 []), .ref (a3 []), .ref (a4 []), .null, .null, .null, .null, .null])) :: (((L1 ++ L2) ++ L3) ++ L4)) H := hP
  have hD : va_D A ((a0, .inr (6, [.ref (a1 []), .ref (a2 []), .ref (a3 []), .ref (a4 []), .null, .null, .null, .null, .null])) :: (((L1 ++ L2) ++ L3) ++ L4)) := hD
  refine lv_aload_n hx hb dc_X6_48 rfl (lv_at hl 0 rfl) ?_
  refine k_child X ct_X5 cw_X6_26 (Nat.le_trans (Nat.le_of_ble_eq_true rfl) r1) (Nat.le_trans (Nat.le_of_ble_eq_true rfl) r2) (Nat.le_trans (Nat.le_of_ble_eq_true rfl) r3) (Nat.le_trans (Nat.le_of_ble_eq_true rfl) r4) hP hD hS (Nat.le_of_ble_eq_true rfl) hl.1 dc_X6_49 dc_X6_52 dc_X6_53 (fun a5 H locs hP hD hS => ?_)
  generalize hL5 : (trU 5).map (celI I a5) = L5 at hP hD
  have hP : va_P D clsU ((a0, .inr (6, [.ref (a1 []), .ref (a2 []), .ref (a3 []), .ref (a4 []), .null, .null, .null, .null, .null])) :: ((((L1 ++ L2) ++ L3) ++ L4) ++ L5)) H := hP
  have hD : va_D A ((a0, .inr (6, [.ref (a1 []), .ref (a2 []), .ref (a3 []), .ref (a4 []), .null, .null, .null, .null, .null])) :: ((((L1 ++ L2) ++ L3) ++ L4) ++ L5)) := hD
  refine k_putF X (kk := 4) ⟨RX6, TX6, 9, rfl, by decide, wsG_of (i := 279) (by decide +kernel) rfl⟩ (fun _ _ _ h => by cases h; exact ⟨rfl, rfl⟩) hP hD hS rfl rfl (Nat.le_of_ble_eq_true rfl) dc_X6_56 (fun H locs hP hD hS => ?_)
  have hP : va_P D clsU ((a0, .inr (6, [.ref (a1 []), .ref (a2 []), .ref (a3 []), .ref (a4 []), .ref (a5 []), .null, .null, .null, .null])) :: ((((L1 ++ L2) ++ L3) ++ L4) ++ L5)) H := hP
  have hD : va_D A ((a0, .inr (6, [.ref (a1 []), .ref (a2 []), .ref (a3 []), .ref (a4 []), .ref (a5 []), .null, .null, .null, .null])) :: ((((L1 ++ L2) ++ L3) ++ L4) ++ L5)) := hD
  refine lv_aload_n hx hb dc_X6_59 rfl (lv_at hl 0 rfl) ?_
  refine lv_iconst (v := 2) hx hb dc_X6_60 (by decide) ?_
  refine k_newW X hP hD hS (by decide) (N := 2) rfl (by decide) (wsG_of (i := 144) (by decide +kernel) rfl) (Nat.le_trans (Nat.le_of_ble_eq_true rfl) r3) (Nat.le_trans (Nat.le_of_ble_eq_true rfl) r4) dc_X6_61 (fun qk H hP hD hS => ?_)
  have hP := va_P.swap (a := [(a0, .inr (6, [.ref (a1 []), .ref (a2 []), .ref (a3 []), .ref (a4 []), .ref (a5 []), .null, .null, .null, .null]))]) (b := ((((L1 ++ L2) ++ L3) ++ L4) ++ L5)) (c := [(qk, .inl (I.2.2, 2, .inr (.inr (.inr (.inr (fun _ => none))))))]) hP
  have hD := va_D.swap (a := [(a0, .inr (6, [.ref (a1 []), .ref (a2 []), .ref (a3 []), .ref (a4 []), .ref (a5 []), .null, .null, .null, .null]))]) (b := ((((L1 ++ L2) ++ L3) ++ L4) ++ L5)) (c := [(qk, .inl (I.2.2, 2, .inr (.inr (.inr (.inr (fun _ => none))))))]) hD
  have hP : va_P D clsU ((a0, .inr (6, [.ref (a1 []), .ref (a2 []), .ref (a3 []), .ref (a4 []), .ref (a5 []), .null, .null, .null, .null])) :: (qk, .inl (I.2.2, 2, .inr (.inr (.inr (.inr (fun _ => none)))))) :: ((((L1 ++ L2) ++ L3) ++ L4) ++ L5)) H := hP
  have hD : va_D A ((a0, .inr (6, [.ref (a1 []), .ref (a2 []), .ref (a3 []), .ref (a4 []), .ref (a5 []), .null, .null, .null, .null])) :: (qk, .inl (I.2.2, 2, .inr (.inr (.inr (.inr (fun _ => none)))))) :: ((((L1 ++ L2) ++ L3) ++ L4) ++ L5)) := hD
  refine k_putF X (kk := 5) ⟨RX6, TX6, 9, rfl, by decide, wsG_of (i := 280) (by decide +kernel) rfl⟩ (fun _ _ _ h => by cases h; exact ⟨rfl, rfl⟩) hP hD hS rfl rfl (Nat.le_of_ble_eq_true rfl) dc_X6_64 (fun H locs hP hD hS => ?_)
  have hP : va_P D clsU ((a0, .inr (6, [.ref (a1 []), .ref (a2 []), .ref (a3 []), .ref (a4 []), .ref (a5 []), .ref qk, .null, .null, .null])) :: (qk, .inl (I.2.2, 2, .inr (.inr (.inr (.inr (fun _ => none)))))) :: ((((L1 ++ L2) ++ L3) ++ L4) ++ L5)) H := hP
  have hD : va_D A ((a0, .inr (6, [.ref (a1 []), .ref (a2 []), .ref (a3 []), .ref (a4 []), .ref (a5 []), .ref qk, .null, .null, .null])) :: (qk, .inl (I.2.2, 2, .inr (.inr (.inr (.inr (fun _ => none)))))) :: ((((L1 ++ L2) ++ L3) ++ L4) ++ L5)) := hD
  refine lv_aload_n hx hb dc_X6_67 rfl (lv_at hl 0 rfl) ?_
  refine k_child X ct_X4 cw_X6_40 (Nat.le_trans (Nat.le_of_ble_eq_true rfl) r1) (Nat.le_trans (Nat.le_of_ble_eq_true rfl) r2) (Nat.le_trans (Nat.le_of_ble_eq_true rfl) r3) (Nat.le_trans (Nat.le_of_ble_eq_true rfl) r4) hP hD hS (Nat.le_of_ble_eq_true rfl) hl.1 dc_X6_68 dc_X6_71 dc_X6_72 (fun a6 H locs hP hD hS => ?_)
  generalize hL6 : (trU 4).map (celI I a6) = L6 at hP hD
  have hP : va_P D clsU ((a0, .inr (6, [.ref (a1 []), .ref (a2 []), .ref (a3 []), .ref (a4 []), .ref (a5 []), .ref qk, .null, .null, .null])) :: (qk, .inl (I.2.2, 2, .inr (.inr (.inr (.inr (fun _ => none)))))) :: (((((L1 ++ L2) ++ L3) ++ L4) ++ L5) ++ L6)) H := hP
  have hD : va_D A ((a0, .inr (6, [.ref (a1 []), .ref (a2 []), .ref (a3 []), .ref (a4 []), .ref (a5 []), .ref qk, .null, .null, .null])) :: (qk, .inl (I.2.2, 2, .inr (.inr (.inr (.inr (fun _ => none)))))) :: (((((L1 ++ L2) ++ L3) ++ L4) ++ L5) ++ L6)) := hD
  refine k_putF X (kk := 6) ⟨RX6, TX6, 9, rfl, by decide, wsG_of (i := 281) (by decide +kernel) rfl⟩ (fun _ _ _ h => by cases h; exact ⟨rfl, rfl⟩) hP hD hS rfl rfl (Nat.le_of_ble_eq_true rfl) dc_X6_75 (fun H locs hP hD hS => ?_)
  have hP : va_P D clsU ((a0, .inr (6, [.ref (a1 []), .ref (a2 []), .ref (a3 []), .ref (a4 []), .ref (a5 []), .ref qk, .ref (a6 []), .null, .null])) :: (qk, .inl (I.2.2, 2, .inr (.inr (.inr (.inr (fun _ => none)))))) :: (((((L1 ++ L2) ++ L3) ++ L4) ++ L5) ++ L6)) H := hP
  have hD : va_D A ((a0, .inr (6, [.ref (a1 []), .ref (a2 []), .ref (a3 []), .ref (a4 []), .ref (a5 []), .ref qk, .ref (a6 []), .null, .null])) :: (qk, .inl (I.2.2, 2, .inr (.inr (.inr (.inr (fun _ => none)))))) :: (((((L1 ++ L2) ++ L3) ++ L4) ++ L5) ++ L6)) := hD
  refine lv_aload_n hx hb dc_X6_78 rfl (lv_at hl 0 rfl) ?_
  refine k_child X ct_X2 cw_X6_47 (Nat.le_trans (Nat.le_of_ble_eq_true rfl) r1) (Nat.le_trans (Nat.le_of_ble_eq_true rfl) r2) (Nat.le_trans (Nat.le_of_ble_eq_true rfl) r3) (Nat.le_trans (Nat.le_of_ble_eq_true rfl) r4) hP hD hS (Nat.le_of_ble_eq_true rfl) hl.1 dc_X6_79 dc_X6_82 dc_X6_83 (fun a7 H locs hP hD hS => ?_)
  generalize hL7 : (trU 2).map (celI I a7) = L7 at hP hD
  have hP : va_P D clsU ((a0, .inr (6, [.ref (a1 []), .ref (a2 []), .ref (a3 []), .ref (a4 []), .ref (a5 []), .ref qk, .ref (a6 []), .null, .null])) :: (qk, .inl (I.2.2, 2, .inr (.inr (.inr (.inr (fun _ => none)))))) :: ((((((L1 ++ L2) ++ L3) ++ L4) ++ L5) ++ L6) ++ L7)) H := hP
  have hD : va_D A ((a0, .inr (6, [.ref (a1 []), .ref (a2 []), .ref (a3 []), .ref (a4 []), .ref (a5 []), .ref qk, .ref (a6 []), .null, .null])) :: (qk, .inl (I.2.2, 2, .inr (.inr (.inr (.inr (fun _ => none)))))) :: ((((((L1 ++ L2) ++ L3) ++ L4) ++ L5) ++ L6) ++ L7)) := hD
  refine k_putF X (kk := 7) ⟨RX6, TX6, 9, rfl, by decide, wsG_of (i := 282) (by decide +kernel) rfl⟩ (fun _ _ _ h => by cases h; exact ⟨rfl, rfl⟩) hP hD hS rfl rfl (Nat.le_of_ble_eq_true rfl) dc_X6_86 (fun H locs hP hD hS => ?_)
  have hP : va_P D clsU ((a0, .inr (6, [.ref (a1 []), .ref (a2 []), .ref (a3 []), .ref (a4 []), .ref (a5 []), .ref qk, .ref (a6 []), .ref (a7 []), .null])) :: (qk, .inl (I.2.2, 2, .inr (.inr (.inr (.inr (fun _ => none)))))) :: ((((((L1 ++ L2) ++ L3) ++ L4) ++ L5) ++ L6) ++ L7)) H := hP
  have hD : va_D A ((a0, .inr (6, [.ref (a1 []), .ref (a2 []), .ref (a3 []), .ref (a4 []), .ref (a5 []), .ref qk, .ref (a6 []), .ref (a7 []), .null])) :: (qk, .inl (I.2.2, 2, .inr (.inr (.inr (.inr (fun _ => none)))))) :: ((((((L1 ++ L2) ++ L3) ++ L4) ++ L5) ++ L6) ++ L7)) := hD
  refine lv_aload_n hx hb dc_X6_89 rfl (lv_at hl 0 rfl) ?_
  refine k_child X ct_X0 cw_X6_54 (Nat.le_trans (Nat.le_of_ble_eq_true rfl) r1) (Nat.le_trans (Nat.le_of_ble_eq_true rfl) r2) (Nat.le_trans (Nat.le_of_ble_eq_true rfl) r3) (Nat.le_trans (Nat.le_of_ble_eq_true rfl) r4) hP hD hS (Nat.le_of_ble_eq_true rfl) hl.1 dc_X6_90 dc_X6_93 dc_X6_94 (fun a8 H locs hP hD hS => ?_)
  generalize hL8 : (trU 0).map (celI I a8) = L8 at hP hD
  have hP : va_P D clsU ((a0, .inr (6, [.ref (a1 []), .ref (a2 []), .ref (a3 []), .ref (a4 []), .ref (a5 []), .ref qk, .ref (a6 []), .ref (a7 []), .null])) :: (qk, .inl (I.2.2, 2, .inr (.inr (.inr (.inr (fun _ => none)))))) :: (((((((L1 ++ L2) ++ L3) ++ L4) ++ L5) ++ L6) ++ L7) ++ L8)) H := hP
  have hD : va_D A ((a0, .inr (6, [.ref (a1 []), .ref (a2 []), .ref (a3 []), .ref (a4 []), .ref (a5 []), .ref qk, .ref (a6 []), .ref (a7 []), .null])) :: (qk, .inl (I.2.2, 2, .inr (.inr (.inr (.inr (fun _ => none)))))) :: (((((((L1 ++ L2) ++ L3) ++ L4) ++ L5) ++ L6) ++ L7) ++ L8)) := hD
  refine k_putF X (kk := 8) ⟨RX6, TX6, 9, rfl, by decide, wsG_of (i := 283) (by decide +kernel) rfl⟩ (fun _ _ _ h => by cases h; exact ⟨rfl, rfl⟩) hP hD hS rfl rfl (Nat.le_of_ble_eq_true rfl) dc_X6_97 (fun H locs hP hD hS => ?_)
  have hP : va_P D clsU ((a0, .inr (6, [.ref (a1 []), .ref (a2 []), .ref (a3 []), .ref (a4 []), .ref (a5 []), .ref qk, .ref (a6 []), .ref (a7 []), .ref (a8 [])])) :: (qk, .inl (I.2.2, 2, .inr (.inr (.inr (.inr (fun _ => none)))))) :: (((((((L1 ++ L2) ++ L3) ++ L4) ++ L5) ++ L6) ++ L7) ++ L8)) H := hP
  have hD : va_D A ((a0, .inr (6, [.ref (a1 []), .ref (a2 []), .ref (a3 []), .ref (a4 []), .ref (a5 []), .ref qk, .ref (a6 []), .ref (a7 []), .ref (a8 [])])) :: (qk, .inl (I.2.2, 2, .inr (.inr (.inr (.inr (fun _ => none)))))) :: (((((((L1 ++ L2) ++ L3) ++ L4) ++ L5) ++ L6) ++ L7) ++ L8)) := hD
  refine lv_iconst (v := 0) hx hb dc_X6_100 (by decide) ?_
  refine lv_istore_n (lv' := [(1, .int 0), (0, .ref a0)]) hx hb dc_X6_101 rfl hl (by decide) rfl (fun ls hl => ?_)
  refine lv_iload_n hx hb dc_X6_102 rfl (lv_at hl 0 rfl) ?_
  refine lv_aload_n hx hb dc_X6_103 rfl (lv_at hl 1 rfl) ?_
  refine va_get (D := D) (cl := clsU) (tys := T3 I) (ci := 6) (v := .ref qk) (C := RX6) (T := TX6) (N := 9) hx hb X.2.2.2.2.1 iwX6 X.2.2.2.1 X.2.2.2.2.2.1 hP 0 rfl rfl 5 (by decide) (X.2.2.2.2.1 _ (wsG_of (i := 280) (by decide +kernel) rfl)) (fun _ h9 => h9) rfl dc_X6_104 ?_
  refine va_alen (D := D) (cl := clsU) (tys := T3 I) hx hb X.2.2.2.2.2.1 hP 1 2 rfl rfl (v := 2) rfl dc_X6_107 ?_
  refine lv_icmp_ge (tgt := 130) hx hb dc_X6_108 (by decide) (fun c => absurd c (by decide)) (fun _ => ?_)
  refine lv_aload_n hx hb dc_X6_111 rfl (lv_at hl 1 rfl) ?_
  refine va_get (D := D) (cl := clsU) (tys := T3 I) (ci := 6) (v := .ref qk) (C := RX6) (T := TX6) (N := 9) hx hb X.2.2.2.2.1 iwX6 X.2.2.2.1 X.2.2.2.2.2.1 hP 0 rfl rfl 5 (by decide) (X.2.2.2.2.1 _ (wsG_of (i := 280) (by decide +kernel) rfl)) (fun _ h9 => h9) rfl dc_X6_112 ?_
  refine lv_iload_n hx hb dc_X6_115 rfl (lv_at hl 0 rfl) ?_
  refine k_child X ct_X5 cw_X6_26 (Nat.le_trans (Nat.le_of_ble_eq_true rfl) r1) (Nat.le_trans (Nat.le_of_ble_eq_true rfl) r2) (Nat.le_trans (Nat.le_of_ble_eq_true rfl) r3) (Nat.le_trans (Nat.le_of_ble_eq_true rfl) r4) hP hD hS (Nat.le_of_ble_eq_true rfl) hl.1 dc_X6_116 dc_X6_119 dc_X6_120 (fun a9 H locs hP hD hS => ?_)
  have hz9 : ((trU 5).map (celI I a9))[0]? = some (a9 [], .inr (5, (List.range (nfl 5)).map (fun k => match fty 5 k with | 0 => .int (iI 5 k) | 1 => .int (iI 5 k) | 3 => .long 0 | _ => .ref (a9 (k :: []))))) := rfl
  generalize hL9 : (trU 5).map (celI I a9) = L9 at hP hD hz9
  refine va_astq (D := D) (cl := clsU) (tys := T3 I) hx hb X.2.2.2.2.2.1 hP hD hS 1 2 (((a0, .inr (6, [.ref (a1 []), .ref (a2 []), .ref (a3 []), .ref (a4 []), .ref (a5 []), .ref qk, .ref (a6 []), .ref (a7 []), .ref (a8 [])])) :: (qk, .inl (I.2.2, 2, .inr (.inr (.inr (.inr (fun _ => none)))))) :: (((((((L1 ++ L2) ++ L3) ++ L4) ++ L5) ++ L6) ++ L7) ++ L8)) : va_W).length 5 (r := (RX5, TX5, 8)) rfl rfl (at_app (w1 := (a0, .inr (6, [.ref (a1 []), .ref (a2 []), .ref (a3 []), .ref (a4 []), .ref (a5 []), .ref qk, .ref (a6 []), .ref (a7 []), .ref (a8 [])])) :: (qk, .inl (I.2.2, 2, .inr (.inr (.inr (.inr (fun _ => none)))))) :: (((((((L1 ++ L2) ++ L3) ++ L4) ++ L5) ++ L6) ++ L7) ++ L8)) hz9) rfl (vp_in_nI (n := 0) (by decide) (by decide)) dc_X6_123 (fun H locs hP hD hS => ?_)
  have hP : va_P D clsU ((a0, .inr (6, [.ref (a1 []), .ref (a2 []), .ref (a3 []), .ref (a4 []), .ref (a5 []), .ref qk, .ref (a6 []), .ref (a7 []), .ref (a8 [])])) :: (qk, .inl (I.2.2, 2, .inr (.inr (.inr (.inr (va_up (fun _ => none) 0 (some (a9 [])))))))) :: ((((((((L1 ++ L2) ++ L3) ++ L4) ++ L5) ++ L6) ++ L7) ++ L8) ++ L9)) H := hP
  have hD : va_D A ((a0, .inr (6, [.ref (a1 []), .ref (a2 []), .ref (a3 []), .ref (a4 []), .ref (a5 []), .ref qk, .ref (a6 []), .ref (a7 []), .ref (a8 [])])) :: (qk, .inl (I.2.2, 2, .inr (.inr (.inr (.inr (va_up (fun _ => none) 0 (some (a9 [])))))))) :: ((((((((L1 ++ L2) ++ L3) ++ L4) ++ L5) ++ L6) ++ L7) ++ L8) ++ L9)) := hD
  refine lv_iinc (v := 1) (lv' := [(1, .int 1), (0, .ref a0)]) hx hb dc_X6_124 hl (k := 0) rfl (by decide) (by decide) rfl (fun ls hl => ?_)
  refine lv_goto (tgt := 102) hx hb dc_X6_127 (by decide) ?_
  refine lv_iload_n hx hb dc_X6_102 rfl (lv_at hl 0 rfl) ?_
  refine lv_aload_n hx hb dc_X6_103 rfl (lv_at hl 1 rfl) ?_
  refine va_get (D := D) (cl := clsU) (tys := T3 I) (ci := 6) (v := .ref qk) (C := RX6) (T := TX6) (N := 9) hx hb X.2.2.2.2.1 iwX6 X.2.2.2.1 X.2.2.2.2.2.1 hP 0 rfl rfl 5 (by decide) (X.2.2.2.2.1 _ (wsG_of (i := 280) (by decide +kernel) rfl)) (fun _ h9 => h9) rfl dc_X6_104 ?_
  refine va_alen (D := D) (cl := clsU) (tys := T3 I) hx hb X.2.2.2.2.2.1 hP 1 2 rfl rfl (v := 2) rfl dc_X6_107 ?_
  refine lv_icmp_ge (tgt := 130) hx hb dc_X6_108 (by decide) (fun c => absurd c (by decide)) (fun _ => ?_)
  refine lv_aload_n hx hb dc_X6_111 rfl (lv_at hl 1 rfl) ?_
  refine va_get (D := D) (cl := clsU) (tys := T3 I) (ci := 6) (v := .ref qk) (C := RX6) (T := TX6) (N := 9) hx hb X.2.2.2.2.1 iwX6 X.2.2.2.1 X.2.2.2.2.2.1 hP 0 rfl rfl 5 (by decide) (X.2.2.2.2.1 _ (wsG_of (i := 280) (by decide +kernel) rfl)) (fun _ h9 => h9) rfl dc_X6_112 ?_
  refine lv_iload_n hx hb dc_X6_115 rfl (lv_at hl 0 rfl) ?_
  refine k_child X ct_X5 cw_X6_26 (Nat.le_trans (Nat.le_of_ble_eq_true rfl) r1) (Nat.le_trans (Nat.le_of_ble_eq_true rfl) r2) (Nat.le_trans (Nat.le_of_ble_eq_true rfl) r3) (Nat.le_trans (Nat.le_of_ble_eq_true rfl) r4) hP hD hS (Nat.le_of_ble_eq_true rfl) hl.1 dc_X6_116 dc_X6_119 dc_X6_120 (fun a10 H locs hP hD hS => ?_)
  have hz10 : ((trU 5).map (celI I a10))[0]? = some (a10 [], .inr (5, (List.range (nfl 5)).map (fun k => match fty 5 k with | 0 => .int (iI 5 k) | 1 => .int (iI 5 k) | 3 => .long 0 | _ => .ref (a10 (k :: []))))) := rfl
  generalize hL10 : (trU 5).map (celI I a10) = L10 at hP hD hz10
  refine va_astq (D := D) (cl := clsU) (tys := T3 I) hx hb X.2.2.2.2.2.1 hP hD hS 1 2 (((a0, .inr (6, [.ref (a1 []), .ref (a2 []), .ref (a3 []), .ref (a4 []), .ref (a5 []), .ref qk, .ref (a6 []), .ref (a7 []), .ref (a8 [])])) :: (qk, .inl (I.2.2, 2, .inr (.inr (.inr (.inr (va_up (fun _ => none) 0 (some (a9 [])))))))) :: ((((((((L1 ++ L2) ++ L3) ++ L4) ++ L5) ++ L6) ++ L7) ++ L8) ++ L9)) : va_W).length 5 (r := (RX5, TX5, 8)) rfl rfl (at_app (w1 := (a0, .inr (6, [.ref (a1 []), .ref (a2 []), .ref (a3 []), .ref (a4 []), .ref (a5 []), .ref qk, .ref (a6 []), .ref (a7 []), .ref (a8 [])])) :: (qk, .inl (I.2.2, 2, .inr (.inr (.inr (.inr (va_up (fun _ => none) 0 (some (a9 [])))))))) :: ((((((((L1 ++ L2) ++ L3) ++ L4) ++ L5) ++ L6) ++ L7) ++ L8) ++ L9)) hz10) rfl (vp_in_nI (n := 1) (by decide) (by decide)) dc_X6_123 (fun H locs hP hD hS => ?_)
  have hP : va_P D clsU ((a0, .inr (6, [.ref (a1 []), .ref (a2 []), .ref (a3 []), .ref (a4 []), .ref (a5 []), .ref qk, .ref (a6 []), .ref (a7 []), .ref (a8 [])])) :: (qk, .inl (I.2.2, 2, .inr (.inr (.inr (.inr (va_up (va_up (fun _ => none) 0 (some (a9 []))) 1 (some (a10 [])))))))) :: (((((((((L1 ++ L2) ++ L3) ++ L4) ++ L5) ++ L6) ++ L7) ++ L8) ++ L9) ++ L10)) H := hP
  have hD : va_D A ((a0, .inr (6, [.ref (a1 []), .ref (a2 []), .ref (a3 []), .ref (a4 []), .ref (a5 []), .ref qk, .ref (a6 []), .ref (a7 []), .ref (a8 [])])) :: (qk, .inl (I.2.2, 2, .inr (.inr (.inr (.inr (va_up (va_up (fun _ => none) 0 (some (a9 []))) 1 (some (a10 [])))))))) :: (((((((((L1 ++ L2) ++ L3) ++ L4) ++ L5) ++ L6) ++ L7) ++ L8) ++ L9) ++ L10)) := hD
  refine lv_iinc (v := 2) (lv' := [(1, .int 2), (0, .ref a0)]) hx hb dc_X6_124 hl (k := 0) rfl (by decide) (by decide) rfl (fun ls hl => ?_)
  refine lv_goto (tgt := 102) hx hb dc_X6_127 (by decide) ?_
  refine lv_iload_n hx hb dc_X6_102 rfl (lv_at hl 0 rfl) ?_
  refine lv_aload_n hx hb dc_X6_103 rfl (lv_at hl 1 rfl) ?_
  refine va_get (D := D) (cl := clsU) (tys := T3 I) (ci := 6) (v := .ref qk) (C := RX6) (T := TX6) (N := 9) hx hb X.2.2.2.2.1 iwX6 X.2.2.2.1 X.2.2.2.2.2.1 hP 0 rfl rfl 5 (by decide) (X.2.2.2.2.1 _ (wsG_of (i := 280) (by decide +kernel) rfl)) (fun _ h9 => h9) rfl dc_X6_104 ?_
  refine va_alen (D := D) (cl := clsU) (tys := T3 I) hx hb X.2.2.2.2.2.1 hP 1 2 rfl rfl (v := 2) rfl dc_X6_107 ?_
  refine lv_icmp_ge (tgt := 130) hx hb dc_X6_108 (by decide) (fun _ => ?_) (fun c => absurd (by decide) c)
  have hP : va_P D clsU ((a0, .inr (6, [.ref (a1 []), .ref (a2 []), .ref (a3 []), .ref (a4 []), .ref (a5 []), .ref qk, .ref (a6 []), .ref (a7 []), .ref (a8 [])])) :: (qk, .inl (I.2.2, 2, .inr (.inr (.inr (.inr (fun j => some (glue a0 (fun k => match k with | 0 => a1 | 1 => a2 | 2 => a3 | 3 => a4 | 4 => a5 | 5 => glue qk (fun j => match j with | 0 => a9 | _ => a10) | 6 => a6 | 7 => a7 | _ => a8) (j :: [5])))))))) :: (((((((((L1 ++ L2) ++ L3) ++ L4) ++ L5) ++ L6) ++ L7) ++ L8) ++ L9) ++ L10)) H := hP.arrW (fun j hj => by
    match j, hj with
    | 0, _ => rfl
    | 1, _ => rfl
    | _ + 2, hj => omega)
  have hD : va_D A ((a0, .inr (6, [.ref (a1 []), .ref (a2 []), .ref (a3 []), .ref (a4 []), .ref (a5 []), .ref qk, .ref (a6 []), .ref (a7 []), .ref (a8 [])])) :: (qk, .inl (I.2.2, 2, .inr (.inr (.inr (.inr (fun j => some (glue a0 (fun k => match k with | 0 => a1 | 1 => a2 | 2 => a3 | 3 => a4 | 4 => a5 | 5 => glue qk (fun j => match j with | 0 => a9 | _ => a10) | 6 => a6 | 7 => a7 | _ => a8) (j :: [5])))))))) :: (((((((((L1 ++ L2) ++ L3) ++ L4) ++ L5) ++ L6) ++ L7) ++ L8) ++ L9) ++ L10)) := hD.arrW
  have e : (trU 6).map (celI I (glue a0 (fun k => match k with | 0 => a1 | 1 => a2 | 2 => a3 | 3 => a4 | 4 => a5 | 5 => glue qk (fun j => match j with | 0 => a9 | _ => a10) | 6 => a6 | 7 => a7 | _ => a8))) = (a0, .inr (6, [.ref (a1 []), .ref (a2 []), .ref (a3 []), .ref (a4 []), .ref (a5 []), .ref qk, .ref (a6 []), .ref (a7 []), .ref (a8 [])])) :: (qk, .inl (I.2.2, 2, .inr (.inr (.inr (.inr (fun j => some (glue a0 (fun k => match k with | 0 => a1 | 1 => a2 | 2 => a3 | 3 => a4 | 4 => a5 | 5 => glue qk (fun j => match j with | 0 => a9 | _ => a10) | 6 => a6 | 7 => a7 | _ => a8) (j :: [5])))))))) :: (((((((((L1 ++ L2) ++ L3) ++ L4) ++ L5) ++ L6) ++ L7) ++ L8) ++ L9) ++ L10) := by
    show tr6.map _ = _
    rw [tr6, List.map_cons, List.map_cons]
    simp only [List.map_append]
    rw [shL_map (b := a1) (fun p => glue_c p 0), shL_map (b := a2) (fun p => glue_c p 1), shL_map (b := a3) (fun p => glue_c p 2), shL_map (b := a4) (fun p => glue_c p 3), shL_map (b := a5) (fun p => glue_c p 4), shL_map (b := a6) (fun p => glue_c p 6), shL_map (b := a7) (fun p => glue_c p 7), shL_map (b := a8) (fun p => glue_c p 8), shL_map (b := glue qk (fun j => match j with | 0 => a9 | _ => a10)) (L := shL 0 tr5) (fun p => glue_c p 5), shL_map (b := glue qk (fun j => match j with | 0 => a9 | _ => a10)) (L := shL 1 tr5) (fun p => glue_c p 5), shL_map (b := a9) (fun p => glue_c p 0), shL_map (b := a10) (fun p => glue_c p 1), ← hL1, ← hL2, ← hL3, ← hL4, ← hL5, ← hL6, ← hL7, ← hL8, ← hL9, ← hL10]
    rfl
  refine fin _ _ _ (glue a0 (fun k => match k with | 0 => a1 | 1 => a2 | 2 => a3 | 3 => a4 | 4 => a5 | 5 => glue qk (fun j => match j with | 0 => a9 | _ => a10) | 6 => a6 | 7 => a7 | _ => a8)) 130 dc_X6_130 rfl ?_ ?_ hS
  · rw [e]; exact hP
  · rw [e]; exact hD
