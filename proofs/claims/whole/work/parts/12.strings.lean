theorem d_St_length_0 : decode m_St_length.2.1 0 = .ok (.aload_n 0, 1) := by decide +kernel
theorem d_St_length_1 : decode m_St_length.2.1 1 = .ok (.getfield 9, 3) := by decide +kernel
theorem d_St_length_4 : decode m_St_length.2.1 4 = .ok (.arraylength, 1) := by decide +kernel
theorem d_St_length_5 : decode m_St_length.2.1 5 = .ok (.aload_n 0, 1) := by decide +kernel
theorem d_St_length_6 : decode m_St_length.2.1 6 = .ok (.invokevirtual 335, 3) := by decide +kernel
theorem d_St_length_9 : decode m_St_length.2.1 9 = .ok (.ishr, 1) := by decide +kernel
theorem d_St_length_10 : decode m_St_length.2.1 10 = .ok (.ireturn, 1) := by decide +kernel
theorem d_St_charAt_0 : decode m_St_charAt.2.1 0 = .ok (.aload_n 0, 1) := by decide +kernel
theorem d_St_charAt_1 : decode m_St_charAt.2.1 1 = .ok (.invokevirtual 492, 3) := by decide +kernel
theorem d_St_charAt_4 : decode m_St_charAt.2.1 4 = .ok (.ifCond .eq 12, 3) := by decide +kernel
theorem d_St_charAt_7 : decode m_St_charAt.2.1 7 = .ok (.aload_n 0, 1) := by decide +kernel
theorem d_St_charAt_8 : decode m_St_charAt.2.1 8 = .ok (.getfield 9, 3) := by decide +kernel
theorem d_St_charAt_11 : decode m_St_charAt.2.1 11 = .ok (.iload_n 1, 1) := by decide +kernel
theorem d_St_charAt_12 : decode m_St_charAt.2.1 12 = .ok (.invokestatic 495, 3) := by decide +kernel
theorem d_St_charAt_15 : decode m_St_charAt.2.1 15 = .ok (.ireturn, 1) := by decide +kernel
theorem d_St_charAt_16 : decode m_St_charAt.2.1 16 = .ok (.aload_n 0, 1) := by decide +kernel
theorem d_St_charAt_17 : decode m_St_charAt.2.1 17 = .ok (.getfield 9, 3) := by decide +kernel
theorem d_St_charAt_20 : decode m_St_charAt.2.1 20 = .ok (.iload_n 1, 1) := by decide +kernel
theorem d_St_charAt_21 : decode m_St_charAt.2.1 21 = .ok (.invokestatic 498, 3) := by decide +kernel
theorem d_St_charAt_24 : decode m_St_charAt.2.1 24 = .ok (.ireturn, 1) := by decide +kernel
theorem d_St_coder_0 : decode m_St_coder.2.1 0 = .ok (.getstatic 38, 3) := by decide +kernel
theorem d_St_coder_3 : decode m_St_coder.2.1 3 = .ok (.ifCond .eq 10, 3) := by decide +kernel
theorem d_St_coder_6 : decode m_St_coder.2.1 6 = .ok (.aload_n 0, 1) := by decide +kernel
theorem d_St_coder_7 : decode m_St_coder.2.1 7 = .ok (.getfield 15, 3) := by decide +kernel
theorem d_St_coder_10 : decode m_St_coder.2.1 10 = .ok (.goto 4, 3) := by decide +kernel
theorem d_St_coder_13 : decode m_St_coder.2.1 13 = .ok (.iconst 1, 1) := by decide +kernel
theorem d_St_coder_14 : decode m_St_coder.2.1 14 = .ok (.ireturn, 1) := by decide +kernel
theorem d_St_isLatin1_0 : decode m_St_isLatin1.2.1 0 = .ok (.getstatic 38, 3) := by decide +kernel
theorem d_St_isLatin1_3 : decode m_St_isLatin1.2.1 3 = .ok (.ifCond .eq 14, 3) := by decide +kernel
theorem d_St_isLatin1_6 : decode m_St_isLatin1.2.1 6 = .ok (.aload_n 0, 1) := by decide +kernel
theorem d_St_isLatin1_7 : decode m_St_isLatin1.2.1 7 = .ok (.getfield 15, 3) := by decide +kernel
theorem d_St_isLatin1_10 : decode m_St_isLatin1.2.1 10 = .ok (.ifCond .ne 7, 3) := by decide +kernel
theorem d_St_isLatin1_13 : decode m_St_isLatin1.2.1 13 = .ok (.iconst 1, 1) := by decide +kernel
theorem d_St_isLatin1_14 : decode m_St_isLatin1.2.1 14 = .ok (.goto 4, 3) := by decide +kernel
theorem d_St_isLatin1_17 : decode m_St_isLatin1.2.1 17 = .ok (.iconst 0, 1) := by decide +kernel
theorem d_St_isLatin1_18 : decode m_St_isLatin1.2.1 18 = .ok (.ireturn, 1) := by decide +kernel
theorem d_St_checkIndex_0 : decode m_St_checkIndex.2.1 0 = .ok (.iload_n 0, 1) := by decide +kernel
theorem d_St_checkIndex_1 : decode m_St_checkIndex.2.1 1 = .ok (.iload_n 1, 1) := by decide +kernel
theorem d_St_checkIndex_2 : decode m_St_checkIndex.2.1 2 = .ok (.getstatic 1053, 3) := by decide +kernel
theorem d_St_checkIndex_5 : decode m_St_checkIndex.2.1 5 = .ok (.invokestatic 1059, 3) := by decide +kernel
theorem d_St_checkIndex_8 : decode m_St_checkIndex.2.1 8 = .ok (.pop, 1) := by decide +kernel
theorem d_St_checkIndex_9 : decode m_St_checkIndex.2.1 9 = .ok (.return_, 1) := by decide +kernel
theorem d_SL_charAt_0 : decode m_SL_charAt.2.1 0 = .ok (.iload_n 1, 1) := by decide +kernel
theorem d_SL_charAt_1 : decode m_SL_charAt.2.1 1 = .ok (.aload_n 0, 1) := by decide +kernel
theorem d_SL_charAt_2 : decode m_SL_charAt.2.1 2 = .ok (.arraylength, 1) := by decide +kernel
theorem d_SL_charAt_3 : decode m_SL_charAt.2.1 3 = .ok (.invokestatic 9, 3) := by decide +kernel
theorem d_SL_charAt_6 : decode m_SL_charAt.2.1 6 = .ok (.aload_n 0, 1) := by decide +kernel
theorem d_SL_charAt_7 : decode m_SL_charAt.2.1 7 = .ok (.iload_n 1, 1) := by decide +kernel
theorem d_SL_charAt_8 : decode m_SL_charAt.2.1 8 = .ok (.baload, 1) := by decide +kernel
theorem d_SL_charAt_9 : decode m_SL_charAt.2.1 9 = .ok (.sipush 255, 3) := by decide +kernel
theorem d_SL_charAt_12 : decode m_SL_charAt.2.1 12 = .ok (.iand, 1) := by decide +kernel
theorem d_SL_charAt_13 : decode m_SL_charAt.2.1 13 = .ok (.i2c, 1) := by decide +kernel
theorem d_SL_charAt_14 : decode m_SL_charAt.2.1 14 = .ok (.ireturn, 1) := by decide +kernel
theorem d_Pc_checkIndex_0 : decode m_Pc_checkIndex.2.1 0 = .ok (.iload_n 0, 1) := by decide +kernel
theorem d_Pc_checkIndex_1 : decode m_Pc_checkIndex.2.1 1 = .ok (.ifCond .lt 8, 3) := by decide +kernel
theorem d_Pc_checkIndex_4 : decode m_Pc_checkIndex.2.1 4 = .ok (.iload_n 0, 1) := by decide +kernel
theorem d_Pc_checkIndex_5 : decode m_Pc_checkIndex.2.1 5 = .ok (.iload_n 1, 1) := by decide +kernel
theorem d_Pc_checkIndex_6 : decode m_Pc_checkIndex.2.1 6 = .ok (.if_icmp .lt 10, 3) := by decide +kernel
theorem d_Pc_checkIndex_9 : decode m_Pc_checkIndex.2.1 9 = .ok (.aload_n 2, 1) := by decide +kernel
theorem d_Pc_checkIndex_10 : decode m_Pc_checkIndex.2.1 10 = .ok (.iload_n 0, 1) := by decide +kernel
theorem d_Pc_checkIndex_11 : decode m_Pc_checkIndex.2.1 11 = .ok (.iload_n 1, 1) := by decide +kernel
theorem d_Pc_checkIndex_16 : decode m_Pc_checkIndex.2.1 16 = .ok (.iload_n 0, 1) := by decide +kernel
theorem d_Pc_checkIndex_17 : decode m_Pc_checkIndex.2.1 17 = .ok (.ireturn, 1) := by decide +kernel
theorem fS_9 : Cond.fieldLink RJ0 9 "java/lang/String" "value" "[B" ∈ wsG := wsG_of (i := 1183) (by decide +kernel) rfl
theorem fS_15 : Cond.fieldLink RJ0 15 "java/lang/String" "coder" "B" ∈ wsG := wsG_of (i := 1184) (by decide +kernel) rfl
theorem fS_38 : Cond.fieldLink RJ0 38 "java/lang/String" "COMPACT_STRINGS" "Z" ∈ wsG := wsG_of (i := 363) (by decide +kernel) rfl
theorem fS_1053 : Cond.fieldLink RJ0 1053 "jdk/internal/util/Preconditions" "SIOOBE_FORMATTER" "Ljava/util/function/BiFunction;" ∈ wsG := wsG_of (i := 379) (by decide +kernel) rfl
theorem s_coder {X : XS} {i : Nat} (hi : i < 5) (h : Hp) : EvI X m_St_coder [vR [i, 3]] h (fun r h' => r = 0 ∧ h' = h) := by
  refine Ev.intro (by decide +kernel) (Nat.le_of_ble_eq_true rfl) (ls := [some (vR [i, 3])]) rfl ?_
  refine Rn.getsC (n := 3) d_St_coder_0 rfl fS_38 ?_
  refine Rn.if_eq (n := 6) (t := 13) d_St_coder_3 rfl (by decide) (fun c => absurd c (by decide)) (fun _ => ?_)
  refine Rn.aload_n (n := 7) (i := 0) d_St_coder_6 rfl rfl rfl ?_
  refine Rn.strC (n := 10) d_St_coder_7 rfl fS_15 hi ?_
  refine Rn.goto (n := 14) d_St_coder_10 (by decide) ?_
  exact Rn.iret d_St_coder_14 rfl (by decide) ⟨0, rfl, rfl, rfl⟩
theorem s_isLatin1 {X : XS} {i : Nat} (hi : i < 5) (h : Hp) : EvI X m_St_isLatin1 [vR [i, 3]] h (fun r h' => r = 1 ∧ h' = h) := by
  refine Ev.intro (by decide +kernel) (Nat.le_of_ble_eq_true rfl) (ls := [some (vR [i, 3])]) rfl ?_
  refine Rn.getsC (n := 3) d_St_isLatin1_0 rfl fS_38 ?_
  refine Rn.if_eq (n := 6) (t := 17) d_St_isLatin1_3 rfl (by decide) (fun c => absurd c (by decide)) (fun _ => ?_)
  refine Rn.aload_n (n := 7) (i := 0) d_St_isLatin1_6 rfl rfl rfl ?_
  refine Rn.strC (n := 10) d_St_isLatin1_7 rfl fS_15 hi ?_
  refine Rn.if_ne (n := 13) (t := 17) d_St_isLatin1_10 rfl (by decide) (fun c => absurd rfl c) (fun _ => ?_)
  refine Rn.iconst (n := 14) (v := 1) d_St_isLatin1_13 rfl (by decide) ?_
  refine Rn.goto (n := 18) d_St_isLatin1_14 (by decide) ?_
  exact Rn.iret d_St_isLatin1_18 rfl (by decide) ⟨1, rfl, rfl, rfl⟩
theorem s_length {X : XS} {i : Nat} (hi : i < 5) (h : Hp) : EvI X m_St_length [vR [i, 3]] h (fun r h' => r = Int32.ofNat (sLen.getD i 0) ∧ h' = h) := by
  refine Ev.intro (by decide +kernel) (Nat.le_of_ble_eq_true rfl) (ls := [some (vR [i, 3])]) rfl ?_
  refine Rn.aload_n (n := 1) (i := 0) d_St_length_0 rfl rfl rfl ?_
  refine Rn.strV (n := 4) d_St_length_1 rfl fS_9 hi ?_
  refine Rn.strL (n := 5) d_St_length_4 rfl hi ?_
  refine Rn.aload_n (n := 6) (i := 0) d_St_length_5 rfl rfl rfl ?_
  refine Rn.callStr (n := 9) (i := i) (av := []) d_St_length_6 rfl ml_St_length_335 mi_St_coder hi rfl rfl rfl (Nat.le_of_ble_eq_true rfl) (s_coder hi h) (fun v h1 hq => ?_)
  obtain ⟨r, rfl, rfl, rfl⟩ := hq
  refine Rn.ishr (n := 10) (x := Int32.ofNat (sLen.getD i 0)) (y := 0) (st := []) d_St_length_9 rfl ?_
  refine Rn.iret d_St_length_10 rfl rfl ⟨_, rfl, ?_, rfl⟩
  have : ∀ j, j < 5 → iShr (Int32.ofNat (sLen.getD j 0)) 0 = Int32.ofNat (sLen.getD j 0) := by decide +kernel
  exact this i hi
theorem s_PcheckN {X : XS} {a b : Int32} (h1 : ¬ a < 0) (h2 : a < b) (h : Hp) : EvI X m_Pc_checkIndex [vI a, vI b, vN] h (fun r h' => r = a ∧ h' = h) := by
  refine Ev.intro (by decide +kernel) (Nat.le_of_ble_eq_true rfl) (ls := [some (vI a), some (vI b), some vN]) rfl ?_
  refine Rn.iload_n (n := 1) (i := 0) d_Pc_checkIndex_0 rfl rfl rfl ?_
  refine Rn.if_lt (n := 4) (t := 9) d_Pc_checkIndex_1 rfl (by decide) (fun c => absurd c h1) (fun _ => ?_)
  refine Rn.iload_n (n := 5) (i := 0) d_Pc_checkIndex_4 rfl rfl rfl ?_
  refine Rn.iload_n (n := 6) (i := 1) d_Pc_checkIndex_5 rfl rfl rfl ?_
  refine Rn.icmp_lt (n := 9) (t := 16) d_Pc_checkIndex_6 rfl (by decide) (fun _ => ?_) (fun c => absurd h2 c)
  refine Rn.iload_n (n := 17) (i := 0) d_Pc_checkIndex_16 rfl rfl rfl ?_
  exact Rn.iret d_Pc_checkIndex_17 rfl rfl ⟨a, rfl, rfl, rfl⟩
theorem s_PcheckR {X : XS} {a b : Int32} {q : List Nat} (h1 : ¬ a < 0) (h2 : a < b) (h : Hp) : EvI X m_Pc_checkIndex [vI a, vI b, vR q] h (fun r h' => r = a ∧ h' = h) := by
  refine Ev.intro (by decide +kernel) (Nat.le_of_ble_eq_true rfl) (ls := [some (vI a), some (vI b), some (vR q)]) rfl ?_
  refine Rn.iload_n (n := 1) (i := 0) d_Pc_checkIndex_0 rfl rfl rfl ?_
  refine Rn.if_lt (n := 4) (t := 9) d_Pc_checkIndex_1 rfl (by decide) (fun c => absurd c h1) (fun _ => ?_)
  refine Rn.iload_n (n := 5) (i := 0) d_Pc_checkIndex_4 rfl rfl rfl ?_
  refine Rn.iload_n (n := 6) (i := 1) d_Pc_checkIndex_5 rfl rfl rfl ?_
  refine Rn.icmp_lt (n := 9) (t := 16) d_Pc_checkIndex_6 rfl (by decide) (fun _ => ?_) (fun c => absurd h2 c)
  refine Rn.iload_n (n := 17) (i := 0) d_Pc_checkIndex_16 rfl rfl rfl ?_
  exact Rn.iret d_Pc_checkIndex_17 rfl rfl ⟨a, rfl, rfl, rfl⟩
theorem s_check {X : XS} {a b : Int32} (h1 : ¬ a < 0) (h2 : a < b) (h : Hp) : EvV X m_St_checkIndex [vI a, vI b] h (fun h' => h' = h) := by
  refine Ev.intro (by decide +kernel) (Nat.le_of_ble_eq_true rfl) (ls := [some (vI a), some (vI b)]) rfl ?_
  refine Rn.iload_n (n := 1) (i := 0) d_St_checkIndex_0 rfl rfl rfl ?_
  refine Rn.iload_n (n := 2) (i := 1) d_St_checkIndex_1 rfl rfl rfl ?_
  refine Rn.getsF (n := 5) d_St_checkIndex_2 rfl fS_1053 ?_ ?_
  · refine Rn.callS (n := 8) (av := [vI a, vI b, vN]) d_St_checkIndex_5 rfl ml_St_checkIndex_1059 ms_Pc_checkIndex rfl rfl (Nat.le_of_ble_eq_true rfl) (s_PcheckN h1 h2 h) (fun v h3 hq => ?_)
    obtain ⟨r, rfl, rfl, rfl⟩ := hq
    refine Rn.pop (n := 9) (v := vI r) (st := []) d_St_checkIndex_8 rfl rfl ?_
    exact Rn.vret d_St_checkIndex_9 rfl ⟨rfl, rfl⟩
  · refine Rn.callS (n := 8) (av := [vI a, vI b, vR [4]]) d_St_checkIndex_5 rfl ml_St_checkIndex_1059 ms_Pc_checkIndex rfl rfl (Nat.le_of_ble_eq_true rfl) (s_PcheckR h1 h2 h) (fun v h3 hq => ?_)
    obtain ⟨r, rfl, rfl, rfl⟩ := hq
    refine Rn.pop (n := 9) (v := vI r) (st := []) d_St_checkIndex_8 rfl rfl ?_
    exact Rn.vret d_St_checkIndex_9 rfl ⟨rfl, rfl⟩
/-- the sign at j of the text i -/
def sCh (i : Nat) (j : Nat) : Int32 := (sByt.getD i []).getD j 0
theorem s_ch_ok : ∀ i, i < 5 → ∀ j, j < sLen.getD i 0 → i2C (sCh i j &&& 255) = sCh i j ∧ narrow .char (.int (sCh i j)) = .int (sCh i j) := by decide +kernel
theorem s_SLcharAt {X : XS} {i j : Nat} (hi : i < 5) (hj : j < sLen.getD i 0) (h : Hp) : EvI X m_SL_charAt [vR [0, i, 3], vI (nI j)] h (fun r h' => r = sCh i j ∧ h' = h) := by
  have hl : ∀ i, i < 5 → sLen.getD i 0 < 2 ^ 31 := by decide
  have h0 := hl i hi
  refine Ev.intro (by decide +kernel) (Nat.le_of_ble_eq_true rfl) (ls := [some (vR [0, i, 3]), some (vI (nI j))]) rfl ?_
  refine Rn.iload_n (n := 1) (i := 1) d_SL_charAt_0 rfl rfl rfl ?_
  refine Rn.aload_n (n := 2) (i := 0) d_SL_charAt_1 rfl rfl rfl ?_
  refine Rn.strL (n := 3) d_SL_charAt_2 rfl hi ?_
  refine Rn.callS (n := 6) (av := [vI (nI j), vI (Int32.ofNat (sLen.getD i 0))]) d_SL_charAt_3 rfl ml_SL_charAt_9 ms_St_checkIndex rfl rfl (Nat.le_of_ble_eq_true rfl) (s_check (nI_pos (by omega)) (nI_lt hj h0) h) (fun v h3 hq => ?_)
  obtain ⟨rfl, rfl⟩ := hq
  refine Rn.aload_n (n := 7) (i := 0) (st := []) d_SL_charAt_6 rfl rfl rfl ?_
  refine Rn.iload_n (n := 8) (i := 1) d_SL_charAt_7 rfl rfl rfl ?_
  refine Rn.strB (n := 9) d_SL_charAt_8 rfl hi (vp_in_nI hj h0) ?_
  refine Rn.sipush (n := 12) (v := 255) d_SL_charAt_9 rfl (by decide) ?_
  refine Rn.iand (n := 13) d_SL_charAt_12 rfl ?_
  refine Rn.i2c (n := 14) d_SL_charAt_13 rfl ?_
  have e : i2C ((sByt.getD i []).getD (nI j).toNatClampNeg 0 &&& 255) = sCh i j := by
    rw [nI_clamp (by omega)]
    exact (s_ch_ok i hi j hj).1
  rw [e]
  exact Rn.iret d_SL_charAt_14 rfl (s_ch_ok i hi j hj).2 ⟨_, rfl, rfl, rfl⟩
theorem s_charAt {X : XS} {i j : Nat} (hi : i < 5) (hj : j < sLen.getD i 0) (h : Hp) : EvI X m_St_charAt [vR [i, 3], vI (nI j)] h (fun r h' => r = sCh i j ∧ h' = h) := by
  refine Ev.intro (by decide +kernel) (Nat.le_of_ble_eq_true rfl) (ls := [some (vR [i, 3]), some (vI (nI j))]) rfl ?_
  refine Rn.aload_n (n := 1) (i := 0) d_St_charAt_0 rfl rfl rfl ?_
  refine Rn.callStr (n := 4) (i := i) (av := []) d_St_charAt_1 rfl ml_St_charAt_492 mi_St_isLatin1 hi rfl rfl rfl (Nat.le_of_ble_eq_true rfl) (s_isLatin1 hi h) (fun v h1 hq => ?_)
  obtain ⟨r, rfl, rfl, rfl⟩ := hq
  refine Rn.if_eq (n := 7) (t := 16) (x := 1) (st := []) d_St_charAt_4 rfl (by decide) (fun c => absurd c (by decide)) (fun _ => ?_)
  refine Rn.aload_n (n := 8) (i := 0) d_St_charAt_7 rfl rfl rfl ?_
  refine Rn.strV (n := 11) d_St_charAt_8 rfl fS_9 hi ?_
  refine Rn.iload_n (n := 12) (i := 1) d_St_charAt_11 rfl rfl rfl ?_
  refine Rn.callS (n := 15) (av := [vR [0, i, 3], vI (nI j)]) d_St_charAt_12 rfl ml_St_charAt_495 ms_SL_charAt rfl rfl (Nat.le_of_ble_eq_true rfl) (s_SLcharAt hi hj h1) (fun v h3 hq => ?_)
  obtain ⟨r, rfl, rfl, rfl⟩ := hq
  exact Rn.iret d_St_charAt_15 rfl (s_ch_ok i hi j hj).2 ⟨_, rfl, rfl, rfl⟩
