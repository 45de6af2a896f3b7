theorem d_Wk_clear_0 : decode m_Wk_clear.2.1 0 = .ok (.aload_n 0, 1) := by decide +kernel
theorem d_Wk_clear_1 : decode m_Wk_clear.2.1 1 = .ok (.iconst 0, 1) := by decide +kernel
theorem d_Wk_clear_2 : decode m_Wk_clear.2.1 2 = .ok (.putfield 34, 3) := by decide +kernel
theorem d_Wk_clear_5 : decode m_Wk_clear.2.1 5 = .ok (.aload_n 0, 1) := by decide +kernel
theorem d_Wk_clear_6 : decode m_Wk_clear.2.1 6 = .ok (.iconst 0, 1) := by decide +kernel
theorem d_Wk_clear_7 : decode m_Wk_clear.2.1 7 = .ok (.putfield 38, 3) := by decide +kernel
theorem d_Wk_clear_10 : decode m_Wk_clear.2.1 10 = .ok (.iconst 0, 1) := by decide +kernel
theorem d_Wk_clear_11 : decode m_Wk_clear.2.1 11 = .ok (.istore_n 1, 1) := by decide +kernel
theorem d_Wk_clear_12 : decode m_Wk_clear.2.1 12 = .ok (.iload_n 1, 1) := by decide +kernel
theorem d_Wk_clear_13 : decode m_Wk_clear.2.1 13 = .ok (.bipush 6, 2) := by decide +kernel
theorem d_Wk_clear_15 : decode m_Wk_clear.2.1 15 = .ok (.if_icmp .ge 44, 3) := by decide +kernel
theorem d_Wk_clear_18 : decode m_Wk_clear.2.1 18 = .ok (.aload_n 0, 1) := by decide +kernel
theorem d_Wk_clear_19 : decode m_Wk_clear.2.1 19 = .ok (.getfield 9, 3) := by decide +kernel
theorem d_Wk_clear_22 : decode m_Wk_clear.2.1 22 = .ok (.iload_n 1, 1) := by decide +kernel
theorem d_Wk_clear_23 : decode m_Wk_clear.2.1 23 = .ok (.iconst (-1), 1) := by decide +kernel
theorem d_Wk_clear_24 : decode m_Wk_clear.2.1 24 = .ok (.iastore, 1) := by decide +kernel
theorem d_Wk_clear_25 : decode m_Wk_clear.2.1 25 = .ok (.aload_n 0, 1) := by decide +kernel
theorem d_Wk_clear_26 : decode m_Wk_clear.2.1 26 = .ok (.getfield 15, 3) := by decide +kernel
theorem d_Wk_clear_29 : decode m_Wk_clear.2.1 29 = .ok (.iload_n 1, 1) := by decide +kernel
theorem d_Wk_clear_30 : decode m_Wk_clear.2.1 30 = .ok (.iconst 0, 1) := by decide +kernel
theorem d_Wk_clear_31 : decode m_Wk_clear.2.1 31 = .ok (.bastore, 1) := by decide +kernel
theorem d_Wk_clear_32 : decode m_Wk_clear.2.1 32 = .ok (.aload_n 0, 1) := by decide +kernel
theorem d_Wk_clear_33 : decode m_Wk_clear.2.1 33 = .ok (.getfield 19, 3) := by decide +kernel
theorem d_Wk_clear_36 : decode m_Wk_clear.2.1 36 = .ok (.iload_n 1, 1) := by decide +kernel
theorem d_Wk_clear_37 : decode m_Wk_clear.2.1 37 = .ok (.iconst 0, 1) := by decide +kernel
theorem d_Wk_clear_38 : decode m_Wk_clear.2.1 38 = .ok (.iastore, 1) := by decide +kernel
theorem d_Wk_clear_39 : decode m_Wk_clear.2.1 39 = .ok (.aload_n 0, 1) := by decide +kernel
theorem d_Wk_clear_40 : decode m_Wk_clear.2.1 40 = .ok (.getfield 22, 3) := by decide +kernel
theorem d_Wk_clear_43 : decode m_Wk_clear.2.1 43 = .ok (.iload_n 1, 1) := by decide +kernel
theorem d_Wk_clear_44 : decode m_Wk_clear.2.1 44 = .ok (.iconst 0, 1) := by decide +kernel
theorem d_Wk_clear_45 : decode m_Wk_clear.2.1 45 = .ok (.iastore, 1) := by decide +kernel
theorem d_Wk_clear_46 : decode m_Wk_clear.2.1 46 = .ok (.aload_n 0, 1) := by decide +kernel
theorem d_Wk_clear_47 : decode m_Wk_clear.2.1 47 = .ok (.getfield 25, 3) := by decide +kernel
theorem d_Wk_clear_50 : decode m_Wk_clear.2.1 50 = .ok (.iload_n 1, 1) := by decide +kernel
theorem d_Wk_clear_51 : decode m_Wk_clear.2.1 51 = .ok (.iconst 0, 1) := by decide +kernel
theorem d_Wk_clear_52 : decode m_Wk_clear.2.1 52 = .ok (.iastore, 1) := by decide +kernel
theorem d_Wk_clear_53 : decode m_Wk_clear.2.1 53 = .ok (.iinc 1 1, 3) := by decide +kernel
theorem d_Wk_clear_56 : decode m_Wk_clear.2.1 56 = .ok (.goto (-44), 3) := by decide +kernel
theorem d_Wk_clear_59 : decode m_Wk_clear.2.1 59 = .ok (.return_, 1) := by decide +kernel
theorem g_Wk_clear_0 {X : XS} (a0 : List Nat) (h : Hp) (Q : Option AV → Hp → Prop) (w_a0 : IsWk a0) (k : Rn X m_Wk_clear 12 [some (vR a0), some (vI 0)] [] (hsI (hsI h a0 1 0) a0 2 0) Q) : Rn X m_Wk_clear 0 [some (vR a0), none] [] h Q := by
  refine Rn.aload_n (n := 1) (i := 0) d_Wk_clear_0 rfl rfl rfl ?_
  refine Rn.iconst (n := 2) (v := 0) d_Wk_clear_1 rfl (by decide) ?_
  refine Rn.putI (n := 5) d_Wk_clear_2 rfl fl_Wk_34 pl_Wk_1 w_a0.s rfl ?_
  refine Rn.aload_n (n := 6) (i := 0) d_Wk_clear_5 rfl rfl rfl ?_
  refine Rn.iconst (n := 7) (v := 0) d_Wk_clear_6 rfl (by decide) ?_
  refine Rn.putI (n := 10) d_Wk_clear_7 rfl fl_Wk_38 pl_Wk_2 w_a0.s rfl ?_
  refine Rn.iconst (n := 11) (v := 0) d_Wk_clear_10 rfl (by decide) ?_
  refine Rn.istore_n (n := 12) (i := 1) (ls2 := [some (vR a0), some (vI 0)]) d_Wk_clear_11 rfl rfl (Nat.le_of_ble_eq_true rfl) rfl ?_
  exact k
theorem g_Wk_clear_12 {X : XS} (a0 : List Nat) (a1 : Int32) (h : Hp) (Q : Option AV → Hp → Prop) (w_a0 : IsWk a0) (k : ((6 ≤ a1 → Q none h) ∧ (¬ 6 ≤ a1 → (vp_in a1 6 ∧ (vp_in a1 6 ∧ (vp_in a1 6 ∧ (vp_in a1 6 ∧ (vp_in a1 6 ∧ Rn X m_Wk_clear 12 [some (vR a0), some (vI (a1 + 1))] [] (hsI (hsI (hsI (hsI (hsI h (3 :: a0) a1.toNatClampNeg (-1)) (4 :: a0) a1.toNatClampNeg 0) (5 :: a0) a1.toNatClampNeg 0) (6 :: a0) a1.toNatClampNeg 0) (7 :: a0) a1.toNatClampNeg 0) Q)))))))) : Rn X m_Wk_clear 12 [some (vR a0), some (vI a1)] [] h Q := by
  refine Rn.iload_n (n := 13) (i := 1) d_Wk_clear_12 rfl rfl rfl ?_
  refine Rn.bipush (n := 15) (v := 6) d_Wk_clear_13 rfl (by decide) ?_
  refine Rn.icmp_ge (n := 18) (t := 59) d_Wk_clear_15 rfl (by decide) (fun cc => ?_) (fun cc => ?_)
  · have k := k.1 cc
    exact Rn.vret d_Wk_clear_59 rfl k
  · have k := k.2 cc
    refine Rn.aload_n (n := 19) (i := 0) d_Wk_clear_18 rfl rfl rfl ?_
    refine Rn.getf (n := 22) (v := vR (3 :: a0)) d_Wk_clear_19 rfl fl_Wk_9 w_a0.s rfl ?_
    refine Rn.iload_n (n := 23) (i := 1) d_Wk_clear_22 rfl rfl rfl ?_
    refine Rn.iconst (n := 24) (v := (-1)) d_Wk_clear_23 rfl (by decide) ?_
    obtain ⟨b1, k⟩ := k
    refine Rn.iast (n := 25) d_Wk_clear_24 rfl w_a0.c3 b1 ?_
    refine Rn.aload_n (n := 26) (i := 0) d_Wk_clear_25 rfl rfl rfl ?_
    refine Rn.getf (n := 29) (v := vR (4 :: a0)) d_Wk_clear_26 rfl fl_Wk_15 w_a0.s rfl ?_
    refine Rn.iload_n (n := 30) (i := 1) d_Wk_clear_29 rfl rfl rfl ?_
    refine Rn.iconst (n := 31) (v := 0) d_Wk_clear_30 rfl (by decide) ?_
    obtain ⟨b2, k⟩ := k
    refine Rn.zast (n := 32) (y := 0) d_Wk_clear_31 rfl w_a0.c4 b2 rfl ?_
    refine Rn.aload_n (n := 33) (i := 0) d_Wk_clear_32 rfl rfl rfl ?_
    refine Rn.getf (n := 36) (v := vR (5 :: a0)) d_Wk_clear_33 rfl fl_Wk_19 w_a0.s rfl ?_
    refine Rn.iload_n (n := 37) (i := 1) d_Wk_clear_36 rfl rfl rfl ?_
    refine Rn.iconst (n := 38) (v := 0) d_Wk_clear_37 rfl (by decide) ?_
    obtain ⟨b3, k⟩ := k
    refine Rn.iast (n := 39) d_Wk_clear_38 rfl w_a0.c5 b3 ?_
    refine Rn.aload_n (n := 40) (i := 0) d_Wk_clear_39 rfl rfl rfl ?_
    refine Rn.getf (n := 43) (v := vR (6 :: a0)) d_Wk_clear_40 rfl fl_Wk_22 w_a0.s rfl ?_
    refine Rn.iload_n (n := 44) (i := 1) d_Wk_clear_43 rfl rfl rfl ?_
    refine Rn.iconst (n := 45) (v := 0) d_Wk_clear_44 rfl (by decide) ?_
    obtain ⟨b4, k⟩ := k
    refine Rn.iast (n := 46) d_Wk_clear_45 rfl w_a0.c6 b4 ?_
    refine Rn.aload_n (n := 47) (i := 0) d_Wk_clear_46 rfl rfl rfl ?_
    refine Rn.getf (n := 50) (v := vR (7 :: a0)) d_Wk_clear_47 rfl fl_Wk_25 w_a0.s rfl ?_
    refine Rn.iload_n (n := 51) (i := 1) d_Wk_clear_50 rfl rfl rfl ?_
    refine Rn.iconst (n := 52) (v := 0) d_Wk_clear_51 rfl (by decide) ?_
    obtain ⟨b5, k⟩ := k
    refine Rn.iast (n := 53) d_Wk_clear_52 rfl w_a0.c7 b5 ?_
    refine Rn.iinc (n := 56) (i := 1) (v := a1 + 1) (ls2 := [some (vR a0), some (vI (a1 + 1))]) d_Wk_clear_53 rfl rfl rfl (Nat.le_of_ble_eq_true rfl) rfl ?_
    refine Rn.goto (n := 12) d_Wk_clear_56 (by decide) ?_
    exact k
theorem e_Wk_clear {X : XS} (a0 : List Nat) (h : Hp) (Q : Option AV → Hp → Prop) (k : Rn X m_Wk_clear 0 [some (vR a0), none] [] h Q) : Ev X m_Wk_clear [vR a0] h Q := Ev.intro (plainFor_of_name (by decide +kernel)) (Nat.le_of_ble_eq_true rfl) (ls := [some (vR a0), none]) rfl k
theorem d_Wk_copyFrom_0 : decode m_Wk_copyFrom.2.1 0 = .ok (.aload_n 0, 1) := by decide +kernel
theorem d_Wk_copyFrom_1 : decode m_Wk_copyFrom.2.1 1 = .ok (.aload_n 1, 1) := by decide +kernel
theorem d_Wk_copyFrom_2 : decode m_Wk_copyFrom.2.1 2 = .ok (.getfield 34, 3) := by decide +kernel
theorem d_Wk_copyFrom_5 : decode m_Wk_copyFrom.2.1 5 = .ok (.putfield 34, 3) := by decide +kernel
theorem d_Wk_copyFrom_8 : decode m_Wk_copyFrom.2.1 8 = .ok (.aload_n 0, 1) := by decide +kernel
theorem d_Wk_copyFrom_9 : decode m_Wk_copyFrom.2.1 9 = .ok (.aload_n 1, 1) := by decide +kernel
theorem d_Wk_copyFrom_10 : decode m_Wk_copyFrom.2.1 10 = .ok (.getfield 38, 3) := by decide +kernel
theorem d_Wk_copyFrom_13 : decode m_Wk_copyFrom.2.1 13 = .ok (.putfield 38, 3) := by decide +kernel
theorem d_Wk_copyFrom_16 : decode m_Wk_copyFrom.2.1 16 = .ok (.iconst 0, 1) := by decide +kernel
theorem d_Wk_copyFrom_17 : decode m_Wk_copyFrom.2.1 17 = .ok (.istore_n 2, 1) := by decide +kernel
theorem d_Wk_copyFrom_18 : decode m_Wk_copyFrom.2.1 18 = .ok (.iload_n 2, 1) := by decide +kernel
theorem d_Wk_copyFrom_19 : decode m_Wk_copyFrom.2.1 19 = .ok (.bipush 6, 2) := by decide +kernel
theorem d_Wk_copyFrom_21 : decode m_Wk_copyFrom.2.1 21 = .ok (.if_icmp .ge 69, 3) := by decide +kernel
theorem d_Wk_copyFrom_24 : decode m_Wk_copyFrom.2.1 24 = .ok (.aload_n 0, 1) := by decide +kernel
theorem d_Wk_copyFrom_25 : decode m_Wk_copyFrom.2.1 25 = .ok (.getfield 9, 3) := by decide +kernel
theorem d_Wk_copyFrom_28 : decode m_Wk_copyFrom.2.1 28 = .ok (.iload_n 2, 1) := by decide +kernel
theorem d_Wk_copyFrom_29 : decode m_Wk_copyFrom.2.1 29 = .ok (.aload_n 1, 1) := by decide +kernel
theorem d_Wk_copyFrom_30 : decode m_Wk_copyFrom.2.1 30 = .ok (.getfield 9, 3) := by decide +kernel
theorem d_Wk_copyFrom_33 : decode m_Wk_copyFrom.2.1 33 = .ok (.iload_n 2, 1) := by decide +kernel
theorem d_Wk_copyFrom_34 : decode m_Wk_copyFrom.2.1 34 = .ok (.iaload, 1) := by decide +kernel
theorem d_Wk_copyFrom_35 : decode m_Wk_copyFrom.2.1 35 = .ok (.iastore, 1) := by decide +kernel
theorem d_Wk_copyFrom_36 : decode m_Wk_copyFrom.2.1 36 = .ok (.aload_n 0, 1) := by decide +kernel
theorem d_Wk_copyFrom_37 : decode m_Wk_copyFrom.2.1 37 = .ok (.getfield 15, 3) := by decide +kernel
theorem d_Wk_copyFrom_40 : decode m_Wk_copyFrom.2.1 40 = .ok (.iload_n 2, 1) := by decide +kernel
theorem d_Wk_copyFrom_41 : decode m_Wk_copyFrom.2.1 41 = .ok (.aload_n 1, 1) := by decide +kernel
theorem d_Wk_copyFrom_42 : decode m_Wk_copyFrom.2.1 42 = .ok (.getfield 15, 3) := by decide +kernel
theorem d_Wk_copyFrom_45 : decode m_Wk_copyFrom.2.1 45 = .ok (.iload_n 2, 1) := by decide +kernel
theorem d_Wk_copyFrom_46 : decode m_Wk_copyFrom.2.1 46 = .ok (.baload, 1) := by decide +kernel
theorem d_Wk_copyFrom_47 : decode m_Wk_copyFrom.2.1 47 = .ok (.bastore, 1) := by decide +kernel
theorem d_Wk_copyFrom_48 : decode m_Wk_copyFrom.2.1 48 = .ok (.aload_n 0, 1) := by decide +kernel
theorem d_Wk_copyFrom_49 : decode m_Wk_copyFrom.2.1 49 = .ok (.getfield 19, 3) := by decide +kernel
theorem d_Wk_copyFrom_52 : decode m_Wk_copyFrom.2.1 52 = .ok (.iload_n 2, 1) := by decide +kernel
theorem d_Wk_copyFrom_53 : decode m_Wk_copyFrom.2.1 53 = .ok (.aload_n 1, 1) := by decide +kernel
theorem d_Wk_copyFrom_54 : decode m_Wk_copyFrom.2.1 54 = .ok (.getfield 19, 3) := by decide +kernel
theorem d_Wk_copyFrom_57 : decode m_Wk_copyFrom.2.1 57 = .ok (.iload_n 2, 1) := by decide +kernel
theorem d_Wk_copyFrom_58 : decode m_Wk_copyFrom.2.1 58 = .ok (.iaload, 1) := by decide +kernel
theorem d_Wk_copyFrom_59 : decode m_Wk_copyFrom.2.1 59 = .ok (.iastore, 1) := by decide +kernel
theorem d_Wk_copyFrom_60 : decode m_Wk_copyFrom.2.1 60 = .ok (.aload_n 0, 1) := by decide +kernel
theorem d_Wk_copyFrom_61 : decode m_Wk_copyFrom.2.1 61 = .ok (.getfield 22, 3) := by decide +kernel
theorem d_Wk_copyFrom_64 : decode m_Wk_copyFrom.2.1 64 = .ok (.iload_n 2, 1) := by decide +kernel
theorem d_Wk_copyFrom_65 : decode m_Wk_copyFrom.2.1 65 = .ok (.aload_n 1, 1) := by decide +kernel
theorem d_Wk_copyFrom_66 : decode m_Wk_copyFrom.2.1 66 = .ok (.getfield 22, 3) := by decide +kernel
theorem d_Wk_copyFrom_69 : decode m_Wk_copyFrom.2.1 69 = .ok (.iload_n 2, 1) := by decide +kernel
theorem d_Wk_copyFrom_70 : decode m_Wk_copyFrom.2.1 70 = .ok (.iaload, 1) := by decide +kernel
theorem d_Wk_copyFrom_71 : decode m_Wk_copyFrom.2.1 71 = .ok (.iastore, 1) := by decide +kernel
theorem d_Wk_copyFrom_72 : decode m_Wk_copyFrom.2.1 72 = .ok (.aload_n 0, 1) := by decide +kernel
theorem d_Wk_copyFrom_73 : decode m_Wk_copyFrom.2.1 73 = .ok (.getfield 25, 3) := by decide +kernel
theorem d_Wk_copyFrom_76 : decode m_Wk_copyFrom.2.1 76 = .ok (.iload_n 2, 1) := by decide +kernel
theorem d_Wk_copyFrom_77 : decode m_Wk_copyFrom.2.1 77 = .ok (.aload_n 1, 1) := by decide +kernel
theorem d_Wk_copyFrom_78 : decode m_Wk_copyFrom.2.1 78 = .ok (.getfield 25, 3) := by decide +kernel
theorem d_Wk_copyFrom_81 : decode m_Wk_copyFrom.2.1 81 = .ok (.iload_n 2, 1) := by decide +kernel
theorem d_Wk_copyFrom_82 : decode m_Wk_copyFrom.2.1 82 = .ok (.iaload, 1) := by decide +kernel
theorem d_Wk_copyFrom_83 : decode m_Wk_copyFrom.2.1 83 = .ok (.iastore, 1) := by decide +kernel
theorem d_Wk_copyFrom_84 : decode m_Wk_copyFrom.2.1 84 = .ok (.iinc 2 1, 3) := by decide +kernel
theorem d_Wk_copyFrom_87 : decode m_Wk_copyFrom.2.1 87 = .ok (.goto (-69), 3) := by decide +kernel
theorem d_Wk_copyFrom_90 : decode m_Wk_copyFrom.2.1 90 = .ok (.return_, 1) := by decide +kernel
theorem g_Wk_copyFrom_0 {X : XS} (a0 : List Nat) (a1 : List Nat) (h : Hp) (Q : Option AV → Hp → Prop) (w_a0 : IsWk a0) (w_a1 : IsWk a1) (k : Rn X m_Wk_copyFrom 18 [some (vR a0), some (vR a1), some (vI 0)] [] (hsI (hsI h a0 1 (h.1 a1 1)) a0 2 ((hsI h a0 1 (h.1 a1 1)).1 a1 2)) Q) : Rn X m_Wk_copyFrom 0 [some (vR a0), some (vR a1), none] [] h Q := by
  refine Rn.aload_n (n := 1) (i := 0) d_Wk_copyFrom_0 rfl rfl rfl ?_
  refine Rn.aload_n (n := 2) (i := 1) d_Wk_copyFrom_1 rfl rfl rfl ?_
  refine Rn.getf (n := 5) (v := vI (h.1 a1 1)) d_Wk_copyFrom_2 rfl fl_Wk_34 w_a1.s rfl ?_
  refine Rn.putI (n := 8) d_Wk_copyFrom_5 rfl fl_Wk_34 pl_Wk_1 w_a0.s rfl ?_
  refine Rn.aload_n (n := 9) (i := 0) d_Wk_copyFrom_8 rfl rfl rfl ?_
  refine Rn.aload_n (n := 10) (i := 1) d_Wk_copyFrom_9 rfl rfl rfl ?_
  refine Rn.getf (n := 13) (v := vI ((hsI h a0 1 (h.1 a1 1)).1 a1 2)) d_Wk_copyFrom_10 rfl fl_Wk_38 w_a1.s rfl ?_
  refine Rn.putI (n := 16) d_Wk_copyFrom_13 rfl fl_Wk_38 pl_Wk_2 w_a0.s rfl ?_
  refine Rn.iconst (n := 17) (v := 0) d_Wk_copyFrom_16 rfl (by decide) ?_
  refine Rn.istore_n (n := 18) (i := 2) (ls2 := [some (vR a0), some (vR a1), some (vI 0)]) d_Wk_copyFrom_17 rfl rfl (Nat.le_of_ble_eq_true rfl) rfl ?_
  exact k
theorem g_Wk_copyFrom_18 {X : XS} (a0 : List Nat) (a1 : List Nat) (a2 : Int32) (h : Hp) (Q : Option AV → Hp → Prop) (w_a0 : IsWk a0) (w_a1 : IsWk a1) (k : ((6 ≤ a2 → Q none h) ∧ (¬ 6 ≤ a2 → (vp_in a2 6 ∧ (vp_in a2 6 ∧ (vp_in a2 6 ∧ (vp_in a2 6 ∧ (vp_in a2 6 ∧ (vp_in a2 6 ∧ (vp_in a2 6 ∧ (vp_in a2 6 ∧ (vp_in a2 6 ∧ (vp_in a2 6 ∧ Rn X m_Wk_copyFrom 18 [some (vR a0), some (vR a1), some (vI (a2 + 1))] [] (hsI (hsI (hsI (hsI (hsI h (3 :: a0) a2.toNatClampNeg (h.1 (3 :: a1) a2.toNatClampNeg)) (4 :: a0) a2.toNatClampNeg (((hsI h (3 :: a0) a2.toNatClampNeg (h.1 (3 :: a1) a2.toNatClampNeg)).1 (4 :: a1) a2.toNatClampNeg) &&& 1)) (5 :: a0) a2.toNatClampNeg ((hsI (hsI h (3 :: a0) a2.toNatClampNeg (h.1 (3 :: a1) a2.toNatClampNeg)) (4 :: a0) a2.toNatClampNeg (((hsI h (3 :: a0) a2.toNatClampNeg (h.1 (3 :: a1) a2.toNatClampNeg)).1 (4 :: a1) a2.toNatClampNeg) &&& 1)).1 (5 :: a1) a2.toNatClampNeg)) (6 :: a0) a2.toNatClampNeg ((hsI (hsI (hsI h (3 :: a0) a2.toNatClampNeg (h.1 (3 :: a1) a2.toNatClampNeg)) (4 :: a0) a2.toNatClampNeg (((hsI h (3 :: a0) a2.toNatClampNeg (h.1 (3 :: a1) a2.toNatClampNeg)).1 (4 :: a1) a2.toNatClampNeg) &&& 1)) (5 :: a0) a2.toNatClampNeg ((hsI (hsI h (3 :: a0) a2.toNatClampNeg (h.1 (3 :: a1) a2.toNatClampNeg)) (4 :: a0) a2.toNatClampNeg (((hsI h (3 :: a0) a2.toNatClampNeg (h.1 (3 :: a1) a2.toNatClampNeg)).1 (4 :: a1) a2.toNatClampNeg) &&& 1)).1 (5 :: a1) a2.toNatClampNeg)).1 (6 :: a1) a2.toNatClampNeg)) (7 :: a0) a2.toNatClampNeg ((hsI (hsI (hsI (hsI h (3 :: a0) a2.toNatClampNeg (h.1 (3 :: a1) a2.toNatClampNeg)) (4 :: a0) a2.toNatClampNeg (((hsI h (3 :: a0) a2.toNatClampNeg (h.1 (3 :: a1) a2.toNatClampNeg)).1 (4 :: a1) a2.toNatClampNeg) &&& 1)) (5 :: a0) a2.toNatClampNeg ((hsI (hsI h (3 :: a0) a2.toNatClampNeg (h.1 (3 :: a1) a2.toNatClampNeg)) (4 :: a0) a2.toNatClampNeg (((hsI h (3 :: a0) a2.toNatClampNeg (h.1 (3 :: a1) a2.toNatClampNeg)).1 (4 :: a1) a2.toNatClampNeg) &&& 1)).1 (5 :: a1) a2.toNatClampNeg)) (6 :: a0) a2.toNatClampNeg ((hsI (hsI (hsI h (3 :: a0) a2.toNatClampNeg (h.1 (3 :: a1) a2.toNatClampNeg)) (4 :: a0) a2.toNatClampNeg (((hsI h (3 :: a0) a2.toNatClampNeg (h.1 (3 :: a1) a2.toNatClampNeg)).1 (4 :: a1) a2.toNatClampNeg) &&& 1)) (5 :: a0) a2.toNatClampNeg ((hsI (hsI h (3 :: a0) a2.toNatClampNeg (h.1 (3 :: a1) a2.toNatClampNeg)) (4 :: a0) a2.toNatClampNeg (((hsI h (3 :: a0) a2.toNatClampNeg (h.1 (3 :: a1) a2.toNatClampNeg)).1 (4 :: a1) a2.toNatClampNeg) &&& 1)).1 (5 :: a1) a2.toNatClampNeg)).1 (6 :: a1) a2.toNatClampNeg)).1 (7 :: a1) a2.toNatClampNeg)) Q))))))))))))) : Rn X m_Wk_copyFrom 18 [some (vR a0), some (vR a1), some (vI a2)] [] h Q := by
  refine Rn.iload_n (n := 19) (i := 2) d_Wk_copyFrom_18 rfl rfl rfl ?_
  refine Rn.bipush (n := 21) (v := 6) d_Wk_copyFrom_19 rfl (by decide) ?_
  refine Rn.icmp_ge (n := 24) (t := 90) d_Wk_copyFrom_21 rfl (by decide) (fun cc => ?_) (fun cc => ?_)
  · have k := k.1 cc
    exact Rn.vret d_Wk_copyFrom_90 rfl k
  · have k := k.2 cc
    refine Rn.aload_n (n := 25) (i := 0) d_Wk_copyFrom_24 rfl rfl rfl ?_
    refine Rn.getf (n := 28) (v := vR (3 :: a0)) d_Wk_copyFrom_25 rfl fl_Wk_9 w_a0.s rfl ?_
    refine Rn.iload_n (n := 29) (i := 2) d_Wk_copyFrom_28 rfl rfl rfl ?_
    refine Rn.aload_n (n := 30) (i := 1) d_Wk_copyFrom_29 rfl rfl rfl ?_
    refine Rn.getf (n := 33) (v := vR (3 :: a1)) d_Wk_copyFrom_30 rfl fl_Wk_9 w_a1.s rfl ?_
    refine Rn.iload_n (n := 34) (i := 2) d_Wk_copyFrom_33 rfl rfl rfl ?_
    obtain ⟨b1, k⟩ := k
    refine Rn.iald (n := 35) (v := h.1 (3 :: a1) a2.toNatClampNeg) d_Wk_copyFrom_34 rfl w_a1.c3 b1 rfl ?_
    obtain ⟨b2, k⟩ := k
    refine Rn.iast (n := 36) d_Wk_copyFrom_35 rfl w_a0.c3 b2 ?_
    refine Rn.aload_n (n := 37) (i := 0) d_Wk_copyFrom_36 rfl rfl rfl ?_
    refine Rn.getf (n := 40) (v := vR (4 :: a0)) d_Wk_copyFrom_37 rfl fl_Wk_15 w_a0.s rfl ?_
    refine Rn.iload_n (n := 41) (i := 2) d_Wk_copyFrom_40 rfl rfl rfl ?_
    refine Rn.aload_n (n := 42) (i := 1) d_Wk_copyFrom_41 rfl rfl rfl ?_
    refine Rn.getf (n := 45) (v := vR (4 :: a1)) d_Wk_copyFrom_42 rfl fl_Wk_15 w_a1.s rfl ?_
    refine Rn.iload_n (n := 46) (i := 2) d_Wk_copyFrom_45 rfl rfl rfl ?_
    obtain ⟨b3, k⟩ := k
    refine Rn.zald (n := 47) (v := (hsI h (3 :: a0) a2.toNatClampNeg (h.1 (3 :: a1) a2.toNatClampNeg)).1 (4 :: a1) a2.toNatClampNeg) d_Wk_copyFrom_46 rfl w_a1.c4 b3 rfl ?_
    obtain ⟨b4, k⟩ := k
    refine Rn.zast (n := 48) (y := ((hsI h (3 :: a0) a2.toNatClampNeg (h.1 (3 :: a1) a2.toNatClampNeg)).1 (4 :: a1) a2.toNatClampNeg) &&& 1) d_Wk_copyFrom_47 rfl w_a0.c4 b4 rfl ?_
    refine Rn.aload_n (n := 49) (i := 0) d_Wk_copyFrom_48 rfl rfl rfl ?_
    refine Rn.getf (n := 52) (v := vR (5 :: a0)) d_Wk_copyFrom_49 rfl fl_Wk_19 w_a0.s rfl ?_
    refine Rn.iload_n (n := 53) (i := 2) d_Wk_copyFrom_52 rfl rfl rfl ?_
    refine Rn.aload_n (n := 54) (i := 1) d_Wk_copyFrom_53 rfl rfl rfl ?_
    refine Rn.getf (n := 57) (v := vR (5 :: a1)) d_Wk_copyFrom_54 rfl fl_Wk_19 w_a1.s rfl ?_
    refine Rn.iload_n (n := 58) (i := 2) d_Wk_copyFrom_57 rfl rfl rfl ?_
    obtain ⟨b5, k⟩ := k
    refine Rn.iald (n := 59) (v := (hsI (hsI h (3 :: a0) a2.toNatClampNeg (h.1 (3 :: a1) a2.toNatClampNeg)) (4 :: a0) a2.toNatClampNeg (((hsI h (3 :: a0) a2.toNatClampNeg (h.1 (3 :: a1) a2.toNatClampNeg)).1 (4 :: a1) a2.toNatClampNeg) &&& 1)).1 (5 :: a1) a2.toNatClampNeg) d_Wk_copyFrom_58 rfl w_a1.c5 b5 rfl ?_
    obtain ⟨b6, k⟩ := k
    refine Rn.iast (n := 60) d_Wk_copyFrom_59 rfl w_a0.c5 b6 ?_
    refine Rn.aload_n (n := 61) (i := 0) d_Wk_copyFrom_60 rfl rfl rfl ?_
    refine Rn.getf (n := 64) (v := vR (6 :: a0)) d_Wk_copyFrom_61 rfl fl_Wk_22 w_a0.s rfl ?_
    refine Rn.iload_n (n := 65) (i := 2) d_Wk_copyFrom_64 rfl rfl rfl ?_
    refine Rn.aload_n (n := 66) (i := 1) d_Wk_copyFrom_65 rfl rfl rfl ?_
    refine Rn.getf (n := 69) (v := vR (6 :: a1)) d_Wk_copyFrom_66 rfl fl_Wk_22 w_a1.s rfl ?_
    refine Rn.iload_n (n := 70) (i := 2) d_Wk_copyFrom_69 rfl rfl rfl ?_
    obtain ⟨b7, k⟩ := k
    refine Rn.iald (n := 71) (v := (hsI (hsI (hsI h (3 :: a0) a2.toNatClampNeg (h.1 (3 :: a1) a2.toNatClampNeg)) (4 :: a0) a2.toNatClampNeg (((hsI h (3 :: a0) a2.toNatClampNeg (h.1 (3 :: a1) a2.toNatClampNeg)).1 (4 :: a1) a2.toNatClampNeg) &&& 1)) (5 :: a0) a2.toNatClampNeg ((hsI (hsI h (3 :: a0) a2.toNatClampNeg (h.1 (3 :: a1) a2.toNatClampNeg)) (4 :: a0) a2.toNatClampNeg (((hsI h (3 :: a0) a2.toNatClampNeg (h.1 (3 :: a1) a2.toNatClampNeg)).1 (4 :: a1) a2.toNatClampNeg) &&& 1)).1 (5 :: a1) a2.toNatClampNeg)).1 (6 :: a1) a2.toNatClampNeg) d_Wk_copyFrom_70 rfl w_a1.c6 b7 rfl ?_
    obtain ⟨b8, k⟩ := k
    refine Rn.iast (n := 72) d_Wk_copyFrom_71 rfl w_a0.c6 b8 ?_
    refine Rn.aload_n (n := 73) (i := 0) d_Wk_copyFrom_72 rfl rfl rfl ?_
    refine Rn.getf (n := 76) (v := vR (7 :: a0)) d_Wk_copyFrom_73 rfl fl_Wk_25 w_a0.s rfl ?_
    refine Rn.iload_n (n := 77) (i := 2) d_Wk_copyFrom_76 rfl rfl rfl ?_
    refine Rn.aload_n (n := 78) (i := 1) d_Wk_copyFrom_77 rfl rfl rfl ?_
    refine Rn.getf (n := 81) (v := vR (7 :: a1)) d_Wk_copyFrom_78 rfl fl_Wk_25 w_a1.s rfl ?_
    refine Rn.iload_n (n := 82) (i := 2) d_Wk_copyFrom_81 rfl rfl rfl ?_
    obtain ⟨b9, k⟩ := k
    refine Rn.iald (n := 83) (v := (hsI (hsI (hsI (hsI h (3 :: a0) a2.toNatClampNeg (h.1 (3 :: a1) a2.toNatClampNeg)) (4 :: a0) a2.toNatClampNeg (((hsI h (3 :: a0) a2.toNatClampNeg (h.1 (3 :: a1) a2.toNatClampNeg)).1 (4 :: a1) a2.toNatClampNeg) &&& 1)) (5 :: a0) a2.toNatClampNeg ((hsI (hsI h (3 :: a0) a2.toNatClampNeg (h.1 (3 :: a1) a2.toNatClampNeg)) (4 :: a0) a2.toNatClampNeg (((hsI h (3 :: a0) a2.toNatClampNeg (h.1 (3 :: a1) a2.toNatClampNeg)).1 (4 :: a1) a2.toNatClampNeg) &&& 1)).1 (5 :: a1) a2.toNatClampNeg)) (6 :: a0) a2.toNatClampNeg ((hsI (hsI (hsI h (3 :: a0) a2.toNatClampNeg (h.1 (3 :: a1) a2.toNatClampNeg)) (4 :: a0) a2.toNatClampNeg (((hsI h (3 :: a0) a2.toNatClampNeg (h.1 (3 :: a1) a2.toNatClampNeg)).1 (4 :: a1) a2.toNatClampNeg) &&& 1)) (5 :: a0) a2.toNatClampNeg ((hsI (hsI h (3 :: a0) a2.toNatClampNeg (h.1 (3 :: a1) a2.toNatClampNeg)) (4 :: a0) a2.toNatClampNeg (((hsI h (3 :: a0) a2.toNatClampNeg (h.1 (3 :: a1) a2.toNatClampNeg)).1 (4 :: a1) a2.toNatClampNeg) &&& 1)).1 (5 :: a1) a2.toNatClampNeg)).1 (6 :: a1) a2.toNatClampNeg)).1 (7 :: a1) a2.toNatClampNeg) d_Wk_copyFrom_82 rfl w_a1.c7 b9 rfl ?_
    obtain ⟨b10, k⟩ := k
    refine Rn.iast (n := 84) d_Wk_copyFrom_83 rfl w_a0.c7 b10 ?_
    refine Rn.iinc (n := 87) (i := 2) (v := a2 + 1) (ls2 := [some (vR a0), some (vR a1), some (vI (a2 + 1))]) d_Wk_copyFrom_84 rfl rfl rfl (Nat.le_of_ble_eq_true rfl) rfl ?_
    refine Rn.goto (n := 18) d_Wk_copyFrom_87 (by decide) ?_
    exact k
theorem e_Wk_copyFrom {X : XS} (a0 : List Nat) (a1 : List Nat) (h : Hp) (Q : Option AV → Hp → Prop) (k : Rn X m_Wk_copyFrom 0 [some (vR a0), some (vR a1), none] [] h Q) : Ev X m_Wk_copyFrom [vR a0, vR a1] h Q := Ev.intro (plainFor_of_name (by decide +kernel)) (Nat.le_of_ble_eq_true rfl) (ls := [some (vR a0), some (vR a1), none]) rfl k
theorem d_Wk_whoIsAt_0 : decode m_Wk_whoIsAt.2.1 0 = .ok (.iconst 0, 1) := by decide +kernel
theorem d_Wk_whoIsAt_1 : decode m_Wk_whoIsAt.2.1 1 = .ok (.istore_n 2, 1) := by decide +kernel
theorem d_Wk_whoIsAt_2 : decode m_Wk_whoIsAt.2.1 2 = .ok (.iload_n 2, 1) := by decide +kernel
theorem d_Wk_whoIsAt_3 : decode m_Wk_whoIsAt.2.1 3 = .ok (.bipush 6, 2) := by decide +kernel
theorem d_Wk_whoIsAt_5 : decode m_Wk_whoIsAt.2.1 5 = .ok (.if_icmp .ge 26, 3) := by decide +kernel
theorem d_Wk_whoIsAt_8 : decode m_Wk_whoIsAt.2.1 8 = .ok (.aload_n 0, 1) := by decide +kernel
theorem d_Wk_whoIsAt_9 : decode m_Wk_whoIsAt.2.1 9 = .ok (.getfield 9, 3) := by decide +kernel
theorem d_Wk_whoIsAt_12 : decode m_Wk_whoIsAt.2.1 12 = .ok (.iload_n 2, 1) := by decide +kernel
theorem d_Wk_whoIsAt_13 : decode m_Wk_whoIsAt.2.1 13 = .ok (.iaload, 1) := by decide +kernel
theorem d_Wk_whoIsAt_14 : decode m_Wk_whoIsAt.2.1 14 = .ok (.iload_n 1, 1) := by decide +kernel
theorem d_Wk_whoIsAt_15 : decode m_Wk_whoIsAt.2.1 15 = .ok (.if_icmp .ne 10, 3) := by decide +kernel
theorem d_Wk_whoIsAt_18 : decode m_Wk_whoIsAt.2.1 18 = .ok (.iload_n 1, 1) := by decide +kernel
theorem d_Wk_whoIsAt_19 : decode m_Wk_whoIsAt.2.1 19 = .ok (.iconst (-1), 1) := by decide +kernel
theorem d_Wk_whoIsAt_20 : decode m_Wk_whoIsAt.2.1 20 = .ok (.if_icmp .eq 5, 3) := by decide +kernel
theorem d_Wk_whoIsAt_23 : decode m_Wk_whoIsAt.2.1 23 = .ok (.iload_n 2, 1) := by decide +kernel
theorem d_Wk_whoIsAt_24 : decode m_Wk_whoIsAt.2.1 24 = .ok (.ireturn, 1) := by decide +kernel
theorem d_Wk_whoIsAt_25 : decode m_Wk_whoIsAt.2.1 25 = .ok (.iinc 2 1, 3) := by decide +kernel
theorem d_Wk_whoIsAt_28 : decode m_Wk_whoIsAt.2.1 28 = .ok (.goto (-26), 3) := by decide +kernel
theorem d_Wk_whoIsAt_31 : decode m_Wk_whoIsAt.2.1 31 = .ok (.iconst (-1), 1) := by decide +kernel
theorem d_Wk_whoIsAt_32 : decode m_Wk_whoIsAt.2.1 32 = .ok (.ireturn, 1) := by decide +kernel
theorem g_Wk_whoIsAt_0 {X : XS} (a0 : List Nat) (a1 : Int32) (h : Hp) (Q : Option AV → Hp → Prop) (w_a0 : IsWk a0) (k : Rn X m_Wk_whoIsAt 2 [some (vR a0), some (vI a1), some (vI 0)] [] h Q) : Rn X m_Wk_whoIsAt 0 [some (vR a0), some (vI a1), none] [] h Q := by
  refine Rn.iconst (n := 1) (v := 0) d_Wk_whoIsAt_0 rfl (by decide) ?_
  refine Rn.istore_n (n := 2) (i := 2) (ls2 := [some (vR a0), some (vI a1), some (vI 0)]) d_Wk_whoIsAt_1 rfl rfl (Nat.le_of_ble_eq_true rfl) rfl ?_
  exact k
theorem g_Wk_whoIsAt_2 {X : XS} (a0 : List Nat) (a1 : Int32) (a2 : Int32) (h : Hp) (Q : Option AV → Hp → Prop) (w_a0 : IsWk a0) (k : ((6 ≤ a2 → Q (some (vI (-1))) h) ∧ (¬ 6 ≤ a2 → (vp_in a2 6 ∧ ((¬ (h.1 (3 :: a0) a2.toNatClampNeg) = a1 → Rn X m_Wk_whoIsAt 2 [some (vR a0), some (vI a1), some (vI (a2 + 1))] [] h Q) ∧ ((h.1 (3 :: a0) a2.toNatClampNeg) = a1 → ((a1 = (-1) → Rn X m_Wk_whoIsAt 2 [some (vR a0), some (vI a1), some (vI (a2 + 1))] [] h Q) ∧ (¬ a1 = (-1) → Q (some (vI a2)) h)))))))) : Rn X m_Wk_whoIsAt 2 [some (vR a0), some (vI a1), some (vI a2)] [] h Q := by
  refine Rn.iload_n (n := 3) (i := 2) d_Wk_whoIsAt_2 rfl rfl rfl ?_
  refine Rn.bipush (n := 5) (v := 6) d_Wk_whoIsAt_3 rfl (by decide) ?_
  refine Rn.icmp_ge (n := 8) (t := 31) d_Wk_whoIsAt_5 rfl (by decide) (fun cc => ?_) (fun cc => ?_)
  · have k := k.1 cc
    refine Rn.iconst (n := 32) (v := (-1)) d_Wk_whoIsAt_31 rfl (by decide) ?_
    exact Rn.iret d_Wk_whoIsAt_32 rfl rfl k
  · have k := k.2 cc
    refine Rn.aload_n (n := 9) (i := 0) d_Wk_whoIsAt_8 rfl rfl rfl ?_
    refine Rn.getf (n := 12) (v := vR (3 :: a0)) d_Wk_whoIsAt_9 rfl fl_Wk_9 w_a0.s rfl ?_
    refine Rn.iload_n (n := 13) (i := 2) d_Wk_whoIsAt_12 rfl rfl rfl ?_
    obtain ⟨b1, k⟩ := k
    refine Rn.iald (n := 14) (v := h.1 (3 :: a0) a2.toNatClampNeg) d_Wk_whoIsAt_13 rfl w_a0.c3 b1 rfl ?_
    refine Rn.iload_n (n := 15) (i := 1) d_Wk_whoIsAt_14 rfl rfl rfl ?_
    refine Rn.icmp_ne (n := 18) (t := 25) d_Wk_whoIsAt_15 rfl (by decide) (fun cc => ?_) (fun cc => ?_)
    · have k := k.1 cc
      refine Rn.iinc (n := 28) (i := 2) (v := a2 + 1) (ls2 := [some (vR a0), some (vI a1), some (vI (a2 + 1))]) d_Wk_whoIsAt_25 rfl rfl rfl (Nat.le_of_ble_eq_true rfl) rfl ?_
      refine Rn.goto (n := 2) d_Wk_whoIsAt_28 (by decide) ?_
      exact k
    · have k := k.2 cc
      refine Rn.iload_n (n := 19) (i := 1) d_Wk_whoIsAt_18 rfl rfl rfl ?_
      refine Rn.iconst (n := 20) (v := (-1)) d_Wk_whoIsAt_19 rfl (by decide) ?_
      refine Rn.icmp_eq (n := 23) (t := 25) d_Wk_whoIsAt_20 rfl (by decide) (fun cc => ?_) (fun cc => ?_)
      · have k := k.1 cc
        refine Rn.iinc (n := 28) (i := 2) (v := a2 + 1) (ls2 := [some (vR a0), some (vI a1), some (vI (a2 + 1))]) d_Wk_whoIsAt_25 rfl rfl rfl (Nat.le_of_ble_eq_true rfl) rfl ?_
        refine Rn.goto (n := 2) d_Wk_whoIsAt_28 (by decide) ?_
        exact k
      · have k := k.2 cc
        refine Rn.iload_n (n := 24) (i := 2) d_Wk_whoIsAt_23 rfl rfl rfl ?_
        exact Rn.iret d_Wk_whoIsAt_24 rfl rfl k
theorem e_Wk_whoIsAt {X : XS} (a0 : List Nat) (a1 : Int32) (h : Hp) (Q : Option AV → Hp → Prop) (k : Rn X m_Wk_whoIsAt 0 [some (vR a0), some (vI a1), none] [] h Q) : Ev X m_Wk_whoIsAt [vR a0, vI a1] h Q := Ev.intro (plainFor_of_name (by decide +kernel)) (Nat.le_of_ble_eq_true rfl) (ls := [some (vR a0), some (vI a1), none]) rfl k
theorem d_Wk_onStreet_0 : decode m_Wk_onStreet.2.1 0 = .ok (.iconst 0, 1) := by decide +kernel
theorem d_Wk_onStreet_1 : decode m_Wk_onStreet.2.1 1 = .ok (.istore_n 1, 1) := by decide +kernel
theorem d_Wk_onStreet_2 : decode m_Wk_onStreet.2.1 2 = .ok (.iconst 0, 1) := by decide +kernel
theorem d_Wk_onStreet_3 : decode m_Wk_onStreet.2.1 3 = .ok (.istore_n 2, 1) := by decide +kernel
theorem d_Wk_onStreet_4 : decode m_Wk_onStreet.2.1 4 = .ok (.iload_n 2, 1) := by decide +kernel
theorem d_Wk_onStreet_5 : decode m_Wk_onStreet.2.1 5 = .ok (.bipush 6, 2) := by decide +kernel
theorem d_Wk_onStreet_7 : decode m_Wk_onStreet.2.1 7 = .ok (.if_icmp .ge 25, 3) := by decide +kernel
theorem d_Wk_onStreet_10 : decode m_Wk_onStreet.2.1 10 = .ok (.iload_n 1, 1) := by decide +kernel
theorem d_Wk_onStreet_11 : decode m_Wk_onStreet.2.1 11 = .ok (.aload_n 0, 1) := by decide +kernel
theorem d_Wk_onStreet_12 : decode m_Wk_onStreet.2.1 12 = .ok (.iload_n 2, 1) := by decide +kernel
theorem d_Wk_onStreet_13 : decode m_Wk_onStreet.2.1 13 = .ok (.invokevirtual 41, 3) := by decide +kernel
theorem d_Wk_onStreet_16 : decode m_Wk_onStreet.2.1 16 = .ok (.ifCond .eq 7, 3) := by decide +kernel
theorem d_Wk_onStreet_19 : decode m_Wk_onStreet.2.1 19 = .ok (.iconst 1, 1) := by decide +kernel
theorem d_Wk_onStreet_20 : decode m_Wk_onStreet.2.1 20 = .ok (.goto 4, 3) := by decide +kernel
theorem d_Wk_onStreet_23 : decode m_Wk_onStreet.2.1 23 = .ok (.iconst 0, 1) := by decide +kernel
theorem d_Wk_onStreet_24 : decode m_Wk_onStreet.2.1 24 = .ok (.iadd, 1) := by decide +kernel
theorem d_Wk_onStreet_25 : decode m_Wk_onStreet.2.1 25 = .ok (.istore_n 1, 1) := by decide +kernel
theorem d_Wk_onStreet_26 : decode m_Wk_onStreet.2.1 26 = .ok (.iinc 2 1, 3) := by decide +kernel
theorem d_Wk_onStreet_29 : decode m_Wk_onStreet.2.1 29 = .ok (.goto (-25), 3) := by decide +kernel
theorem d_Wk_onStreet_32 : decode m_Wk_onStreet.2.1 32 = .ok (.iload_n 1, 1) := by decide +kernel
theorem d_Wk_onStreet_33 : decode m_Wk_onStreet.2.1 33 = .ok (.ireturn, 1) := by decide +kernel
theorem g_Wk_onStreet_0 {X : XS} (a0 : List Nat) (h : Hp) (Q : Option AV → Hp → Prop) (w_a0 : IsWk a0) (k : Rn X m_Wk_onStreet 4 [some (vR a0), some (vI 0), some (vI 0)] [] h Q) : Rn X m_Wk_onStreet 0 [some (vR a0), none, none] [] h Q := by
  refine Rn.iconst (n := 1) (v := 0) d_Wk_onStreet_0 rfl (by decide) ?_
  refine Rn.istore_n (n := 2) (i := 1) (ls2 := [some (vR a0), some (vI 0), none]) d_Wk_onStreet_1 rfl rfl (Nat.le_of_ble_eq_true rfl) rfl ?_
  refine Rn.iconst (n := 3) (v := 0) d_Wk_onStreet_2 rfl (by decide) ?_
  refine Rn.istore_n (n := 4) (i := 2) (ls2 := [some (vR a0), some (vI 0), some (vI 0)]) d_Wk_onStreet_3 rfl rfl (Nat.le_of_ble_eq_true rfl) rfl ?_
  exact k
theorem g_Wk_onStreet_4 {X : XS} (a0 : List Nat) (a1 : Int32) (a2 : Int32) (h : Hp) (Q : Option AV → Hp → Prop) (w_a0 : IsWk a0) (k : ((6 ≤ a2 → Q (some (vI a1)) h) ∧ (¬ 6 ≤ a2 → (∃ Q'4, EvI X m_Wk_isOn [vR a0, vI a2] h Q'4 ∧ ∀ (r5 : Int32) (h3 : Hp), Q'4 r5 h3 → ((r5 = 0 → Rn X m_Wk_onStreet 4 [some (vR a0), some (vI (a1 + 0)), some (vI (a2 + 1))] [] h3 Q) ∧ (¬ r5 = 0 → Rn X m_Wk_onStreet 4 [some (vR a0), some (vI (a1 + 1)), some (vI (a2 + 1))] [] h3 Q)))))) : Rn X m_Wk_onStreet 4 [some (vR a0), some (vI a1), some (vI a2)] [] h Q := by
  refine Rn.iload_n (n := 5) (i := 2) d_Wk_onStreet_4 rfl rfl rfl ?_
  refine Rn.bipush (n := 7) (v := 6) d_Wk_onStreet_5 rfl (by decide) ?_
  refine Rn.icmp_ge (n := 10) (t := 32) d_Wk_onStreet_7 rfl (by decide) (fun cc => ?_) (fun cc => ?_)
  · have k := k.1 cc
    refine Rn.iload_n (n := 33) (i := 1) d_Wk_onStreet_32 rfl rfl rfl ?_
    exact Rn.iret d_Wk_onStreet_33 rfl rfl k
  · have k := k.2 cc
    refine Rn.iload_n (n := 11) (i := 1) d_Wk_onStreet_10 rfl rfl rfl ?_
    refine Rn.aload_n (n := 12) (i := 0) d_Wk_onStreet_11 rfl rfl rfl ?_
    refine Rn.iload_n (n := 13) (i := 2) d_Wk_onStreet_12 rfl rfl rfl ?_
    obtain ⟨Q'4, ev1, k⟩ := k
    refine Rn.callV (n := 16) (av := [vI a2]) d_Wk_onStreet_13 rfl ml_Wk_onStreet_41 mi_Wk_isOn w_a0.s rfl rfl rfl rfl (Nat.le_of_ble_eq_true rfl) ev1 (fun v h3 hq => ?_)
    obtain ⟨r5, rfl, hq⟩ := hq
    have k := k r5 h3 hq
    show Rn X m_Wk_onStreet 16 [some (vR a0), some (vI a1), some (vI a2)] [vI r5, vI a1] h3 Q
    refine Rn.if_eq (n := 19) (t := 23) d_Wk_onStreet_16 rfl (by decide) (fun cc => ?_) (fun cc => ?_)
    · have k := k.1 cc
      refine Rn.iconst (n := 24) (v := 0) d_Wk_onStreet_23 rfl (by decide) ?_
      refine Rn.iadd (n := 25) d_Wk_onStreet_24 rfl ?_
      refine Rn.istore_n (n := 26) (i := 1) (ls2 := [some (vR a0), some (vI (a1 + 0)), some (vI a2)]) d_Wk_onStreet_25 rfl rfl (Nat.le_of_ble_eq_true rfl) rfl ?_
      refine Rn.iinc (n := 29) (i := 2) (v := a2 + 1) (ls2 := [some (vR a0), some (vI (a1 + 0)), some (vI (a2 + 1))]) d_Wk_onStreet_26 rfl rfl rfl (Nat.le_of_ble_eq_true rfl) rfl ?_
      refine Rn.goto (n := 4) d_Wk_onStreet_29 (by decide) ?_
      exact k
    · have k := k.2 cc
      refine Rn.iconst (n := 20) (v := 1) d_Wk_onStreet_19 rfl (by decide) ?_
      refine Rn.goto (n := 24) d_Wk_onStreet_20 (by decide) ?_
      refine Rn.iadd (n := 25) d_Wk_onStreet_24 rfl ?_
      refine Rn.istore_n (n := 26) (i := 1) (ls2 := [some (vR a0), some (vI (a1 + 1)), some (vI a2)]) d_Wk_onStreet_25 rfl rfl (Nat.le_of_ble_eq_true rfl) rfl ?_
      refine Rn.iinc (n := 29) (i := 2) (v := a2 + 1) (ls2 := [some (vR a0), some (vI (a1 + 1)), some (vI (a2 + 1))]) d_Wk_onStreet_26 rfl rfl rfl (Nat.le_of_ble_eq_true rfl) rfl ?_
      refine Rn.goto (n := 4) d_Wk_onStreet_29 (by decide) ?_
      exact k
theorem e_Wk_onStreet {X : XS} (a0 : List Nat) (h : Hp) (Q : Option AV → Hp → Prop) (k : Rn X m_Wk_onStreet 0 [some (vR a0), none, none] [] h Q) : Ev X m_Wk_onStreet [vR a0] h Q := Ev.intro (plainFor_of_name (by decide +kernel)) (Nat.le_of_ble_eq_true rfl) (ls := [some (vR a0), none, none]) rfl k
theorem d_Wk_isOver_0 : decode m_Wk_isOver.2.1 0 = .ok (.iconst 0, 1) := by decide +kernel
theorem d_Wk_isOver_1 : decode m_Wk_isOver.2.1 1 = .ok (.istore_n 2, 1) := by decide +kernel
theorem d_Wk_isOver_2 : decode m_Wk_isOver.2.1 2 = .ok (.iload_n 2, 1) := by decide +kernel
theorem d_Wk_isOver_3 : decode m_Wk_isOver.2.1 3 = .ok (.bipush 6, 2) := by decide +kernel
theorem d_Wk_isOver_5 : decode m_Wk_isOver.2.1 5 = .ok (.if_icmp .ge 29, 3) := by decide +kernel
theorem d_Wk_isOver_8 : decode m_Wk_isOver.2.1 8 = .ok (.aload_n 1, 1) := by decide +kernel
theorem d_Wk_isOver_9 : decode m_Wk_isOver.2.1 9 = .ok (.getfield 45, 3) := by decide +kernel
theorem d_Wk_isOver_12 : decode m_Wk_isOver.2.1 12 = .ok (.iload_n 2, 1) := by decide +kernel
theorem d_Wk_isOver_13 : decode m_Wk_isOver.2.1 13 = .ok (.baload, 1) := by decide +kernel
theorem d_Wk_isOver_14 : decode m_Wk_isOver.2.1 14 = .ok (.ifCond .eq 14, 3) := by decide +kernel
theorem d_Wk_isOver_17 : decode m_Wk_isOver.2.1 17 = .ok (.aload_n 0, 1) := by decide +kernel
theorem d_Wk_isOver_18 : decode m_Wk_isOver.2.1 18 = .ok (.getfield 15, 3) := by decide +kernel
theorem d_Wk_isOver_21 : decode m_Wk_isOver.2.1 21 = .ok (.iload_n 2, 1) := by decide +kernel
theorem d_Wk_isOver_22 : decode m_Wk_isOver.2.1 22 = .ok (.baload, 1) := by decide +kernel
theorem d_Wk_isOver_23 : decode m_Wk_isOver.2.1 23 = .ok (.ifCond .ne 5, 3) := by decide +kernel
theorem d_Wk_isOver_26 : decode m_Wk_isOver.2.1 26 = .ok (.iconst 0, 1) := by decide +kernel
theorem d_Wk_isOver_27 : decode m_Wk_isOver.2.1 27 = .ok (.ireturn, 1) := by decide +kernel
theorem d_Wk_isOver_28 : decode m_Wk_isOver.2.1 28 = .ok (.iinc 2 1, 3) := by decide +kernel
theorem d_Wk_isOver_31 : decode m_Wk_isOver.2.1 31 = .ok (.goto (-29), 3) := by decide +kernel
theorem d_Wk_isOver_34 : decode m_Wk_isOver.2.1 34 = .ok (.iconst 1, 1) := by decide +kernel
theorem d_Wk_isOver_35 : decode m_Wk_isOver.2.1 35 = .ok (.ireturn, 1) := by decide +kernel
theorem g_Wk_isOver_0 {X : XS} (a0 : List Nat) (a1 : List Nat) (h : Hp) (Q : Option AV → Hp → Prop) (w_a0 : IsWk a0) (w_a1 : IsPl a1) (k : Rn X m_Wk_isOver 2 [some (vR a0), some (vR a1), some (vI 0)] [] h Q) : Rn X m_Wk_isOver 0 [some (vR a0), some (vR a1), none] [] h Q := by
  refine Rn.iconst (n := 1) (v := 0) d_Wk_isOver_0 rfl (by decide) ?_
  refine Rn.istore_n (n := 2) (i := 2) (ls2 := [some (vR a0), some (vR a1), some (vI 0)]) d_Wk_isOver_1 rfl rfl (Nat.le_of_ble_eq_true rfl) rfl ?_
  exact k
theorem g_Wk_isOver_2 {X : XS} (a0 : List Nat) (a1 : List Nat) (a2 : Int32) (h : Hp) (Q : Option AV → Hp → Prop) (w_a0 : IsWk a0) (w_a1 : IsPl a1) (k : ((6 ≤ a2 → Q (some (vI 1)) h) ∧ (¬ 6 ≤ a2 → (vp_in a2 6 ∧ (((h.1 (3 :: a1) a2.toNatClampNeg) = 0 → Rn X m_Wk_isOver 2 [some (vR a0), some (vR a1), some (vI (a2 + 1))] [] h Q) ∧ (¬ (h.1 (3 :: a1) a2.toNatClampNeg) = 0 → (vp_in a2 6 ∧ ((¬ (h.1 (4 :: a0) a2.toNatClampNeg) = 0 → Rn X m_Wk_isOver 2 [some (vR a0), some (vR a1), some (vI (a2 + 1))] [] h Q) ∧ ((h.1 (4 :: a0) a2.toNatClampNeg) = 0 → Q (some (vI 0)) h))))))))) : Rn X m_Wk_isOver 2 [some (vR a0), some (vR a1), some (vI a2)] [] h Q := by
  refine Rn.iload_n (n := 3) (i := 2) d_Wk_isOver_2 rfl rfl rfl ?_
  refine Rn.bipush (n := 5) (v := 6) d_Wk_isOver_3 rfl (by decide) ?_
  refine Rn.icmp_ge (n := 8) (t := 34) d_Wk_isOver_5 rfl (by decide) (fun cc => ?_) (fun cc => ?_)
  · have k := k.1 cc
    refine Rn.iconst (n := 35) (v := 1) d_Wk_isOver_34 rfl (by decide) ?_
    exact Rn.iret d_Wk_isOver_35 rfl rfl k
  · have k := k.2 cc
    refine Rn.aload_n (n := 9) (i := 1) d_Wk_isOver_8 rfl rfl rfl ?_
    refine Rn.getf (n := 12) (v := vR (3 :: a1)) d_Wk_isOver_9 rfl fl_Wk_45 w_a1.s rfl ?_
    refine Rn.iload_n (n := 13) (i := 2) d_Wk_isOver_12 rfl rfl rfl ?_
    obtain ⟨b1, k⟩ := k
    refine Rn.zald (n := 14) (v := h.1 (3 :: a1) a2.toNatClampNeg) d_Wk_isOver_13 rfl w_a1.c3 b1 rfl ?_
    refine Rn.if_eq (n := 17) (t := 28) d_Wk_isOver_14 rfl (by decide) (fun cc => ?_) (fun cc => ?_)
    · have k := k.1 cc
      refine Rn.iinc (n := 31) (i := 2) (v := a2 + 1) (ls2 := [some (vR a0), some (vR a1), some (vI (a2 + 1))]) d_Wk_isOver_28 rfl rfl rfl (Nat.le_of_ble_eq_true rfl) rfl ?_
      refine Rn.goto (n := 2) d_Wk_isOver_31 (by decide) ?_
      exact k
    · have k := k.2 cc
      refine Rn.aload_n (n := 18) (i := 0) d_Wk_isOver_17 rfl rfl rfl ?_
      refine Rn.getf (n := 21) (v := vR (4 :: a0)) d_Wk_isOver_18 rfl fl_Wk_15 w_a0.s rfl ?_
      refine Rn.iload_n (n := 22) (i := 2) d_Wk_isOver_21 rfl rfl rfl ?_
      obtain ⟨b2, k⟩ := k
      refine Rn.zald (n := 23) (v := h.1 (4 :: a0) a2.toNatClampNeg) d_Wk_isOver_22 rfl w_a0.c4 b2 rfl ?_
      refine Rn.if_ne (n := 26) (t := 28) d_Wk_isOver_23 rfl (by decide) (fun cc => ?_) (fun cc => ?_)
      · have k := k.1 cc
        refine Rn.iinc (n := 31) (i := 2) (v := a2 + 1) (ls2 := [some (vR a0), some (vR a1), some (vI (a2 + 1))]) d_Wk_isOver_28 rfl rfl rfl (Nat.le_of_ble_eq_true rfl) rfl ?_
        refine Rn.goto (n := 2) d_Wk_isOver_31 (by decide) ?_
        exact k
      · have k := k.2 cc
        refine Rn.iconst (n := 27) (v := 0) d_Wk_isOver_26 rfl (by decide) ?_
        exact Rn.iret d_Wk_isOver_27 rfl rfl k
theorem e_Wk_isOver {X : XS} (a0 : List Nat) (a1 : List Nat) (h : Hp) (Q : Option AV → Hp → Prop) (k : Rn X m_Wk_isOver 0 [some (vR a0), some (vR a1), none] [] h Q) : Ev X m_Wk_isOver [vR a0, vR a1] h Q := Ev.intro (plainFor_of_name (by decide +kernel)) (Nat.le_of_ble_eq_true rfl) (ls := [some (vR a0), some (vR a1), none]) rfl k
theorem d_Wk_tick_0 : decode m_Wk_tick.2.1 0 = .ok (.aload_n 0, 1) := by decide +kernel
theorem d_Wk_tick_1 : decode m_Wk_tick.2.1 1 = .ok (.getfield 34, 3) := by decide +kernel
theorem d_Wk_tick_4 : decode m_Wk_tick.2.1 4 = .ok (.bipush 60, 2) := by decide +kernel
theorem d_Wk_tick_6 : decode m_Wk_tick.2.1 6 = .ok (.if_icmp .lt 4, 3) := by decide +kernel
theorem d_Wk_tick_9 : decode m_Wk_tick.2.1 9 = .ok (.return_, 1) := by decide +kernel
theorem d_Wk_tick_10 : decode m_Wk_tick.2.1 10 = .ok (.iconst 0, 1) := by decide +kernel
theorem d_Wk_tick_11 : decode m_Wk_tick.2.1 11 = .ok (.istore_n 2, 1) := by decide +kernel
theorem d_Wk_tick_12 : decode m_Wk_tick.2.1 12 = .ok (.iload_n 2, 1) := by decide +kernel
theorem d_Wk_tick_13 : decode m_Wk_tick.2.1 13 = .ok (.bipush 6, 2) := by decide +kernel
theorem d_Wk_tick_15 : decode m_Wk_tick.2.1 15 = .ok (.if_icmp .ge 23, 3) := by decide +kernel
theorem d_Wk_tick_18 : decode m_Wk_tick.2.1 18 = .ok (.aload_n 0, 1) := by decide +kernel
theorem d_Wk_tick_19 : decode m_Wk_tick.2.1 19 = .ok (.iload_n 2, 1) := by decide +kernel
theorem d_Wk_tick_20 : decode m_Wk_tick.2.1 20 = .ok (.invokevirtual 41, 3) := by decide +kernel
theorem d_Wk_tick_23 : decode m_Wk_tick.2.1 23 = .ok (.ifCond .eq 9, 3) := by decide +kernel
theorem d_Wk_tick_26 : decode m_Wk_tick.2.1 26 = .ok (.aload_n 0, 1) := by decide +kernel
theorem d_Wk_tick_27 : decode m_Wk_tick.2.1 27 = .ok (.aload_n 1, 1) := by decide +kernel
theorem d_Wk_tick_28 : decode m_Wk_tick.2.1 28 = .ok (.iload_n 2, 1) := by decide +kernel
theorem d_Wk_tick_29 : decode m_Wk_tick.2.1 29 = .ok (.invokevirtual 50, 3) := by decide +kernel
theorem d_Wk_tick_32 : decode m_Wk_tick.2.1 32 = .ok (.iinc 2 1, 3) := by decide +kernel
theorem d_Wk_tick_35 : decode m_Wk_tick.2.1 35 = .ok (.goto (-23), 3) := by decide +kernel
theorem d_Wk_tick_38 : decode m_Wk_tick.2.1 38 = .ok (.iconst 0, 1) := by decide +kernel
theorem d_Wk_tick_39 : decode m_Wk_tick.2.1 39 = .ok (.istore_n 2, 1) := by decide +kernel
theorem d_Wk_tick_40 : decode m_Wk_tick.2.1 40 = .ok (.iload_n 2, 1) := by decide +kernel
theorem d_Wk_tick_41 : decode m_Wk_tick.2.1 41 = .ok (.bipush 6, 2) := by decide +kernel
theorem d_Wk_tick_43 : decode m_Wk_tick.2.1 43 = .ok (.if_icmp .ge 54, 3) := by decide +kernel
theorem d_Wk_tick_46 : decode m_Wk_tick.2.1 46 = .ok (.aload_n 1, 1) := by decide +kernel
theorem d_Wk_tick_47 : decode m_Wk_tick.2.1 47 = .ok (.getfield 45, 3) := by decide +kernel
theorem d_Wk_tick_50 : decode m_Wk_tick.2.1 50 = .ok (.iload_n 2, 1) := by decide +kernel
theorem d_Wk_tick_51 : decode m_Wk_tick.2.1 51 = .ok (.baload, 1) := by decide +kernel
theorem d_Wk_tick_52 : decode m_Wk_tick.2.1 52 = .ok (.ifCond .eq 39, 3) := by decide +kernel
theorem d_Wk_tick_55 : decode m_Wk_tick.2.1 55 = .ok (.aload_n 1, 1) := by decide +kernel
theorem d_Wk_tick_56 : decode m_Wk_tick.2.1 56 = .ok (.getfield 54, 3) := by decide +kernel
theorem d_Wk_tick_59 : decode m_Wk_tick.2.1 59 = .ok (.iload_n 2, 1) := by decide +kernel
theorem d_Wk_tick_60 : decode m_Wk_tick.2.1 60 = .ok (.iaload, 1) := by decide +kernel
theorem d_Wk_tick_61 : decode m_Wk_tick.2.1 61 = .ok (.aload_n 0, 1) := by decide +kernel
theorem d_Wk_tick_62 : decode m_Wk_tick.2.1 62 = .ok (.getfield 34, 3) := by decide +kernel
theorem d_Wk_tick_65 : decode m_Wk_tick.2.1 65 = .ok (.if_icmp .gt 26, 3) := by decide +kernel
theorem d_Wk_tick_68 : decode m_Wk_tick.2.1 68 = .ok (.aload_n 0, 1) := by decide +kernel
theorem d_Wk_tick_69 : decode m_Wk_tick.2.1 69 = .ok (.iload_n 2, 1) := by decide +kernel
theorem d_Wk_tick_70 : decode m_Wk_tick.2.1 70 = .ok (.invokevirtual 41, 3) := by decide +kernel
theorem d_Wk_tick_73 : decode m_Wk_tick.2.1 73 = .ok (.ifCond .ne 18, 3) := by decide +kernel
theorem d_Wk_tick_76 : decode m_Wk_tick.2.1 76 = .ok (.aload_n 0, 1) := by decide +kernel
theorem d_Wk_tick_77 : decode m_Wk_tick.2.1 77 = .ok (.getfield 15, 3) := by decide +kernel
theorem d_Wk_tick_80 : decode m_Wk_tick.2.1 80 = .ok (.iload_n 2, 1) := by decide +kernel
theorem d_Wk_tick_81 : decode m_Wk_tick.2.1 81 = .ok (.baload, 1) := by decide +kernel
theorem d_Wk_tick_82 : decode m_Wk_tick.2.1 82 = .ok (.ifCond .ne 9, 3) := by decide +kernel
theorem d_Wk_tick_85 : decode m_Wk_tick.2.1 85 = .ok (.aload_n 0, 1) := by decide +kernel
theorem d_Wk_tick_86 : decode m_Wk_tick.2.1 86 = .ok (.aload_n 1, 1) := by decide +kernel
theorem d_Wk_tick_87 : decode m_Wk_tick.2.1 87 = .ok (.iload_n 2, 1) := by decide +kernel
theorem d_Wk_tick_88 : decode m_Wk_tick.2.1 88 = .ok (.invokevirtual 57, 3) := by decide +kernel
theorem d_Wk_tick_91 : decode m_Wk_tick.2.1 91 = .ok (.iinc 2 1, 3) := by decide +kernel
theorem d_Wk_tick_94 : decode m_Wk_tick.2.1 94 = .ok (.goto (-54), 3) := by decide +kernel
theorem d_Wk_tick_97 : decode m_Wk_tick.2.1 97 = .ok (.aload_n 0, 1) := by decide +kernel
theorem d_Wk_tick_98 : decode m_Wk_tick.2.1 98 = .ok (.aload_n 1, 1) := by decide +kernel
theorem d_Wk_tick_99 : decode m_Wk_tick.2.1 99 = .ok (.invokevirtual 60, 3) := by decide +kernel
theorem d_Wk_tick_102 : decode m_Wk_tick.2.1 102 = .ok (.aload_n 0, 1) := by decide +kernel
theorem d_Wk_tick_103 : decode m_Wk_tick.2.1 103 = .ok (.aload_n 1, 1) := by decide +kernel
theorem d_Wk_tick_104 : decode m_Wk_tick.2.1 104 = .ok (.invokevirtual 64, 3) := by decide +kernel
theorem d_Wk_tick_107 : decode m_Wk_tick.2.1 107 = .ok (.aload_n 0, 1) := by decide +kernel
theorem d_Wk_tick_108 : decode m_Wk_tick.2.1 108 = .ok (.dup, 1) := by decide +kernel
theorem d_Wk_tick_109 : decode m_Wk_tick.2.1 109 = .ok (.getfield 34, 3) := by decide +kernel
theorem d_Wk_tick_112 : decode m_Wk_tick.2.1 112 = .ok (.iconst 1, 1) := by decide +kernel
theorem d_Wk_tick_113 : decode m_Wk_tick.2.1 113 = .ok (.iadd, 1) := by decide +kernel
theorem d_Wk_tick_114 : decode m_Wk_tick.2.1 114 = .ok (.putfield 34, 3) := by decide +kernel
theorem d_Wk_tick_117 : decode m_Wk_tick.2.1 117 = .ok (.return_, 1) := by decide +kernel
theorem g_Wk_tick_0 {X : XS} (a0 : List Nat) (a1 : List Nat) (h : Hp) (Q : Option AV → Hp → Prop) (w_a0 : IsWk a0) (w_a1 : IsPl a1) (k : (((h.1 a0 1) < 60 → Rn X m_Wk_tick 12 [some (vR a0), some (vR a1), some (vI 0)] [] h Q) ∧ (¬ (h.1 a0 1) < 60 → Q none h))) : Rn X m_Wk_tick 0 [some (vR a0), some (vR a1), none] [] h Q := by
  refine Rn.aload_n (n := 1) (i := 0) d_Wk_tick_0 rfl rfl rfl ?_
  refine Rn.getf (n := 4) (v := vI (h.1 a0 1)) d_Wk_tick_1 rfl fl_Wk_34 w_a0.s rfl ?_
  refine Rn.bipush (n := 6) (v := 60) d_Wk_tick_4 rfl (by decide) ?_
  refine Rn.icmp_lt (n := 9) (t := 10) d_Wk_tick_6 rfl (by decide) (fun cc => ?_) (fun cc => ?_)
  · have k := k.1 cc
    refine Rn.iconst (n := 11) (v := 0) d_Wk_tick_10 rfl (by decide) ?_
    refine Rn.istore_n (n := 12) (i := 2) (ls2 := [some (vR a0), some (vR a1), some (vI 0)]) d_Wk_tick_11 rfl rfl (Nat.le_of_ble_eq_true rfl) rfl ?_
    exact k
  · have k := k.2 cc
    exact Rn.vret d_Wk_tick_9 rfl k
theorem g_Wk_tick_12 {X : XS} (a0 : List Nat) (a1 : List Nat) (a2 : Int32) (h : Hp) (Q : Option AV → Hp → Prop) (w_a0 : IsWk a0) (w_a1 : IsPl a1) (k : ((6 ≤ a2 → Rn X m_Wk_tick 40 [some (vR a0), some (vR a1), some (vI 0)] [] h Q) ∧ (¬ 6 ≤ a2 → (∃ Q'4, EvI X m_Wk_isOn [vR a0, vI a2] h Q'4 ∧ ∀ (r5 : Int32) (h3 : Hp), Q'4 r5 h3 → ((r5 = 0 → Rn X m_Wk_tick 12 [some (vR a0), some (vR a1), some (vI (a2 + 1))] [] h3 Q) ∧ (¬ r5 = 0 → (∃ Q'9, EvV X m_Wk_move [vR a0, vR a1, vI a2] h3 Q'9 ∧ ∀ (h8 : Hp), Q'9 h8 → Rn X m_Wk_tick 12 [some (vR a0), some (vR a1), some (vI (a2 + 1))] [] h8 Q))))))) : Rn X m_Wk_tick 12 [some (vR a0), some (vR a1), some (vI a2)] [] h Q := by
  refine Rn.iload_n (n := 13) (i := 2) d_Wk_tick_12 rfl rfl rfl ?_
  refine Rn.bipush (n := 15) (v := 6) d_Wk_tick_13 rfl (by decide) ?_
  refine Rn.icmp_ge (n := 18) (t := 38) d_Wk_tick_15 rfl (by decide) (fun cc => ?_) (fun cc => ?_)
  · have k := k.1 cc
    refine Rn.iconst (n := 39) (v := 0) d_Wk_tick_38 rfl (by decide) ?_
    refine Rn.istore_n (n := 40) (i := 2) (ls2 := [some (vR a0), some (vR a1), some (vI 0)]) d_Wk_tick_39 rfl rfl (Nat.le_of_ble_eq_true rfl) rfl ?_
    exact k
  · have k := k.2 cc
    refine Rn.aload_n (n := 19) (i := 0) d_Wk_tick_18 rfl rfl rfl ?_
    refine Rn.iload_n (n := 20) (i := 2) d_Wk_tick_19 rfl rfl rfl ?_
    obtain ⟨Q'4, ev1, k⟩ := k
    refine Rn.callV (n := 23) (av := [vI a2]) d_Wk_tick_20 rfl ml_Wk_tick_41 mi_Wk_isOn w_a0.s rfl rfl rfl rfl (Nat.le_of_ble_eq_true rfl) ev1 (fun v h3 hq => ?_)
    obtain ⟨r5, rfl, hq⟩ := hq
    have k := k r5 h3 hq
    show Rn X m_Wk_tick 23 [some (vR a0), some (vR a1), some (vI a2)] [vI r5] h3 Q
    refine Rn.if_eq (n := 26) (t := 32) d_Wk_tick_23 rfl (by decide) (fun cc => ?_) (fun cc => ?_)
    · have k := k.1 cc
      refine Rn.iinc (n := 35) (i := 2) (v := a2 + 1) (ls2 := [some (vR a0), some (vR a1), some (vI (a2 + 1))]) d_Wk_tick_32 rfl rfl rfl (Nat.le_of_ble_eq_true rfl) rfl ?_
      refine Rn.goto (n := 12) d_Wk_tick_35 (by decide) ?_
      exact k
    · have k := k.2 cc
      refine Rn.aload_n (n := 27) (i := 0) d_Wk_tick_26 rfl rfl rfl ?_
      refine Rn.aload_n (n := 28) (i := 1) d_Wk_tick_27 rfl rfl rfl ?_
      refine Rn.iload_n (n := 29) (i := 2) d_Wk_tick_28 rfl rfl rfl ?_
      obtain ⟨Q'9, ev6, k⟩ := k
      refine Rn.callV (n := 32) (av := [vR a1, vI a2]) d_Wk_tick_29 rfl ml_Wk_tick_50 mi_Wk_move w_a0.s rfl rfl rfl rfl (Nat.le_of_ble_eq_true rfl) ev6 (fun v h8 hq => ?_)
      obtain ⟨rfl, hq⟩ := hq
      have k := k h8 hq
      show Rn X m_Wk_tick 32 [some (vR a0), some (vR a1), some (vI a2)] [] h8 Q
      refine Rn.iinc (n := 35) (i := 2) (v := a2 + 1) (ls2 := [some (vR a0), some (vR a1), some (vI (a2 + 1))]) d_Wk_tick_32 rfl rfl rfl (Nat.le_of_ble_eq_true rfl) rfl ?_
      refine Rn.goto (n := 12) d_Wk_tick_35 (by decide) ?_
      exact k
theorem g_Wk_tick_40 {X : XS} (a0 : List Nat) (a1 : List Nat) (a2 : Int32) (h : Hp) (Q : Option AV → Hp → Prop) (w_a0 : IsWk a0) (w_a1 : IsPl a1) (k : ((6 ≤ a2 → (∃ Q'4, EvV X m_Wk_poke [vR a0, vR a1] h Q'4 ∧ ∀ (h3 : Hp), Q'4 h3 → (∃ Q'8, EvV X m_Wk_rain [vR a0, vR a1] h3 Q'8 ∧ ∀ (h7 : Hp), Q'8 h7 → Q none (hsI h7 a0 1 ((h7.1 a0 1) + 1))))) ∧ (¬ 6 ≤ a2 → (vp_in a2 6 ∧ (((h.1 (3 :: a1) a2.toNatClampNeg) = 0 → Rn X m_Wk_tick 40 [some (vR a0), some (vR a1), some (vI (a2 + 1))] [] h Q) ∧ (¬ (h.1 (3 :: a1) a2.toNatClampNeg) = 0 → (vp_in a2 6 ∧ (((h.1 a0 1) < (h.1 (6 :: a1) a2.toNatClampNeg) → Rn X m_Wk_tick 40 [some (vR a0), some (vR a1), some (vI (a2 + 1))] [] h Q) ∧ (¬ (h.1 a0 1) < (h.1 (6 :: a1) a2.toNatClampNeg) → (∃ Q'14, EvI X m_Wk_isOn [vR a0, vI a2] h Q'14 ∧ ∀ (r15 : Int32) (h13 : Hp), Q'14 r15 h13 → ((¬ r15 = 0 → Rn X m_Wk_tick 40 [some (vR a0), some (vR a1), some (vI (a2 + 1))] [] h13 Q) ∧ (r15 = 0 → (vp_in a2 6 ∧ ((¬ (h13.1 (4 :: a0) a2.toNatClampNeg) = 0 → Rn X m_Wk_tick 40 [some (vR a0), some (vR a1), some (vI (a2 + 1))] [] h13 Q) ∧ ((h13.1 (4 :: a0) a2.toNatClampNeg) = 0 → (∃ Q'20, EvV X m_Wk_come [vR a0, vR a1, vI a2] h13 Q'20 ∧ ∀ (h19 : Hp), Q'20 h19 → Rn X m_Wk_tick 40 [some (vR a0), some (vR a1), some (vI (a2 + 1))] [] h19 Q)))))))))))))))) : Rn X m_Wk_tick 40 [some (vR a0), some (vR a1), some (vI a2)] [] h Q := by
  refine Rn.iload_n (n := 41) (i := 2) d_Wk_tick_40 rfl rfl rfl ?_
  refine Rn.bipush (n := 43) (v := 6) d_Wk_tick_41 rfl (by decide) ?_
  refine Rn.icmp_ge (n := 46) (t := 97) d_Wk_tick_43 rfl (by decide) (fun cc => ?_) (fun cc => ?_)
  · have k := k.1 cc
    refine Rn.aload_n (n := 98) (i := 0) d_Wk_tick_97 rfl rfl rfl ?_
    refine Rn.aload_n (n := 99) (i := 1) d_Wk_tick_98 rfl rfl rfl ?_
    obtain ⟨Q'4, ev1, k⟩ := k
    refine Rn.callV (n := 102) (av := [vR a1]) d_Wk_tick_99 rfl ml_Wk_tick_60 mi_Wk_poke w_a0.s rfl rfl rfl rfl (Nat.le_of_ble_eq_true rfl) ev1 (fun v h3 hq => ?_)
    obtain ⟨rfl, hq⟩ := hq
    have k := k h3 hq
    show Rn X m_Wk_tick 102 [some (vR a0), some (vR a1), some (vI a2)] [] h3 Q
    refine Rn.aload_n (n := 103) (i := 0) d_Wk_tick_102 rfl rfl rfl ?_
    refine Rn.aload_n (n := 104) (i := 1) d_Wk_tick_103 rfl rfl rfl ?_
    obtain ⟨Q'8, ev5, k⟩ := k
    refine Rn.callV (n := 107) (av := [vR a1]) d_Wk_tick_104 rfl ml_Wk_tick_64 mi_Wk_rain w_a0.s rfl rfl rfl rfl (Nat.le_of_ble_eq_true rfl) ev5 (fun v h7 hq => ?_)
    obtain ⟨rfl, hq⟩ := hq
    have k := k h7 hq
    show Rn X m_Wk_tick 107 [some (vR a0), some (vR a1), some (vI a2)] [] h7 Q
    refine Rn.aload_n (n := 108) (i := 0) d_Wk_tick_107 rfl rfl rfl ?_
    refine Rn.dup (n := 109) d_Wk_tick_108 rfl rfl ?_
    refine Rn.getf (n := 112) (v := vI (h7.1 a0 1)) d_Wk_tick_109 rfl fl_Wk_34 w_a0.s rfl ?_
    refine Rn.iconst (n := 113) (v := 1) d_Wk_tick_112 rfl (by decide) ?_
    refine Rn.iadd (n := 114) d_Wk_tick_113 rfl ?_
    refine Rn.putI (n := 117) d_Wk_tick_114 rfl fl_Wk_34 pl_Wk_1 w_a0.s rfl ?_
    exact Rn.vret d_Wk_tick_117 rfl k
  · have k := k.2 cc
    refine Rn.aload_n (n := 47) (i := 1) d_Wk_tick_46 rfl rfl rfl ?_
    refine Rn.getf (n := 50) (v := vR (3 :: a1)) d_Wk_tick_47 rfl fl_Wk_45 w_a1.s rfl ?_
    refine Rn.iload_n (n := 51) (i := 2) d_Wk_tick_50 rfl rfl rfl ?_
    obtain ⟨b9, k⟩ := k
    refine Rn.zald (n := 52) (v := h.1 (3 :: a1) a2.toNatClampNeg) d_Wk_tick_51 rfl w_a1.c3 b9 rfl ?_
    refine Rn.if_eq (n := 55) (t := 91) d_Wk_tick_52 rfl (by decide) (fun cc => ?_) (fun cc => ?_)
    · have k := k.1 cc
      refine Rn.iinc (n := 94) (i := 2) (v := a2 + 1) (ls2 := [some (vR a0), some (vR a1), some (vI (a2 + 1))]) d_Wk_tick_91 rfl rfl rfl (Nat.le_of_ble_eq_true rfl) rfl ?_
      refine Rn.goto (n := 40) d_Wk_tick_94 (by decide) ?_
      exact k
    · have k := k.2 cc
      refine Rn.aload_n (n := 56) (i := 1) d_Wk_tick_55 rfl rfl rfl ?_
      refine Rn.getf (n := 59) (v := vR (6 :: a1)) d_Wk_tick_56 rfl fl_Wk_54 w_a1.s rfl ?_
      refine Rn.iload_n (n := 60) (i := 2) d_Wk_tick_59 rfl rfl rfl ?_
      obtain ⟨b10, k⟩ := k
      refine Rn.iald (n := 61) (v := h.1 (6 :: a1) a2.toNatClampNeg) d_Wk_tick_60 rfl w_a1.c6 b10 rfl ?_
      refine Rn.aload_n (n := 62) (i := 0) d_Wk_tick_61 rfl rfl rfl ?_
      refine Rn.getf (n := 65) (v := vI (h.1 a0 1)) d_Wk_tick_62 rfl fl_Wk_34 w_a0.s rfl ?_
      refine Rn.icmp_gt (n := 68) (t := 91) d_Wk_tick_65 rfl (by decide) (fun cc => ?_) (fun cc => ?_)
      · have k := k.1 cc
        refine Rn.iinc (n := 94) (i := 2) (v := a2 + 1) (ls2 := [some (vR a0), some (vR a1), some (vI (a2 + 1))]) d_Wk_tick_91 rfl rfl rfl (Nat.le_of_ble_eq_true rfl) rfl ?_
        refine Rn.goto (n := 40) d_Wk_tick_94 (by decide) ?_
        exact k
      · have k := k.2 cc
        refine Rn.aload_n (n := 69) (i := 0) d_Wk_tick_68 rfl rfl rfl ?_
        refine Rn.iload_n (n := 70) (i := 2) d_Wk_tick_69 rfl rfl rfl ?_
        obtain ⟨Q'14, ev11, k⟩ := k
        refine Rn.callV (n := 73) (av := [vI a2]) d_Wk_tick_70 rfl ml_Wk_tick_41 mi_Wk_isOn w_a0.s rfl rfl rfl rfl (Nat.le_of_ble_eq_true rfl) ev11 (fun v h13 hq => ?_)
        obtain ⟨r15, rfl, hq⟩ := hq
        have k := k r15 h13 hq
        show Rn X m_Wk_tick 73 [some (vR a0), some (vR a1), some (vI a2)] [vI r15] h13 Q
        refine Rn.if_ne (n := 76) (t := 91) d_Wk_tick_73 rfl (by decide) (fun cc => ?_) (fun cc => ?_)
        · have k := k.1 cc
          refine Rn.iinc (n := 94) (i := 2) (v := a2 + 1) (ls2 := [some (vR a0), some (vR a1), some (vI (a2 + 1))]) d_Wk_tick_91 rfl rfl rfl (Nat.le_of_ble_eq_true rfl) rfl ?_
          refine Rn.goto (n := 40) d_Wk_tick_94 (by decide) ?_
          exact k
        · have k := k.2 cc
          refine Rn.aload_n (n := 77) (i := 0) d_Wk_tick_76 rfl rfl rfl ?_
          refine Rn.getf (n := 80) (v := vR (4 :: a0)) d_Wk_tick_77 rfl fl_Wk_15 w_a0.s rfl ?_
          refine Rn.iload_n (n := 81) (i := 2) d_Wk_tick_80 rfl rfl rfl ?_
          obtain ⟨b16, k⟩ := k
          refine Rn.zald (n := 82) (v := h13.1 (4 :: a0) a2.toNatClampNeg) d_Wk_tick_81 rfl w_a0.c4 b16 rfl ?_
          refine Rn.if_ne (n := 85) (t := 91) d_Wk_tick_82 rfl (by decide) (fun cc => ?_) (fun cc => ?_)
          · have k := k.1 cc
            refine Rn.iinc (n := 94) (i := 2) (v := a2 + 1) (ls2 := [some (vR a0), some (vR a1), some (vI (a2 + 1))]) d_Wk_tick_91 rfl rfl rfl (Nat.le_of_ble_eq_true rfl) rfl ?_
            refine Rn.goto (n := 40) d_Wk_tick_94 (by decide) ?_
            exact k
          · have k := k.2 cc
            refine Rn.aload_n (n := 86) (i := 0) d_Wk_tick_85 rfl rfl rfl ?_
            refine Rn.aload_n (n := 87) (i := 1) d_Wk_tick_86 rfl rfl rfl ?_
            refine Rn.iload_n (n := 88) (i := 2) d_Wk_tick_87 rfl rfl rfl ?_
            obtain ⟨Q'20, ev17, k⟩ := k
            refine Rn.callV (n := 91) (av := [vR a1, vI a2]) d_Wk_tick_88 rfl ml_Wk_tick_57 mi_Wk_come w_a0.s rfl rfl rfl rfl (Nat.le_of_ble_eq_true rfl) ev17 (fun v h19 hq => ?_)
            obtain ⟨rfl, hq⟩ := hq
            have k := k h19 hq
            show Rn X m_Wk_tick 91 [some (vR a0), some (vR a1), some (vI a2)] [] h19 Q
            refine Rn.iinc (n := 94) (i := 2) (v := a2 + 1) (ls2 := [some (vR a0), some (vR a1), some (vI (a2 + 1))]) d_Wk_tick_91 rfl rfl rfl (Nat.le_of_ble_eq_true rfl) rfl ?_
            refine Rn.goto (n := 40) d_Wk_tick_94 (by decide) ?_
            exact k
theorem e_Wk_tick {X : XS} (a0 : List Nat) (a1 : List Nat) (h : Hp) (Q : Option AV → Hp → Prop) (k : Rn X m_Wk_tick 0 [some (vR a0), some (vR a1), none] [] h Q) : Ev X m_Wk_tick [vR a0, vR a1] h Q := Ev.intro (plainFor_of_name (by decide +kernel)) (Nat.le_of_ble_eq_true rfl) (ls := [some (vR a0), some (vR a1), none]) rfl k
theorem d_Wk_isOn_0 : decode m_Wk_isOn.2.1 0 = .ok (.iload_n 1, 1) := by decide +kernel
theorem d_Wk_isOn_1 : decode m_Wk_isOn.2.1 1 = .ok (.ifCond .lt 23, 3) := by decide +kernel
theorem d_Wk_isOn_4 : decode m_Wk_isOn.2.1 4 = .ok (.iload_n 1, 1) := by decide +kernel
theorem d_Wk_isOn_5 : decode m_Wk_isOn.2.1 5 = .ok (.bipush 6, 2) := by decide +kernel
theorem d_Wk_isOn_7 : decode m_Wk_isOn.2.1 7 = .ok (.if_icmp .ge 17, 3) := by decide +kernel
theorem d_Wk_isOn_10 : decode m_Wk_isOn.2.1 10 = .ok (.aload_n 0, 1) := by decide +kernel
theorem d_Wk_isOn_11 : decode m_Wk_isOn.2.1 11 = .ok (.getfield 9, 3) := by decide +kernel
theorem d_Wk_isOn_14 : decode m_Wk_isOn.2.1 14 = .ok (.iload_n 1, 1) := by decide +kernel
theorem d_Wk_isOn_15 : decode m_Wk_isOn.2.1 15 = .ok (.iaload, 1) := by decide +kernel
theorem d_Wk_isOn_16 : decode m_Wk_isOn.2.1 16 = .ok (.iconst (-1), 1) := by decide +kernel
theorem d_Wk_isOn_17 : decode m_Wk_isOn.2.1 17 = .ok (.if_icmp .eq 7, 3) := by decide +kernel
theorem d_Wk_isOn_20 : decode m_Wk_isOn.2.1 20 = .ok (.iconst 1, 1) := by decide +kernel
theorem d_Wk_isOn_21 : decode m_Wk_isOn.2.1 21 = .ok (.goto 4, 3) := by decide +kernel
theorem d_Wk_isOn_24 : decode m_Wk_isOn.2.1 24 = .ok (.iconst 0, 1) := by decide +kernel
theorem d_Wk_isOn_25 : decode m_Wk_isOn.2.1 25 = .ok (.ireturn, 1) := by decide +kernel
theorem g_Wk_isOn_0 {X : XS} (a0 : List Nat) (a1 : Int32) (h : Hp) (Q : Option AV → Hp → Prop) (w_a0 : IsWk a0) (k : ((a1 < 0 → Q (some (vI 0)) h) ∧ (¬ a1 < 0 → ((6 ≤ a1 → Q (some (vI 0)) h) ∧ (¬ 6 ≤ a1 → (vp_in a1 6 ∧ (((h.1 (3 :: a0) a1.toNatClampNeg) = (-1) → Q (some (vI 0)) h) ∧ (¬ (h.1 (3 :: a0) a1.toNatClampNeg) = (-1) → Q (some (vI 1)) h)))))))) : Rn X m_Wk_isOn 0 [some (vR a0), some (vI a1)] [] h Q := by
  refine Rn.iload_n (n := 1) (i := 1) d_Wk_isOn_0 rfl rfl rfl ?_
  refine Rn.if_lt (n := 4) (t := 24) d_Wk_isOn_1 rfl (by decide) (fun cc => ?_) (fun cc => ?_)
  · have k := k.1 cc
    refine Rn.iconst (n := 25) (v := 0) d_Wk_isOn_24 rfl (by decide) ?_
    exact Rn.iret d_Wk_isOn_25 rfl rfl k
  · have k := k.2 cc
    refine Rn.iload_n (n := 5) (i := 1) d_Wk_isOn_4 rfl rfl rfl ?_
    refine Rn.bipush (n := 7) (v := 6) d_Wk_isOn_5 rfl (by decide) ?_
    refine Rn.icmp_ge (n := 10) (t := 24) d_Wk_isOn_7 rfl (by decide) (fun cc => ?_) (fun cc => ?_)
    · have k := k.1 cc
      refine Rn.iconst (n := 25) (v := 0) d_Wk_isOn_24 rfl (by decide) ?_
      exact Rn.iret d_Wk_isOn_25 rfl rfl k
    · have k := k.2 cc
      refine Rn.aload_n (n := 11) (i := 0) d_Wk_isOn_10 rfl rfl rfl ?_
      refine Rn.getf (n := 14) (v := vR (3 :: a0)) d_Wk_isOn_11 rfl fl_Wk_9 w_a0.s rfl ?_
      refine Rn.iload_n (n := 15) (i := 1) d_Wk_isOn_14 rfl rfl rfl ?_
      obtain ⟨b1, k⟩ := k
      refine Rn.iald (n := 16) (v := h.1 (3 :: a0) a1.toNatClampNeg) d_Wk_isOn_15 rfl w_a0.c3 b1 rfl ?_
      refine Rn.iconst (n := 17) (v := (-1)) d_Wk_isOn_16 rfl (by decide) ?_
      refine Rn.icmp_eq (n := 20) (t := 24) d_Wk_isOn_17 rfl (by decide) (fun cc => ?_) (fun cc => ?_)
      · have k := k.1 cc
        refine Rn.iconst (n := 25) (v := 0) d_Wk_isOn_24 rfl (by decide) ?_
        exact Rn.iret d_Wk_isOn_25 rfl rfl k
      · have k := k.2 cc
        refine Rn.iconst (n := 21) (v := 1) d_Wk_isOn_20 rfl (by decide) ?_
        refine Rn.goto (n := 25) d_Wk_isOn_21 (by decide) ?_
        exact Rn.iret d_Wk_isOn_25 rfl rfl k
theorem e_Wk_isOn {X : XS} (a0 : List Nat) (a1 : Int32) (h : Hp) (Q : Option AV → Hp → Prop) (k : Rn X m_Wk_isOn 0 [some (vR a0), some (vI a1)] [] h Q) : Ev X m_Wk_isOn [vR a0, vI a1] h Q := Ev.intro (plainFor_of_name (by decide +kernel)) (Nat.le_of_ble_eq_true rfl) (ls := [some (vR a0), some (vI a1)]) rfl k
theorem d_Wk_move_0 : decode m_Wk_move.2.1 0 = .ok (.aload_n 0, 1) := by decide +kernel
theorem d_Wk_move_1 : decode m_Wk_move.2.1 1 = .ok (.getfield 9, 3) := by decide +kernel
theorem d_Wk_move_4 : decode m_Wk_move.2.1 4 = .ok (.iload_n 2, 1) := by decide +kernel
theorem d_Wk_move_5 : decode m_Wk_move.2.1 5 = .ok (.iaload, 1) := by decide +kernel
theorem d_Wk_move_6 : decode m_Wk_move.2.1 6 = .ok (.iconst 4, 1) := by decide +kernel
theorem d_Wk_move_7 : decode m_Wk_move.2.1 7 = .ok (.idiv, 1) := by decide +kernel
theorem d_Wk_move_8 : decode m_Wk_move.2.1 8 = .ok (.istore_n 3, 1) := by decide +kernel
theorem d_Wk_move_9 : decode m_Wk_move.2.1 9 = .ok (.aload_n 0, 1) := by decide +kernel
theorem d_Wk_move_10 : decode m_Wk_move.2.1 10 = .ok (.getfield 9, 3) := by decide +kernel
theorem d_Wk_move_13 : decode m_Wk_move.2.1 13 = .ok (.iload_n 2, 1) := by decide +kernel
theorem d_Wk_move_14 : decode m_Wk_move.2.1 14 = .ok (.iaload, 1) := by decide +kernel
theorem d_Wk_move_15 : decode m_Wk_move.2.1 15 = .ok (.iconst 4, 1) := by decide +kernel
theorem d_Wk_move_16 : decode m_Wk_move.2.1 16 = .ok (.irem, 1) := by decide +kernel
theorem d_Wk_move_17 : decode m_Wk_move.2.1 17 = .ok (.istore 4, 2) := by decide +kernel
theorem d_Wk_move_19 : decode m_Wk_move.2.1 19 = .ok (.aload_n 1, 1) := by decide +kernel
theorem d_Wk_move_20 : decode m_Wk_move.2.1 20 = .ok (.getfield 67, 3) := by decide +kernel
theorem d_Wk_move_23 : decode m_Wk_move.2.1 23 = .ok (.iload_n 2, 1) := by decide +kernel
theorem d_Wk_move_24 : decode m_Wk_move.2.1 24 = .ok (.iaload, 1) := by decide +kernel
theorem d_Wk_move_25 : decode m_Wk_move.2.1 25 = .ok (.ifCond .ne 9, 3) := by decide +kernel
theorem d_Wk_move_28 : decode m_Wk_move.2.1 28 = .ok (.iload_n 3, 1) := by decide +kernel
theorem d_Wk_move_29 : decode m_Wk_move.2.1 29 = .ok (.iconst 1, 1) := by decide +kernel
theorem d_Wk_move_30 : decode m_Wk_move.2.1 30 = .ok (.iadd, 1) := by decide +kernel
theorem d_Wk_move_31 : decode m_Wk_move.2.1 31 = .ok (.goto 6, 3) := by decide +kernel
theorem d_Wk_move_34 : decode m_Wk_move.2.1 34 = .ok (.iload_n 3, 1) := by decide +kernel
theorem d_Wk_move_35 : decode m_Wk_move.2.1 35 = .ok (.iconst 1, 1) := by decide +kernel
theorem d_Wk_move_36 : decode m_Wk_move.2.1 36 = .ok (.isub, 1) := by decide +kernel
theorem d_Wk_move_37 : decode m_Wk_move.2.1 37 = .ok (.istore 5, 2) := by decide +kernel
theorem d_Wk_move_39 : decode m_Wk_move.2.1 39 = .ok (.iconst 4, 1) := by decide +kernel
theorem d_Wk_move_40 : decode m_Wk_move.2.1 40 = .ok (.iload_n 3, 1) := by decide +kernel
theorem d_Wk_move_41 : decode m_Wk_move.2.1 41 = .ok (.imul, 1) := by decide +kernel
theorem d_Wk_move_42 : decode m_Wk_move.2.1 42 = .ok (.aload_n 0, 1) := by decide +kernel
theorem d_Wk_move_43 : decode m_Wk_move.2.1 43 = .ok (.aload_n 1, 1) := by decide +kernel
theorem d_Wk_move_44 : decode m_Wk_move.2.1 44 = .ok (.iload_n 2, 1) := by decide +kernel
theorem d_Wk_move_45 : decode m_Wk_move.2.1 45 = .ok (.iload 4, 2) := by decide +kernel
theorem d_Wk_move_47 : decode m_Wk_move.2.1 47 = .ok (.invokevirtual 70, 3) := by decide +kernel
theorem d_Wk_move_50 : decode m_Wk_move.2.1 50 = .ok (.iadd, 1) := by decide +kernel
theorem d_Wk_move_51 : decode m_Wk_move.2.1 51 = .ok (.istore 6, 2) := by decide +kernel
theorem d_Wk_move_53 : decode m_Wk_move.2.1 53 = .ok (.iload 5, 2) := by decide +kernel
theorem d_Wk_move_55 : decode m_Wk_move.2.1 55 = .ok (.ifCond .lt 12, 3) := by decide +kernel
theorem d_Wk_move_58 : decode m_Wk_move.2.1 58 = .ok (.iload 5, 2) := by decide +kernel
theorem d_Wk_move_60 : decode m_Wk_move.2.1 60 = .ok (.aload_n 1, 1) := by decide +kernel
theorem d_Wk_move_61 : decode m_Wk_move.2.1 61 = .ok (.getfield 74, 3) := by decide +kernel
theorem d_Wk_move_64 : decode m_Wk_move.2.1 64 = .ok (.if_icmp .lt 20, 3) := by decide +kernel
theorem d_Wk_move_67 : decode m_Wk_move.2.1 67 = .ok (.aload_n 0, 1) := by decide +kernel
theorem d_Wk_move_68 : decode m_Wk_move.2.1 68 = .ok (.getfield 15, 3) := by decide +kernel
theorem d_Wk_move_71 : decode m_Wk_move.2.1 71 = .ok (.iload_n 2, 1) := by decide +kernel
theorem d_Wk_move_72 : decode m_Wk_move.2.1 72 = .ok (.iconst 1, 1) := by decide +kernel
theorem d_Wk_move_73 : decode m_Wk_move.2.1 73 = .ok (.bastore, 1) := by decide +kernel
theorem d_Wk_move_74 : decode m_Wk_move.2.1 74 = .ok (.aload_n 0, 1) := by decide +kernel
theorem d_Wk_move_75 : decode m_Wk_move.2.1 75 = .ok (.getfield 9, 3) := by decide +kernel
theorem d_Wk_move_78 : decode m_Wk_move.2.1 78 = .ok (.iload_n 2, 1) := by decide +kernel
theorem d_Wk_move_79 : decode m_Wk_move.2.1 79 = .ok (.iconst (-1), 1) := by decide +kernel
theorem d_Wk_move_80 : decode m_Wk_move.2.1 80 = .ok (.iastore, 1) := by decide +kernel
theorem d_Wk_move_81 : decode m_Wk_move.2.1 81 = .ok (.goto 77, 3) := by decide +kernel
theorem d_Wk_move_84 : decode m_Wk_move.2.1 84 = .ok (.aload_n 0, 1) := by decide +kernel
theorem d_Wk_move_85 : decode m_Wk_move.2.1 85 = .ok (.iconst 4, 1) := by decide +kernel
theorem d_Wk_move_86 : decode m_Wk_move.2.1 86 = .ok (.iload 5, 2) := by decide +kernel
theorem d_Wk_move_88 : decode m_Wk_move.2.1 88 = .ok (.imul, 1) := by decide +kernel
theorem d_Wk_move_89 : decode m_Wk_move.2.1 89 = .ok (.iload 4, 2) := by decide +kernel
theorem d_Wk_move_91 : decode m_Wk_move.2.1 91 = .ok (.iadd, 1) := by decide +kernel
theorem d_Wk_move_92 : decode m_Wk_move.2.1 92 = .ok (.invokevirtual 77, 3) := by decide +kernel
theorem d_Wk_move_95 : decode m_Wk_move.2.1 95 = .ok (.iconst (-1), 1) := by decide +kernel
theorem d_Wk_move_96 : decode m_Wk_move.2.1 96 = .ok (.if_icmp .ne 19, 3) := by decide +kernel
theorem d_Wk_move_99 : decode m_Wk_move.2.1 99 = .ok (.aload_n 0, 1) := by decide +kernel
theorem d_Wk_move_100 : decode m_Wk_move.2.1 100 = .ok (.getfield 9, 3) := by decide +kernel
theorem d_Wk_move_103 : decode m_Wk_move.2.1 103 = .ok (.iload_n 2, 1) := by decide +kernel
theorem d_Wk_move_104 : decode m_Wk_move.2.1 104 = .ok (.iconst 4, 1) := by decide +kernel
theorem d_Wk_move_105 : decode m_Wk_move.2.1 105 = .ok (.iload 5, 2) := by decide +kernel
theorem d_Wk_move_107 : decode m_Wk_move.2.1 107 = .ok (.imul, 1) := by decide +kernel
theorem d_Wk_move_108 : decode m_Wk_move.2.1 108 = .ok (.iload 4, 2) := by decide +kernel
theorem d_Wk_move_110 : decode m_Wk_move.2.1 110 = .ok (.iadd, 1) := by decide +kernel
theorem d_Wk_move_111 : decode m_Wk_move.2.1 111 = .ok (.iastore, 1) := by decide +kernel
theorem d_Wk_move_112 : decode m_Wk_move.2.1 112 = .ok (.goto 46, 3) := by decide +kernel
theorem d_Wk_move_115 : decode m_Wk_move.2.1 115 = .ok (.aload_n 0, 1) := by decide +kernel
theorem d_Wk_move_116 : decode m_Wk_move.2.1 116 = .ok (.aload_n 1, 1) := by decide +kernel
theorem d_Wk_move_117 : decode m_Wk_move.2.1 117 = .ok (.iload_n 2, 1) := by decide +kernel
theorem d_Wk_move_118 : decode m_Wk_move.2.1 118 = .ok (.iload 4, 2) := by decide +kernel
theorem d_Wk_move_120 : decode m_Wk_move.2.1 120 = .ok (.invokevirtual 70, 3) := by decide +kernel
theorem d_Wk_move_123 : decode m_Wk_move.2.1 123 = .ok (.iconst (-1), 1) := by decide +kernel
theorem d_Wk_move_124 : decode m_Wk_move.2.1 124 = .ok (.if_icmp .eq 24, 3) := by decide +kernel
theorem d_Wk_move_127 : decode m_Wk_move.2.1 127 = .ok (.aload_n 0, 1) := by decide +kernel
theorem d_Wk_move_128 : decode m_Wk_move.2.1 128 = .ok (.iload 6, 2) := by decide +kernel
theorem d_Wk_move_130 : decode m_Wk_move.2.1 130 = .ok (.invokevirtual 77, 3) := by decide +kernel
theorem d_Wk_move_133 : decode m_Wk_move.2.1 133 = .ok (.iconst (-1), 1) := by decide +kernel
theorem d_Wk_move_134 : decode m_Wk_move.2.1 134 = .ok (.if_icmp .ne 14, 3) := by decide +kernel
theorem d_Wk_move_137 : decode m_Wk_move.2.1 137 = .ok (.aload_n 0, 1) := by decide +kernel
theorem d_Wk_move_138 : decode m_Wk_move.2.1 138 = .ok (.getfield 9, 3) := by decide +kernel
theorem d_Wk_move_141 : decode m_Wk_move.2.1 141 = .ok (.iload_n 2, 1) := by decide +kernel
theorem d_Wk_move_142 : decode m_Wk_move.2.1 142 = .ok (.iload 6, 2) := by decide +kernel
theorem d_Wk_move_144 : decode m_Wk_move.2.1 144 = .ok (.iastore, 1) := by decide +kernel
theorem d_Wk_move_145 : decode m_Wk_move.2.1 145 = .ok (.goto 13, 3) := by decide +kernel
theorem d_Wk_move_148 : decode m_Wk_move.2.1 148 = .ok (.aload_n 0, 1) := by decide +kernel
theorem d_Wk_move_149 : decode m_Wk_move.2.1 149 = .ok (.getfield 25, 3) := by decide +kernel
theorem d_Wk_move_152 : decode m_Wk_move.2.1 152 = .ok (.iload_n 2, 1) := by decide +kernel
theorem d_Wk_move_153 : decode m_Wk_move.2.1 153 = .ok (.dup2, 1) := by decide +kernel
theorem d_Wk_move_154 : decode m_Wk_move.2.1 154 = .ok (.iaload, 1) := by decide +kernel
theorem d_Wk_move_155 : decode m_Wk_move.2.1 155 = .ok (.iconst 1, 1) := by decide +kernel
theorem d_Wk_move_156 : decode m_Wk_move.2.1 156 = .ok (.iadd, 1) := by decide +kernel
theorem d_Wk_move_157 : decode m_Wk_move.2.1 157 = .ok (.iastore, 1) := by decide +kernel
theorem d_Wk_move_158 : decode m_Wk_move.2.1 158 = .ok (.return_, 1) := by decide +kernel
theorem g_Wk_move_0 {X : XS} (a0 : List Nat) (a1 : List Nat) (a2 : Int32) (h : Hp) (Q : Option AV → Hp → Prop) (w_a0 : IsWk a0) (w_a1 : IsPl a1) (k : (vp_in a2 6 ∧ (vp_in a2 6 ∧ (vp_in a2 6 ∧ ((¬ (h.1 (5 :: a1) a2.toNatClampNeg) = 0 → Rn X m_Wk_move 37 [some (vR a0), some (vR a1), some (vI a2), some (vI ((h.1 (3 :: a0) a2.toNatClampNeg) / 4)), some (vI (iR (h.1 (3 :: a0) a2.toNatClampNeg) 4)), none, none] [vI (((h.1 (3 :: a0) a2.toNatClampNeg) / 4) - 1)] h Q) ∧ ((h.1 (5 :: a1) a2.toNatClampNeg) = 0 → Rn X m_Wk_move 37 [some (vR a0), some (vR a1), some (vI a2), some (vI ((h.1 (3 :: a0) a2.toNatClampNeg) / 4)), some (vI (iR (h.1 (3 :: a0) a2.toNatClampNeg) 4)), none, none] [vI (((h.1 (3 :: a0) a2.toNatClampNeg) / 4) + 1)] h Q)))))) : Rn X m_Wk_move 0 [some (vR a0), some (vR a1), some (vI a2), none, none, none, none] [] h Q := by
  refine Rn.aload_n (n := 1) (i := 0) d_Wk_move_0 rfl rfl rfl ?_
  refine Rn.getf (n := 4) (v := vR (3 :: a0)) d_Wk_move_1 rfl fl_Wk_9 w_a0.s rfl ?_
  refine Rn.iload_n (n := 5) (i := 2) d_Wk_move_4 rfl rfl rfl ?_
  obtain ⟨b1, k⟩ := k
  refine Rn.iald (n := 6) (v := h.1 (3 :: a0) a2.toNatClampNeg) d_Wk_move_5 rfl w_a0.c3 b1 rfl ?_
  refine Rn.iconst (n := 7) (v := 4) d_Wk_move_6 rfl (by decide) ?_
  refine Rn.idiv (n := 8) d_Wk_move_7 rfl (by decide) ?_
  refine Rn.istore_n (n := 9) (i := 3) (ls2 := [some (vR a0), some (vR a1), some (vI a2), some (vI ((h.1 (3 :: a0) a2.toNatClampNeg) / 4)), none, none, none]) d_Wk_move_8 rfl rfl (Nat.le_of_ble_eq_true rfl) rfl ?_
  refine Rn.aload_n (n := 10) (i := 0) d_Wk_move_9 rfl rfl rfl ?_
  refine Rn.getf (n := 13) (v := vR (3 :: a0)) d_Wk_move_10 rfl fl_Wk_9 w_a0.s rfl ?_
  refine Rn.iload_n (n := 14) (i := 2) d_Wk_move_13 rfl rfl rfl ?_
  obtain ⟨b2, k⟩ := k
  refine Rn.iald (n := 15) (v := h.1 (3 :: a0) a2.toNatClampNeg) d_Wk_move_14 rfl w_a0.c3 b2 rfl ?_
  refine Rn.iconst (n := 16) (v := 4) d_Wk_move_15 rfl (by decide) ?_
  refine Rn.irem (n := 17) d_Wk_move_16 rfl (by decide) ?_
  refine Rn.istore (n := 19) (i := 4) (ls2 := [some (vR a0), some (vR a1), some (vI a2), some (vI ((h.1 (3 :: a0) a2.toNatClampNeg) / 4)), some (vI (iR (h.1 (3 :: a0) a2.toNatClampNeg) 4)), none, none]) d_Wk_move_17 rfl (Nat.le_of_ble_eq_true rfl) rfl ?_
  refine Rn.aload_n (n := 20) (i := 1) d_Wk_move_19 rfl rfl rfl ?_
  refine Rn.getf (n := 23) (v := vR (5 :: a1)) d_Wk_move_20 rfl fl_Wk_67 w_a1.s rfl ?_
  refine Rn.iload_n (n := 24) (i := 2) d_Wk_move_23 rfl rfl rfl ?_
  obtain ⟨b3, k⟩ := k
  refine Rn.iald (n := 25) (v := h.1 (5 :: a1) a2.toNatClampNeg) d_Wk_move_24 rfl w_a1.c5 b3 rfl ?_
  refine Rn.if_ne (n := 28) (t := 34) d_Wk_move_25 rfl (by decide) (fun cc => ?_) (fun cc => ?_)
  · have k := k.1 cc
    refine Rn.iload_n (n := 35) (i := 3) d_Wk_move_34 rfl rfl rfl ?_
    refine Rn.iconst (n := 36) (v := 1) d_Wk_move_35 rfl (by decide) ?_
    refine Rn.isub (n := 37) d_Wk_move_36 rfl ?_
    exact k
  · have k := k.2 cc
    refine Rn.iload_n (n := 29) (i := 3) d_Wk_move_28 rfl rfl rfl ?_
    refine Rn.iconst (n := 30) (v := 1) d_Wk_move_29 rfl (by decide) ?_
    refine Rn.iadd (n := 31) d_Wk_move_30 rfl ?_
    refine Rn.goto (n := 37) d_Wk_move_31 (by decide) ?_
    exact k
theorem g_Wk_move_37 {X : XS} (a0 : List Nat) (a1 : List Nat) (a2 : Int32) (a3 : Int32) (a4 : Int32) (s0 : Int32) (h : Hp) (Q : Option AV → Hp → Prop) (w_a0 : IsWk a0) (w_a1 : IsPl a1) (k : (∃ Q'4, EvI X m_Wk_laneBeside [vR a0, vR a1, vI a2, vI a4] h Q'4 ∧ ∀ (r5 : Int32) (h3 : Hp), Q'4 r5 h3 → ((s0 < 0 → (vp_in a2 6 ∧ (vp_in a2 6 ∧ Q none (hsI (hsI h3 (4 :: a0) a2.toNatClampNeg 1) (3 :: a0) a2.toNatClampNeg (-1))))) ∧ (¬ s0 < 0 → ((s0 < (h3.1 a1 1) → (∃ Q'11, EvI X m_Wk_whoIsAt [vR a0, vI ((4 * s0) + a4)] h3 Q'11 ∧ ∀ (r12 : Int32) (h10 : Hp), Q'11 r12 h10 → ((¬ r12 = (-1) → (∃ Q'16, EvI X m_Wk_laneBeside [vR a0, vR a1, vI a2, vI a4] h10 Q'16 ∧ ∀ (r17 : Int32) (h15 : Hp), Q'16 r17 h15 → ((r17 = (-1) → (vp_in a2 6 ∧ (vp_in a2 6 ∧ Q none (hsI h15 (7 :: a0) a2.toNatClampNeg ((h15.1 (7 :: a0) a2.toNatClampNeg) + 1))))) ∧ (¬ r17 = (-1) → (∃ Q'23, EvI X m_Wk_whoIsAt [vR a0, vI ((4 * a3) + r5)] h15 Q'23 ∧ ∀ (r24 : Int32) (h22 : Hp), Q'23 r24 h22 → ((¬ r24 = (-1) → (vp_in a2 6 ∧ (vp_in a2 6 ∧ Q none (hsI h22 (7 :: a0) a2.toNatClampNeg ((h22.1 (7 :: a0) a2.toNatClampNeg) + 1))))) ∧ (r24 = (-1) → (vp_in a2 6 ∧ Q none (hsI h22 (3 :: a0) a2.toNatClampNeg ((4 * a3) + r5)))))))))) ∧ (r12 = (-1) → (vp_in a2 6 ∧ Q none (hsI h10 (3 :: a0) a2.toNatClampNeg ((4 * s0) + a4))))))) ∧ (¬ s0 < (h3.1 a1 1) → (vp_in a2 6 ∧ (vp_in a2 6 ∧ Q none (hsI (hsI h3 (4 :: a0) a2.toNatClampNeg 1) (3 :: a0) a2.toNatClampNeg (-1)))))))))) : Rn X m_Wk_move 37 [some (vR a0), some (vR a1), some (vI a2), some (vI a3), some (vI a4), none, none] [vI s0] h Q := by
  refine Rn.istore (n := 39) (i := 5) (ls2 := [some (vR a0), some (vR a1), some (vI a2), some (vI a3), some (vI a4), some (vI s0), none]) d_Wk_move_37 rfl (Nat.le_of_ble_eq_true rfl) rfl ?_
  refine Rn.iconst (n := 40) (v := 4) d_Wk_move_39 rfl (by decide) ?_
  refine Rn.iload_n (n := 41) (i := 3) d_Wk_move_40 rfl rfl rfl ?_
  refine Rn.imul (n := 42) d_Wk_move_41 rfl ?_
  refine Rn.aload_n (n := 43) (i := 0) d_Wk_move_42 rfl rfl rfl ?_
  refine Rn.aload_n (n := 44) (i := 1) d_Wk_move_43 rfl rfl rfl ?_
  refine Rn.iload_n (n := 45) (i := 2) d_Wk_move_44 rfl rfl rfl ?_
  refine Rn.iload (n := 47) (i := 4) d_Wk_move_45 rfl rfl ?_
  obtain ⟨Q'4, ev1, k⟩ := k
  refine Rn.callV (n := 50) (av := [vR a1, vI a2, vI a4]) d_Wk_move_47 rfl ml_Wk_move_70 mi_Wk_laneBeside w_a0.s rfl rfl rfl rfl (Nat.le_of_ble_eq_true rfl) ev1 (fun v h3 hq => ?_)
  obtain ⟨r5, rfl, hq⟩ := hq
  have k := k r5 h3 hq
  show Rn X m_Wk_move 50 [some (vR a0), some (vR a1), some (vI a2), some (vI a3), some (vI a4), some (vI s0), none] [vI r5, vI (4 * a3)] h3 Q
  refine Rn.iadd (n := 51) d_Wk_move_50 rfl ?_
  refine Rn.istore (n := 53) (i := 6) (ls2 := [some (vR a0), some (vR a1), some (vI a2), some (vI a3), some (vI a4), some (vI s0), some (vI ((4 * a3) + r5))]) d_Wk_move_51 rfl (Nat.le_of_ble_eq_true rfl) rfl ?_
  refine Rn.iload (n := 55) (i := 5) d_Wk_move_53 rfl rfl ?_
  refine Rn.if_lt (n := 58) (t := 67) d_Wk_move_55 rfl (by decide) (fun cc => ?_) (fun cc => ?_)
  · have k := k.1 cc
    refine Rn.aload_n (n := 68) (i := 0) d_Wk_move_67 rfl rfl rfl ?_
    refine Rn.getf (n := 71) (v := vR (4 :: a0)) d_Wk_move_68 rfl fl_Wk_15 w_a0.s rfl ?_
    refine Rn.iload_n (n := 72) (i := 2) d_Wk_move_71 rfl rfl rfl ?_
    refine Rn.iconst (n := 73) (v := 1) d_Wk_move_72 rfl (by decide) ?_
    obtain ⟨b6, k⟩ := k
    refine Rn.zast (n := 74) (y := 1) d_Wk_move_73 rfl w_a0.c4 b6 rfl ?_
    refine Rn.aload_n (n := 75) (i := 0) d_Wk_move_74 rfl rfl rfl ?_
    refine Rn.getf (n := 78) (v := vR (3 :: a0)) d_Wk_move_75 rfl fl_Wk_9 w_a0.s rfl ?_
    refine Rn.iload_n (n := 79) (i := 2) d_Wk_move_78 rfl rfl rfl ?_
    refine Rn.iconst (n := 80) (v := (-1)) d_Wk_move_79 rfl (by decide) ?_
    obtain ⟨b7, k⟩ := k
    refine Rn.iast (n := 81) d_Wk_move_80 rfl w_a0.c3 b7 ?_
    refine Rn.goto (n := 158) d_Wk_move_81 (by decide) ?_
    exact Rn.vret d_Wk_move_158 rfl k
  · have k := k.2 cc
    refine Rn.iload (n := 60) (i := 5) d_Wk_move_58 rfl rfl ?_
    refine Rn.aload_n (n := 61) (i := 1) d_Wk_move_60 rfl rfl rfl ?_
    refine Rn.getf (n := 64) (v := vI (h3.1 a1 1)) d_Wk_move_61 rfl fl_Wk_74 w_a1.s rfl ?_
    refine Rn.icmp_lt (n := 67) (t := 84) d_Wk_move_64 rfl (by decide) (fun cc => ?_) (fun cc => ?_)
    · have k := k.1 cc
      refine Rn.aload_n (n := 85) (i := 0) d_Wk_move_84 rfl rfl rfl ?_
      refine Rn.iconst (n := 86) (v := 4) d_Wk_move_85 rfl (by decide) ?_
      refine Rn.iload (n := 88) (i := 5) d_Wk_move_86 rfl rfl ?_
      refine Rn.imul (n := 89) d_Wk_move_88 rfl ?_
      refine Rn.iload (n := 91) (i := 4) d_Wk_move_89 rfl rfl ?_
      refine Rn.iadd (n := 92) d_Wk_move_91 rfl ?_
      obtain ⟨Q'11, ev8, k⟩ := k
      refine Rn.callV (n := 95) (av := [vI ((4 * s0) + a4)]) d_Wk_move_92 rfl ml_Wk_move_77 mi_Wk_whoIsAt w_a0.s rfl rfl rfl rfl (Nat.le_of_ble_eq_true rfl) ev8 (fun v h10 hq => ?_)
      obtain ⟨r12, rfl, hq⟩ := hq
      have k := k r12 h10 hq
      show Rn X m_Wk_move 95 [some (vR a0), some (vR a1), some (vI a2), some (vI a3), some (vI a4), some (vI s0), some (vI ((4 * a3) + r5))] [vI r12] h10 Q
      refine Rn.iconst (n := 96) (v := (-1)) d_Wk_move_95 rfl (by decide) ?_
      refine Rn.icmp_ne (n := 99) (t := 115) d_Wk_move_96 rfl (by decide) (fun cc => ?_) (fun cc => ?_)
      · have k := k.1 cc
        refine Rn.aload_n (n := 116) (i := 0) d_Wk_move_115 rfl rfl rfl ?_
        refine Rn.aload_n (n := 117) (i := 1) d_Wk_move_116 rfl rfl rfl ?_
        refine Rn.iload_n (n := 118) (i := 2) d_Wk_move_117 rfl rfl rfl ?_
        refine Rn.iload (n := 120) (i := 4) d_Wk_move_118 rfl rfl ?_
        obtain ⟨Q'16, ev13, k⟩ := k
        refine Rn.callV (n := 123) (av := [vR a1, vI a2, vI a4]) d_Wk_move_120 rfl ml_Wk_move_70 mi_Wk_laneBeside w_a0.s rfl rfl rfl rfl (Nat.le_of_ble_eq_true rfl) ev13 (fun v h15 hq => ?_)
        obtain ⟨r17, rfl, hq⟩ := hq
        have k := k r17 h15 hq
        show Rn X m_Wk_move 123 [some (vR a0), some (vR a1), some (vI a2), some (vI a3), some (vI a4), some (vI s0), some (vI ((4 * a3) + r5))] [vI r17] h15 Q
        refine Rn.iconst (n := 124) (v := (-1)) d_Wk_move_123 rfl (by decide) ?_
        refine Rn.icmp_eq (n := 127) (t := 148) d_Wk_move_124 rfl (by decide) (fun cc => ?_) (fun cc => ?_)
        · have k := k.1 cc
          refine Rn.aload_n (n := 149) (i := 0) d_Wk_move_148 rfl rfl rfl ?_
          refine Rn.getf (n := 152) (v := vR (7 :: a0)) d_Wk_move_149 rfl fl_Wk_25 w_a0.s rfl ?_
          refine Rn.iload_n (n := 153) (i := 2) d_Wk_move_152 rfl rfl rfl ?_
          refine Rn.dup2 (n := 154) d_Wk_move_153 rfl rfl rfl ?_
          obtain ⟨b18, k⟩ := k
          refine Rn.iald (n := 155) (v := h15.1 (7 :: a0) a2.toNatClampNeg) d_Wk_move_154 rfl w_a0.c7 b18 rfl ?_
          refine Rn.iconst (n := 156) (v := 1) d_Wk_move_155 rfl (by decide) ?_
          refine Rn.iadd (n := 157) d_Wk_move_156 rfl ?_
          obtain ⟨b19, k⟩ := k
          refine Rn.iast (n := 158) d_Wk_move_157 rfl w_a0.c7 b19 ?_
          exact Rn.vret d_Wk_move_158 rfl k
        · have k := k.2 cc
          refine Rn.aload_n (n := 128) (i := 0) d_Wk_move_127 rfl rfl rfl ?_
          refine Rn.iload (n := 130) (i := 6) d_Wk_move_128 rfl rfl ?_
          obtain ⟨Q'23, ev20, k⟩ := k
          refine Rn.callV (n := 133) (av := [vI ((4 * a3) + r5)]) d_Wk_move_130 rfl ml_Wk_move_77 mi_Wk_whoIsAt w_a0.s rfl rfl rfl rfl (Nat.le_of_ble_eq_true rfl) ev20 (fun v h22 hq => ?_)
          obtain ⟨r24, rfl, hq⟩ := hq
          have k := k r24 h22 hq
          show Rn X m_Wk_move 133 [some (vR a0), some (vR a1), some (vI a2), some (vI a3), some (vI a4), some (vI s0), some (vI ((4 * a3) + r5))] [vI r24] h22 Q
          refine Rn.iconst (n := 134) (v := (-1)) d_Wk_move_133 rfl (by decide) ?_
          refine Rn.icmp_ne (n := 137) (t := 148) d_Wk_move_134 rfl (by decide) (fun cc => ?_) (fun cc => ?_)
          · have k := k.1 cc
            refine Rn.aload_n (n := 149) (i := 0) d_Wk_move_148 rfl rfl rfl ?_
            refine Rn.getf (n := 152) (v := vR (7 :: a0)) d_Wk_move_149 rfl fl_Wk_25 w_a0.s rfl ?_
            refine Rn.iload_n (n := 153) (i := 2) d_Wk_move_152 rfl rfl rfl ?_
            refine Rn.dup2 (n := 154) d_Wk_move_153 rfl rfl rfl ?_
            obtain ⟨b25, k⟩ := k
            refine Rn.iald (n := 155) (v := h22.1 (7 :: a0) a2.toNatClampNeg) d_Wk_move_154 rfl w_a0.c7 b25 rfl ?_
            refine Rn.iconst (n := 156) (v := 1) d_Wk_move_155 rfl (by decide) ?_
            refine Rn.iadd (n := 157) d_Wk_move_156 rfl ?_
            obtain ⟨b26, k⟩ := k
            refine Rn.iast (n := 158) d_Wk_move_157 rfl w_a0.c7 b26 ?_
            exact Rn.vret d_Wk_move_158 rfl k
          · have k := k.2 cc
            refine Rn.aload_n (n := 138) (i := 0) d_Wk_move_137 rfl rfl rfl ?_
            refine Rn.getf (n := 141) (v := vR (3 :: a0)) d_Wk_move_138 rfl fl_Wk_9 w_a0.s rfl ?_
            refine Rn.iload_n (n := 142) (i := 2) d_Wk_move_141 rfl rfl rfl ?_
            refine Rn.iload (n := 144) (i := 6) d_Wk_move_142 rfl rfl ?_
            obtain ⟨b27, k⟩ := k
            refine Rn.iast (n := 145) d_Wk_move_144 rfl w_a0.c3 b27 ?_
            refine Rn.goto (n := 158) d_Wk_move_145 (by decide) ?_
            exact Rn.vret d_Wk_move_158 rfl k
      · have k := k.2 cc
        refine Rn.aload_n (n := 100) (i := 0) d_Wk_move_99 rfl rfl rfl ?_
        refine Rn.getf (n := 103) (v := vR (3 :: a0)) d_Wk_move_100 rfl fl_Wk_9 w_a0.s rfl ?_
        refine Rn.iload_n (n := 104) (i := 2) d_Wk_move_103 rfl rfl rfl ?_
        refine Rn.iconst (n := 105) (v := 4) d_Wk_move_104 rfl (by decide) ?_
        refine Rn.iload (n := 107) (i := 5) d_Wk_move_105 rfl rfl ?_
        refine Rn.imul (n := 108) d_Wk_move_107 rfl ?_
        refine Rn.iload (n := 110) (i := 4) d_Wk_move_108 rfl rfl ?_
        refine Rn.iadd (n := 111) d_Wk_move_110 rfl ?_
        obtain ⟨b28, k⟩ := k
        refine Rn.iast (n := 112) d_Wk_move_111 rfl w_a0.c3 b28 ?_
        refine Rn.goto (n := 158) d_Wk_move_112 (by decide) ?_
        exact Rn.vret d_Wk_move_158 rfl k
    · have k := k.2 cc
      refine Rn.aload_n (n := 68) (i := 0) d_Wk_move_67 rfl rfl rfl ?_
      refine Rn.getf (n := 71) (v := vR (4 :: a0)) d_Wk_move_68 rfl fl_Wk_15 w_a0.s rfl ?_
      refine Rn.iload_n (n := 72) (i := 2) d_Wk_move_71 rfl rfl rfl ?_
      refine Rn.iconst (n := 73) (v := 1) d_Wk_move_72 rfl (by decide) ?_
      obtain ⟨b29, k⟩ := k
      refine Rn.zast (n := 74) (y := 1) d_Wk_move_73 rfl w_a0.c4 b29 rfl ?_
      refine Rn.aload_n (n := 75) (i := 0) d_Wk_move_74 rfl rfl rfl ?_
      refine Rn.getf (n := 78) (v := vR (3 :: a0)) d_Wk_move_75 rfl fl_Wk_9 w_a0.s rfl ?_
      refine Rn.iload_n (n := 79) (i := 2) d_Wk_move_78 rfl rfl rfl ?_
      refine Rn.iconst (n := 80) (v := (-1)) d_Wk_move_79 rfl (by decide) ?_
      obtain ⟨b30, k⟩ := k
      refine Rn.iast (n := 81) d_Wk_move_80 rfl w_a0.c3 b30 ?_
      refine Rn.goto (n := 158) d_Wk_move_81 (by decide) ?_
      exact Rn.vret d_Wk_move_158 rfl k
theorem e_Wk_move {X : XS} (a0 : List Nat) (a1 : List Nat) (a2 : Int32) (h : Hp) (Q : Option AV → Hp → Prop) (k : Rn X m_Wk_move 0 [some (vR a0), some (vR a1), some (vI a2), none, none, none, none] [] h Q) : Ev X m_Wk_move [vR a0, vR a1, vI a2] h Q := Ev.intro (plainFor_of_name (by decide +kernel)) (Nat.le_of_ble_eq_true rfl) (ls := [some (vR a0), some (vR a1), some (vI a2), none, none, none, none]) rfl k
theorem d_Wk_laneBeside_0 : decode m_Wk_laneBeside.2.1 0 = .ok (.aload_n 1, 1) := by decide +kernel
theorem d_Wk_laneBeside_1 : decode m_Wk_laneBeside.2.1 1 = .ok (.getfield 81, 3) := by decide +kernel
theorem d_Wk_laneBeside_4 : decode m_Wk_laneBeside.2.1 4 = .ok (.iload_n 2, 1) := by decide +kernel
theorem d_Wk_laneBeside_5 : decode m_Wk_laneBeside.2.1 5 = .ok (.iaload, 1) := by decide +kernel
theorem d_Wk_laneBeside_6 : decode m_Wk_laneBeside.2.1 6 = .ok (.iconst 1, 1) := by decide +kernel
theorem d_Wk_laneBeside_7 : decode m_Wk_laneBeside.2.1 7 = .ok (.if_icmp .eq 15, 3) := by decide +kernel
theorem d_Wk_laneBeside_10 : decode m_Wk_laneBeside.2.1 10 = .ok (.aload_n 1, 1) := by decide +kernel
theorem d_Wk_laneBeside_11 : decode m_Wk_laneBeside.2.1 11 = .ok (.getfield 81, 3) := by decide +kernel
theorem d_Wk_laneBeside_14 : decode m_Wk_laneBeside.2.1 14 = .ok (.iload_n 2, 1) := by decide +kernel
theorem d_Wk_laneBeside_15 : decode m_Wk_laneBeside.2.1 15 = .ok (.iaload, 1) := by decide +kernel
theorem d_Wk_laneBeside_16 : decode m_Wk_laneBeside.2.1 16 = .ok (.iconst 2, 1) := by decide +kernel
theorem d_Wk_laneBeside_17 : decode m_Wk_laneBeside.2.1 17 = .ok (.if_icmp .eq 5, 3) := by decide +kernel
theorem d_Wk_laneBeside_20 : decode m_Wk_laneBeside.2.1 20 = .ok (.iconst (-1), 1) := by decide +kernel
theorem d_Wk_laneBeside_21 : decode m_Wk_laneBeside.2.1 21 = .ok (.ireturn, 1) := by decide +kernel
theorem d_Wk_laneBeside_22 : decode m_Wk_laneBeside.2.1 22 = .ok (.aload_n 1, 1) := by decide +kernel
theorem d_Wk_laneBeside_23 : decode m_Wk_laneBeside.2.1 23 = .ok (.getfield 81, 3) := by decide +kernel
theorem d_Wk_laneBeside_26 : decode m_Wk_laneBeside.2.1 26 = .ok (.iload_n 2, 1) := by decide +kernel
theorem d_Wk_laneBeside_27 : decode m_Wk_laneBeside.2.1 27 = .ok (.iaload, 1) := by decide +kernel
theorem d_Wk_laneBeside_28 : decode m_Wk_laneBeside.2.1 28 = .ok (.iconst 1, 1) := by decide +kernel
theorem d_Wk_laneBeside_29 : decode m_Wk_laneBeside.2.1 29 = .ok (.if_icmp .ne 7, 3) := by decide +kernel
theorem d_Wk_laneBeside_32 : decode m_Wk_laneBeside.2.1 32 = .ok (.iconst 1, 1) := by decide +kernel
theorem d_Wk_laneBeside_33 : decode m_Wk_laneBeside.2.1 33 = .ok (.goto 4, 3) := by decide +kernel
theorem d_Wk_laneBeside_36 : decode m_Wk_laneBeside.2.1 36 = .ok (.iconst 0, 1) := by decide +kernel
theorem d_Wk_laneBeside_37 : decode m_Wk_laneBeside.2.1 37 = .ok (.aload_n 1, 1) := by decide +kernel
theorem d_Wk_laneBeside_38 : decode m_Wk_laneBeside.2.1 38 = .ok (.getfield 67, 3) := by decide +kernel
theorem d_Wk_laneBeside_41 : decode m_Wk_laneBeside.2.1 41 = .ok (.iload_n 2, 1) := by decide +kernel
theorem d_Wk_laneBeside_42 : decode m_Wk_laneBeside.2.1 42 = .ok (.iaload, 1) := by decide +kernel
theorem d_Wk_laneBeside_43 : decode m_Wk_laneBeside.2.1 43 = .ok (.ifCond .ne 7, 3) := by decide +kernel
theorem d_Wk_laneBeside_46 : decode m_Wk_laneBeside.2.1 46 = .ok (.iconst 1, 1) := by decide +kernel
theorem d_Wk_laneBeside_47 : decode m_Wk_laneBeside.2.1 47 = .ok (.goto 4, 3) := by decide +kernel
theorem d_Wk_laneBeside_50 : decode m_Wk_laneBeside.2.1 50 = .ok (.iconst 0, 1) := by decide +kernel
theorem d_Wk_laneBeside_51 : decode m_Wk_laneBeside.2.1 51 = .ok (.if_icmp .ne 7, 3) := by decide +kernel
theorem d_Wk_laneBeside_54 : decode m_Wk_laneBeside.2.1 54 = .ok (.iconst 1, 1) := by decide +kernel
theorem d_Wk_laneBeside_55 : decode m_Wk_laneBeside.2.1 55 = .ok (.goto 4, 3) := by decide +kernel
theorem d_Wk_laneBeside_58 : decode m_Wk_laneBeside.2.1 58 = .ok (.iconst 0, 1) := by decide +kernel
theorem d_Wk_laneBeside_59 : decode m_Wk_laneBeside.2.1 59 = .ok (.istore 4, 2) := by decide +kernel
theorem d_Wk_laneBeside_61 : decode m_Wk_laneBeside.2.1 61 = .ok (.iload 4, 2) := by decide +kernel
theorem d_Wk_laneBeside_63 : decode m_Wk_laneBeside.2.1 63 = .ok (.ifCond .eq 9, 3) := by decide +kernel
theorem d_Wk_laneBeside_66 : decode m_Wk_laneBeside.2.1 66 = .ok (.iload_n 3, 1) := by decide +kernel
theorem d_Wk_laneBeside_67 : decode m_Wk_laneBeside.2.1 67 = .ok (.iconst 1, 1) := by decide +kernel
theorem d_Wk_laneBeside_68 : decode m_Wk_laneBeside.2.1 68 = .ok (.isub, 1) := by decide +kernel
theorem d_Wk_laneBeside_69 : decode m_Wk_laneBeside.2.1 69 = .ok (.goto 6, 3) := by decide +kernel
theorem d_Wk_laneBeside_72 : decode m_Wk_laneBeside.2.1 72 = .ok (.iload_n 3, 1) := by decide +kernel
theorem d_Wk_laneBeside_73 : decode m_Wk_laneBeside.2.1 73 = .ok (.iconst 1, 1) := by decide +kernel
theorem d_Wk_laneBeside_74 : decode m_Wk_laneBeside.2.1 74 = .ok (.iadd, 1) := by decide +kernel
theorem d_Wk_laneBeside_75 : decode m_Wk_laneBeside.2.1 75 = .ok (.istore 5, 2) := by decide +kernel
theorem d_Wk_laneBeside_77 : decode m_Wk_laneBeside.2.1 77 = .ok (.iload 5, 2) := by decide +kernel
theorem d_Wk_laneBeside_79 : decode m_Wk_laneBeside.2.1 79 = .ok (.ifCond .lt 17, 3) := by decide +kernel
theorem d_Wk_laneBeside_82 : decode m_Wk_laneBeside.2.1 82 = .ok (.iload 5, 2) := by decide +kernel
theorem d_Wk_laneBeside_84 : decode m_Wk_laneBeside.2.1 84 = .ok (.aload_n 1, 1) := by decide +kernel
theorem d_Wk_laneBeside_85 : decode m_Wk_laneBeside.2.1 85 = .ok (.getfield 84, 3) := by decide +kernel
theorem d_Wk_laneBeside_88 : decode m_Wk_laneBeside.2.1 88 = .ok (.if_icmp .ge 8, 3) := by decide +kernel
theorem d_Wk_laneBeside_91 : decode m_Wk_laneBeside.2.1 91 = .ok (.iload 5, 2) := by decide +kernel
theorem d_Wk_laneBeside_93 : decode m_Wk_laneBeside.2.1 93 = .ok (.goto 4, 3) := by decide +kernel
theorem d_Wk_laneBeside_96 : decode m_Wk_laneBeside.2.1 96 = .ok (.iconst (-1), 1) := by decide +kernel
theorem d_Wk_laneBeside_97 : decode m_Wk_laneBeside.2.1 97 = .ok (.ireturn, 1) := by decide +kernel
theorem g_Wk_laneBeside_0 {X : XS} (a0 : List Nat) (a1 : List Nat) (a2 : Int32) (a3 : Int32) (h : Hp) (Q : Option AV → Hp → Prop) (w_a0 : IsWk a0) (w_a1 : IsPl a1) (k : (vp_in a2 6 ∧ (((h.1 (9 :: a1) a2.toNatClampNeg) = 1 → Rn X m_Wk_laneBeside 22 [some (vR a0), some (vR a1), some (vI a2), some (vI a3), none, none] [] h Q) ∧ (¬ (h.1 (9 :: a1) a2.toNatClampNeg) = 1 → (vp_in a2 6 ∧ (((h.1 (9 :: a1) a2.toNatClampNeg) = 2 → Rn X m_Wk_laneBeside 22 [some (vR a0), some (vR a1), some (vI a2), some (vI a3), none, none] [] h Q) ∧ (¬ (h.1 (9 :: a1) a2.toNatClampNeg) = 2 → Q (some (vI (-1))) h))))))) : Rn X m_Wk_laneBeside 0 [some (vR a0), some (vR a1), some (vI a2), some (vI a3), none, none] [] h Q := by
  refine Rn.aload_n (n := 1) (i := 1) d_Wk_laneBeside_0 rfl rfl rfl ?_
  refine Rn.getf (n := 4) (v := vR (9 :: a1)) d_Wk_laneBeside_1 rfl fl_Wk_81 w_a1.s rfl ?_
  refine Rn.iload_n (n := 5) (i := 2) d_Wk_laneBeside_4 rfl rfl rfl ?_
  obtain ⟨b1, k⟩ := k
  refine Rn.iald (n := 6) (v := h.1 (9 :: a1) a2.toNatClampNeg) d_Wk_laneBeside_5 rfl w_a1.c9 b1 rfl ?_
  refine Rn.iconst (n := 7) (v := 1) d_Wk_laneBeside_6 rfl (by decide) ?_
  refine Rn.icmp_eq (n := 10) (t := 22) d_Wk_laneBeside_7 rfl (by decide) (fun cc => ?_) (fun cc => ?_)
  · have k := k.1 cc
    exact k
  · have k := k.2 cc
    refine Rn.aload_n (n := 11) (i := 1) d_Wk_laneBeside_10 rfl rfl rfl ?_
    refine Rn.getf (n := 14) (v := vR (9 :: a1)) d_Wk_laneBeside_11 rfl fl_Wk_81 w_a1.s rfl ?_
    refine Rn.iload_n (n := 15) (i := 2) d_Wk_laneBeside_14 rfl rfl rfl ?_
    obtain ⟨b2, k⟩ := k
    refine Rn.iald (n := 16) (v := h.1 (9 :: a1) a2.toNatClampNeg) d_Wk_laneBeside_15 rfl w_a1.c9 b2 rfl ?_
    refine Rn.iconst (n := 17) (v := 2) d_Wk_laneBeside_16 rfl (by decide) ?_
    refine Rn.icmp_eq (n := 20) (t := 22) d_Wk_laneBeside_17 rfl (by decide) (fun cc => ?_) (fun cc => ?_)
    · have k := k.1 cc
      exact k
    · have k := k.2 cc
      refine Rn.iconst (n := 21) (v := (-1)) d_Wk_laneBeside_20 rfl (by decide) ?_
      exact Rn.iret d_Wk_laneBeside_21 rfl rfl k
theorem g_Wk_laneBeside_22 {X : XS} (a0 : List Nat) (a1 : List Nat) (a2 : Int32) (a3 : Int32) (h : Hp) (Q : Option AV → Hp → Prop) (w_a0 : IsWk a0) (w_a1 : IsPl a1) (k : (vp_in a2 6 ∧ ((¬ (h.1 (9 :: a1) a2.toNatClampNeg) = 1 → Rn X m_Wk_laneBeside 37 [some (vR a0), some (vR a1), some (vI a2), some (vI a3), none, none] [vI 0] h Q) ∧ ((h.1 (9 :: a1) a2.toNatClampNeg) = 1 → Rn X m_Wk_laneBeside 37 [some (vR a0), some (vR a1), some (vI a2), some (vI a3), none, none] [vI 1] h Q)))) : Rn X m_Wk_laneBeside 22 [some (vR a0), some (vR a1), some (vI a2), some (vI a3), none, none] [] h Q := by
  refine Rn.aload_n (n := 23) (i := 1) d_Wk_laneBeside_22 rfl rfl rfl ?_
  refine Rn.getf (n := 26) (v := vR (9 :: a1)) d_Wk_laneBeside_23 rfl fl_Wk_81 w_a1.s rfl ?_
  refine Rn.iload_n (n := 27) (i := 2) d_Wk_laneBeside_26 rfl rfl rfl ?_
  obtain ⟨b1, k⟩ := k
  refine Rn.iald (n := 28) (v := h.1 (9 :: a1) a2.toNatClampNeg) d_Wk_laneBeside_27 rfl w_a1.c9 b1 rfl ?_
  refine Rn.iconst (n := 29) (v := 1) d_Wk_laneBeside_28 rfl (by decide) ?_
  refine Rn.icmp_ne (n := 32) (t := 36) d_Wk_laneBeside_29 rfl (by decide) (fun cc => ?_) (fun cc => ?_)
  · have k := k.1 cc
    refine Rn.iconst (n := 37) (v := 0) d_Wk_laneBeside_36 rfl (by decide) ?_
    exact k
  · have k := k.2 cc
    refine Rn.iconst (n := 33) (v := 1) d_Wk_laneBeside_32 rfl (by decide) ?_
    refine Rn.goto (n := 37) d_Wk_laneBeside_33 (by decide) ?_
    exact k
theorem g_Wk_laneBeside_37 {X : XS} (a0 : List Nat) (a1 : List Nat) (a2 : Int32) (a3 : Int32) (s0 : Int32) (h : Hp) (Q : Option AV → Hp → Prop) (w_a0 : IsWk a0) (w_a1 : IsPl a1) (k : (vp_in a2 6 ∧ ((¬ (h.1 (5 :: a1) a2.toNatClampNeg) = 0 → Rn X m_Wk_laneBeside 51 [some (vR a0), some (vR a1), some (vI a2), some (vI a3), none, none] [vI 0, vI s0] h Q) ∧ ((h.1 (5 :: a1) a2.toNatClampNeg) = 0 → Rn X m_Wk_laneBeside 51 [some (vR a0), some (vR a1), some (vI a2), some (vI a3), none, none] [vI 1, vI s0] h Q)))) : Rn X m_Wk_laneBeside 37 [some (vR a0), some (vR a1), some (vI a2), some (vI a3), none, none] [vI s0] h Q := by
  refine Rn.aload_n (n := 38) (i := 1) d_Wk_laneBeside_37 rfl rfl rfl ?_
  refine Rn.getf (n := 41) (v := vR (5 :: a1)) d_Wk_laneBeside_38 rfl fl_Wk_67 w_a1.s rfl ?_
  refine Rn.iload_n (n := 42) (i := 2) d_Wk_laneBeside_41 rfl rfl rfl ?_
  obtain ⟨b1, k⟩ := k
  refine Rn.iald (n := 43) (v := h.1 (5 :: a1) a2.toNatClampNeg) d_Wk_laneBeside_42 rfl w_a1.c5 b1 rfl ?_
  refine Rn.if_ne (n := 46) (t := 50) d_Wk_laneBeside_43 rfl (by decide) (fun cc => ?_) (fun cc => ?_)
  · have k := k.1 cc
    refine Rn.iconst (n := 51) (v := 0) d_Wk_laneBeside_50 rfl (by decide) ?_
    exact k
  · have k := k.2 cc
    refine Rn.iconst (n := 47) (v := 1) d_Wk_laneBeside_46 rfl (by decide) ?_
    refine Rn.goto (n := 51) d_Wk_laneBeside_47 (by decide) ?_
    exact k
theorem g_Wk_laneBeside_51 {X : XS} (a0 : List Nat) (a1 : List Nat) (a2 : Int32) (a3 : Int32) (s0 : Int32) (s1 : Int32) (h : Hp) (Q : Option AV → Hp → Prop) (w_a0 : IsWk a0) (w_a1 : IsPl a1) (k : ((¬ s1 = s0 → Rn X m_Wk_laneBeside 59 [some (vR a0), some (vR a1), some (vI a2), some (vI a3), none, none] [vI 0] h Q) ∧ (s1 = s0 → Rn X m_Wk_laneBeside 59 [some (vR a0), some (vR a1), some (vI a2), some (vI a3), none, none] [vI 1] h Q))) : Rn X m_Wk_laneBeside 51 [some (vR a0), some (vR a1), some (vI a2), some (vI a3), none, none] [vI s0, vI s1] h Q := by
  refine Rn.icmp_ne (n := 54) (t := 58) d_Wk_laneBeside_51 rfl (by decide) (fun cc => ?_) (fun cc => ?_)
  · have k := k.1 cc
    refine Rn.iconst (n := 59) (v := 0) d_Wk_laneBeside_58 rfl (by decide) ?_
    exact k
  · have k := k.2 cc
    refine Rn.iconst (n := 55) (v := 1) d_Wk_laneBeside_54 rfl (by decide) ?_
    refine Rn.goto (n := 59) d_Wk_laneBeside_55 (by decide) ?_
    exact k
theorem g_Wk_laneBeside_59 {X : XS} (a0 : List Nat) (a1 : List Nat) (a2 : Int32) (a3 : Int32) (s0 : Int32) (h : Hp) (Q : Option AV → Hp → Prop) (w_a0 : IsWk a0) (w_a1 : IsPl a1) (k : ((s0 = 0 → Rn X m_Wk_laneBeside 75 [some (vR a0), some (vR a1), some (vI a2), some (vI a3), some (vI s0), none] [vI (a3 + 1)] h Q) ∧ (¬ s0 = 0 → Rn X m_Wk_laneBeside 75 [some (vR a0), some (vR a1), some (vI a2), some (vI a3), some (vI s0), none] [vI (a3 - 1)] h Q))) : Rn X m_Wk_laneBeside 59 [some (vR a0), some (vR a1), some (vI a2), some (vI a3), none, none] [vI s0] h Q := by
  refine Rn.istore (n := 61) (i := 4) (ls2 := [some (vR a0), some (vR a1), some (vI a2), some (vI a3), some (vI s0), none]) d_Wk_laneBeside_59 rfl (Nat.le_of_ble_eq_true rfl) rfl ?_
  refine Rn.iload (n := 63) (i := 4) d_Wk_laneBeside_61 rfl rfl ?_
  refine Rn.if_eq (n := 66) (t := 72) d_Wk_laneBeside_63 rfl (by decide) (fun cc => ?_) (fun cc => ?_)
  · have k := k.1 cc
    refine Rn.iload_n (n := 73) (i := 3) d_Wk_laneBeside_72 rfl rfl rfl ?_
    refine Rn.iconst (n := 74) (v := 1) d_Wk_laneBeside_73 rfl (by decide) ?_
    refine Rn.iadd (n := 75) d_Wk_laneBeside_74 rfl ?_
    exact k
  · have k := k.2 cc
    refine Rn.iload_n (n := 67) (i := 3) d_Wk_laneBeside_66 rfl rfl rfl ?_
    refine Rn.iconst (n := 68) (v := 1) d_Wk_laneBeside_67 rfl (by decide) ?_
    refine Rn.isub (n := 69) d_Wk_laneBeside_68 rfl ?_
    refine Rn.goto (n := 75) d_Wk_laneBeside_69 (by decide) ?_
    exact k
theorem g_Wk_laneBeside_75 {X : XS} (a0 : List Nat) (a1 : List Nat) (a2 : Int32) (a3 : Int32) (a4 : Int32) (s0 : Int32) (h : Hp) (Q : Option AV → Hp → Prop) (w_a0 : IsWk a0) (w_a1 : IsPl a1) (k : ((s0 < 0 → Q (some (vI (-1))) h) ∧ (¬ s0 < 0 → (((h.1 a1 0) ≤ s0 → Q (some (vI (-1))) h) ∧ (¬ (h.1 a1 0) ≤ s0 → Q (some (vI s0)) h))))) : Rn X m_Wk_laneBeside 75 [some (vR a0), some (vR a1), some (vI a2), some (vI a3), some (vI a4), none] [vI s0] h Q := by
  refine Rn.istore (n := 77) (i := 5) (ls2 := [some (vR a0), some (vR a1), some (vI a2), some (vI a3), some (vI a4), some (vI s0)]) d_Wk_laneBeside_75 rfl (Nat.le_of_ble_eq_true rfl) rfl ?_
  refine Rn.iload (n := 79) (i := 5) d_Wk_laneBeside_77 rfl rfl ?_
  refine Rn.if_lt (n := 82) (t := 96) d_Wk_laneBeside_79 rfl (by decide) (fun cc => ?_) (fun cc => ?_)
  · have k := k.1 cc
    refine Rn.iconst (n := 97) (v := (-1)) d_Wk_laneBeside_96 rfl (by decide) ?_
    exact Rn.iret d_Wk_laneBeside_97 rfl rfl k
  · have k := k.2 cc
    refine Rn.iload (n := 84) (i := 5) d_Wk_laneBeside_82 rfl rfl ?_
    refine Rn.aload_n (n := 85) (i := 1) d_Wk_laneBeside_84 rfl rfl rfl ?_
    refine Rn.getf (n := 88) (v := vI (h.1 a1 0)) d_Wk_laneBeside_85 rfl fl_Wk_84 w_a1.s rfl ?_
    refine Rn.icmp_ge (n := 91) (t := 96) d_Wk_laneBeside_88 rfl (by decide) (fun cc => ?_) (fun cc => ?_)
    · have k := k.1 cc
      refine Rn.iconst (n := 97) (v := (-1)) d_Wk_laneBeside_96 rfl (by decide) ?_
      exact Rn.iret d_Wk_laneBeside_97 rfl rfl k
    · have k := k.2 cc
      refine Rn.iload (n := 93) (i := 5) d_Wk_laneBeside_91 rfl rfl ?_
      refine Rn.goto (n := 97) d_Wk_laneBeside_93 (by decide) ?_
      exact Rn.iret d_Wk_laneBeside_97 rfl rfl k
theorem e_Wk_laneBeside {X : XS} (a0 : List Nat) (a1 : List Nat) (a2 : Int32) (a3 : Int32) (h : Hp) (Q : Option AV → Hp → Prop) (k : Rn X m_Wk_laneBeside 0 [some (vR a0), some (vR a1), some (vI a2), some (vI a3), none, none] [] h Q) : Ev X m_Wk_laneBeside [vR a0, vR a1, vI a2, vI a3] h Q := Ev.intro (plainFor_of_name (by decide +kernel)) (Nat.le_of_ble_eq_true rfl) (ls := [some (vR a0), some (vR a1), some (vI a2), some (vI a3), none, none]) rfl k
theorem d_Wk_come_0 : decode m_Wk_come.2.1 0 = .ok (.aload_n 1, 1) := by decide +kernel
theorem d_Wk_come_1 : decode m_Wk_come.2.1 1 = .ok (.getfield 67, 3) := by decide +kernel
theorem d_Wk_come_4 : decode m_Wk_come.2.1 4 = .ok (.iload_n 2, 1) := by decide +kernel
theorem d_Wk_come_5 : decode m_Wk_come.2.1 5 = .ok (.iaload, 1) := by decide +kernel
theorem d_Wk_come_6 : decode m_Wk_come.2.1 6 = .ok (.ifCond .ne 7, 3) := by decide +kernel
theorem d_Wk_come_9 : decode m_Wk_come.2.1 9 = .ok (.iconst 0, 1) := by decide +kernel
theorem d_Wk_come_10 : decode m_Wk_come.2.1 10 = .ok (.goto 9, 3) := by decide +kernel
theorem d_Wk_come_13 : decode m_Wk_come.2.1 13 = .ok (.aload_n 1, 1) := by decide +kernel
theorem d_Wk_come_14 : decode m_Wk_come.2.1 14 = .ok (.getfield 74, 3) := by decide +kernel
theorem d_Wk_come_17 : decode m_Wk_come.2.1 17 = .ok (.iconst 1, 1) := by decide +kernel
theorem d_Wk_come_18 : decode m_Wk_come.2.1 18 = .ok (.isub, 1) := by decide +kernel
theorem d_Wk_come_19 : decode m_Wk_come.2.1 19 = .ok (.istore_n 3, 1) := by decide +kernel
theorem d_Wk_come_20 : decode m_Wk_come.2.1 20 = .ok (.iconst 4, 1) := by decide +kernel
theorem d_Wk_come_21 : decode m_Wk_come.2.1 21 = .ok (.iload_n 3, 1) := by decide +kernel
theorem d_Wk_come_22 : decode m_Wk_come.2.1 22 = .ok (.imul, 1) := by decide +kernel
theorem d_Wk_come_23 : decode m_Wk_come.2.1 23 = .ok (.aload_n 1, 1) := by decide +kernel
theorem d_Wk_come_24 : decode m_Wk_come.2.1 24 = .ok (.getfield 87, 3) := by decide +kernel
theorem d_Wk_come_27 : decode m_Wk_come.2.1 27 = .ok (.iload_n 2, 1) := by decide +kernel
theorem d_Wk_come_28 : decode m_Wk_come.2.1 28 = .ok (.iaload, 1) := by decide +kernel
theorem d_Wk_come_29 : decode m_Wk_come.2.1 29 = .ok (.iadd, 1) := by decide +kernel
theorem d_Wk_come_30 : decode m_Wk_come.2.1 30 = .ok (.istore 4, 2) := by decide +kernel
theorem d_Wk_come_32 : decode m_Wk_come.2.1 32 = .ok (.aload_n 0, 1) := by decide +kernel
theorem d_Wk_come_33 : decode m_Wk_come.2.1 33 = .ok (.iload 4, 2) := by decide +kernel
theorem d_Wk_come_35 : decode m_Wk_come.2.1 35 = .ok (.invokevirtual 77, 3) := by decide +kernel
theorem d_Wk_come_38 : decode m_Wk_come.2.1 38 = .ok (.iconst (-1), 1) := by decide +kernel
theorem d_Wk_come_39 : decode m_Wk_come.2.1 39 = .ok (.if_icmp .ne 11, 3) := by decide +kernel
theorem d_Wk_come_42 : decode m_Wk_come.2.1 42 = .ok (.aload_n 0, 1) := by decide +kernel
theorem d_Wk_come_43 : decode m_Wk_come.2.1 43 = .ok (.getfield 9, 3) := by decide +kernel
theorem d_Wk_come_46 : decode m_Wk_come.2.1 46 = .ok (.iload_n 2, 1) := by decide +kernel
theorem d_Wk_come_47 : decode m_Wk_come.2.1 47 = .ok (.iload 4, 2) := by decide +kernel
theorem d_Wk_come_49 : decode m_Wk_come.2.1 49 = .ok (.iastore, 1) := by decide +kernel
theorem d_Wk_come_50 : decode m_Wk_come.2.1 50 = .ok (.return_, 1) := by decide +kernel
theorem g_Wk_come_0 {X : XS} (a0 : List Nat) (a1 : List Nat) (a2 : Int32) (h : Hp) (Q : Option AV → Hp → Prop) (w_a0 : IsWk a0) (w_a1 : IsPl a1) (k : (vp_in a2 6 ∧ ((¬ (h.1 (5 :: a1) a2.toNatClampNeg) = 0 → Rn X m_Wk_come 19 [some (vR a0), some (vR a1), some (vI a2), none, none] [vI ((h.1 a1 1) - 1)] h Q) ∧ ((h.1 (5 :: a1) a2.toNatClampNeg) = 0 → Rn X m_Wk_come 19 [some (vR a0), some (vR a1), some (vI a2), none, none] [vI 0] h Q)))) : Rn X m_Wk_come 0 [some (vR a0), some (vR a1), some (vI a2), none, none] [] h Q := by
  refine Rn.aload_n (n := 1) (i := 1) d_Wk_come_0 rfl rfl rfl ?_
  refine Rn.getf (n := 4) (v := vR (5 :: a1)) d_Wk_come_1 rfl fl_Wk_67 w_a1.s rfl ?_
  refine Rn.iload_n (n := 5) (i := 2) d_Wk_come_4 rfl rfl rfl ?_
  obtain ⟨b1, k⟩ := k
  refine Rn.iald (n := 6) (v := h.1 (5 :: a1) a2.toNatClampNeg) d_Wk_come_5 rfl w_a1.c5 b1 rfl ?_
  refine Rn.if_ne (n := 9) (t := 13) d_Wk_come_6 rfl (by decide) (fun cc => ?_) (fun cc => ?_)
  · have k := k.1 cc
    refine Rn.aload_n (n := 14) (i := 1) d_Wk_come_13 rfl rfl rfl ?_
    refine Rn.getf (n := 17) (v := vI (h.1 a1 1)) d_Wk_come_14 rfl fl_Wk_74 w_a1.s rfl ?_
    refine Rn.iconst (n := 18) (v := 1) d_Wk_come_17 rfl (by decide) ?_
    refine Rn.isub (n := 19) d_Wk_come_18 rfl ?_
    exact k
  · have k := k.2 cc
    refine Rn.iconst (n := 10) (v := 0) d_Wk_come_9 rfl (by decide) ?_
    refine Rn.goto (n := 19) d_Wk_come_10 (by decide) ?_
    exact k
theorem g_Wk_come_19 {X : XS} (a0 : List Nat) (a1 : List Nat) (a2 : Int32) (s0 : Int32) (h : Hp) (Q : Option AV → Hp → Prop) (w_a0 : IsWk a0) (w_a1 : IsPl a1) (k : (vp_in a2 6 ∧ (∃ Q'5, EvI X m_Wk_whoIsAt [vR a0, vI ((4 * s0) + (h.1 (4 :: a1) a2.toNatClampNeg))] h Q'5 ∧ ∀ (r6 : Int32) (h4 : Hp), Q'5 r6 h4 → ((¬ r6 = (-1) → Q none h4) ∧ (r6 = (-1) → (vp_in a2 6 ∧ Q none (hsI h4 (3 :: a0) a2.toNatClampNeg ((4 * s0) + (h.1 (4 :: a1) a2.toNatClampNeg))))))))) : Rn X m_Wk_come 19 [some (vR a0), some (vR a1), some (vI a2), none, none] [vI s0] h Q := by
  refine Rn.istore_n (n := 20) (i := 3) (ls2 := [some (vR a0), some (vR a1), some (vI a2), some (vI s0), none]) d_Wk_come_19 rfl rfl (Nat.le_of_ble_eq_true rfl) rfl ?_
  refine Rn.iconst (n := 21) (v := 4) d_Wk_come_20 rfl (by decide) ?_
  refine Rn.iload_n (n := 22) (i := 3) d_Wk_come_21 rfl rfl rfl ?_
  refine Rn.imul (n := 23) d_Wk_come_22 rfl ?_
  refine Rn.aload_n (n := 24) (i := 1) d_Wk_come_23 rfl rfl rfl ?_
  refine Rn.getf (n := 27) (v := vR (4 :: a1)) d_Wk_come_24 rfl fl_Wk_87 w_a1.s rfl ?_
  refine Rn.iload_n (n := 28) (i := 2) d_Wk_come_27 rfl rfl rfl ?_
  obtain ⟨b1, k⟩ := k
  refine Rn.iald (n := 29) (v := h.1 (4 :: a1) a2.toNatClampNeg) d_Wk_come_28 rfl w_a1.c4 b1 rfl ?_
  refine Rn.iadd (n := 30) d_Wk_come_29 rfl ?_
  refine Rn.istore (n := 32) (i := 4) (ls2 := [some (vR a0), some (vR a1), some (vI a2), some (vI s0), some (vI ((4 * s0) + (h.1 (4 :: a1) a2.toNatClampNeg)))]) d_Wk_come_30 rfl (Nat.le_of_ble_eq_true rfl) rfl ?_
  refine Rn.aload_n (n := 33) (i := 0) d_Wk_come_32 rfl rfl rfl ?_
  refine Rn.iload (n := 35) (i := 4) d_Wk_come_33 rfl rfl ?_
  obtain ⟨Q'5, ev2, k⟩ := k
  refine Rn.callV (n := 38) (av := [vI ((4 * s0) + (h.1 (4 :: a1) a2.toNatClampNeg))]) d_Wk_come_35 rfl ml_Wk_come_77 mi_Wk_whoIsAt w_a0.s rfl rfl rfl rfl (Nat.le_of_ble_eq_true rfl) ev2 (fun v h4 hq => ?_)
  obtain ⟨r6, rfl, hq⟩ := hq
  have k := k r6 h4 hq
  show Rn X m_Wk_come 38 [some (vR a0), some (vR a1), some (vI a2), some (vI s0), some (vI ((4 * s0) + (h.1 (4 :: a1) a2.toNatClampNeg)))] [vI r6] h4 Q
  refine Rn.iconst (n := 39) (v := (-1)) d_Wk_come_38 rfl (by decide) ?_
  refine Rn.icmp_ne (n := 42) (t := 50) d_Wk_come_39 rfl (by decide) (fun cc => ?_) (fun cc => ?_)
  · have k := k.1 cc
    exact Rn.vret d_Wk_come_50 rfl k
  · have k := k.2 cc
    refine Rn.aload_n (n := 43) (i := 0) d_Wk_come_42 rfl rfl rfl ?_
    refine Rn.getf (n := 46) (v := vR (3 :: a0)) d_Wk_come_43 rfl fl_Wk_9 w_a0.s rfl ?_
    refine Rn.iload_n (n := 47) (i := 2) d_Wk_come_46 rfl rfl rfl ?_
    refine Rn.iload (n := 49) (i := 4) d_Wk_come_47 rfl rfl ?_
    obtain ⟨b7, k⟩ := k
    refine Rn.iast (n := 50) d_Wk_come_49 rfl w_a0.c3 b7 ?_
    exact Rn.vret d_Wk_come_50 rfl k
theorem e_Wk_come {X : XS} (a0 : List Nat) (a1 : List Nat) (a2 : Int32) (h : Hp) (Q : Option AV → Hp → Prop) (k : Rn X m_Wk_come 0 [some (vR a0), some (vR a1), some (vI a2), none, none] [] h Q) : Ev X m_Wk_come [vR a0, vR a1, vI a2] h Q := Ev.intro (plainFor_of_name (by decide +kernel)) (Nat.le_of_ble_eq_true rfl) (ls := [some (vR a0), some (vR a1), some (vI a2), none, none]) rfl k
theorem d_Wk_poke_0 : decode m_Wk_poke.2.1 0 = .ok (.iconst 0, 1) := by decide +kernel
theorem d_Wk_poke_1 : decode m_Wk_poke.2.1 1 = .ok (.istore_n 2, 1) := by decide +kernel
theorem d_Wk_poke_2 : decode m_Wk_poke.2.1 2 = .ok (.iload_n 2, 1) := by decide +kernel
theorem d_Wk_poke_3 : decode m_Wk_poke.2.1 3 = .ok (.bipush 6, 2) := by decide +kernel
theorem d_Wk_poke_5 : decode m_Wk_poke.2.1 5 = .ok (.if_icmp .ge 78, 3) := by decide +kernel
theorem d_Wk_poke_8 : decode m_Wk_poke.2.1 8 = .ok (.iconst 0, 1) := by decide +kernel
theorem d_Wk_poke_9 : decode m_Wk_poke.2.1 9 = .ok (.istore_n 3, 1) := by decide +kernel
theorem d_Wk_poke_10 : decode m_Wk_poke.2.1 10 = .ok (.iload_n 3, 1) := by decide +kernel
theorem d_Wk_poke_11 : decode m_Wk_poke.2.1 11 = .ok (.iload_n 2, 1) := by decide +kernel
theorem d_Wk_poke_12 : decode m_Wk_poke.2.1 12 = .ok (.if_icmp .ge 65, 3) := by decide +kernel
theorem d_Wk_poke_15 : decode m_Wk_poke.2.1 15 = .ok (.aload_n 0, 1) := by decide +kernel
theorem d_Wk_poke_16 : decode m_Wk_poke.2.1 16 = .ok (.iload_n 3, 1) := by decide +kernel
theorem d_Wk_poke_17 : decode m_Wk_poke.2.1 17 = .ok (.invokevirtual 41, 3) := by decide +kernel
theorem d_Wk_poke_20 : decode m_Wk_poke.2.1 20 = .ok (.ifCond .eq 51, 3) := by decide +kernel
theorem d_Wk_poke_23 : decode m_Wk_poke.2.1 23 = .ok (.aload_n 0, 1) := by decide +kernel
theorem d_Wk_poke_24 : decode m_Wk_poke.2.1 24 = .ok (.iload_n 2, 1) := by decide +kernel
theorem d_Wk_poke_25 : decode m_Wk_poke.2.1 25 = .ok (.invokevirtual 41, 3) := by decide +kernel
theorem d_Wk_poke_28 : decode m_Wk_poke.2.1 28 = .ok (.ifCond .eq 43, 3) := by decide +kernel
theorem d_Wk_poke_31 : decode m_Wk_poke.2.1 31 = .ok (.aload_n 0, 1) := by decide +kernel
theorem d_Wk_poke_32 : decode m_Wk_poke.2.1 32 = .ok (.aload_n 1, 1) := by decide +kernel
theorem d_Wk_poke_33 : decode m_Wk_poke.2.1 33 = .ok (.iload_n 3, 1) := by decide +kernel
theorem d_Wk_poke_34 : decode m_Wk_poke.2.1 34 = .ok (.iload_n 2, 1) := by decide +kernel
theorem d_Wk_poke_35 : decode m_Wk_poke.2.1 35 = .ok (.invokevirtual 90, 3) := by decide +kernel
theorem d_Wk_poke_38 : decode m_Wk_poke.2.1 38 = .ok (.ifCond .eq 33, 3) := by decide +kernel
theorem d_Wk_poke_41 : decode m_Wk_poke.2.1 41 = .ok (.aload_n 0, 1) := by decide +kernel
theorem d_Wk_poke_42 : decode m_Wk_poke.2.1 42 = .ok (.getfield 22, 3) := by decide +kernel
theorem d_Wk_poke_45 : decode m_Wk_poke.2.1 45 = .ok (.iload_n 3, 1) := by decide +kernel
theorem d_Wk_poke_46 : decode m_Wk_poke.2.1 46 = .ok (.dup2, 1) := by decide +kernel
theorem d_Wk_poke_47 : decode m_Wk_poke.2.1 47 = .ok (.iaload, 1) := by decide +kernel
theorem d_Wk_poke_48 : decode m_Wk_poke.2.1 48 = .ok (.iconst 1, 1) := by decide +kernel
theorem d_Wk_poke_49 : decode m_Wk_poke.2.1 49 = .ok (.iadd, 1) := by decide +kernel
theorem d_Wk_poke_50 : decode m_Wk_poke.2.1 50 = .ok (.iastore, 1) := by decide +kernel
theorem d_Wk_poke_51 : decode m_Wk_poke.2.1 51 = .ok (.aload_n 0, 1) := by decide +kernel
theorem d_Wk_poke_52 : decode m_Wk_poke.2.1 52 = .ok (.getfield 22, 3) := by decide +kernel
theorem d_Wk_poke_55 : decode m_Wk_poke.2.1 55 = .ok (.iload_n 2, 1) := by decide +kernel
theorem d_Wk_poke_56 : decode m_Wk_poke.2.1 56 = .ok (.dup2, 1) := by decide +kernel
theorem d_Wk_poke_57 : decode m_Wk_poke.2.1 57 = .ok (.iaload, 1) := by decide +kernel
theorem d_Wk_poke_58 : decode m_Wk_poke.2.1 58 = .ok (.iconst 1, 1) := by decide +kernel
theorem d_Wk_poke_59 : decode m_Wk_poke.2.1 59 = .ok (.iadd, 1) := by decide +kernel
theorem d_Wk_poke_60 : decode m_Wk_poke.2.1 60 = .ok (.iastore, 1) := by decide +kernel
theorem d_Wk_poke_61 : decode m_Wk_poke.2.1 61 = .ok (.aload_n 0, 1) := by decide +kernel
theorem d_Wk_poke_62 : decode m_Wk_poke.2.1 62 = .ok (.dup, 1) := by decide +kernel
theorem d_Wk_poke_63 : decode m_Wk_poke.2.1 63 = .ok (.getfield 38, 3) := by decide +kernel
theorem d_Wk_poke_66 : decode m_Wk_poke.2.1 66 = .ok (.iconst 1, 1) := by decide +kernel
theorem d_Wk_poke_67 : decode m_Wk_poke.2.1 67 = .ok (.iadd, 1) := by decide +kernel
theorem d_Wk_poke_68 : decode m_Wk_poke.2.1 68 = .ok (.putfield 38, 3) := by decide +kernel
theorem d_Wk_poke_71 : decode m_Wk_poke.2.1 71 = .ok (.iinc 3 1, 3) := by decide +kernel
theorem d_Wk_poke_74 : decode m_Wk_poke.2.1 74 = .ok (.goto (-64), 3) := by decide +kernel
theorem d_Wk_poke_77 : decode m_Wk_poke.2.1 77 = .ok (.iinc 2 1, 3) := by decide +kernel
theorem d_Wk_poke_80 : decode m_Wk_poke.2.1 80 = .ok (.goto (-78), 3) := by decide +kernel
theorem d_Wk_poke_83 : decode m_Wk_poke.2.1 83 = .ok (.return_, 1) := by decide +kernel
theorem g_Wk_poke_0 {X : XS} (a0 : List Nat) (a1 : List Nat) (h : Hp) (Q : Option AV → Hp → Prop) (w_a0 : IsWk a0) (w_a1 : IsPl a1) (k : Rn X m_Wk_poke 2 [some (vR a0), some (vR a1), some (vI 0), none] [] h Q) : Rn X m_Wk_poke 0 [some (vR a0), some (vR a1), none, none] [] h Q := by
  refine Rn.iconst (n := 1) (v := 0) d_Wk_poke_0 rfl (by decide) ?_
  refine Rn.istore_n (n := 2) (i := 2) (ls2 := [some (vR a0), some (vR a1), some (vI 0), none]) d_Wk_poke_1 rfl rfl (Nat.le_of_ble_eq_true rfl) rfl ?_
  exact k
theorem g_Wk_poke_2 {X : XS} (a0 : List Nat) (a1 : List Nat) (a2 : Int32) (h : Hp) (Q : Option AV → Hp → Prop) (w_a0 : IsWk a0) (w_a1 : IsPl a1) (k : ((6 ≤ a2 → Q none h) ∧ (¬ 6 ≤ a2 → Rn X m_Wk_poke 10 [some (vR a0), some (vR a1), some (vI a2), some (vI 0)] [] h Q))) : Rn X m_Wk_poke 2 [some (vR a0), some (vR a1), some (vI a2), none] [] h Q := by
  refine Rn.iload_n (n := 3) (i := 2) d_Wk_poke_2 rfl rfl rfl ?_
  refine Rn.bipush (n := 5) (v := 6) d_Wk_poke_3 rfl (by decide) ?_
  refine Rn.icmp_ge (n := 8) (t := 83) d_Wk_poke_5 rfl (by decide) (fun cc => ?_) (fun cc => ?_)
  · have k := k.1 cc
    exact Rn.vret d_Wk_poke_83 rfl k
  · have k := k.2 cc
    refine Rn.iconst (n := 9) (v := 0) d_Wk_poke_8 rfl (by decide) ?_
    refine Rn.istore_n (n := 10) (i := 3) (ls2 := [some (vR a0), some (vR a1), some (vI a2), some (vI 0)]) d_Wk_poke_9 rfl rfl (Nat.le_of_ble_eq_true rfl) rfl ?_
    exact k
theorem g_Wk_poke_10 {X : XS} (a0 : List Nat) (a1 : List Nat) (a2 : Int32) (a3 : Int32) (h : Hp) (Q : Option AV → Hp → Prop) (w_a0 : IsWk a0) (w_a1 : IsPl a1) (k : ((a2 ≤ a3 → Rn X m_Wk_poke 2 [some (vR a0), some (vR a1), some (vI (a2 + 1)), none] [] h Q) ∧ (¬ a2 ≤ a3 → (∃ Q'4, EvI X m_Wk_isOn [vR a0, vI a3] h Q'4 ∧ ∀ (r5 : Int32) (h3 : Hp), Q'4 r5 h3 → ((r5 = 0 → Rn X m_Wk_poke 10 [some (vR a0), some (vR a1), some (vI a2), some (vI (a3 + 1))] [] h3 Q) ∧ (¬ r5 = 0 → (∃ Q'9, EvI X m_Wk_isOn [vR a0, vI a2] h3 Q'9 ∧ ∀ (r10 : Int32) (h8 : Hp), Q'9 r10 h8 → ((r10 = 0 → Rn X m_Wk_poke 10 [some (vR a0), some (vR a1), some (vI a2), some (vI (a3 + 1))] [] h8 Q) ∧ (¬ r10 = 0 → (∃ Q'14, EvI X m_Wk_isPoking [vR a0, vR a1, vI a3, vI a2] h8 Q'14 ∧ ∀ (r15 : Int32) (h13 : Hp), Q'14 r15 h13 → ((r15 = 0 → Rn X m_Wk_poke 10 [some (vR a0), some (vR a1), some (vI a2), some (vI (a3 + 1))] [] h13 Q) ∧ (¬ r15 = 0 → (vp_in a3 6 ∧ (vp_in a3 6 ∧ (vp_in a2 6 ∧ (vp_in a2 6 ∧ Rn X m_Wk_poke 10 [some (vR a0), some (vR a1), some (vI a2), some (vI (a3 + 1))] [] (hsI (hsI (hsI h13 (6 :: a0) a3.toNatClampNeg ((h13.1 (6 :: a0) a3.toNatClampNeg) + 1)) (6 :: a0) a2.toNatClampNeg (((hsI h13 (6 :: a0) a3.toNatClampNeg ((h13.1 (6 :: a0) a3.toNatClampNeg) + 1)).1 (6 :: a0) a2.toNatClampNeg) + 1)) a0 2 (((hsI (hsI h13 (6 :: a0) a3.toNatClampNeg ((h13.1 (6 :: a0) a3.toNatClampNeg) + 1)) (6 :: a0) a2.toNatClampNeg (((hsI h13 (6 :: a0) a3.toNatClampNeg ((h13.1 (6 :: a0) a3.toNatClampNeg) + 1)).1 (6 :: a0) a2.toNatClampNeg) + 1)).1 a0 2) + 1)) Q)))))))))))))))) : Rn X m_Wk_poke 10 [some (vR a0), some (vR a1), some (vI a2), some (vI a3)] [] h Q := by
  refine Rn.iload_n (n := 11) (i := 3) d_Wk_poke_10 rfl rfl rfl ?_
  refine Rn.iload_n (n := 12) (i := 2) d_Wk_poke_11 rfl rfl rfl ?_
  refine Rn.icmp_ge (n := 15) (t := 77) d_Wk_poke_12 rfl (by decide) (fun cc => ?_) (fun cc => ?_)
  · have k := k.1 cc
    refine Rn.iinc (n := 80) (i := 2) (v := a2 + 1) (ls2 := [some (vR a0), some (vR a1), some (vI (a2 + 1)), some (vI a3)]) d_Wk_poke_77 rfl rfl rfl (Nat.le_of_ble_eq_true rfl) rfl ?_
    refine Rn.goto (n := 2) d_Wk_poke_80 (by decide) ?_
    exact Rn.loc [some (vR a0), some (vR a1), some (vI (a2 + 1)), none] (LLe_ok ⟨rfl, ⟨rfl, ⟨rfl, trivial⟩⟩⟩) k
  · have k := k.2 cc
    refine Rn.aload_n (n := 16) (i := 0) d_Wk_poke_15 rfl rfl rfl ?_
    refine Rn.iload_n (n := 17) (i := 3) d_Wk_poke_16 rfl rfl rfl ?_
    obtain ⟨Q'4, ev1, k⟩ := k
    refine Rn.callV (n := 20) (av := [vI a3]) d_Wk_poke_17 rfl ml_Wk_poke_41 mi_Wk_isOn w_a0.s rfl rfl rfl rfl (Nat.le_of_ble_eq_true rfl) ev1 (fun v h3 hq => ?_)
    obtain ⟨r5, rfl, hq⟩ := hq
    have k := k r5 h3 hq
    show Rn X m_Wk_poke 20 [some (vR a0), some (vR a1), some (vI a2), some (vI a3)] [vI r5] h3 Q
    refine Rn.if_eq (n := 23) (t := 71) d_Wk_poke_20 rfl (by decide) (fun cc => ?_) (fun cc => ?_)
    · have k := k.1 cc
      refine Rn.iinc (n := 74) (i := 3) (v := a3 + 1) (ls2 := [some (vR a0), some (vR a1), some (vI a2), some (vI (a3 + 1))]) d_Wk_poke_71 rfl rfl rfl (Nat.le_of_ble_eq_true rfl) rfl ?_
      refine Rn.goto (n := 10) d_Wk_poke_74 (by decide) ?_
      exact k
    · have k := k.2 cc
      refine Rn.aload_n (n := 24) (i := 0) d_Wk_poke_23 rfl rfl rfl ?_
      refine Rn.iload_n (n := 25) (i := 2) d_Wk_poke_24 rfl rfl rfl ?_
      obtain ⟨Q'9, ev6, k⟩ := k
      refine Rn.callV (n := 28) (av := [vI a2]) d_Wk_poke_25 rfl ml_Wk_poke_41 mi_Wk_isOn w_a0.s rfl rfl rfl rfl (Nat.le_of_ble_eq_true rfl) ev6 (fun v h8 hq => ?_)
      obtain ⟨r10, rfl, hq⟩ := hq
      have k := k r10 h8 hq
      show Rn X m_Wk_poke 28 [some (vR a0), some (vR a1), some (vI a2), some (vI a3)] [vI r10] h8 Q
      refine Rn.if_eq (n := 31) (t := 71) d_Wk_poke_28 rfl (by decide) (fun cc => ?_) (fun cc => ?_)
      · have k := k.1 cc
        refine Rn.iinc (n := 74) (i := 3) (v := a3 + 1) (ls2 := [some (vR a0), some (vR a1), some (vI a2), some (vI (a3 + 1))]) d_Wk_poke_71 rfl rfl rfl (Nat.le_of_ble_eq_true rfl) rfl ?_
        refine Rn.goto (n := 10) d_Wk_poke_74 (by decide) ?_
        exact k
      · have k := k.2 cc
        refine Rn.aload_n (n := 32) (i := 0) d_Wk_poke_31 rfl rfl rfl ?_
        refine Rn.aload_n (n := 33) (i := 1) d_Wk_poke_32 rfl rfl rfl ?_
        refine Rn.iload_n (n := 34) (i := 3) d_Wk_poke_33 rfl rfl rfl ?_
        refine Rn.iload_n (n := 35) (i := 2) d_Wk_poke_34 rfl rfl rfl ?_
        obtain ⟨Q'14, ev11, k⟩ := k
        refine Rn.callV (n := 38) (av := [vR a1, vI a3, vI a2]) d_Wk_poke_35 rfl ml_Wk_poke_90 mi_Wk_isPoking w_a0.s rfl rfl rfl rfl (Nat.le_of_ble_eq_true rfl) ev11 (fun v h13 hq => ?_)
        obtain ⟨r15, rfl, hq⟩ := hq
        have k := k r15 h13 hq
        show Rn X m_Wk_poke 38 [some (vR a0), some (vR a1), some (vI a2), some (vI a3)] [vI r15] h13 Q
        refine Rn.if_eq (n := 41) (t := 71) d_Wk_poke_38 rfl (by decide) (fun cc => ?_) (fun cc => ?_)
        · have k := k.1 cc
          refine Rn.iinc (n := 74) (i := 3) (v := a3 + 1) (ls2 := [some (vR a0), some (vR a1), some (vI a2), some (vI (a3 + 1))]) d_Wk_poke_71 rfl rfl rfl (Nat.le_of_ble_eq_true rfl) rfl ?_
          refine Rn.goto (n := 10) d_Wk_poke_74 (by decide) ?_
          exact k
        · have k := k.2 cc
          refine Rn.aload_n (n := 42) (i := 0) d_Wk_poke_41 rfl rfl rfl ?_
          refine Rn.getf (n := 45) (v := vR (6 :: a0)) d_Wk_poke_42 rfl fl_Wk_22 w_a0.s rfl ?_
          refine Rn.iload_n (n := 46) (i := 3) d_Wk_poke_45 rfl rfl rfl ?_
          refine Rn.dup2 (n := 47) d_Wk_poke_46 rfl rfl rfl ?_
          obtain ⟨b16, k⟩ := k
          refine Rn.iald (n := 48) (v := h13.1 (6 :: a0) a3.toNatClampNeg) d_Wk_poke_47 rfl w_a0.c6 b16 rfl ?_
          refine Rn.iconst (n := 49) (v := 1) d_Wk_poke_48 rfl (by decide) ?_
          refine Rn.iadd (n := 50) d_Wk_poke_49 rfl ?_
          obtain ⟨b17, k⟩ := k
          refine Rn.iast (n := 51) d_Wk_poke_50 rfl w_a0.c6 b17 ?_
          refine Rn.aload_n (n := 52) (i := 0) d_Wk_poke_51 rfl rfl rfl ?_
          refine Rn.getf (n := 55) (v := vR (6 :: a0)) d_Wk_poke_52 rfl fl_Wk_22 w_a0.s rfl ?_
          refine Rn.iload_n (n := 56) (i := 2) d_Wk_poke_55 rfl rfl rfl ?_
          refine Rn.dup2 (n := 57) d_Wk_poke_56 rfl rfl rfl ?_
          obtain ⟨b18, k⟩ := k
          refine Rn.iald (n := 58) (v := (hsI h13 (6 :: a0) a3.toNatClampNeg ((h13.1 (6 :: a0) a3.toNatClampNeg) + 1)).1 (6 :: a0) a2.toNatClampNeg) d_Wk_poke_57 rfl w_a0.c6 b18 rfl ?_
          refine Rn.iconst (n := 59) (v := 1) d_Wk_poke_58 rfl (by decide) ?_
          refine Rn.iadd (n := 60) d_Wk_poke_59 rfl ?_
          obtain ⟨b19, k⟩ := k
          refine Rn.iast (n := 61) d_Wk_poke_60 rfl w_a0.c6 b19 ?_
          refine Rn.aload_n (n := 62) (i := 0) d_Wk_poke_61 rfl rfl rfl ?_
          refine Rn.dup (n := 63) d_Wk_poke_62 rfl rfl ?_
          refine Rn.getf (n := 66) (v := vI ((hsI (hsI h13 (6 :: a0) a3.toNatClampNeg ((h13.1 (6 :: a0) a3.toNatClampNeg) + 1)) (6 :: a0) a2.toNatClampNeg (((hsI h13 (6 :: a0) a3.toNatClampNeg ((h13.1 (6 :: a0) a3.toNatClampNeg) + 1)).1 (6 :: a0) a2.toNatClampNeg) + 1)).1 a0 2)) d_Wk_poke_63 rfl fl_Wk_38 w_a0.s rfl ?_
          refine Rn.iconst (n := 67) (v := 1) d_Wk_poke_66 rfl (by decide) ?_
          refine Rn.iadd (n := 68) d_Wk_poke_67 rfl ?_
          refine Rn.putI (n := 71) d_Wk_poke_68 rfl fl_Wk_38 pl_Wk_2 w_a0.s rfl ?_
          refine Rn.iinc (n := 74) (i := 3) (v := a3 + 1) (ls2 := [some (vR a0), some (vR a1), some (vI a2), some (vI (a3 + 1))]) d_Wk_poke_71 rfl rfl rfl (Nat.le_of_ble_eq_true rfl) rfl ?_
          refine Rn.goto (n := 10) d_Wk_poke_74 (by decide) ?_
          exact k
theorem e_Wk_poke {X : XS} (a0 : List Nat) (a1 : List Nat) (h : Hp) (Q : Option AV → Hp → Prop) (k : Rn X m_Wk_poke 0 [some (vR a0), some (vR a1), none, none] [] h Q) : Ev X m_Wk_poke [vR a0, vR a1] h Q := Ev.intro (plainFor_of_name (by decide +kernel)) (Nat.le_of_ble_eq_true rfl) (ls := [some (vR a0), some (vR a1), none, none]) rfl k
theorem d_Wk_isPoking_0 : decode m_Wk_isPoking.2.1 0 = .ok (.aload_n 1, 1) := by decide +kernel
theorem d_Wk_isPoking_1 : decode m_Wk_isPoking.2.1 1 = .ok (.getfield 94, 3) := by decide +kernel
theorem d_Wk_isPoking_4 : decode m_Wk_isPoking.2.1 4 = .ok (.iload_n 2, 1) := by decide +kernel
theorem d_Wk_isPoking_5 : decode m_Wk_isPoking.2.1 5 = .ok (.iaload, 1) := by decide +kernel
theorem d_Wk_isPoking_6 : decode m_Wk_isPoking.2.1 6 = .ok (.ifCond .eq 12, 3) := by decide +kernel
theorem d_Wk_isPoking_9 : decode m_Wk_isPoking.2.1 9 = .ok (.aload_n 1, 1) := by decide +kernel
theorem d_Wk_isPoking_10 : decode m_Wk_isPoking.2.1 10 = .ok (.getfield 94, 3) := by decide +kernel
theorem d_Wk_isPoking_13 : decode m_Wk_isPoking.2.1 13 = .ok (.iload_n 3, 1) := by decide +kernel
theorem d_Wk_isPoking_14 : decode m_Wk_isPoking.2.1 14 = .ok (.iaload, 1) := by decide +kernel
theorem d_Wk_isPoking_15 : decode m_Wk_isPoking.2.1 15 = .ok (.ifCond .ne 5, 3) := by decide +kernel
theorem d_Wk_isPoking_18 : decode m_Wk_isPoking.2.1 18 = .ok (.iconst 0, 1) := by decide +kernel
theorem d_Wk_isPoking_19 : decode m_Wk_isPoking.2.1 19 = .ok (.ireturn, 1) := by decide +kernel
theorem d_Wk_isPoking_20 : decode m_Wk_isPoking.2.1 20 = .ok (.aload_n 1, 1) := by decide +kernel
theorem d_Wk_isPoking_21 : decode m_Wk_isPoking.2.1 21 = .ok (.getfield 97, 3) := by decide +kernel
theorem d_Wk_isPoking_24 : decode m_Wk_isPoking.2.1 24 = .ok (.iload_n 2, 1) := by decide +kernel
theorem d_Wk_isPoking_25 : decode m_Wk_isPoking.2.1 25 = .ok (.iaload, 1) := by decide +kernel
theorem d_Wk_isPoking_26 : decode m_Wk_isPoking.2.1 26 = .ok (.aload_n 1, 1) := by decide +kernel
theorem d_Wk_isPoking_27 : decode m_Wk_isPoking.2.1 27 = .ok (.getfield 97, 3) := by decide +kernel
theorem d_Wk_isPoking_30 : decode m_Wk_isPoking.2.1 30 = .ok (.iload_n 3, 1) := by decide +kernel
theorem d_Wk_isPoking_31 : decode m_Wk_isPoking.2.1 31 = .ok (.iaload, 1) := by decide +kernel
theorem d_Wk_isPoking_32 : decode m_Wk_isPoking.2.1 32 = .ok (.isub, 1) := by decide +kernel
theorem d_Wk_isPoking_33 : decode m_Wk_isPoking.2.1 33 = .ok (.invokestatic 100, 3) := by decide +kernel
theorem d_Wk_isPoking_36 : decode m_Wk_isPoking.2.1 36 = .ok (.iconst 2, 1) := by decide +kernel
theorem d_Wk_isPoking_37 : decode m_Wk_isPoking.2.1 37 = .ok (.if_icmp .ge 41, 3) := by decide +kernel
theorem d_Wk_isPoking_40 : decode m_Wk_isPoking.2.1 40 = .ok (.aload_n 0, 1) := by decide +kernel
theorem d_Wk_isPoking_41 : decode m_Wk_isPoking.2.1 41 = .ok (.iload_n 2, 1) := by decide +kernel
theorem d_Wk_isPoking_42 : decode m_Wk_isPoking.2.1 42 = .ok (.iload_n 3, 1) := by decide +kernel
theorem d_Wk_isPoking_43 : decode m_Wk_isPoking.2.1 43 = .ok (.invokevirtual 105, 3) := by decide +kernel
theorem d_Wk_isPoking_46 : decode m_Wk_isPoking.2.1 46 = .ok (.iconst 1, 1) := by decide +kernel
theorem d_Wk_isPoking_47 : decode m_Wk_isPoking.2.1 47 = .ok (.if_icmp .gt 31, 3) := by decide +kernel
theorem d_Wk_isPoking_50 : decode m_Wk_isPoking.2.1 50 = .ok (.aload_n 0, 1) := by decide +kernel
theorem d_Wk_isPoking_51 : decode m_Wk_isPoking.2.1 51 = .ok (.iload_n 2, 1) := by decide +kernel
theorem d_Wk_isPoking_52 : decode m_Wk_isPoking.2.1 52 = .ok (.iload_n 3, 1) := by decide +kernel
theorem d_Wk_isPoking_53 : decode m_Wk_isPoking.2.1 53 = .ok (.invokevirtual 109, 3) := by decide +kernel
theorem d_Wk_isPoking_56 : decode m_Wk_isPoking.2.1 56 = .ok (.aload_n 1, 1) := by decide +kernel
theorem d_Wk_isPoking_57 : decode m_Wk_isPoking.2.1 57 = .ok (.getfield 94, 3) := by decide +kernel
theorem d_Wk_isPoking_60 : decode m_Wk_isPoking.2.1 60 = .ok (.iload_n 2, 1) := by decide +kernel
theorem d_Wk_isPoking_61 : decode m_Wk_isPoking.2.1 61 = .ok (.iaload, 1) := by decide +kernel
theorem d_Wk_isPoking_62 : decode m_Wk_isPoking.2.1 62 = .ok (.aload_n 1, 1) := by decide +kernel
theorem d_Wk_isPoking_63 : decode m_Wk_isPoking.2.1 63 = .ok (.getfield 94, 3) := by decide +kernel
theorem d_Wk_isPoking_66 : decode m_Wk_isPoking.2.1 66 = .ok (.iload_n 3, 1) := by decide +kernel
theorem d_Wk_isPoking_67 : decode m_Wk_isPoking.2.1 67 = .ok (.iaload, 1) := by decide +kernel
theorem d_Wk_isPoking_68 : decode m_Wk_isPoking.2.1 68 = .ok (.invokestatic 112, 3) := by decide +kernel
theorem d_Wk_isPoking_71 : decode m_Wk_isPoking.2.1 71 = .ok (.if_icmp .gt 7, 3) := by decide +kernel
theorem d_Wk_isPoking_74 : decode m_Wk_isPoking.2.1 74 = .ok (.iconst 1, 1) := by decide +kernel
theorem d_Wk_isPoking_75 : decode m_Wk_isPoking.2.1 75 = .ok (.goto 4, 3) := by decide +kernel
theorem d_Wk_isPoking_78 : decode m_Wk_isPoking.2.1 78 = .ok (.iconst 0, 1) := by decide +kernel
theorem d_Wk_isPoking_79 : decode m_Wk_isPoking.2.1 79 = .ok (.ireturn, 1) := by decide +kernel
theorem g_Wk_isPoking_0 {X : XS} (a0 : List Nat) (a1 : List Nat) (a2 : Int32) (a3 : Int32) (h : Hp) (Q : Option AV → Hp → Prop) (w_a0 : IsWk a0) (w_a1 : IsPl a1) (k : (vp_in a2 6 ∧ (((h.1 (8 :: a1) a2.toNatClampNeg) = 0 → Q (some (vI 0)) h) ∧ (¬ (h.1 (8 :: a1) a2.toNatClampNeg) = 0 → (vp_in a3 6 ∧ ((¬ (h.1 (8 :: a1) a3.toNatClampNeg) = 0 → (vp_in a2 6 ∧ (vp_in a3 6 ∧ ((2 ≤ (iAbs ((h.1 (7 :: a1) a2.toNatClampNeg) - (h.1 (7 :: a1) a3.toNatClampNeg))) → Q (some (vI 0)) h) ∧ (¬ 2 ≤ (iAbs ((h.1 (7 :: a1) a2.toNatClampNeg) - (h.1 (7 :: a1) a3.toNatClampNeg))) → (∃ Q'8, EvI X m_Wk_placesApart [vR a0, vI a2, vI a3] h Q'8 ∧ ∀ (r9 : Int32) (h7 : Hp), Q'8 r9 h7 → ((1 < r9 → Q (some (vI 0)) h7) ∧ (¬ 1 < r9 → (∃ Q'13, EvI X m_Wk_lanesApart [vR a0, vI a2, vI a3] h7 Q'13 ∧ ∀ (r14 : Int32) (h12 : Hp), Q'13 r14 h12 → (vp_in a2 6 ∧ (vp_in a3 6 ∧ (((iMax (h12.1 (8 :: a1) a2.toNatClampNeg) (h12.1 (8 :: a1) a3.toNatClampNeg)) < r14 → Q (some (vI 0)) h12) ∧ (¬ (iMax (h12.1 (8 :: a1) a2.toNatClampNeg) (h12.1 (8 :: a1) a3.toNatClampNeg)) < r14 → Q (some (vI 1)) h12))))))))))))) ∧ ((h.1 (8 :: a1) a3.toNatClampNeg) = 0 → Q (some (vI 0)) h))))))) : Rn X m_Wk_isPoking 0 [some (vR a0), some (vR a1), some (vI a2), some (vI a3)] [] h Q := by
  refine Rn.aload_n (n := 1) (i := 1) d_Wk_isPoking_0 rfl rfl rfl ?_
  refine Rn.getf (n := 4) (v := vR (8 :: a1)) d_Wk_isPoking_1 rfl fl_Wk_94 w_a1.s rfl ?_
  refine Rn.iload_n (n := 5) (i := 2) d_Wk_isPoking_4 rfl rfl rfl ?_
  obtain ⟨b1, k⟩ := k
  refine Rn.iald (n := 6) (v := h.1 (8 :: a1) a2.toNatClampNeg) d_Wk_isPoking_5 rfl w_a1.c8 b1 rfl ?_
  refine Rn.if_eq (n := 9) (t := 18) d_Wk_isPoking_6 rfl (by decide) (fun cc => ?_) (fun cc => ?_)
  · have k := k.1 cc
    refine Rn.iconst (n := 19) (v := 0) d_Wk_isPoking_18 rfl (by decide) ?_
    exact Rn.iret d_Wk_isPoking_19 rfl rfl k
  · have k := k.2 cc
    refine Rn.aload_n (n := 10) (i := 1) d_Wk_isPoking_9 rfl rfl rfl ?_
    refine Rn.getf (n := 13) (v := vR (8 :: a1)) d_Wk_isPoking_10 rfl fl_Wk_94 w_a1.s rfl ?_
    refine Rn.iload_n (n := 14) (i := 3) d_Wk_isPoking_13 rfl rfl rfl ?_
    obtain ⟨b2, k⟩ := k
    refine Rn.iald (n := 15) (v := h.1 (8 :: a1) a3.toNatClampNeg) d_Wk_isPoking_14 rfl w_a1.c8 b2 rfl ?_
    refine Rn.if_ne (n := 18) (t := 20) d_Wk_isPoking_15 rfl (by decide) (fun cc => ?_) (fun cc => ?_)
    · have k := k.1 cc
      refine Rn.aload_n (n := 21) (i := 1) d_Wk_isPoking_20 rfl rfl rfl ?_
      refine Rn.getf (n := 24) (v := vR (7 :: a1)) d_Wk_isPoking_21 rfl fl_Wk_97 w_a1.s rfl ?_
      refine Rn.iload_n (n := 25) (i := 2) d_Wk_isPoking_24 rfl rfl rfl ?_
      obtain ⟨b3, k⟩ := k
      refine Rn.iald (n := 26) (v := h.1 (7 :: a1) a2.toNatClampNeg) d_Wk_isPoking_25 rfl w_a1.c7 b3 rfl ?_
      refine Rn.aload_n (n := 27) (i := 1) d_Wk_isPoking_26 rfl rfl rfl ?_
      refine Rn.getf (n := 30) (v := vR (7 :: a1)) d_Wk_isPoking_27 rfl fl_Wk_97 w_a1.s rfl ?_
      refine Rn.iload_n (n := 31) (i := 3) d_Wk_isPoking_30 rfl rfl rfl ?_
      obtain ⟨b4, k⟩ := k
      refine Rn.iald (n := 32) (v := h.1 (7 :: a1) a3.toNatClampNeg) d_Wk_isPoking_31 rfl w_a1.c7 b4 rfl ?_
      refine Rn.isub (n := 33) d_Wk_isPoking_32 rfl ?_
      refine Rn.mabs (n := 36) d_Wk_isPoking_33 rfl ml_Wk_isPoking_100 (Nat.le_of_ble_eq_true rfl) ?_
      refine Rn.iconst (n := 37) (v := 2) d_Wk_isPoking_36 rfl (by decide) ?_
      refine Rn.icmp_ge (n := 40) (t := 78) d_Wk_isPoking_37 rfl (by decide) (fun cc => ?_) (fun cc => ?_)
      · have k := k.1 cc
        refine Rn.iconst (n := 79) (v := 0) d_Wk_isPoking_78 rfl (by decide) ?_
        exact Rn.iret d_Wk_isPoking_79 rfl rfl k
      · have k := k.2 cc
        refine Rn.aload_n (n := 41) (i := 0) d_Wk_isPoking_40 rfl rfl rfl ?_
        refine Rn.iload_n (n := 42) (i := 2) d_Wk_isPoking_41 rfl rfl rfl ?_
        refine Rn.iload_n (n := 43) (i := 3) d_Wk_isPoking_42 rfl rfl rfl ?_
        obtain ⟨Q'8, ev5, k⟩ := k
        refine Rn.callV (n := 46) (av := [vI a2, vI a3]) d_Wk_isPoking_43 rfl ml_Wk_isPoking_105 mi_Wk_placesApart w_a0.s rfl rfl rfl rfl (Nat.le_of_ble_eq_true rfl) ev5 (fun v h7 hq => ?_)
        obtain ⟨r9, rfl, hq⟩ := hq
        have k := k r9 h7 hq
        show Rn X m_Wk_isPoking 46 [some (vR a0), some (vR a1), some (vI a2), some (vI a3)] [vI r9] h7 Q
        refine Rn.iconst (n := 47) (v := 1) d_Wk_isPoking_46 rfl (by decide) ?_
        refine Rn.icmp_gt (n := 50) (t := 78) d_Wk_isPoking_47 rfl (by decide) (fun cc => ?_) (fun cc => ?_)
        · have k := k.1 cc
          refine Rn.iconst (n := 79) (v := 0) d_Wk_isPoking_78 rfl (by decide) ?_
          exact Rn.iret d_Wk_isPoking_79 rfl rfl k
        · have k := k.2 cc
          refine Rn.aload_n (n := 51) (i := 0) d_Wk_isPoking_50 rfl rfl rfl ?_
          refine Rn.iload_n (n := 52) (i := 2) d_Wk_isPoking_51 rfl rfl rfl ?_
          refine Rn.iload_n (n := 53) (i := 3) d_Wk_isPoking_52 rfl rfl rfl ?_
          obtain ⟨Q'13, ev10, k⟩ := k
          refine Rn.callV (n := 56) (av := [vI a2, vI a3]) d_Wk_isPoking_53 rfl ml_Wk_isPoking_109 mi_Wk_lanesApart w_a0.s rfl rfl rfl rfl (Nat.le_of_ble_eq_true rfl) ev10 (fun v h12 hq => ?_)
          obtain ⟨r14, rfl, hq⟩ := hq
          have k := k r14 h12 hq
          show Rn X m_Wk_isPoking 56 [some (vR a0), some (vR a1), some (vI a2), some (vI a3)] [vI r14] h12 Q
          refine Rn.aload_n (n := 57) (i := 1) d_Wk_isPoking_56 rfl rfl rfl ?_
          refine Rn.getf (n := 60) (v := vR (8 :: a1)) d_Wk_isPoking_57 rfl fl_Wk_94 w_a1.s rfl ?_
          refine Rn.iload_n (n := 61) (i := 2) d_Wk_isPoking_60 rfl rfl rfl ?_
          obtain ⟨b15, k⟩ := k
          refine Rn.iald (n := 62) (v := h12.1 (8 :: a1) a2.toNatClampNeg) d_Wk_isPoking_61 rfl w_a1.c8 b15 rfl ?_
          refine Rn.aload_n (n := 63) (i := 1) d_Wk_isPoking_62 rfl rfl rfl ?_
          refine Rn.getf (n := 66) (v := vR (8 :: a1)) d_Wk_isPoking_63 rfl fl_Wk_94 w_a1.s rfl ?_
          refine Rn.iload_n (n := 67) (i := 3) d_Wk_isPoking_66 rfl rfl rfl ?_
          obtain ⟨b16, k⟩ := k
          refine Rn.iald (n := 68) (v := h12.1 (8 :: a1) a3.toNatClampNeg) d_Wk_isPoking_67 rfl w_a1.c8 b16 rfl ?_
          refine Rn.mmax (n := 71) d_Wk_isPoking_68 rfl ml_Wk_isPoking_112 (Nat.le_of_ble_eq_true rfl) ?_
          refine Rn.icmp_gt (n := 74) (t := 78) d_Wk_isPoking_71 rfl (by decide) (fun cc => ?_) (fun cc => ?_)
          · have k := k.1 cc
            refine Rn.iconst (n := 79) (v := 0) d_Wk_isPoking_78 rfl (by decide) ?_
            exact Rn.iret d_Wk_isPoking_79 rfl rfl k
          · have k := k.2 cc
            refine Rn.iconst (n := 75) (v := 1) d_Wk_isPoking_74 rfl (by decide) ?_
            refine Rn.goto (n := 79) d_Wk_isPoking_75 (by decide) ?_
            exact Rn.iret d_Wk_isPoking_79 rfl rfl k
    · have k := k.2 cc
      refine Rn.iconst (n := 19) (v := 0) d_Wk_isPoking_18 rfl (by decide) ?_
      exact Rn.iret d_Wk_isPoking_19 rfl rfl k
theorem e_Wk_isPoking {X : XS} (a0 : List Nat) (a1 : List Nat) (a2 : Int32) (a3 : Int32) (h : Hp) (Q : Option AV → Hp → Prop) (k : Rn X m_Wk_isPoking 0 [some (vR a0), some (vR a1), some (vI a2), some (vI a3)] [] h Q) : Ev X m_Wk_isPoking [vR a0, vR a1, vI a2, vI a3] h Q := Ev.intro (plainFor_of_name (by decide +kernel)) (Nat.le_of_ble_eq_true rfl) (ls := [some (vR a0), some (vR a1), some (vI a2), some (vI a3)]) rfl k
theorem d_Wk_placesApart_0 : decode m_Wk_placesApart.2.1 0 = .ok (.aload_n 0, 1) := by decide +kernel
theorem d_Wk_placesApart_1 : decode m_Wk_placesApart.2.1 1 = .ok (.getfield 9, 3) := by decide +kernel
theorem d_Wk_placesApart_4 : decode m_Wk_placesApart.2.1 4 = .ok (.iload_n 1, 1) := by decide +kernel
theorem d_Wk_placesApart_5 : decode m_Wk_placesApart.2.1 5 = .ok (.iaload, 1) := by decide +kernel
theorem d_Wk_placesApart_6 : decode m_Wk_placesApart.2.1 6 = .ok (.iconst 4, 1) := by decide +kernel
theorem d_Wk_placesApart_7 : decode m_Wk_placesApart.2.1 7 = .ok (.idiv, 1) := by decide +kernel
theorem d_Wk_placesApart_8 : decode m_Wk_placesApart.2.1 8 = .ok (.aload_n 0, 1) := by decide +kernel
theorem d_Wk_placesApart_9 : decode m_Wk_placesApart.2.1 9 = .ok (.getfield 9, 3) := by decide +kernel
theorem d_Wk_placesApart_12 : decode m_Wk_placesApart.2.1 12 = .ok (.iload_n 2, 1) := by decide +kernel
theorem d_Wk_placesApart_13 : decode m_Wk_placesApart.2.1 13 = .ok (.iaload, 1) := by decide +kernel
theorem d_Wk_placesApart_14 : decode m_Wk_placesApart.2.1 14 = .ok (.iconst 4, 1) := by decide +kernel
theorem d_Wk_placesApart_15 : decode m_Wk_placesApart.2.1 15 = .ok (.idiv, 1) := by decide +kernel
theorem d_Wk_placesApart_16 : decode m_Wk_placesApart.2.1 16 = .ok (.isub, 1) := by decide +kernel
theorem d_Wk_placesApart_17 : decode m_Wk_placesApart.2.1 17 = .ok (.invokestatic 100, 3) := by decide +kernel
theorem d_Wk_placesApart_20 : decode m_Wk_placesApart.2.1 20 = .ok (.ireturn, 1) := by decide +kernel
theorem g_Wk_placesApart_0 {X : XS} (a0 : List Nat) (a1 : Int32) (a2 : Int32) (h : Hp) (Q : Option AV → Hp → Prop) (w_a0 : IsWk a0) (k : (vp_in a1 6 ∧ (vp_in a2 6 ∧ Q (some (vI (iAbs (((h.1 (3 :: a0) a1.toNatClampNeg) / 4) - ((h.1 (3 :: a0) a2.toNatClampNeg) / 4))))) h))) : Rn X m_Wk_placesApart 0 [some (vR a0), some (vI a1), some (vI a2)] [] h Q := by
  refine Rn.aload_n (n := 1) (i := 0) d_Wk_placesApart_0 rfl rfl rfl ?_
  refine Rn.getf (n := 4) (v := vR (3 :: a0)) d_Wk_placesApart_1 rfl fl_Wk_9 w_a0.s rfl ?_
  refine Rn.iload_n (n := 5) (i := 1) d_Wk_placesApart_4 rfl rfl rfl ?_
  obtain ⟨b1, k⟩ := k
  refine Rn.iald (n := 6) (v := h.1 (3 :: a0) a1.toNatClampNeg) d_Wk_placesApart_5 rfl w_a0.c3 b1 rfl ?_
  refine Rn.iconst (n := 7) (v := 4) d_Wk_placesApart_6 rfl (by decide) ?_
  refine Rn.idiv (n := 8) d_Wk_placesApart_7 rfl (by decide) ?_
  refine Rn.aload_n (n := 9) (i := 0) d_Wk_placesApart_8 rfl rfl rfl ?_
  refine Rn.getf (n := 12) (v := vR (3 :: a0)) d_Wk_placesApart_9 rfl fl_Wk_9 w_a0.s rfl ?_
  refine Rn.iload_n (n := 13) (i := 2) d_Wk_placesApart_12 rfl rfl rfl ?_
  obtain ⟨b2, k⟩ := k
  refine Rn.iald (n := 14) (v := h.1 (3 :: a0) a2.toNatClampNeg) d_Wk_placesApart_13 rfl w_a0.c3 b2 rfl ?_
  refine Rn.iconst (n := 15) (v := 4) d_Wk_placesApart_14 rfl (by decide) ?_
  refine Rn.idiv (n := 16) d_Wk_placesApart_15 rfl (by decide) ?_
  refine Rn.isub (n := 17) d_Wk_placesApart_16 rfl ?_
  refine Rn.mabs (n := 20) d_Wk_placesApart_17 rfl ml_Wk_placesApart_100 (Nat.le_of_ble_eq_true rfl) ?_
  exact Rn.iret d_Wk_placesApart_20 rfl rfl k
theorem e_Wk_placesApart {X : XS} (a0 : List Nat) (a1 : Int32) (a2 : Int32) (h : Hp) (Q : Option AV → Hp → Prop) (k : Rn X m_Wk_placesApart 0 [some (vR a0), some (vI a1), some (vI a2)] [] h Q) : Ev X m_Wk_placesApart [vR a0, vI a1, vI a2] h Q := Ev.intro (plainFor_of_name (by decide +kernel)) (Nat.le_of_ble_eq_true rfl) (ls := [some (vR a0), some (vI a1), some (vI a2)]) rfl k
theorem d_Wk_lanesApart_0 : decode m_Wk_lanesApart.2.1 0 = .ok (.aload_n 0, 1) := by decide +kernel
theorem d_Wk_lanesApart_1 : decode m_Wk_lanesApart.2.1 1 = .ok (.getfield 9, 3) := by decide +kernel
theorem d_Wk_lanesApart_4 : decode m_Wk_lanesApart.2.1 4 = .ok (.iload_n 1, 1) := by decide +kernel
theorem d_Wk_lanesApart_5 : decode m_Wk_lanesApart.2.1 5 = .ok (.iaload, 1) := by decide +kernel
theorem d_Wk_lanesApart_6 : decode m_Wk_lanesApart.2.1 6 = .ok (.iconst 4, 1) := by decide +kernel
theorem d_Wk_lanesApart_7 : decode m_Wk_lanesApart.2.1 7 = .ok (.irem, 1) := by decide +kernel
theorem d_Wk_lanesApart_8 : decode m_Wk_lanesApart.2.1 8 = .ok (.aload_n 0, 1) := by decide +kernel
theorem d_Wk_lanesApart_9 : decode m_Wk_lanesApart.2.1 9 = .ok (.getfield 9, 3) := by decide +kernel
theorem d_Wk_lanesApart_12 : decode m_Wk_lanesApart.2.1 12 = .ok (.iload_n 2, 1) := by decide +kernel
theorem d_Wk_lanesApart_13 : decode m_Wk_lanesApart.2.1 13 = .ok (.iaload, 1) := by decide +kernel
theorem d_Wk_lanesApart_14 : decode m_Wk_lanesApart.2.1 14 = .ok (.iconst 4, 1) := by decide +kernel
theorem d_Wk_lanesApart_15 : decode m_Wk_lanesApart.2.1 15 = .ok (.irem, 1) := by decide +kernel
theorem d_Wk_lanesApart_16 : decode m_Wk_lanesApart.2.1 16 = .ok (.isub, 1) := by decide +kernel
theorem d_Wk_lanesApart_17 : decode m_Wk_lanesApart.2.1 17 = .ok (.invokestatic 100, 3) := by decide +kernel
theorem d_Wk_lanesApart_20 : decode m_Wk_lanesApart.2.1 20 = .ok (.ireturn, 1) := by decide +kernel
theorem g_Wk_lanesApart_0 {X : XS} (a0 : List Nat) (a1 : Int32) (a2 : Int32) (h : Hp) (Q : Option AV → Hp → Prop) (w_a0 : IsWk a0) (k : (vp_in a1 6 ∧ (vp_in a2 6 ∧ Q (some (vI (iAbs ((iR (h.1 (3 :: a0) a1.toNatClampNeg) 4) - (iR (h.1 (3 :: a0) a2.toNatClampNeg) 4))))) h))) : Rn X m_Wk_lanesApart 0 [some (vR a0), some (vI a1), some (vI a2)] [] h Q := by
  refine Rn.aload_n (n := 1) (i := 0) d_Wk_lanesApart_0 rfl rfl rfl ?_
  refine Rn.getf (n := 4) (v := vR (3 :: a0)) d_Wk_lanesApart_1 rfl fl_Wk_9 w_a0.s rfl ?_
  refine Rn.iload_n (n := 5) (i := 1) d_Wk_lanesApart_4 rfl rfl rfl ?_
  obtain ⟨b1, k⟩ := k
  refine Rn.iald (n := 6) (v := h.1 (3 :: a0) a1.toNatClampNeg) d_Wk_lanesApart_5 rfl w_a0.c3 b1 rfl ?_
  refine Rn.iconst (n := 7) (v := 4) d_Wk_lanesApart_6 rfl (by decide) ?_
  refine Rn.irem (n := 8) d_Wk_lanesApart_7 rfl (by decide) ?_
  refine Rn.aload_n (n := 9) (i := 0) d_Wk_lanesApart_8 rfl rfl rfl ?_
  refine Rn.getf (n := 12) (v := vR (3 :: a0)) d_Wk_lanesApart_9 rfl fl_Wk_9 w_a0.s rfl ?_
  refine Rn.iload_n (n := 13) (i := 2) d_Wk_lanesApart_12 rfl rfl rfl ?_
  obtain ⟨b2, k⟩ := k
  refine Rn.iald (n := 14) (v := h.1 (3 :: a0) a2.toNatClampNeg) d_Wk_lanesApart_13 rfl w_a0.c3 b2 rfl ?_
  refine Rn.iconst (n := 15) (v := 4) d_Wk_lanesApart_14 rfl (by decide) ?_
  refine Rn.irem (n := 16) d_Wk_lanesApart_15 rfl (by decide) ?_
  refine Rn.isub (n := 17) d_Wk_lanesApart_16 rfl ?_
  refine Rn.mabs (n := 20) d_Wk_lanesApart_17 rfl ml_Wk_lanesApart_100 (Nat.le_of_ble_eq_true rfl) ?_
  exact Rn.iret d_Wk_lanesApart_20 rfl rfl k
theorem e_Wk_lanesApart {X : XS} (a0 : List Nat) (a1 : Int32) (a2 : Int32) (h : Hp) (Q : Option AV → Hp → Prop) (k : Rn X m_Wk_lanesApart 0 [some (vR a0), some (vI a1), some (vI a2)] [] h Q) : Ev X m_Wk_lanesApart [vR a0, vI a1, vI a2] h Q := Ev.intro (plainFor_of_name (by decide +kernel)) (Nat.le_of_ble_eq_true rfl) (ls := [some (vR a0), some (vI a1), some (vI a2)]) rfl k
theorem d_Wk_rain_0 : decode m_Wk_rain.2.1 0 = .ok (.aload_n 1, 1) := by decide +kernel
theorem d_Wk_rain_1 : decode m_Wk_rain.2.1 1 = .ok (.aload_n 0, 1) := by decide +kernel
theorem d_Wk_rain_2 : decode m_Wk_rain.2.1 2 = .ok (.getfield 34, 3) := by decide +kernel
theorem d_Wk_rain_5 : decode m_Wk_rain.2.1 5 = .ok (.invokevirtual 115, 3) := by decide +kernel
theorem d_Wk_rain_8 : decode m_Wk_rain.2.1 8 = .ok (.istore_n 2, 1) := by decide +kernel
theorem d_Wk_rain_9 : decode m_Wk_rain.2.1 9 = .ok (.iconst 0, 1) := by decide +kernel
theorem d_Wk_rain_10 : decode m_Wk_rain.2.1 10 = .ok (.istore_n 3, 1) := by decide +kernel
theorem d_Wk_rain_11 : decode m_Wk_rain.2.1 11 = .ok (.iload_n 3, 1) := by decide +kernel
theorem d_Wk_rain_12 : decode m_Wk_rain.2.1 12 = .ok (.bipush 6, 2) := by decide +kernel
theorem d_Wk_rain_14 : decode m_Wk_rain.2.1 14 = .ok (.if_icmp .ge 71, 3) := by decide +kernel
theorem d_Wk_rain_17 : decode m_Wk_rain.2.1 17 = .ok (.aload_n 0, 1) := by decide +kernel
theorem d_Wk_rain_18 : decode m_Wk_rain.2.1 18 = .ok (.iload_n 3, 1) := by decide +kernel
theorem d_Wk_rain_19 : decode m_Wk_rain.2.1 19 = .ok (.invokevirtual 41, 3) := by decide +kernel
theorem d_Wk_rain_22 : decode m_Wk_rain.2.1 22 = .ok (.ifCond .eq 57, 3) := by decide +kernel
theorem d_Wk_rain_25 : decode m_Wk_rain.2.1 25 = .ok (.aload_n 1, 1) := by decide +kernel
theorem d_Wk_rain_26 : decode m_Wk_rain.2.1 26 = .ok (.aload_n 0, 1) := by decide +kernel
theorem d_Wk_rain_27 : decode m_Wk_rain.2.1 27 = .ok (.getfield 9, 3) := by decide +kernel
theorem d_Wk_rain_30 : decode m_Wk_rain.2.1 30 = .ok (.iload_n 3, 1) := by decide +kernel
theorem d_Wk_rain_31 : decode m_Wk_rain.2.1 31 = .ok (.iaload, 1) := by decide +kernel
theorem d_Wk_rain_32 : decode m_Wk_rain.2.1 32 = .ok (.invokevirtual 118, 3) := by decide +kernel
theorem d_Wk_rain_35 : decode m_Wk_rain.2.1 35 = .ok (.ifCond .eq 6, 3) := by decide +kernel
theorem d_Wk_rain_38 : decode m_Wk_rain.2.1 38 = .ok (.goto 41, 3) := by decide +kernel
theorem d_Wk_rain_41 : decode m_Wk_rain.2.1 41 = .ok (.aload_n 1, 1) := by decide +kernel
theorem d_Wk_rain_42 : decode m_Wk_rain.2.1 42 = .ok (.getfield 94, 3) := by decide +kernel
theorem d_Wk_rain_45 : decode m_Wk_rain.2.1 45 = .ok (.iload_n 3, 1) := by decide +kernel
theorem d_Wk_rain_46 : decode m_Wk_rain.2.1 46 = .ok (.iaload, 1) := by decide +kernel
theorem d_Wk_rain_47 : decode m_Wk_rain.2.1 47 = .ok (.istore 4, 2) := by decide +kernel
theorem d_Wk_rain_49 : decode m_Wk_rain.2.1 49 = .ok (.aload_n 0, 1) := by decide +kernel
theorem d_Wk_rain_50 : decode m_Wk_rain.2.1 50 = .ok (.getfield 19, 3) := by decide +kernel
theorem d_Wk_rain_53 : decode m_Wk_rain.2.1 53 = .ok (.iload_n 3, 1) := by decide +kernel
theorem d_Wk_rain_54 : decode m_Wk_rain.2.1 54 = .ok (.dup2, 1) := by decide +kernel
theorem d_Wk_rain_55 : decode m_Wk_rain.2.1 55 = .ok (.iaload, 1) := by decide +kernel
theorem d_Wk_rain_56 : decode m_Wk_rain.2.1 56 = .ok (.iload 4, 2) := by decide +kernel
theorem d_Wk_rain_58 : decode m_Wk_rain.2.1 58 = .ok (.ifCond .le 12, 3) := by decide +kernel
theorem d_Wk_rain_61 : decode m_Wk_rain.2.1 61 = .ok (.iload_n 2, 1) := by decide +kernel
theorem d_Wk_rain_62 : decode m_Wk_rain.2.1 62 = .ok (.iload 4, 2) := by decide +kernel
theorem d_Wk_rain_64 : decode m_Wk_rain.2.1 64 = .ok (.iconst 1, 1) := by decide +kernel
theorem d_Wk_rain_65 : decode m_Wk_rain.2.1 65 = .ok (.iadd, 1) := by decide +kernel
theorem d_Wk_rain_66 : decode m_Wk_rain.2.1 66 = .ok (.idiv, 1) := by decide +kernel
theorem d_Wk_rain_67 : decode m_Wk_rain.2.1 67 = .ok (.goto 10, 3) := by decide +kernel
theorem d_Wk_rain_70 : decode m_Wk_rain.2.1 70 = .ok (.aload_n 0, 1) := by decide +kernel
theorem d_Wk_rain_71 : decode m_Wk_rain.2.1 71 = .ok (.aload_n 1, 1) := by decide +kernel
theorem d_Wk_rain_72 : decode m_Wk_rain.2.1 72 = .ok (.iload_n 3, 1) := by decide +kernel
theorem d_Wk_rain_73 : decode m_Wk_rain.2.1 73 = .ok (.iload_n 2, 1) := by decide +kernel
theorem d_Wk_rain_74 : decode m_Wk_rain.2.1 74 = .ok (.invokevirtual 121, 3) := by decide +kernel
theorem d_Wk_rain_77 : decode m_Wk_rain.2.1 77 = .ok (.iadd, 1) := by decide +kernel
theorem d_Wk_rain_78 : decode m_Wk_rain.2.1 78 = .ok (.iastore, 1) := by decide +kernel
theorem d_Wk_rain_79 : decode m_Wk_rain.2.1 79 = .ok (.iinc 3 1, 3) := by decide +kernel
theorem d_Wk_rain_82 : decode m_Wk_rain.2.1 82 = .ok (.goto (-71), 3) := by decide +kernel
theorem d_Wk_rain_85 : decode m_Wk_rain.2.1 85 = .ok (.return_, 1) := by decide +kernel
theorem g_Wk_rain_0 {X : XS} (a0 : List Nat) (a1 : List Nat) (h : Hp) (Q : Option AV → Hp → Prop) (w_a0 : IsWk a0) (w_a1 : IsPl a1) (k : (∃ Q'4, EvI X m_Pl_rainOf [vR a1, vI (h.1 a0 1)] h Q'4 ∧ ∀ (r5 : Int32) (h3 : Hp), Q'4 r5 h3 → Rn X m_Wk_rain 11 [some (vR a0), some (vR a1), some (vI r5), some (vI 0), none] [] h3 Q)) : Rn X m_Wk_rain 0 [some (vR a0), some (vR a1), none, none, none] [] h Q := by
  refine Rn.aload_n (n := 1) (i := 1) d_Wk_rain_0 rfl rfl rfl ?_
  refine Rn.aload_n (n := 2) (i := 0) d_Wk_rain_1 rfl rfl rfl ?_
  refine Rn.getf (n := 5) (v := vI (h.1 a0 1)) d_Wk_rain_2 rfl fl_Wk_34 w_a0.s rfl ?_
  obtain ⟨Q'4, ev1, k⟩ := k
  refine Rn.callV (n := 8) (av := [vI (h.1 a0 1)]) d_Wk_rain_5 rfl ml_Wk_rain_115 mi_Pl_rainOf w_a1.s rfl rfl rfl rfl (Nat.le_of_ble_eq_true rfl) ev1 (fun v h3 hq => ?_)
  obtain ⟨r5, rfl, hq⟩ := hq
  have k := k r5 h3 hq
  show Rn X m_Wk_rain 8 [some (vR a0), some (vR a1), none, none, none] [vI r5] h3 Q
  refine Rn.istore_n (n := 9) (i := 2) (ls2 := [some (vR a0), some (vR a1), some (vI r5), none, none]) d_Wk_rain_8 rfl rfl (Nat.le_of_ble_eq_true rfl) rfl ?_
  refine Rn.iconst (n := 10) (v := 0) d_Wk_rain_9 rfl (by decide) ?_
  refine Rn.istore_n (n := 11) (i := 3) (ls2 := [some (vR a0), some (vR a1), some (vI r5), some (vI 0), none]) d_Wk_rain_10 rfl rfl (Nat.le_of_ble_eq_true rfl) rfl ?_
  exact k
theorem g_Wk_rain_11 {X : XS} (a0 : List Nat) (a1 : List Nat) (a2 : Int32) (a3 : Int32) (h : Hp) (Q : Option AV → Hp → Prop) (w_a0 : IsWk a0) (w_a1 : IsPl a1) (k : ((6 ≤ a3 → Q none h) ∧ (¬ 6 ≤ a3 → (∃ Q'4, EvI X m_Wk_isOn [vR a0, vI a3] h Q'4 ∧ ∀ (r5 : Int32) (h3 : Hp), Q'4 r5 h3 → ((r5 = 0 → Rn X m_Wk_rain 11 [some (vR a0), some (vR a1), some (vI a2), some (vI (a3 + 1)), none] [] h3 Q) ∧ (¬ r5 = 0 → (vp_in a3 6 ∧ (∃ Q'10, EvI X m_Pl_isDry [vR a1, vI (h3.1 (3 :: a0) a3.toNatClampNeg)] h3 Q'10 ∧ ∀ (r11 : Int32) (h9 : Hp), Q'10 r11 h9 → ((r11 = 0 → (vp_in a3 6 ∧ (vp_in a3 6 ∧ (((h9.1 (8 :: a1) a3.toNatClampNeg) ≤ 0 → (∃ Q'17, EvI X m_Wk_amountOnBare [vR a0, vR a1, vI a3, vI a2] h9 Q'17 ∧ ∀ (r18 : Int32) (h16 : Hp), Q'17 r18 h16 → (vp_in a3 6 ∧ Rn X m_Wk_rain 11 [some (vR a0), some (vR a1), some (vI a2), some (vI (a3 + 1)), none] [] (hsI h16 (5 :: a0) a3.toNatClampNeg ((h9.1 (5 :: a0) a3.toNatClampNeg) + r18)) Q))) ∧ (¬ (h9.1 (8 :: a1) a3.toNatClampNeg) ≤ 0 → (¬ ((h9.1 (8 :: a1) a3.toNatClampNeg) + 1) = 0 ∧ (vp_in a3 6 ∧ Rn X m_Wk_rain 11 [some (vR a0), some (vR a1), some (vI a2), some (vI (a3 + 1)), none] [] (hsI h9 (5 :: a0) a3.toNatClampNeg ((h9.1 (5 :: a0) a3.toNatClampNeg) + (a2 / ((h9.1 (8 :: a1) a3.toNatClampNeg) + 1)))) Q))))))) ∧ (¬ r11 = 0 → Rn X m_Wk_rain 11 [some (vR a0), some (vR a1), some (vI a2), some (vI (a3 + 1)), none] [] h9 Q)))))))))) : Rn X m_Wk_rain 11 [some (vR a0), some (vR a1), some (vI a2), some (vI a3), none] [] h Q := by
  refine Rn.iload_n (n := 12) (i := 3) d_Wk_rain_11 rfl rfl rfl ?_
  refine Rn.bipush (n := 14) (v := 6) d_Wk_rain_12 rfl (by decide) ?_
  refine Rn.icmp_ge (n := 17) (t := 85) d_Wk_rain_14 rfl (by decide) (fun cc => ?_) (fun cc => ?_)
  · have k := k.1 cc
    exact Rn.vret d_Wk_rain_85 rfl k
  · have k := k.2 cc
    refine Rn.aload_n (n := 18) (i := 0) d_Wk_rain_17 rfl rfl rfl ?_
    refine Rn.iload_n (n := 19) (i := 3) d_Wk_rain_18 rfl rfl rfl ?_
    obtain ⟨Q'4, ev1, k⟩ := k
    refine Rn.callV (n := 22) (av := [vI a3]) d_Wk_rain_19 rfl ml_Wk_rain_41 mi_Wk_isOn w_a0.s rfl rfl rfl rfl (Nat.le_of_ble_eq_true rfl) ev1 (fun v h3 hq => ?_)
    obtain ⟨r5, rfl, hq⟩ := hq
    have k := k r5 h3 hq
    show Rn X m_Wk_rain 22 [some (vR a0), some (vR a1), some (vI a2), some (vI a3), none] [vI r5] h3 Q
    refine Rn.if_eq (n := 25) (t := 79) d_Wk_rain_22 rfl (by decide) (fun cc => ?_) (fun cc => ?_)
    · have k := k.1 cc
      refine Rn.iinc (n := 82) (i := 3) (v := a3 + 1) (ls2 := [some (vR a0), some (vR a1), some (vI a2), some (vI (a3 + 1)), none]) d_Wk_rain_79 rfl rfl rfl (Nat.le_of_ble_eq_true rfl) rfl ?_
      refine Rn.goto (n := 11) d_Wk_rain_82 (by decide) ?_
      exact k
    · have k := k.2 cc
      refine Rn.aload_n (n := 26) (i := 1) d_Wk_rain_25 rfl rfl rfl ?_
      refine Rn.aload_n (n := 27) (i := 0) d_Wk_rain_26 rfl rfl rfl ?_
      refine Rn.getf (n := 30) (v := vR (3 :: a0)) d_Wk_rain_27 rfl fl_Wk_9 w_a0.s rfl ?_
      refine Rn.iload_n (n := 31) (i := 3) d_Wk_rain_30 rfl rfl rfl ?_
      obtain ⟨b6, k⟩ := k
      refine Rn.iald (n := 32) (v := h3.1 (3 :: a0) a3.toNatClampNeg) d_Wk_rain_31 rfl w_a0.c3 b6 rfl ?_
      obtain ⟨Q'10, ev7, k⟩ := k
      refine Rn.callV (n := 35) (av := [vI (h3.1 (3 :: a0) a3.toNatClampNeg)]) d_Wk_rain_32 rfl ml_Wk_rain_118 mi_Pl_isDry w_a1.s rfl rfl rfl rfl (Nat.le_of_ble_eq_true rfl) ev7 (fun v h9 hq => ?_)
      obtain ⟨r11, rfl, hq⟩ := hq
      have k := k r11 h9 hq
      show Rn X m_Wk_rain 35 [some (vR a0), some (vR a1), some (vI a2), some (vI a3), none] [vI r11] h9 Q
      refine Rn.if_eq (n := 38) (t := 41) d_Wk_rain_35 rfl (by decide) (fun cc => ?_) (fun cc => ?_)
      · have k := k.1 cc
        refine Rn.aload_n (n := 42) (i := 1) d_Wk_rain_41 rfl rfl rfl ?_
        refine Rn.getf (n := 45) (v := vR (8 :: a1)) d_Wk_rain_42 rfl fl_Wk_94 w_a1.s rfl ?_
        refine Rn.iload_n (n := 46) (i := 3) d_Wk_rain_45 rfl rfl rfl ?_
        obtain ⟨b12, k⟩ := k
        refine Rn.iald (n := 47) (v := h9.1 (8 :: a1) a3.toNatClampNeg) d_Wk_rain_46 rfl w_a1.c8 b12 rfl ?_
        refine Rn.istore (n := 49) (i := 4) (ls2 := [some (vR a0), some (vR a1), some (vI a2), some (vI a3), some (vI (h9.1 (8 :: a1) a3.toNatClampNeg))]) d_Wk_rain_47 rfl (Nat.le_of_ble_eq_true rfl) rfl ?_
        refine Rn.aload_n (n := 50) (i := 0) d_Wk_rain_49 rfl rfl rfl ?_
        refine Rn.getf (n := 53) (v := vR (5 :: a0)) d_Wk_rain_50 rfl fl_Wk_19 w_a0.s rfl ?_
        refine Rn.iload_n (n := 54) (i := 3) d_Wk_rain_53 rfl rfl rfl ?_
        refine Rn.dup2 (n := 55) d_Wk_rain_54 rfl rfl rfl ?_
        obtain ⟨b13, k⟩ := k
        refine Rn.iald (n := 56) (v := h9.1 (5 :: a0) a3.toNatClampNeg) d_Wk_rain_55 rfl w_a0.c5 b13 rfl ?_
        refine Rn.iload (n := 58) (i := 4) d_Wk_rain_56 rfl rfl ?_
        refine Rn.if_le (n := 61) (t := 70) d_Wk_rain_58 rfl (by decide) (fun cc => ?_) (fun cc => ?_)
        · have k := k.1 cc
          refine Rn.aload_n (n := 71) (i := 0) d_Wk_rain_70 rfl rfl rfl ?_
          refine Rn.aload_n (n := 72) (i := 1) d_Wk_rain_71 rfl rfl rfl ?_
          refine Rn.iload_n (n := 73) (i := 3) d_Wk_rain_72 rfl rfl rfl ?_
          refine Rn.iload_n (n := 74) (i := 2) d_Wk_rain_73 rfl rfl rfl ?_
          obtain ⟨Q'17, ev14, k⟩ := k
          refine Rn.callV (n := 77) (av := [vR a1, vI a3, vI a2]) d_Wk_rain_74 rfl ml_Wk_rain_121 mi_Wk_amountOnBare w_a0.s rfl rfl rfl rfl (Nat.le_of_ble_eq_true rfl) ev14 (fun v h16 hq => ?_)
          obtain ⟨r18, rfl, hq⟩ := hq
          have k := k r18 h16 hq
          show Rn X m_Wk_rain 77 [some (vR a0), some (vR a1), some (vI a2), some (vI a3), some (vI (h9.1 (8 :: a1) a3.toNatClampNeg))] [vI r18, vI (h9.1 (5 :: a0) a3.toNatClampNeg), vI a3, vR (5 :: a0)] h16 Q
          refine Rn.iadd (n := 78) d_Wk_rain_77 rfl ?_
          obtain ⟨b19, k⟩ := k
          refine Rn.iast (n := 79) d_Wk_rain_78 rfl w_a0.c5 b19 ?_
          refine Rn.iinc (n := 82) (i := 3) (v := a3 + 1) (ls2 := [some (vR a0), some (vR a1), some (vI a2), some (vI (a3 + 1)), some (vI (h9.1 (8 :: a1) a3.toNatClampNeg))]) d_Wk_rain_79 rfl rfl rfl (Nat.le_of_ble_eq_true rfl) rfl ?_
          refine Rn.goto (n := 11) d_Wk_rain_82 (by decide) ?_
          exact Rn.loc [some (vR a0), some (vR a1), some (vI a2), some (vI (a3 + 1)), none] (LLe_ok ⟨rfl, ⟨rfl, ⟨rfl, ⟨rfl, trivial⟩⟩⟩⟩) k
        · have k := k.2 cc
          refine Rn.iload_n (n := 62) (i := 2) d_Wk_rain_61 rfl rfl rfl ?_
          refine Rn.iload (n := 64) (i := 4) d_Wk_rain_62 rfl rfl ?_
          refine Rn.iconst (n := 65) (v := 1) d_Wk_rain_64 rfl (by decide) ?_
          refine Rn.iadd (n := 66) d_Wk_rain_65 rfl ?_
          obtain ⟨z20, k⟩ := k
          refine Rn.idiv (n := 67) d_Wk_rain_66 rfl z20 ?_
          refine Rn.goto (n := 77) d_Wk_rain_67 (by decide) ?_
          refine Rn.iadd (n := 78) d_Wk_rain_77 rfl ?_
          obtain ⟨b21, k⟩ := k
          refine Rn.iast (n := 79) d_Wk_rain_78 rfl w_a0.c5 b21 ?_
          refine Rn.iinc (n := 82) (i := 3) (v := a3 + 1) (ls2 := [some (vR a0), some (vR a1), some (vI a2), some (vI (a3 + 1)), some (vI (h9.1 (8 :: a1) a3.toNatClampNeg))]) d_Wk_rain_79 rfl rfl rfl (Nat.le_of_ble_eq_true rfl) rfl ?_
          refine Rn.goto (n := 11) d_Wk_rain_82 (by decide) ?_
          exact Rn.loc [some (vR a0), some (vR a1), some (vI a2), some (vI (a3 + 1)), none] (LLe_ok ⟨rfl, ⟨rfl, ⟨rfl, ⟨rfl, trivial⟩⟩⟩⟩) k
      · have k := k.2 cc
        refine Rn.goto (n := 79) d_Wk_rain_38 (by decide) ?_
        refine Rn.iinc (n := 82) (i := 3) (v := a3 + 1) (ls2 := [some (vR a0), some (vR a1), some (vI a2), some (vI (a3 + 1)), none]) d_Wk_rain_79 rfl rfl rfl (Nat.le_of_ble_eq_true rfl) rfl ?_
        refine Rn.goto (n := 11) d_Wk_rain_82 (by decide) ?_
        exact k
theorem e_Wk_rain {X : XS} (a0 : List Nat) (a1 : List Nat) (h : Hp) (Q : Option AV → Hp → Prop) (k : Rn X m_Wk_rain 0 [some (vR a0), some (vR a1), none, none, none] [] h Q) : Ev X m_Wk_rain [vR a0, vR a1] h Q := Ev.intro (plainFor_of_name (by decide +kernel)) (Nat.le_of_ble_eq_true rfl) (ls := [some (vR a0), some (vR a1), none, none, none]) rfl k
theorem d_Wk_amountOnBare_0 : decode m_Wk_amountOnBare.2.1 0 = .ok (.iload_n 3, 1) := by decide +kernel
theorem d_Wk_amountOnBare_1 : decode m_Wk_amountOnBare.2.1 1 = .ok (.istore 4, 2) := by decide +kernel
theorem d_Wk_amountOnBare_3 : decode m_Wk_amountOnBare.2.1 3 = .ok (.iconst 0, 1) := by decide +kernel
theorem d_Wk_amountOnBare_4 : decode m_Wk_amountOnBare.2.1 4 = .ok (.istore 5, 2) := by decide +kernel
theorem d_Wk_amountOnBare_6 : decode m_Wk_amountOnBare.2.1 6 = .ok (.iload 5, 2) := by decide +kernel
theorem d_Wk_amountOnBare_8 : decode m_Wk_amountOnBare.2.1 8 = .ok (.bipush 6, 2) := by decide +kernel
theorem d_Wk_amountOnBare_10 : decode m_Wk_amountOnBare.2.1 10 = .ok (.if_icmp .ge 95, 3) := by decide +kernel
theorem d_Wk_amountOnBare_13 : decode m_Wk_amountOnBare.2.1 13 = .ok (.iload 5, 2) := by decide +kernel
theorem d_Wk_amountOnBare_15 : decode m_Wk_amountOnBare.2.1 15 = .ok (.iload_n 2, 1) := by decide +kernel
theorem d_Wk_amountOnBare_16 : decode m_Wk_amountOnBare.2.1 16 = .ok (.if_icmp .eq 83, 3) := by decide +kernel
theorem d_Wk_amountOnBare_19 : decode m_Wk_amountOnBare.2.1 19 = .ok (.aload_n 0, 1) := by decide +kernel
theorem d_Wk_amountOnBare_20 : decode m_Wk_amountOnBare.2.1 20 = .ok (.iload 5, 2) := by decide +kernel
theorem d_Wk_amountOnBare_22 : decode m_Wk_amountOnBare.2.1 22 = .ok (.invokevirtual 41, 3) := by decide +kernel
theorem d_Wk_amountOnBare_25 : decode m_Wk_amountOnBare.2.1 25 = .ok (.ifCond .eq 74, 3) := by decide +kernel
theorem d_Wk_amountOnBare_28 : decode m_Wk_amountOnBare.2.1 28 = .ok (.aload_n 1, 1) := by decide +kernel
theorem d_Wk_amountOnBare_29 : decode m_Wk_amountOnBare.2.1 29 = .ok (.getfield 94, 3) := by decide +kernel
theorem d_Wk_amountOnBare_32 : decode m_Wk_amountOnBare.2.1 32 = .ok (.iload 5, 2) := by decide +kernel
theorem d_Wk_amountOnBare_34 : decode m_Wk_amountOnBare.2.1 34 = .ok (.iaload, 1) := by decide +kernel
theorem d_Wk_amountOnBare_35 : decode m_Wk_amountOnBare.2.1 35 = .ok (.ifCond .eq 64, 3) := by decide +kernel
theorem d_Wk_amountOnBare_38 : decode m_Wk_amountOnBare.2.1 38 = .ok (.aload_n 0, 1) := by decide +kernel
theorem d_Wk_amountOnBare_39 : decode m_Wk_amountOnBare.2.1 39 = .ok (.iload 5, 2) := by decide +kernel
theorem d_Wk_amountOnBare_41 : decode m_Wk_amountOnBare.2.1 41 = .ok (.iload_n 2, 1) := by decide +kernel
theorem d_Wk_amountOnBare_42 : decode m_Wk_amountOnBare.2.1 42 = .ok (.invokevirtual 105, 3) := by decide +kernel
theorem d_Wk_amountOnBare_45 : decode m_Wk_amountOnBare.2.1 45 = .ok (.ifCond .eq 6, 3) := by decide +kernel
theorem d_Wk_amountOnBare_48 : decode m_Wk_amountOnBare.2.1 48 = .ok (.goto 51, 3) := by decide +kernel
theorem d_Wk_amountOnBare_51 : decode m_Wk_amountOnBare.2.1 51 = .ok (.aload_n 0, 1) := by decide +kernel
theorem d_Wk_amountOnBare_52 : decode m_Wk_amountOnBare.2.1 52 = .ok (.iload 5, 2) := by decide +kernel
theorem d_Wk_amountOnBare_54 : decode m_Wk_amountOnBare.2.1 54 = .ok (.iload_n 2, 1) := by decide +kernel
theorem d_Wk_amountOnBare_55 : decode m_Wk_amountOnBare.2.1 55 = .ok (.invokevirtual 109, 3) := by decide +kernel
theorem d_Wk_amountOnBare_58 : decode m_Wk_amountOnBare.2.1 58 = .ok (.aload_n 1, 1) := by decide +kernel
theorem d_Wk_amountOnBare_59 : decode m_Wk_amountOnBare.2.1 59 = .ok (.getfield 94, 3) := by decide +kernel
theorem d_Wk_amountOnBare_62 : decode m_Wk_amountOnBare.2.1 62 = .ok (.iload 5, 2) := by decide +kernel
theorem d_Wk_amountOnBare_64 : decode m_Wk_amountOnBare.2.1 64 = .ok (.iaload, 1) := by decide +kernel
theorem d_Wk_amountOnBare_65 : decode m_Wk_amountOnBare.2.1 65 = .ok (.if_icmp .ge 5, 3) := by decide +kernel
theorem d_Wk_amountOnBare_68 : decode m_Wk_amountOnBare.2.1 68 = .ok (.iconst 0, 1) := by decide +kernel
theorem d_Wk_amountOnBare_69 : decode m_Wk_amountOnBare.2.1 69 = .ok (.ireturn, 1) := by decide +kernel
theorem d_Wk_amountOnBare_70 : decode m_Wk_amountOnBare.2.1 70 = .ok (.iload 4, 2) := by decide +kernel
theorem d_Wk_amountOnBare_72 : decode m_Wk_amountOnBare.2.1 72 = .ok (.aload_n 0, 1) := by decide +kernel
theorem d_Wk_amountOnBare_73 : decode m_Wk_amountOnBare.2.1 73 = .ok (.iload 5, 2) := by decide +kernel
theorem d_Wk_amountOnBare_75 : decode m_Wk_amountOnBare.2.1 75 = .ok (.iload_n 2, 1) := by decide +kernel
theorem d_Wk_amountOnBare_76 : decode m_Wk_amountOnBare.2.1 76 = .ok (.invokevirtual 109, 3) := by decide +kernel
theorem d_Wk_amountOnBare_79 : decode m_Wk_amountOnBare.2.1 79 = .ok (.aload_n 1, 1) := by decide +kernel
theorem d_Wk_amountOnBare_80 : decode m_Wk_amountOnBare.2.1 80 = .ok (.getfield 94, 3) := by decide +kernel
theorem d_Wk_amountOnBare_83 : decode m_Wk_amountOnBare.2.1 83 = .ok (.iload 5, 2) := by decide +kernel
theorem d_Wk_amountOnBare_85 : decode m_Wk_amountOnBare.2.1 85 = .ok (.iaload, 1) := by decide +kernel
theorem d_Wk_amountOnBare_86 : decode m_Wk_amountOnBare.2.1 86 = .ok (.if_icmp .ne 9, 3) := by decide +kernel
theorem d_Wk_amountOnBare_89 : decode m_Wk_amountOnBare.2.1 89 = .ok (.iload_n 3, 1) := by decide +kernel
theorem d_Wk_amountOnBare_90 : decode m_Wk_amountOnBare.2.1 90 = .ok (.iconst 2, 1) := by decide +kernel
theorem d_Wk_amountOnBare_91 : decode m_Wk_amountOnBare.2.1 91 = .ok (.idiv, 1) := by decide +kernel
theorem d_Wk_amountOnBare_92 : decode m_Wk_amountOnBare.2.1 92 = .ok (.goto 4, 3) := by decide +kernel
theorem d_Wk_amountOnBare_95 : decode m_Wk_amountOnBare.2.1 95 = .ok (.iconst 0, 1) := by decide +kernel
theorem d_Wk_amountOnBare_96 : decode m_Wk_amountOnBare.2.1 96 = .ok (.iadd, 1) := by decide +kernel
theorem d_Wk_amountOnBare_97 : decode m_Wk_amountOnBare.2.1 97 = .ok (.istore 4, 2) := by decide +kernel
theorem d_Wk_amountOnBare_99 : decode m_Wk_amountOnBare.2.1 99 = .ok (.iinc 5 1, 3) := by decide +kernel
theorem d_Wk_amountOnBare_102 : decode m_Wk_amountOnBare.2.1 102 = .ok (.goto (-96), 3) := by decide +kernel
theorem d_Wk_amountOnBare_105 : decode m_Wk_amountOnBare.2.1 105 = .ok (.iload 4, 2) := by decide +kernel
theorem d_Wk_amountOnBare_107 : decode m_Wk_amountOnBare.2.1 107 = .ok (.ireturn, 1) := by decide +kernel
theorem g_Wk_amountOnBare_0 {X : XS} (a0 : List Nat) (a1 : List Nat) (a2 : Int32) (a3 : Int32) (h : Hp) (Q : Option AV → Hp → Prop) (w_a0 : IsWk a0) (w_a1 : IsPl a1) (k : Rn X m_Wk_amountOnBare 6 [some (vR a0), some (vR a1), some (vI a2), some (vI a3), some (vI a3), some (vI 0)] [] h Q) : Rn X m_Wk_amountOnBare 0 [some (vR a0), some (vR a1), some (vI a2), some (vI a3), none, none] [] h Q := by
  refine Rn.iload_n (n := 1) (i := 3) d_Wk_amountOnBare_0 rfl rfl rfl ?_
  refine Rn.istore (n := 3) (i := 4) (ls2 := [some (vR a0), some (vR a1), some (vI a2), some (vI a3), some (vI a3), none]) d_Wk_amountOnBare_1 rfl (Nat.le_of_ble_eq_true rfl) rfl ?_
  refine Rn.iconst (n := 4) (v := 0) d_Wk_amountOnBare_3 rfl (by decide) ?_
  refine Rn.istore (n := 6) (i := 5) (ls2 := [some (vR a0), some (vR a1), some (vI a2), some (vI a3), some (vI a3), some (vI 0)]) d_Wk_amountOnBare_4 rfl (Nat.le_of_ble_eq_true rfl) rfl ?_
  exact k
theorem g_Wk_amountOnBare_6 {X : XS} (a0 : List Nat) (a1 : List Nat) (a2 : Int32) (a3 : Int32) (a4 : Int32) (a5 : Int32) (h : Hp) (Q : Option AV → Hp → Prop) (w_a0 : IsWk a0) (w_a1 : IsPl a1) (k : ((6 ≤ a5 → Q (some (vI a4)) h) ∧ (¬ 6 ≤ a5 → ((a5 = a2 → Rn X m_Wk_amountOnBare 6 [some (vR a0), some (vR a1), some (vI a2), some (vI a3), some (vI a4), some (vI (a5 + 1))] [] h Q) ∧ (¬ a5 = a2 → (∃ Q'4, EvI X m_Wk_isOn [vR a0, vI a5] h Q'4 ∧ ∀ (r5 : Int32) (h3 : Hp), Q'4 r5 h3 → ((r5 = 0 → Rn X m_Wk_amountOnBare 6 [some (vR a0), some (vR a1), some (vI a2), some (vI a3), some (vI a4), some (vI (a5 + 1))] [] h3 Q) ∧ (¬ r5 = 0 → (vp_in a5 6 ∧ (((h3.1 (8 :: a1) a5.toNatClampNeg) = 0 → Rn X m_Wk_amountOnBare 6 [some (vR a0), some (vR a1), some (vI a2), some (vI a3), some (vI a4), some (vI (a5 + 1))] [] h3 Q) ∧ (¬ (h3.1 (8 :: a1) a5.toNatClampNeg) = 0 → (∃ Q'10, EvI X m_Wk_placesApart [vR a0, vI a5, vI a2] h3 Q'10 ∧ ∀ (r11 : Int32) (h9 : Hp), Q'10 r11 h9 → ((r11 = 0 → (∃ Q'15, EvI X m_Wk_lanesApart [vR a0, vI a5, vI a2] h9 Q'15 ∧ ∀ (r16 : Int32) (h14 : Hp), Q'15 r16 h14 → (vp_in a5 6 ∧ (((h14.1 (8 :: a1) a5.toNatClampNeg) ≤ r16 → (∃ Q'21, EvI X m_Wk_lanesApart [vR a0, vI a5, vI a2] h14 Q'21 ∧ ∀ (r22 : Int32) (h20 : Hp), Q'21 r22 h20 → (vp_in a5 6 ∧ ((¬ r22 = (h20.1 (8 :: a1) a5.toNatClampNeg) → Rn X m_Wk_amountOnBare 6 [some (vR a0), some (vR a1), some (vI a2), some (vI a3), some (vI (a4 + 0)), some (vI (a5 + 1))] [] h20 Q) ∧ (r22 = (h20.1 (8 :: a1) a5.toNatClampNeg) → Rn X m_Wk_amountOnBare 6 [some (vR a0), some (vR a1), some (vI a2), some (vI a3), some (vI (a4 + (a3 / 2))), some (vI (a5 + 1))] [] h20 Q))))) ∧ (¬ (h14.1 (8 :: a1) a5.toNatClampNeg) ≤ r16 → Q (some (vI 0)) h14))))) ∧ (¬ r11 = 0 → Rn X m_Wk_amountOnBare 6 [some (vR a0), some (vR a1), some (vI a2), some (vI a3), some (vI a4), some (vI (a5 + 1))] [] h9 Q)))))))))))))) : Rn X m_Wk_amountOnBare 6 [some (vR a0), some (vR a1), some (vI a2), some (vI a3), some (vI a4), some (vI a5)] [] h Q := by
  refine Rn.iload (n := 8) (i := 5) d_Wk_amountOnBare_6 rfl rfl ?_
  refine Rn.bipush (n := 10) (v := 6) d_Wk_amountOnBare_8 rfl (by decide) ?_
  refine Rn.icmp_ge (n := 13) (t := 105) d_Wk_amountOnBare_10 rfl (by decide) (fun cc => ?_) (fun cc => ?_)
  · have k := k.1 cc
    refine Rn.iload (n := 107) (i := 4) d_Wk_amountOnBare_105 rfl rfl ?_
    exact Rn.iret d_Wk_amountOnBare_107 rfl rfl k
  · have k := k.2 cc
    refine Rn.iload (n := 15) (i := 5) d_Wk_amountOnBare_13 rfl rfl ?_
    refine Rn.iload_n (n := 16) (i := 2) d_Wk_amountOnBare_15 rfl rfl rfl ?_
    refine Rn.icmp_eq (n := 19) (t := 99) d_Wk_amountOnBare_16 rfl (by decide) (fun cc => ?_) (fun cc => ?_)
    · have k := k.1 cc
      refine Rn.iinc (n := 102) (i := 5) (v := a5 + 1) (ls2 := [some (vR a0), some (vR a1), some (vI a2), some (vI a3), some (vI a4), some (vI (a5 + 1))]) d_Wk_amountOnBare_99 rfl rfl rfl (Nat.le_of_ble_eq_true rfl) rfl ?_
      refine Rn.goto (n := 6) d_Wk_amountOnBare_102 (by decide) ?_
      exact k
    · have k := k.2 cc
      refine Rn.aload_n (n := 20) (i := 0) d_Wk_amountOnBare_19 rfl rfl rfl ?_
      refine Rn.iload (n := 22) (i := 5) d_Wk_amountOnBare_20 rfl rfl ?_
      obtain ⟨Q'4, ev1, k⟩ := k
      refine Rn.callV (n := 25) (av := [vI a5]) d_Wk_amountOnBare_22 rfl ml_Wk_amountOnBare_41 mi_Wk_isOn w_a0.s rfl rfl rfl rfl (Nat.le_of_ble_eq_true rfl) ev1 (fun v h3 hq => ?_)
      obtain ⟨r5, rfl, hq⟩ := hq
      have k := k r5 h3 hq
      show Rn X m_Wk_amountOnBare 25 [some (vR a0), some (vR a1), some (vI a2), some (vI a3), some (vI a4), some (vI a5)] [vI r5] h3 Q
      refine Rn.if_eq (n := 28) (t := 99) d_Wk_amountOnBare_25 rfl (by decide) (fun cc => ?_) (fun cc => ?_)
      · have k := k.1 cc
        refine Rn.iinc (n := 102) (i := 5) (v := a5 + 1) (ls2 := [some (vR a0), some (vR a1), some (vI a2), some (vI a3), some (vI a4), some (vI (a5 + 1))]) d_Wk_amountOnBare_99 rfl rfl rfl (Nat.le_of_ble_eq_true rfl) rfl ?_
        refine Rn.goto (n := 6) d_Wk_amountOnBare_102 (by decide) ?_
        exact k
      · have k := k.2 cc
        refine Rn.aload_n (n := 29) (i := 1) d_Wk_amountOnBare_28 rfl rfl rfl ?_
        refine Rn.getf (n := 32) (v := vR (8 :: a1)) d_Wk_amountOnBare_29 rfl fl_Wk_94 w_a1.s rfl ?_
        refine Rn.iload (n := 34) (i := 5) d_Wk_amountOnBare_32 rfl rfl ?_
        obtain ⟨b6, k⟩ := k
        refine Rn.iald (n := 35) (v := h3.1 (8 :: a1) a5.toNatClampNeg) d_Wk_amountOnBare_34 rfl w_a1.c8 b6 rfl ?_
        refine Rn.if_eq (n := 38) (t := 99) d_Wk_amountOnBare_35 rfl (by decide) (fun cc => ?_) (fun cc => ?_)
        · have k := k.1 cc
          refine Rn.iinc (n := 102) (i := 5) (v := a5 + 1) (ls2 := [some (vR a0), some (vR a1), some (vI a2), some (vI a3), some (vI a4), some (vI (a5 + 1))]) d_Wk_amountOnBare_99 rfl rfl rfl (Nat.le_of_ble_eq_true rfl) rfl ?_
          refine Rn.goto (n := 6) d_Wk_amountOnBare_102 (by decide) ?_
          exact k
        · have k := k.2 cc
          refine Rn.aload_n (n := 39) (i := 0) d_Wk_amountOnBare_38 rfl rfl rfl ?_
          refine Rn.iload (n := 41) (i := 5) d_Wk_amountOnBare_39 rfl rfl ?_
          refine Rn.iload_n (n := 42) (i := 2) d_Wk_amountOnBare_41 rfl rfl rfl ?_
          obtain ⟨Q'10, ev7, k⟩ := k
          refine Rn.callV (n := 45) (av := [vI a5, vI a2]) d_Wk_amountOnBare_42 rfl ml_Wk_amountOnBare_105 mi_Wk_placesApart w_a0.s rfl rfl rfl rfl (Nat.le_of_ble_eq_true rfl) ev7 (fun v h9 hq => ?_)
          obtain ⟨r11, rfl, hq⟩ := hq
          have k := k r11 h9 hq
          show Rn X m_Wk_amountOnBare 45 [some (vR a0), some (vR a1), some (vI a2), some (vI a3), some (vI a4), some (vI a5)] [vI r11] h9 Q
          refine Rn.if_eq (n := 48) (t := 51) d_Wk_amountOnBare_45 rfl (by decide) (fun cc => ?_) (fun cc => ?_)
          · have k := k.1 cc
            refine Rn.aload_n (n := 52) (i := 0) d_Wk_amountOnBare_51 rfl rfl rfl ?_
            refine Rn.iload (n := 54) (i := 5) d_Wk_amountOnBare_52 rfl rfl ?_
            refine Rn.iload_n (n := 55) (i := 2) d_Wk_amountOnBare_54 rfl rfl rfl ?_
            obtain ⟨Q'15, ev12, k⟩ := k
            refine Rn.callV (n := 58) (av := [vI a5, vI a2]) d_Wk_amountOnBare_55 rfl ml_Wk_amountOnBare_109 mi_Wk_lanesApart w_a0.s rfl rfl rfl rfl (Nat.le_of_ble_eq_true rfl) ev12 (fun v h14 hq => ?_)
            obtain ⟨r16, rfl, hq⟩ := hq
            have k := k r16 h14 hq
            show Rn X m_Wk_amountOnBare 58 [some (vR a0), some (vR a1), some (vI a2), some (vI a3), some (vI a4), some (vI a5)] [vI r16] h14 Q
            refine Rn.aload_n (n := 59) (i := 1) d_Wk_amountOnBare_58 rfl rfl rfl ?_
            refine Rn.getf (n := 62) (v := vR (8 :: a1)) d_Wk_amountOnBare_59 rfl fl_Wk_94 w_a1.s rfl ?_
            refine Rn.iload (n := 64) (i := 5) d_Wk_amountOnBare_62 rfl rfl ?_
            obtain ⟨b17, k⟩ := k
            refine Rn.iald (n := 65) (v := h14.1 (8 :: a1) a5.toNatClampNeg) d_Wk_amountOnBare_64 rfl w_a1.c8 b17 rfl ?_
            refine Rn.icmp_ge (n := 68) (t := 70) d_Wk_amountOnBare_65 rfl (by decide) (fun cc => ?_) (fun cc => ?_)
            · have k := k.1 cc
              refine Rn.iload (n := 72) (i := 4) d_Wk_amountOnBare_70 rfl rfl ?_
              refine Rn.aload_n (n := 73) (i := 0) d_Wk_amountOnBare_72 rfl rfl rfl ?_
              refine Rn.iload (n := 75) (i := 5) d_Wk_amountOnBare_73 rfl rfl ?_
              refine Rn.iload_n (n := 76) (i := 2) d_Wk_amountOnBare_75 rfl rfl rfl ?_
              obtain ⟨Q'21, ev18, k⟩ := k
              refine Rn.callV (n := 79) (av := [vI a5, vI a2]) d_Wk_amountOnBare_76 rfl ml_Wk_amountOnBare_109 mi_Wk_lanesApart w_a0.s rfl rfl rfl rfl (Nat.le_of_ble_eq_true rfl) ev18 (fun v h20 hq => ?_)
              obtain ⟨r22, rfl, hq⟩ := hq
              have k := k r22 h20 hq
              show Rn X m_Wk_amountOnBare 79 [some (vR a0), some (vR a1), some (vI a2), some (vI a3), some (vI a4), some (vI a5)] [vI r22, vI a4] h20 Q
              refine Rn.aload_n (n := 80) (i := 1) d_Wk_amountOnBare_79 rfl rfl rfl ?_
              refine Rn.getf (n := 83) (v := vR (8 :: a1)) d_Wk_amountOnBare_80 rfl fl_Wk_94 w_a1.s rfl ?_
              refine Rn.iload (n := 85) (i := 5) d_Wk_amountOnBare_83 rfl rfl ?_
              obtain ⟨b23, k⟩ := k
              refine Rn.iald (n := 86) (v := h20.1 (8 :: a1) a5.toNatClampNeg) d_Wk_amountOnBare_85 rfl w_a1.c8 b23 rfl ?_
              refine Rn.icmp_ne (n := 89) (t := 95) d_Wk_amountOnBare_86 rfl (by decide) (fun cc => ?_) (fun cc => ?_)
              · have k := k.1 cc
                refine Rn.iconst (n := 96) (v := 0) d_Wk_amountOnBare_95 rfl (by decide) ?_
                refine Rn.iadd (n := 97) d_Wk_amountOnBare_96 rfl ?_
                refine Rn.istore (n := 99) (i := 4) (ls2 := [some (vR a0), some (vR a1), some (vI a2), some (vI a3), some (vI (a4 + 0)), some (vI a5)]) d_Wk_amountOnBare_97 rfl (Nat.le_of_ble_eq_true rfl) rfl ?_
                refine Rn.iinc (n := 102) (i := 5) (v := a5 + 1) (ls2 := [some (vR a0), some (vR a1), some (vI a2), some (vI a3), some (vI (a4 + 0)), some (vI (a5 + 1))]) d_Wk_amountOnBare_99 rfl rfl rfl (Nat.le_of_ble_eq_true rfl) rfl ?_
                refine Rn.goto (n := 6) d_Wk_amountOnBare_102 (by decide) ?_
                exact k
              · have k := k.2 cc
                refine Rn.iload_n (n := 90) (i := 3) d_Wk_amountOnBare_89 rfl rfl rfl ?_
                refine Rn.iconst (n := 91) (v := 2) d_Wk_amountOnBare_90 rfl (by decide) ?_
                refine Rn.idiv (n := 92) d_Wk_amountOnBare_91 rfl (by decide) ?_
                refine Rn.goto (n := 96) d_Wk_amountOnBare_92 (by decide) ?_
                refine Rn.iadd (n := 97) d_Wk_amountOnBare_96 rfl ?_
                refine Rn.istore (n := 99) (i := 4) (ls2 := [some (vR a0), some (vR a1), some (vI a2), some (vI a3), some (vI (a4 + (a3 / 2))), some (vI a5)]) d_Wk_amountOnBare_97 rfl (Nat.le_of_ble_eq_true rfl) rfl ?_
                refine Rn.iinc (n := 102) (i := 5) (v := a5 + 1) (ls2 := [some (vR a0), some (vR a1), some (vI a2), some (vI a3), some (vI (a4 + (a3 / 2))), some (vI (a5 + 1))]) d_Wk_amountOnBare_99 rfl rfl rfl (Nat.le_of_ble_eq_true rfl) rfl ?_
                refine Rn.goto (n := 6) d_Wk_amountOnBare_102 (by decide) ?_
                exact k
            · have k := k.2 cc
              refine Rn.iconst (n := 69) (v := 0) d_Wk_amountOnBare_68 rfl (by decide) ?_
              exact Rn.iret d_Wk_amountOnBare_69 rfl rfl k
          · have k := k.2 cc
            refine Rn.goto (n := 99) d_Wk_amountOnBare_48 (by decide) ?_
            refine Rn.iinc (n := 102) (i := 5) (v := a5 + 1) (ls2 := [some (vR a0), some (vR a1), some (vI a2), some (vI a3), some (vI a4), some (vI (a5 + 1))]) d_Wk_amountOnBare_99 rfl rfl rfl (Nat.le_of_ble_eq_true rfl) rfl ?_
            refine Rn.goto (n := 6) d_Wk_amountOnBare_102 (by decide) ?_
            exact k
theorem e_Wk_amountOnBare {X : XS} (a0 : List Nat) (a1 : List Nat) (a2 : Int32) (a3 : Int32) (h : Hp) (Q : Option AV → Hp → Prop) (k : Rn X m_Wk_amountOnBare 0 [some (vR a0), some (vR a1), some (vI a2), some (vI a3), none, none] [] h Q) : Ev X m_Wk_amountOnBare [vR a0, vR a1, vI a2, vI a3] h Q := Ev.intro (plainFor_of_name (by decide +kernel)) (Nat.le_of_ble_eq_true rfl) (ls := [some (vR a0), some (vR a1), some (vI a2), some (vI a3), none, none]) rfl k
