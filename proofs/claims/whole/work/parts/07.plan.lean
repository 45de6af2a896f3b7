theorem d_Pl_copyFrom_0 : decode m_Pl_copyFrom.2.1 0 = .ok (.aload_n 0, 1) := by decide +kernel
theorem d_Pl_copyFrom_1 : decode m_Pl_copyFrom.2.1 1 = .ok (.aload_n 1, 1) := by decide +kernel
theorem d_Pl_copyFrom_2 : decode m_Pl_copyFrom.2.1 2 = .ok (.getfield 9, 3) := by decide +kernel
theorem d_Pl_copyFrom_5 : decode m_Pl_copyFrom.2.1 5 = .ok (.putfield 9, 3) := by decide +kernel
theorem d_Pl_copyFrom_8 : decode m_Pl_copyFrom.2.1 8 = .ok (.aload_n 0, 1) := by decide +kernel
theorem d_Pl_copyFrom_9 : decode m_Pl_copyFrom.2.1 9 = .ok (.aload_n 1, 1) := by decide +kernel
theorem d_Pl_copyFrom_10 : decode m_Pl_copyFrom.2.1 10 = .ok (.getfield 15, 3) := by decide +kernel
theorem d_Pl_copyFrom_13 : decode m_Pl_copyFrom.2.1 13 = .ok (.putfield 15, 3) := by decide +kernel
theorem d_Pl_copyFrom_16 : decode m_Pl_copyFrom.2.1 16 = .ok (.iconst 0, 1) := by decide +kernel
theorem d_Pl_copyFrom_17 : decode m_Pl_copyFrom.2.1 17 = .ok (.istore_n 2, 1) := by decide +kernel
theorem d_Pl_copyFrom_18 : decode m_Pl_copyFrom.2.1 18 = .ok (.iload_n 2, 1) := by decide +kernel
theorem d_Pl_copyFrom_19 : decode m_Pl_copyFrom.2.1 19 = .ok (.bipush 48, 2) := by decide +kernel
theorem d_Pl_copyFrom_21 : decode m_Pl_copyFrom.2.1 21 = .ok (.if_icmp .ge 21, 3) := by decide +kernel
theorem d_Pl_copyFrom_24 : decode m_Pl_copyFrom.2.1 24 = .ok (.aload_n 0, 1) := by decide +kernel
theorem d_Pl_copyFrom_25 : decode m_Pl_copyFrom.2.1 25 = .ok (.getfield 18, 3) := by decide +kernel
theorem d_Pl_copyFrom_28 : decode m_Pl_copyFrom.2.1 28 = .ok (.iload_n 2, 1) := by decide +kernel
theorem d_Pl_copyFrom_29 : decode m_Pl_copyFrom.2.1 29 = .ok (.aload_n 1, 1) := by decide +kernel
theorem d_Pl_copyFrom_30 : decode m_Pl_copyFrom.2.1 30 = .ok (.getfield 18, 3) := by decide +kernel
theorem d_Pl_copyFrom_33 : decode m_Pl_copyFrom.2.1 33 = .ok (.iload_n 2, 1) := by decide +kernel
theorem d_Pl_copyFrom_34 : decode m_Pl_copyFrom.2.1 34 = .ok (.baload, 1) := by decide +kernel
theorem d_Pl_copyFrom_35 : decode m_Pl_copyFrom.2.1 35 = .ok (.bastore, 1) := by decide +kernel
theorem d_Pl_copyFrom_36 : decode m_Pl_copyFrom.2.1 36 = .ok (.iinc 2 1, 3) := by decide +kernel
theorem d_Pl_copyFrom_39 : decode m_Pl_copyFrom.2.1 39 = .ok (.goto (-21), 3) := by decide +kernel
theorem d_Pl_copyFrom_42 : decode m_Pl_copyFrom.2.1 42 = .ok (.iconst 0, 1) := by decide +kernel
theorem d_Pl_copyFrom_43 : decode m_Pl_copyFrom.2.1 43 = .ok (.istore_n 2, 1) := by decide +kernel
theorem d_Pl_copyFrom_44 : decode m_Pl_copyFrom.2.1 44 = .ok (.iload_n 2, 1) := by decide +kernel
theorem d_Pl_copyFrom_45 : decode m_Pl_copyFrom.2.1 45 = .ok (.bipush 6, 2) := by decide +kernel
theorem d_Pl_copyFrom_47 : decode m_Pl_copyFrom.2.1 47 = .ok (.if_icmp .ge 93, 3) := by decide +kernel
theorem d_Pl_copyFrom_50 : decode m_Pl_copyFrom.2.1 50 = .ok (.aload_n 0, 1) := by decide +kernel
theorem d_Pl_copyFrom_51 : decode m_Pl_copyFrom.2.1 51 = .ok (.getfield 22, 3) := by decide +kernel
theorem d_Pl_copyFrom_54 : decode m_Pl_copyFrom.2.1 54 = .ok (.iload_n 2, 1) := by decide +kernel
theorem d_Pl_copyFrom_55 : decode m_Pl_copyFrom.2.1 55 = .ok (.aload_n 1, 1) := by decide +kernel
theorem d_Pl_copyFrom_56 : decode m_Pl_copyFrom.2.1 56 = .ok (.getfield 22, 3) := by decide +kernel
theorem d_Pl_copyFrom_59 : decode m_Pl_copyFrom.2.1 59 = .ok (.iload_n 2, 1) := by decide +kernel
theorem d_Pl_copyFrom_60 : decode m_Pl_copyFrom.2.1 60 = .ok (.baload, 1) := by decide +kernel
theorem d_Pl_copyFrom_61 : decode m_Pl_copyFrom.2.1 61 = .ok (.bastore, 1) := by decide +kernel
theorem d_Pl_copyFrom_62 : decode m_Pl_copyFrom.2.1 62 = .ok (.aload_n 0, 1) := by decide +kernel
theorem d_Pl_copyFrom_63 : decode m_Pl_copyFrom.2.1 63 = .ok (.getfield 25, 3) := by decide +kernel
theorem d_Pl_copyFrom_66 : decode m_Pl_copyFrom.2.1 66 = .ok (.iload_n 2, 1) := by decide +kernel
theorem d_Pl_copyFrom_67 : decode m_Pl_copyFrom.2.1 67 = .ok (.aload_n 1, 1) := by decide +kernel
theorem d_Pl_copyFrom_68 : decode m_Pl_copyFrom.2.1 68 = .ok (.getfield 25, 3) := by decide +kernel
theorem d_Pl_copyFrom_71 : decode m_Pl_copyFrom.2.1 71 = .ok (.iload_n 2, 1) := by decide +kernel
theorem d_Pl_copyFrom_72 : decode m_Pl_copyFrom.2.1 72 = .ok (.iaload, 1) := by decide +kernel
theorem d_Pl_copyFrom_73 : decode m_Pl_copyFrom.2.1 73 = .ok (.iastore, 1) := by decide +kernel
theorem d_Pl_copyFrom_74 : decode m_Pl_copyFrom.2.1 74 = .ok (.aload_n 0, 1) := by decide +kernel
theorem d_Pl_copyFrom_75 : decode m_Pl_copyFrom.2.1 75 = .ok (.getfield 29, 3) := by decide +kernel
theorem d_Pl_copyFrom_78 : decode m_Pl_copyFrom.2.1 78 = .ok (.iload_n 2, 1) := by decide +kernel
theorem d_Pl_copyFrom_79 : decode m_Pl_copyFrom.2.1 79 = .ok (.aload_n 1, 1) := by decide +kernel
theorem d_Pl_copyFrom_80 : decode m_Pl_copyFrom.2.1 80 = .ok (.getfield 29, 3) := by decide +kernel
theorem d_Pl_copyFrom_83 : decode m_Pl_copyFrom.2.1 83 = .ok (.iload_n 2, 1) := by decide +kernel
theorem d_Pl_copyFrom_84 : decode m_Pl_copyFrom.2.1 84 = .ok (.iaload, 1) := by decide +kernel
theorem d_Pl_copyFrom_85 : decode m_Pl_copyFrom.2.1 85 = .ok (.iastore, 1) := by decide +kernel
theorem d_Pl_copyFrom_86 : decode m_Pl_copyFrom.2.1 86 = .ok (.aload_n 0, 1) := by decide +kernel
theorem d_Pl_copyFrom_87 : decode m_Pl_copyFrom.2.1 87 = .ok (.getfield 32, 3) := by decide +kernel
theorem d_Pl_copyFrom_90 : decode m_Pl_copyFrom.2.1 90 = .ok (.iload_n 2, 1) := by decide +kernel
theorem d_Pl_copyFrom_91 : decode m_Pl_copyFrom.2.1 91 = .ok (.aload_n 1, 1) := by decide +kernel
theorem d_Pl_copyFrom_92 : decode m_Pl_copyFrom.2.1 92 = .ok (.getfield 32, 3) := by decide +kernel
theorem d_Pl_copyFrom_95 : decode m_Pl_copyFrom.2.1 95 = .ok (.iload_n 2, 1) := by decide +kernel
theorem d_Pl_copyFrom_96 : decode m_Pl_copyFrom.2.1 96 = .ok (.iaload, 1) := by decide +kernel
theorem d_Pl_copyFrom_97 : decode m_Pl_copyFrom.2.1 97 = .ok (.iastore, 1) := by decide +kernel
theorem d_Pl_copyFrom_98 : decode m_Pl_copyFrom.2.1 98 = .ok (.aload_n 0, 1) := by decide +kernel
theorem d_Pl_copyFrom_99 : decode m_Pl_copyFrom.2.1 99 = .ok (.getfield 35, 3) := by decide +kernel
theorem d_Pl_copyFrom_102 : decode m_Pl_copyFrom.2.1 102 = .ok (.iload_n 2, 1) := by decide +kernel
theorem d_Pl_copyFrom_103 : decode m_Pl_copyFrom.2.1 103 = .ok (.aload_n 1, 1) := by decide +kernel
theorem d_Pl_copyFrom_104 : decode m_Pl_copyFrom.2.1 104 = .ok (.getfield 35, 3) := by decide +kernel
theorem d_Pl_copyFrom_107 : decode m_Pl_copyFrom.2.1 107 = .ok (.iload_n 2, 1) := by decide +kernel
theorem d_Pl_copyFrom_108 : decode m_Pl_copyFrom.2.1 108 = .ok (.iaload, 1) := by decide +kernel
theorem d_Pl_copyFrom_109 : decode m_Pl_copyFrom.2.1 109 = .ok (.iastore, 1) := by decide +kernel
theorem d_Pl_copyFrom_110 : decode m_Pl_copyFrom.2.1 110 = .ok (.aload_n 0, 1) := by decide +kernel
theorem d_Pl_copyFrom_111 : decode m_Pl_copyFrom.2.1 111 = .ok (.getfield 38, 3) := by decide +kernel
theorem d_Pl_copyFrom_114 : decode m_Pl_copyFrom.2.1 114 = .ok (.iload_n 2, 1) := by decide +kernel
theorem d_Pl_copyFrom_115 : decode m_Pl_copyFrom.2.1 115 = .ok (.aload_n 1, 1) := by decide +kernel
theorem d_Pl_copyFrom_116 : decode m_Pl_copyFrom.2.1 116 = .ok (.getfield 38, 3) := by decide +kernel
theorem d_Pl_copyFrom_119 : decode m_Pl_copyFrom.2.1 119 = .ok (.iload_n 2, 1) := by decide +kernel
theorem d_Pl_copyFrom_120 : decode m_Pl_copyFrom.2.1 120 = .ok (.iaload, 1) := by decide +kernel
theorem d_Pl_copyFrom_121 : decode m_Pl_copyFrom.2.1 121 = .ok (.iastore, 1) := by decide +kernel
theorem d_Pl_copyFrom_122 : decode m_Pl_copyFrom.2.1 122 = .ok (.aload_n 0, 1) := by decide +kernel
theorem d_Pl_copyFrom_123 : decode m_Pl_copyFrom.2.1 123 = .ok (.getfield 41, 3) := by decide +kernel
theorem d_Pl_copyFrom_126 : decode m_Pl_copyFrom.2.1 126 = .ok (.iload_n 2, 1) := by decide +kernel
theorem d_Pl_copyFrom_127 : decode m_Pl_copyFrom.2.1 127 = .ok (.aload_n 1, 1) := by decide +kernel
theorem d_Pl_copyFrom_128 : decode m_Pl_copyFrom.2.1 128 = .ok (.getfield 41, 3) := by decide +kernel
theorem d_Pl_copyFrom_131 : decode m_Pl_copyFrom.2.1 131 = .ok (.iload_n 2, 1) := by decide +kernel
theorem d_Pl_copyFrom_132 : decode m_Pl_copyFrom.2.1 132 = .ok (.iaload, 1) := by decide +kernel
theorem d_Pl_copyFrom_133 : decode m_Pl_copyFrom.2.1 133 = .ok (.iastore, 1) := by decide +kernel
theorem d_Pl_copyFrom_134 : decode m_Pl_copyFrom.2.1 134 = .ok (.iinc 2 1, 3) := by decide +kernel
theorem d_Pl_copyFrom_137 : decode m_Pl_copyFrom.2.1 137 = .ok (.goto (-93), 3) := by decide +kernel
theorem d_Pl_copyFrom_140 : decode m_Pl_copyFrom.2.1 140 = .ok (.iconst 0, 1) := by decide +kernel
theorem d_Pl_copyFrom_141 : decode m_Pl_copyFrom.2.1 141 = .ok (.istore_n 2, 1) := by decide +kernel
theorem d_Pl_copyFrom_142 : decode m_Pl_copyFrom.2.1 142 = .ok (.iload_n 2, 1) := by decide +kernel
theorem d_Pl_copyFrom_143 : decode m_Pl_copyFrom.2.1 143 = .ok (.bipush 60, 2) := by decide +kernel
theorem d_Pl_copyFrom_145 : decode m_Pl_copyFrom.2.1 145 = .ok (.if_icmp .ge 21, 3) := by decide +kernel
theorem d_Pl_copyFrom_148 : decode m_Pl_copyFrom.2.1 148 = .ok (.aload_n 0, 1) := by decide +kernel
theorem d_Pl_copyFrom_149 : decode m_Pl_copyFrom.2.1 149 = .ok (.getfield 44, 3) := by decide +kernel
theorem d_Pl_copyFrom_152 : decode m_Pl_copyFrom.2.1 152 = .ok (.iload_n 2, 1) := by decide +kernel
theorem d_Pl_copyFrom_153 : decode m_Pl_copyFrom.2.1 153 = .ok (.aload_n 1, 1) := by decide +kernel
theorem d_Pl_copyFrom_154 : decode m_Pl_copyFrom.2.1 154 = .ok (.getfield 44, 3) := by decide +kernel
theorem d_Pl_copyFrom_157 : decode m_Pl_copyFrom.2.1 157 = .ok (.iload_n 2, 1) := by decide +kernel
theorem d_Pl_copyFrom_158 : decode m_Pl_copyFrom.2.1 158 = .ok (.iaload, 1) := by decide +kernel
theorem d_Pl_copyFrom_159 : decode m_Pl_copyFrom.2.1 159 = .ok (.iastore, 1) := by decide +kernel
theorem d_Pl_copyFrom_160 : decode m_Pl_copyFrom.2.1 160 = .ok (.iinc 2 1, 3) := by decide +kernel
theorem d_Pl_copyFrom_163 : decode m_Pl_copyFrom.2.1 163 = .ok (.goto (-21), 3) := by decide +kernel
theorem d_Pl_copyFrom_166 : decode m_Pl_copyFrom.2.1 166 = .ok (.return_, 1) := by decide +kernel
theorem g_Pl_copyFrom_0 {X : XS} (a0 : List Nat) (a1 : List Nat) (h : Hp) (Q : Option AV → Hp → Prop) (w_a0 : IsPl a0) (w_a1 : IsPl a1) (k : Rn X m_Pl_copyFrom 18 [some (vR a0), some (vR a1), some (vI 0)] [] (hsI (hsI h a0 0 (h.1 a1 0)) a0 1 ((hsI h a0 0 (h.1 a1 0)).1 a1 1)) Q) : Rn X m_Pl_copyFrom 0 [some (vR a0), some (vR a1), none] [] h Q := by
  refine Rn.aload_n (n := 1) (i := 0) d_Pl_copyFrom_0 rfl rfl rfl ?_
  refine Rn.aload_n (n := 2) (i := 1) d_Pl_copyFrom_1 rfl rfl rfl ?_
  refine Rn.getf (n := 5) (v := vI (h.1 a1 0)) d_Pl_copyFrom_2 rfl fl_Pl_9 w_a1.s rfl ?_
  refine Rn.putI (n := 8) d_Pl_copyFrom_5 rfl fl_Pl_9 pl_Pl_0 w_a0.s rfl ?_
  refine Rn.aload_n (n := 9) (i := 0) d_Pl_copyFrom_8 rfl rfl rfl ?_
  refine Rn.aload_n (n := 10) (i := 1) d_Pl_copyFrom_9 rfl rfl rfl ?_
  refine Rn.getf (n := 13) (v := vI ((hsI h a0 0 (h.1 a1 0)).1 a1 1)) d_Pl_copyFrom_10 rfl fl_Pl_15 w_a1.s rfl ?_
  refine Rn.putI (n := 16) d_Pl_copyFrom_13 rfl fl_Pl_15 pl_Pl_1 w_a0.s rfl ?_
  refine Rn.iconst (n := 17) (v := 0) d_Pl_copyFrom_16 rfl (by decide) ?_
  refine Rn.istore_n (n := 18) (i := 2) (ls2 := [some (vR a0), some (vR a1), some (vI 0)]) d_Pl_copyFrom_17 rfl rfl (Nat.le_of_ble_eq_true rfl) rfl ?_
  exact k
theorem g_Pl_copyFrom_18 {X : XS} (a0 : List Nat) (a1 : List Nat) (a2 : Int32) (h : Hp) (Q : Option AV → Hp → Prop) (w_a0 : IsPl a0) (w_a1 : IsPl a1) (k : ((48 ≤ a2 → Rn X m_Pl_copyFrom 44 [some (vR a0), some (vR a1), some (vI 0)] [] h Q) ∧ (¬ 48 ≤ a2 → (vp_in a2 48 ∧ (vp_in a2 48 ∧ Rn X m_Pl_copyFrom 18 [some (vR a0), some (vR a1), some (vI (a2 + 1))] [] (hsI h (2 :: a0) a2.toNatClampNeg ((h.1 (2 :: a1) a2.toNatClampNeg) &&& 1)) Q))))) : Rn X m_Pl_copyFrom 18 [some (vR a0), some (vR a1), some (vI a2)] [] h Q := by
  refine Rn.iload_n (n := 19) (i := 2) d_Pl_copyFrom_18 rfl rfl rfl ?_
  refine Rn.bipush (n := 21) (v := 48) d_Pl_copyFrom_19 rfl (by decide) ?_
  refine Rn.icmp_ge (n := 24) (t := 42) d_Pl_copyFrom_21 rfl (by decide) (fun cc => ?_) (fun cc => ?_)
  · have k := k.1 cc
    refine Rn.iconst (n := 43) (v := 0) d_Pl_copyFrom_42 rfl (by decide) ?_
    refine Rn.istore_n (n := 44) (i := 2) (ls2 := [some (vR a0), some (vR a1), some (vI 0)]) d_Pl_copyFrom_43 rfl rfl (Nat.le_of_ble_eq_true rfl) rfl ?_
    exact k
  · have k := k.2 cc
    refine Rn.aload_n (n := 25) (i := 0) d_Pl_copyFrom_24 rfl rfl rfl ?_
    refine Rn.getf (n := 28) (v := vR (2 :: a0)) d_Pl_copyFrom_25 rfl fl_Pl_18 w_a0.s rfl ?_
    refine Rn.iload_n (n := 29) (i := 2) d_Pl_copyFrom_28 rfl rfl rfl ?_
    refine Rn.aload_n (n := 30) (i := 1) d_Pl_copyFrom_29 rfl rfl rfl ?_
    refine Rn.getf (n := 33) (v := vR (2 :: a1)) d_Pl_copyFrom_30 rfl fl_Pl_18 w_a1.s rfl ?_
    refine Rn.iload_n (n := 34) (i := 2) d_Pl_copyFrom_33 rfl rfl rfl ?_
    obtain ⟨b1, k⟩ := k
    refine Rn.zald (n := 35) (v := h.1 (2 :: a1) a2.toNatClampNeg) d_Pl_copyFrom_34 rfl w_a1.c2 b1 rfl ?_
    obtain ⟨b2, k⟩ := k
    refine Rn.zast (n := 36) (y := (h.1 (2 :: a1) a2.toNatClampNeg) &&& 1) d_Pl_copyFrom_35 rfl w_a0.c2 b2 rfl ?_
    refine Rn.iinc (n := 39) (i := 2) (v := a2 + 1) (ls2 := [some (vR a0), some (vR a1), some (vI (a2 + 1))]) d_Pl_copyFrom_36 rfl rfl rfl (Nat.le_of_ble_eq_true rfl) rfl ?_
    refine Rn.goto (n := 18) d_Pl_copyFrom_39 (by decide) ?_
    exact k
theorem g_Pl_copyFrom_44 {X : XS} (a0 : List Nat) (a1 : List Nat) (a2 : Int32) (h : Hp) (Q : Option AV → Hp → Prop) (w_a0 : IsPl a0) (w_a1 : IsPl a1) (k : ((6 ≤ a2 → Rn X m_Pl_copyFrom 142 [some (vR a0), some (vR a1), some (vI 0)] [] h Q) ∧ (¬ 6 ≤ a2 → (vp_in a2 6 ∧ (vp_in a2 6 ∧ (vp_in a2 6 ∧ (vp_in a2 6 ∧ (vp_in a2 6 ∧ (vp_in a2 6 ∧ (vp_in a2 6 ∧ (vp_in a2 6 ∧ (vp_in a2 6 ∧ (vp_in a2 6 ∧ (vp_in a2 6 ∧ (vp_in a2 6 ∧ (vp_in a2 6 ∧ (vp_in a2 6 ∧ Rn X m_Pl_copyFrom 44 [some (vR a0), some (vR a1), some (vI (a2 + 1))] [] (hsI (hsI (hsI (hsI (hsI (hsI (hsI h (3 :: a0) a2.toNatClampNeg ((h.1 (3 :: a1) a2.toNatClampNeg) &&& 1)) (4 :: a0) a2.toNatClampNeg ((hsI h (3 :: a0) a2.toNatClampNeg ((h.1 (3 :: a1) a2.toNatClampNeg) &&& 1)).1 (4 :: a1) a2.toNatClampNeg)) (5 :: a0) a2.toNatClampNeg ((hsI (hsI h (3 :: a0) a2.toNatClampNeg ((h.1 (3 :: a1) a2.toNatClampNeg) &&& 1)) (4 :: a0) a2.toNatClampNeg ((hsI h (3 :: a0) a2.toNatClampNeg ((h.1 (3 :: a1) a2.toNatClampNeg) &&& 1)).1 (4 :: a1) a2.toNatClampNeg)).1 (5 :: a1) a2.toNatClampNeg)) (6 :: a0) a2.toNatClampNeg ((hsI (hsI (hsI h (3 :: a0) a2.toNatClampNeg ((h.1 (3 :: a1) a2.toNatClampNeg) &&& 1)) (4 :: a0) a2.toNatClampNeg ((hsI h (3 :: a0) a2.toNatClampNeg ((h.1 (3 :: a1) a2.toNatClampNeg) &&& 1)).1 (4 :: a1) a2.toNatClampNeg)) (5 :: a0) a2.toNatClampNeg ((hsI (hsI h (3 :: a0) a2.toNatClampNeg ((h.1 (3 :: a1) a2.toNatClampNeg) &&& 1)) (4 :: a0) a2.toNatClampNeg ((hsI h (3 :: a0) a2.toNatClampNeg ((h.1 (3 :: a1) a2.toNatClampNeg) &&& 1)).1 (4 :: a1) a2.toNatClampNeg)).1 (5 :: a1) a2.toNatClampNeg)).1 (6 :: a1) a2.toNatClampNeg)) (7 :: a0) a2.toNatClampNeg ((hsI (hsI (hsI (hsI h (3 :: a0) a2.toNatClampNeg ((h.1 (3 :: a1) a2.toNatClampNeg) &&& 1)) (4 :: a0) a2.toNatClampNeg ((hsI h (3 :: a0) a2.toNatClampNeg ((h.1 (3 :: a1) a2.toNatClampNeg) &&& 1)).1 (4 :: a1) a2.toNatClampNeg)) (5 :: a0) a2.toNatClampNeg ((hsI (hsI h (3 :: a0) a2.toNatClampNeg ((h.1 (3 :: a1) a2.toNatClampNeg) &&& 1)) (4 :: a0) a2.toNatClampNeg ((hsI h (3 :: a0) a2.toNatClampNeg ((h.1 (3 :: a1) a2.toNatClampNeg) &&& 1)).1 (4 :: a1) a2.toNatClampNeg)).1 (5 :: a1) a2.toNatClampNeg)) (6 :: a0) a2.toNatClampNeg ((hsI (hsI (hsI h (3 :: a0) a2.toNatClampNeg ((h.1 (3 :: a1) a2.toNatClampNeg) &&& 1)) (4 :: a0) a2.toNatClampNeg ((hsI h (3 :: a0) a2.toNatClampNeg ((h.1 (3 :: a1) a2.toNatClampNeg) &&& 1)).1 (4 :: a1) a2.toNatClampNeg)) (5 :: a0) a2.toNatClampNeg ((hsI (hsI h (3 :: a0) a2.toNatClampNeg ((h.1 (3 :: a1) a2.toNatClampNeg) &&& 1)) (4 :: a0) a2.toNatClampNeg ((hsI h (3 :: a0) a2.toNatClampNeg ((h.1 (3 :: a1) a2.toNatClampNeg) &&& 1)).1 (4 :: a1) a2.toNatClampNeg)).1 (5 :: a1) a2.toNatClampNeg)).1 (6 :: a1) a2.toNatClampNeg)).1 (7 :: a1) a2.toNatClampNeg)) (8 :: a0) a2.toNatClampNeg ((hsI (hsI (hsI (hsI (hsI h (3 :: a0) a2.toNatClampNeg ((h.1 (3 :: a1) a2.toNatClampNeg) &&& 1)) (4 :: a0) a2.toNatClampNeg ((hsI h (3 :: a0) a2.toNatClampNeg ((h.1 (3 :: a1) a2.toNatClampNeg) &&& 1)).1 (4 :: a1) a2.toNatClampNeg)) (5 :: a0) a2.toNatClampNeg ((hsI (hsI h (3 :: a0) a2.toNatClampNeg ((h.1 (3 :: a1) a2.toNatClampNeg) &&& 1)) (4 :: a0) a2.toNatClampNeg ((hsI h (3 :: a0) a2.toNatClampNeg ((h.1 (3 :: a1) a2.toNatClampNeg) &&& 1)).1 (4 :: a1) a2.toNatClampNeg)).1 (5 :: a1) a2.toNatClampNeg)) (6 :: a0) a2.toNatClampNeg ((hsI (hsI (hsI h (3 :: a0) a2.toNatClampNeg ((h.1 (3 :: a1) a2.toNatClampNeg) &&& 1)) (4 :: a0) a2.toNatClampNeg ((hsI h (3 :: a0) a2.toNatClampNeg ((h.1 (3 :: a1) a2.toNatClampNeg) &&& 1)).1 (4 :: a1) a2.toNatClampNeg)) (5 :: a0) a2.toNatClampNeg ((hsI (hsI h (3 :: a0) a2.toNatClampNeg ((h.1 (3 :: a1) a2.toNatClampNeg) &&& 1)) (4 :: a0) a2.toNatClampNeg ((hsI h (3 :: a0) a2.toNatClampNeg ((h.1 (3 :: a1) a2.toNatClampNeg) &&& 1)).1 (4 :: a1) a2.toNatClampNeg)).1 (5 :: a1) a2.toNatClampNeg)).1 (6 :: a1) a2.toNatClampNeg)) (7 :: a0) a2.toNatClampNeg ((hsI (hsI (hsI (hsI h (3 :: a0) a2.toNatClampNeg ((h.1 (3 :: a1) a2.toNatClampNeg) &&& 1)) (4 :: a0) a2.toNatClampNeg ((hsI h (3 :: a0) a2.toNatClampNeg ((h.1 (3 :: a1) a2.toNatClampNeg) &&& 1)).1 (4 :: a1) a2.toNatClampNeg)) (5 :: a0) a2.toNatClampNeg ((hsI (hsI h (3 :: a0) a2.toNatClampNeg ((h.1 (3 :: a1) a2.toNatClampNeg) &&& 1)) (4 :: a0) a2.toNatClampNeg ((hsI h (3 :: a0) a2.toNatClampNeg ((h.1 (3 :: a1) a2.toNatClampNeg) &&& 1)).1 (4 :: a1) a2.toNatClampNeg)).1 (5 :: a1) a2.toNatClampNeg)) (6 :: a0) a2.toNatClampNeg ((hsI (hsI (hsI h (3 :: a0) a2.toNatClampNeg ((h.1 (3 :: a1) a2.toNatClampNeg) &&& 1)) (4 :: a0) a2.toNatClampNeg ((hsI h (3 :: a0) a2.toNatClampNeg ((h.1 (3 :: a1) a2.toNatClampNeg) &&& 1)).1 (4 :: a1) a2.toNatClampNeg)) (5 :: a0) a2.toNatClampNeg ((hsI (hsI h (3 :: a0) a2.toNatClampNeg ((h.1 (3 :: a1) a2.toNatClampNeg) &&& 1)) (4 :: a0) a2.toNatClampNeg ((hsI h (3 :: a0) a2.toNatClampNeg ((h.1 (3 :: a1) a2.toNatClampNeg) &&& 1)).1 (4 :: a1) a2.toNatClampNeg)).1 (5 :: a1) a2.toNatClampNeg)).1 (6 :: a1) a2.toNatClampNeg)).1 (7 :: a1) a2.toNatClampNeg)).1 (8 :: a1) a2.toNatClampNeg)) (9 :: a0) a2.toNatClampNeg ((hsI (hsI (hsI (hsI (hsI (hsI h (3 :: a0) a2.toNatClampNeg ((h.1 (3 :: a1) a2.toNatClampNeg) &&& 1)) (4 :: a0) a2.toNatClampNeg ((hsI h (3 :: a0) a2.toNatClampNeg ((h.1 (3 :: a1) a2.toNatClampNeg) &&& 1)).1 (4 :: a1) a2.toNatClampNeg)) (5 :: a0) a2.toNatClampNeg ((hsI (hsI h (3 :: a0) a2.toNatClampNeg ((h.1 (3 :: a1) a2.toNatClampNeg) &&& 1)) (4 :: a0) a2.toNatClampNeg ((hsI h (3 :: a0) a2.toNatClampNeg ((h.1 (3 :: a1) a2.toNatClampNeg) &&& 1)).1 (4 :: a1) a2.toNatClampNeg)).1 (5 :: a1) a2.toNatClampNeg)) (6 :: a0) a2.toNatClampNeg ((hsI (hsI (hsI h (3 :: a0) a2.toNatClampNeg ((h.1 (3 :: a1) a2.toNatClampNeg) &&& 1)) (4 :: a0) a2.toNatClampNeg ((hsI h (3 :: a0) a2.toNatClampNeg ((h.1 (3 :: a1) a2.toNatClampNeg) &&& 1)).1 (4 :: a1) a2.toNatClampNeg)) (5 :: a0) a2.toNatClampNeg ((hsI (hsI h (3 :: a0) a2.toNatClampNeg ((h.1 (3 :: a1) a2.toNatClampNeg) &&& 1)) (4 :: a0) a2.toNatClampNeg ((hsI h (3 :: a0) a2.toNatClampNeg ((h.1 (3 :: a1) a2.toNatClampNeg) &&& 1)).1 (4 :: a1) a2.toNatClampNeg)).1 (5 :: a1) a2.toNatClampNeg)).1 (6 :: a1) a2.toNatClampNeg)) (7 :: a0) a2.toNatClampNeg ((hsI (hsI (hsI (hsI h (3 :: a0) a2.toNatClampNeg ((h.1 (3 :: a1) a2.toNatClampNeg) &&& 1)) (4 :: a0) a2.toNatClampNeg ((hsI h (3 :: a0) a2.toNatClampNeg ((h.1 (3 :: a1) a2.toNatClampNeg) &&& 1)).1 (4 :: a1) a2.toNatClampNeg)) (5 :: a0) a2.toNatClampNeg ((hsI (hsI h (3 :: a0) a2.toNatClampNeg ((h.1 (3 :: a1) a2.toNatClampNeg) &&& 1)) (4 :: a0) a2.toNatClampNeg ((hsI h (3 :: a0) a2.toNatClampNeg ((h.1 (3 :: a1) a2.toNatClampNeg) &&& 1)).1 (4 :: a1) a2.toNatClampNeg)).1 (5 :: a1) a2.toNatClampNeg)) (6 :: a0) a2.toNatClampNeg ((hsI (hsI (hsI h (3 :: a0) a2.toNatClampNeg ((h.1 (3 :: a1) a2.toNatClampNeg) &&& 1)) (4 :: a0) a2.toNatClampNeg ((hsI h (3 :: a0) a2.toNatClampNeg ((h.1 (3 :: a1) a2.toNatClampNeg) &&& 1)).1 (4 :: a1) a2.toNatClampNeg)) (5 :: a0) a2.toNatClampNeg ((hsI (hsI h (3 :: a0) a2.toNatClampNeg ((h.1 (3 :: a1) a2.toNatClampNeg) &&& 1)) (4 :: a0) a2.toNatClampNeg ((hsI h (3 :: a0) a2.toNatClampNeg ((h.1 (3 :: a1) a2.toNatClampNeg) &&& 1)).1 (4 :: a1) a2.toNatClampNeg)).1 (5 :: a1) a2.toNatClampNeg)).1 (6 :: a1) a2.toNatClampNeg)).1 (7 :: a1) a2.toNatClampNeg)) (8 :: a0) a2.toNatClampNeg ((hsI (hsI (hsI (hsI (hsI h (3 :: a0) a2.toNatClampNeg ((h.1 (3 :: a1) a2.toNatClampNeg) &&& 1)) (4 :: a0) a2.toNatClampNeg ((hsI h (3 :: a0) a2.toNatClampNeg ((h.1 (3 :: a1) a2.toNatClampNeg) &&& 1)).1 (4 :: a1) a2.toNatClampNeg)) (5 :: a0) a2.toNatClampNeg ((hsI (hsI h (3 :: a0) a2.toNatClampNeg ((h.1 (3 :: a1) a2.toNatClampNeg) &&& 1)) (4 :: a0) a2.toNatClampNeg ((hsI h (3 :: a0) a2.toNatClampNeg ((h.1 (3 :: a1) a2.toNatClampNeg) &&& 1)).1 (4 :: a1) a2.toNatClampNeg)).1 (5 :: a1) a2.toNatClampNeg)) (6 :: a0) a2.toNatClampNeg ((hsI (hsI (hsI h (3 :: a0) a2.toNatClampNeg ((h.1 (3 :: a1) a2.toNatClampNeg) &&& 1)) (4 :: a0) a2.toNatClampNeg ((hsI h (3 :: a0) a2.toNatClampNeg ((h.1 (3 :: a1) a2.toNatClampNeg) &&& 1)).1 (4 :: a1) a2.toNatClampNeg)) (5 :: a0) a2.toNatClampNeg ((hsI (hsI h (3 :: a0) a2.toNatClampNeg ((h.1 (3 :: a1) a2.toNatClampNeg) &&& 1)) (4 :: a0) a2.toNatClampNeg ((hsI h (3 :: a0) a2.toNatClampNeg ((h.1 (3 :: a1) a2.toNatClampNeg) &&& 1)).1 (4 :: a1) a2.toNatClampNeg)).1 (5 :: a1) a2.toNatClampNeg)).1 (6 :: a1) a2.toNatClampNeg)) (7 :: a0) a2.toNatClampNeg ((hsI (hsI (hsI (hsI h (3 :: a0) a2.toNatClampNeg ((h.1 (3 :: a1) a2.toNatClampNeg) &&& 1)) (4 :: a0) a2.toNatClampNeg ((hsI h (3 :: a0) a2.toNatClampNeg ((h.1 (3 :: a1) a2.toNatClampNeg) &&& 1)).1 (4 :: a1) a2.toNatClampNeg)) (5 :: a0) a2.toNatClampNeg ((hsI (hsI h (3 :: a0) a2.toNatClampNeg ((h.1 (3 :: a1) a2.toNatClampNeg) &&& 1)) (4 :: a0) a2.toNatClampNeg ((hsI h (3 :: a0) a2.toNatClampNeg ((h.1 (3 :: a1) a2.toNatClampNeg) &&& 1)).1 (4 :: a1) a2.toNatClampNeg)).1 (5 :: a1) a2.toNatClampNeg)) (6 :: a0) a2.toNatClampNeg ((hsI (hsI (hsI h (3 :: a0) a2.toNatClampNeg ((h.1 (3 :: a1) a2.toNatClampNeg) &&& 1)) (4 :: a0) a2.toNatClampNeg ((hsI h (3 :: a0) a2.toNatClampNeg ((h.1 (3 :: a1) a2.toNatClampNeg) &&& 1)).1 (4 :: a1) a2.toNatClampNeg)) (5 :: a0) a2.toNatClampNeg ((hsI (hsI h (3 :: a0) a2.toNatClampNeg ((h.1 (3 :: a1) a2.toNatClampNeg) &&& 1)) (4 :: a0) a2.toNatClampNeg ((hsI h (3 :: a0) a2.toNatClampNeg ((h.1 (3 :: a1) a2.toNatClampNeg) &&& 1)).1 (4 :: a1) a2.toNatClampNeg)).1 (5 :: a1) a2.toNatClampNeg)).1 (6 :: a1) a2.toNatClampNeg)).1 (7 :: a1) a2.toNatClampNeg)).1 (8 :: a1) a2.toNatClampNeg)).1 (9 :: a1) a2.toNatClampNeg)) Q))))))))))))))))) : Rn X m_Pl_copyFrom 44 [some (vR a0), some (vR a1), some (vI a2)] [] h Q := by
  refine Rn.iload_n (n := 45) (i := 2) d_Pl_copyFrom_44 rfl rfl rfl ?_
  refine Rn.bipush (n := 47) (v := 6) d_Pl_copyFrom_45 rfl (by decide) ?_
  refine Rn.icmp_ge (n := 50) (t := 140) d_Pl_copyFrom_47 rfl (by decide) (fun cc => ?_) (fun cc => ?_)
  · have k := k.1 cc
    refine Rn.iconst (n := 141) (v := 0) d_Pl_copyFrom_140 rfl (by decide) ?_
    refine Rn.istore_n (n := 142) (i := 2) (ls2 := [some (vR a0), some (vR a1), some (vI 0)]) d_Pl_copyFrom_141 rfl rfl (Nat.le_of_ble_eq_true rfl) rfl ?_
    exact k
  · have k := k.2 cc
    refine Rn.aload_n (n := 51) (i := 0) d_Pl_copyFrom_50 rfl rfl rfl ?_
    refine Rn.getf (n := 54) (v := vR (3 :: a0)) d_Pl_copyFrom_51 rfl fl_Pl_22 w_a0.s rfl ?_
    refine Rn.iload_n (n := 55) (i := 2) d_Pl_copyFrom_54 rfl rfl rfl ?_
    refine Rn.aload_n (n := 56) (i := 1) d_Pl_copyFrom_55 rfl rfl rfl ?_
    refine Rn.getf (n := 59) (v := vR (3 :: a1)) d_Pl_copyFrom_56 rfl fl_Pl_22 w_a1.s rfl ?_
    refine Rn.iload_n (n := 60) (i := 2) d_Pl_copyFrom_59 rfl rfl rfl ?_
    obtain ⟨b1, k⟩ := k
    refine Rn.zald (n := 61) (v := h.1 (3 :: a1) a2.toNatClampNeg) d_Pl_copyFrom_60 rfl w_a1.c3 b1 rfl ?_
    obtain ⟨b2, k⟩ := k
    refine Rn.zast (n := 62) (y := (h.1 (3 :: a1) a2.toNatClampNeg) &&& 1) d_Pl_copyFrom_61 rfl w_a0.c3 b2 rfl ?_
    refine Rn.aload_n (n := 63) (i := 0) d_Pl_copyFrom_62 rfl rfl rfl ?_
    refine Rn.getf (n := 66) (v := vR (4 :: a0)) d_Pl_copyFrom_63 rfl fl_Pl_25 w_a0.s rfl ?_
    refine Rn.iload_n (n := 67) (i := 2) d_Pl_copyFrom_66 rfl rfl rfl ?_
    refine Rn.aload_n (n := 68) (i := 1) d_Pl_copyFrom_67 rfl rfl rfl ?_
    refine Rn.getf (n := 71) (v := vR (4 :: a1)) d_Pl_copyFrom_68 rfl fl_Pl_25 w_a1.s rfl ?_
    refine Rn.iload_n (n := 72) (i := 2) d_Pl_copyFrom_71 rfl rfl rfl ?_
    obtain ⟨b3, k⟩ := k
    refine Rn.iald (n := 73) (v := (hsI h (3 :: a0) a2.toNatClampNeg ((h.1 (3 :: a1) a2.toNatClampNeg) &&& 1)).1 (4 :: a1) a2.toNatClampNeg) d_Pl_copyFrom_72 rfl w_a1.c4 b3 rfl ?_
    obtain ⟨b4, k⟩ := k
    refine Rn.iast (n := 74) d_Pl_copyFrom_73 rfl w_a0.c4 b4 ?_
    refine Rn.aload_n (n := 75) (i := 0) d_Pl_copyFrom_74 rfl rfl rfl ?_
    refine Rn.getf (n := 78) (v := vR (5 :: a0)) d_Pl_copyFrom_75 rfl fl_Pl_29 w_a0.s rfl ?_
    refine Rn.iload_n (n := 79) (i := 2) d_Pl_copyFrom_78 rfl rfl rfl ?_
    refine Rn.aload_n (n := 80) (i := 1) d_Pl_copyFrom_79 rfl rfl rfl ?_
    refine Rn.getf (n := 83) (v := vR (5 :: a1)) d_Pl_copyFrom_80 rfl fl_Pl_29 w_a1.s rfl ?_
    refine Rn.iload_n (n := 84) (i := 2) d_Pl_copyFrom_83 rfl rfl rfl ?_
    obtain ⟨b5, k⟩ := k
    refine Rn.iald (n := 85) (v := (hsI (hsI h (3 :: a0) a2.toNatClampNeg ((h.1 (3 :: a1) a2.toNatClampNeg) &&& 1)) (4 :: a0) a2.toNatClampNeg ((hsI h (3 :: a0) a2.toNatClampNeg ((h.1 (3 :: a1) a2.toNatClampNeg) &&& 1)).1 (4 :: a1) a2.toNatClampNeg)).1 (5 :: a1) a2.toNatClampNeg) d_Pl_copyFrom_84 rfl w_a1.c5 b5 rfl ?_
    obtain ⟨b6, k⟩ := k
    refine Rn.iast (n := 86) d_Pl_copyFrom_85 rfl w_a0.c5 b6 ?_
    refine Rn.aload_n (n := 87) (i := 0) d_Pl_copyFrom_86 rfl rfl rfl ?_
    refine Rn.getf (n := 90) (v := vR (6 :: a0)) d_Pl_copyFrom_87 rfl fl_Pl_32 w_a0.s rfl ?_
    refine Rn.iload_n (n := 91) (i := 2) d_Pl_copyFrom_90 rfl rfl rfl ?_
    refine Rn.aload_n (n := 92) (i := 1) d_Pl_copyFrom_91 rfl rfl rfl ?_
    refine Rn.getf (n := 95) (v := vR (6 :: a1)) d_Pl_copyFrom_92 rfl fl_Pl_32 w_a1.s rfl ?_
    refine Rn.iload_n (n := 96) (i := 2) d_Pl_copyFrom_95 rfl rfl rfl ?_
    obtain ⟨b7, k⟩ := k
    refine Rn.iald (n := 97) (v := (hsI (hsI (hsI h (3 :: a0) a2.toNatClampNeg ((h.1 (3 :: a1) a2.toNatClampNeg) &&& 1)) (4 :: a0) a2.toNatClampNeg ((hsI h (3 :: a0) a2.toNatClampNeg ((h.1 (3 :: a1) a2.toNatClampNeg) &&& 1)).1 (4 :: a1) a2.toNatClampNeg)) (5 :: a0) a2.toNatClampNeg ((hsI (hsI h (3 :: a0) a2.toNatClampNeg ((h.1 (3 :: a1) a2.toNatClampNeg) &&& 1)) (4 :: a0) a2.toNatClampNeg ((hsI h (3 :: a0) a2.toNatClampNeg ((h.1 (3 :: a1) a2.toNatClampNeg) &&& 1)).1 (4 :: a1) a2.toNatClampNeg)).1 (5 :: a1) a2.toNatClampNeg)).1 (6 :: a1) a2.toNatClampNeg) d_Pl_copyFrom_96 rfl w_a1.c6 b7 rfl ?_
    obtain ⟨b8, k⟩ := k
    refine Rn.iast (n := 98) d_Pl_copyFrom_97 rfl w_a0.c6 b8 ?_
    refine Rn.aload_n (n := 99) (i := 0) d_Pl_copyFrom_98 rfl rfl rfl ?_
    refine Rn.getf (n := 102) (v := vR (7 :: a0)) d_Pl_copyFrom_99 rfl fl_Pl_35 w_a0.s rfl ?_
    refine Rn.iload_n (n := 103) (i := 2) d_Pl_copyFrom_102 rfl rfl rfl ?_
    refine Rn.aload_n (n := 104) (i := 1) d_Pl_copyFrom_103 rfl rfl rfl ?_
    refine Rn.getf (n := 107) (v := vR (7 :: a1)) d_Pl_copyFrom_104 rfl fl_Pl_35 w_a1.s rfl ?_
    refine Rn.iload_n (n := 108) (i := 2) d_Pl_copyFrom_107 rfl rfl rfl ?_
    obtain ⟨b9, k⟩ := k
    refine Rn.iald (n := 109) (v := (hsI (hsI (hsI (hsI h (3 :: a0) a2.toNatClampNeg ((h.1 (3 :: a1) a2.toNatClampNeg) &&& 1)) (4 :: a0) a2.toNatClampNeg ((hsI h (3 :: a0) a2.toNatClampNeg ((h.1 (3 :: a1) a2.toNatClampNeg) &&& 1)).1 (4 :: a1) a2.toNatClampNeg)) (5 :: a0) a2.toNatClampNeg ((hsI (hsI h (3 :: a0) a2.toNatClampNeg ((h.1 (3 :: a1) a2.toNatClampNeg) &&& 1)) (4 :: a0) a2.toNatClampNeg ((hsI h (3 :: a0) a2.toNatClampNeg ((h.1 (3 :: a1) a2.toNatClampNeg) &&& 1)).1 (4 :: a1) a2.toNatClampNeg)).1 (5 :: a1) a2.toNatClampNeg)) (6 :: a0) a2.toNatClampNeg ((hsI (hsI (hsI h (3 :: a0) a2.toNatClampNeg ((h.1 (3 :: a1) a2.toNatClampNeg) &&& 1)) (4 :: a0) a2.toNatClampNeg ((hsI h (3 :: a0) a2.toNatClampNeg ((h.1 (3 :: a1) a2.toNatClampNeg) &&& 1)).1 (4 :: a1) a2.toNatClampNeg)) (5 :: a0) a2.toNatClampNeg ((hsI (hsI h (3 :: a0) a2.toNatClampNeg ((h.1 (3 :: a1) a2.toNatClampNeg) &&& 1)) (4 :: a0) a2.toNatClampNeg ((hsI h (3 :: a0) a2.toNatClampNeg ((h.1 (3 :: a1) a2.toNatClampNeg) &&& 1)).1 (4 :: a1) a2.toNatClampNeg)).1 (5 :: a1) a2.toNatClampNeg)).1 (6 :: a1) a2.toNatClampNeg)).1 (7 :: a1) a2.toNatClampNeg) d_Pl_copyFrom_108 rfl w_a1.c7 b9 rfl ?_
    obtain ⟨b10, k⟩ := k
    refine Rn.iast (n := 110) d_Pl_copyFrom_109 rfl w_a0.c7 b10 ?_
    refine Rn.aload_n (n := 111) (i := 0) d_Pl_copyFrom_110 rfl rfl rfl ?_
    refine Rn.getf (n := 114) (v := vR (8 :: a0)) d_Pl_copyFrom_111 rfl fl_Pl_38 w_a0.s rfl ?_
    refine Rn.iload_n (n := 115) (i := 2) d_Pl_copyFrom_114 rfl rfl rfl ?_
    refine Rn.aload_n (n := 116) (i := 1) d_Pl_copyFrom_115 rfl rfl rfl ?_
    refine Rn.getf (n := 119) (v := vR (8 :: a1)) d_Pl_copyFrom_116 rfl fl_Pl_38 w_a1.s rfl ?_
    refine Rn.iload_n (n := 120) (i := 2) d_Pl_copyFrom_119 rfl rfl rfl ?_
    obtain ⟨b11, k⟩ := k
    refine Rn.iald (n := 121) (v := (hsI (hsI (hsI (hsI (hsI h (3 :: a0) a2.toNatClampNeg ((h.1 (3 :: a1) a2.toNatClampNeg) &&& 1)) (4 :: a0) a2.toNatClampNeg ((hsI h (3 :: a0) a2.toNatClampNeg ((h.1 (3 :: a1) a2.toNatClampNeg) &&& 1)).1 (4 :: a1) a2.toNatClampNeg)) (5 :: a0) a2.toNatClampNeg ((hsI (hsI h (3 :: a0) a2.toNatClampNeg ((h.1 (3 :: a1) a2.toNatClampNeg) &&& 1)) (4 :: a0) a2.toNatClampNeg ((hsI h (3 :: a0) a2.toNatClampNeg ((h.1 (3 :: a1) a2.toNatClampNeg) &&& 1)).1 (4 :: a1) a2.toNatClampNeg)).1 (5 :: a1) a2.toNatClampNeg)) (6 :: a0) a2.toNatClampNeg ((hsI (hsI (hsI h (3 :: a0) a2.toNatClampNeg ((h.1 (3 :: a1) a2.toNatClampNeg) &&& 1)) (4 :: a0) a2.toNatClampNeg ((hsI h (3 :: a0) a2.toNatClampNeg ((h.1 (3 :: a1) a2.toNatClampNeg) &&& 1)).1 (4 :: a1) a2.toNatClampNeg)) (5 :: a0) a2.toNatClampNeg ((hsI (hsI h (3 :: a0) a2.toNatClampNeg ((h.1 (3 :: a1) a2.toNatClampNeg) &&& 1)) (4 :: a0) a2.toNatClampNeg ((hsI h (3 :: a0) a2.toNatClampNeg ((h.1 (3 :: a1) a2.toNatClampNeg) &&& 1)).1 (4 :: a1) a2.toNatClampNeg)).1 (5 :: a1) a2.toNatClampNeg)).1 (6 :: a1) a2.toNatClampNeg)) (7 :: a0) a2.toNatClampNeg ((hsI (hsI (hsI (hsI h (3 :: a0) a2.toNatClampNeg ((h.1 (3 :: a1) a2.toNatClampNeg) &&& 1)) (4 :: a0) a2.toNatClampNeg ((hsI h (3 :: a0) a2.toNatClampNeg ((h.1 (3 :: a1) a2.toNatClampNeg) &&& 1)).1 (4 :: a1) a2.toNatClampNeg)) (5 :: a0) a2.toNatClampNeg ((hsI (hsI h (3 :: a0) a2.toNatClampNeg ((h.1 (3 :: a1) a2.toNatClampNeg) &&& 1)) (4 :: a0) a2.toNatClampNeg ((hsI h (3 :: a0) a2.toNatClampNeg ((h.1 (3 :: a1) a2.toNatClampNeg) &&& 1)).1 (4 :: a1) a2.toNatClampNeg)).1 (5 :: a1) a2.toNatClampNeg)) (6 :: a0) a2.toNatClampNeg ((hsI (hsI (hsI h (3 :: a0) a2.toNatClampNeg ((h.1 (3 :: a1) a2.toNatClampNeg) &&& 1)) (4 :: a0) a2.toNatClampNeg ((hsI h (3 :: a0) a2.toNatClampNeg ((h.1 (3 :: a1) a2.toNatClampNeg) &&& 1)).1 (4 :: a1) a2.toNatClampNeg)) (5 :: a0) a2.toNatClampNeg ((hsI (hsI h (3 :: a0) a2.toNatClampNeg ((h.1 (3 :: a1) a2.toNatClampNeg) &&& 1)) (4 :: a0) a2.toNatClampNeg ((hsI h (3 :: a0) a2.toNatClampNeg ((h.1 (3 :: a1) a2.toNatClampNeg) &&& 1)).1 (4 :: a1) a2.toNatClampNeg)).1 (5 :: a1) a2.toNatClampNeg)).1 (6 :: a1) a2.toNatClampNeg)).1 (7 :: a1) a2.toNatClampNeg)).1 (8 :: a1) a2.toNatClampNeg) d_Pl_copyFrom_120 rfl w_a1.c8 b11 rfl ?_
    obtain ⟨b12, k⟩ := k
    refine Rn.iast (n := 122) d_Pl_copyFrom_121 rfl w_a0.c8 b12 ?_
    refine Rn.aload_n (n := 123) (i := 0) d_Pl_copyFrom_122 rfl rfl rfl ?_
    refine Rn.getf (n := 126) (v := vR (9 :: a0)) d_Pl_copyFrom_123 rfl fl_Pl_41 w_a0.s rfl ?_
    refine Rn.iload_n (n := 127) (i := 2) d_Pl_copyFrom_126 rfl rfl rfl ?_
    refine Rn.aload_n (n := 128) (i := 1) d_Pl_copyFrom_127 rfl rfl rfl ?_
    refine Rn.getf (n := 131) (v := vR (9 :: a1)) d_Pl_copyFrom_128 rfl fl_Pl_41 w_a1.s rfl ?_
    refine Rn.iload_n (n := 132) (i := 2) d_Pl_copyFrom_131 rfl rfl rfl ?_
    obtain ⟨b13, k⟩ := k
    refine Rn.iald (n := 133) (v := (hsI (hsI (hsI (hsI (hsI (hsI h (3 :: a0) a2.toNatClampNeg ((h.1 (3 :: a1) a2.toNatClampNeg) &&& 1)) (4 :: a0) a2.toNatClampNeg ((hsI h (3 :: a0) a2.toNatClampNeg ((h.1 (3 :: a1) a2.toNatClampNeg) &&& 1)).1 (4 :: a1) a2.toNatClampNeg)) (5 :: a0) a2.toNatClampNeg ((hsI (hsI h (3 :: a0) a2.toNatClampNeg ((h.1 (3 :: a1) a2.toNatClampNeg) &&& 1)) (4 :: a0) a2.toNatClampNeg ((hsI h (3 :: a0) a2.toNatClampNeg ((h.1 (3 :: a1) a2.toNatClampNeg) &&& 1)).1 (4 :: a1) a2.toNatClampNeg)).1 (5 :: a1) a2.toNatClampNeg)) (6 :: a0) a2.toNatClampNeg ((hsI (hsI (hsI h (3 :: a0) a2.toNatClampNeg ((h.1 (3 :: a1) a2.toNatClampNeg) &&& 1)) (4 :: a0) a2.toNatClampNeg ((hsI h (3 :: a0) a2.toNatClampNeg ((h.1 (3 :: a1) a2.toNatClampNeg) &&& 1)).1 (4 :: a1) a2.toNatClampNeg)) (5 :: a0) a2.toNatClampNeg ((hsI (hsI h (3 :: a0) a2.toNatClampNeg ((h.1 (3 :: a1) a2.toNatClampNeg) &&& 1)) (4 :: a0) a2.toNatClampNeg ((hsI h (3 :: a0) a2.toNatClampNeg ((h.1 (3 :: a1) a2.toNatClampNeg) &&& 1)).1 (4 :: a1) a2.toNatClampNeg)).1 (5 :: a1) a2.toNatClampNeg)).1 (6 :: a1) a2.toNatClampNeg)) (7 :: a0) a2.toNatClampNeg ((hsI (hsI (hsI (hsI h (3 :: a0) a2.toNatClampNeg ((h.1 (3 :: a1) a2.toNatClampNeg) &&& 1)) (4 :: a0) a2.toNatClampNeg ((hsI h (3 :: a0) a2.toNatClampNeg ((h.1 (3 :: a1) a2.toNatClampNeg) &&& 1)).1 (4 :: a1) a2.toNatClampNeg)) (5 :: a0) a2.toNatClampNeg ((hsI (hsI h (3 :: a0) a2.toNatClampNeg ((h.1 (3 :: a1) a2.toNatClampNeg) &&& 1)) (4 :: a0) a2.toNatClampNeg ((hsI h (3 :: a0) a2.toNatClampNeg ((h.1 (3 :: a1) a2.toNatClampNeg) &&& 1)).1 (4 :: a1) a2.toNatClampNeg)).1 (5 :: a1) a2.toNatClampNeg)) (6 :: a0) a2.toNatClampNeg ((hsI (hsI (hsI h (3 :: a0) a2.toNatClampNeg ((h.1 (3 :: a1) a2.toNatClampNeg) &&& 1)) (4 :: a0) a2.toNatClampNeg ((hsI h (3 :: a0) a2.toNatClampNeg ((h.1 (3 :: a1) a2.toNatClampNeg) &&& 1)).1 (4 :: a1) a2.toNatClampNeg)) (5 :: a0) a2.toNatClampNeg ((hsI (hsI h (3 :: a0) a2.toNatClampNeg ((h.1 (3 :: a1) a2.toNatClampNeg) &&& 1)) (4 :: a0) a2.toNatClampNeg ((hsI h (3 :: a0) a2.toNatClampNeg ((h.1 (3 :: a1) a2.toNatClampNeg) &&& 1)).1 (4 :: a1) a2.toNatClampNeg)).1 (5 :: a1) a2.toNatClampNeg)).1 (6 :: a1) a2.toNatClampNeg)).1 (7 :: a1) a2.toNatClampNeg)) (8 :: a0) a2.toNatClampNeg ((hsI (hsI (hsI (hsI (hsI h (3 :: a0) a2.toNatClampNeg ((h.1 (3 :: a1) a2.toNatClampNeg) &&& 1)) (4 :: a0) a2.toNatClampNeg ((hsI h (3 :: a0) a2.toNatClampNeg ((h.1 (3 :: a1) a2.toNatClampNeg) &&& 1)).1 (4 :: a1) a2.toNatClampNeg)) (5 :: a0) a2.toNatClampNeg ((hsI (hsI h (3 :: a0) a2.toNatClampNeg ((h.1 (3 :: a1) a2.toNatClampNeg) &&& 1)) (4 :: a0) a2.toNatClampNeg ((hsI h (3 :: a0) a2.toNatClampNeg ((h.1 (3 :: a1) a2.toNatClampNeg) &&& 1)).1 (4 :: a1) a2.toNatClampNeg)).1 (5 :: a1) a2.toNatClampNeg)) (6 :: a0) a2.toNatClampNeg ((hsI (hsI (hsI h (3 :: a0) a2.toNatClampNeg ((h.1 (3 :: a1) a2.toNatClampNeg) &&& 1)) (4 :: a0) a2.toNatClampNeg ((hsI h (3 :: a0) a2.toNatClampNeg ((h.1 (3 :: a1) a2.toNatClampNeg) &&& 1)).1 (4 :: a1) a2.toNatClampNeg)) (5 :: a0) a2.toNatClampNeg ((hsI (hsI h (3 :: a0) a2.toNatClampNeg ((h.1 (3 :: a1) a2.toNatClampNeg) &&& 1)) (4 :: a0) a2.toNatClampNeg ((hsI h (3 :: a0) a2.toNatClampNeg ((h.1 (3 :: a1) a2.toNatClampNeg) &&& 1)).1 (4 :: a1) a2.toNatClampNeg)).1 (5 :: a1) a2.toNatClampNeg)).1 (6 :: a1) a2.toNatClampNeg)) (7 :: a0) a2.toNatClampNeg ((hsI (hsI (hsI (hsI h (3 :: a0) a2.toNatClampNeg ((h.1 (3 :: a1) a2.toNatClampNeg) &&& 1)) (4 :: a0) a2.toNatClampNeg ((hsI h (3 :: a0) a2.toNatClampNeg ((h.1 (3 :: a1) a2.toNatClampNeg) &&& 1)).1 (4 :: a1) a2.toNatClampNeg)) (5 :: a0) a2.toNatClampNeg ((hsI (hsI h (3 :: a0) a2.toNatClampNeg ((h.1 (3 :: a1) a2.toNatClampNeg) &&& 1)) (4 :: a0) a2.toNatClampNeg ((hsI h (3 :: a0) a2.toNatClampNeg ((h.1 (3 :: a1) a2.toNatClampNeg) &&& 1)).1 (4 :: a1) a2.toNatClampNeg)).1 (5 :: a1) a2.toNatClampNeg)) (6 :: a0) a2.toNatClampNeg ((hsI (hsI (hsI h (3 :: a0) a2.toNatClampNeg ((h.1 (3 :: a1) a2.toNatClampNeg) &&& 1)) (4 :: a0) a2.toNatClampNeg ((hsI h (3 :: a0) a2.toNatClampNeg ((h.1 (3 :: a1) a2.toNatClampNeg) &&& 1)).1 (4 :: a1) a2.toNatClampNeg)) (5 :: a0) a2.toNatClampNeg ((hsI (hsI h (3 :: a0) a2.toNatClampNeg ((h.1 (3 :: a1) a2.toNatClampNeg) &&& 1)) (4 :: a0) a2.toNatClampNeg ((hsI h (3 :: a0) a2.toNatClampNeg ((h.1 (3 :: a1) a2.toNatClampNeg) &&& 1)).1 (4 :: a1) a2.toNatClampNeg)).1 (5 :: a1) a2.toNatClampNeg)).1 (6 :: a1) a2.toNatClampNeg)).1 (7 :: a1) a2.toNatClampNeg)).1 (8 :: a1) a2.toNatClampNeg)).1 (9 :: a1) a2.toNatClampNeg) d_Pl_copyFrom_132 rfl w_a1.c9 b13 rfl ?_
    obtain ⟨b14, k⟩ := k
    refine Rn.iast (n := 134) d_Pl_copyFrom_133 rfl w_a0.c9 b14 ?_
    refine Rn.iinc (n := 137) (i := 2) (v := a2 + 1) (ls2 := [some (vR a0), some (vR a1), some (vI (a2 + 1))]) d_Pl_copyFrom_134 rfl rfl rfl (Nat.le_of_ble_eq_true rfl) rfl ?_
    refine Rn.goto (n := 44) d_Pl_copyFrom_137 (by decide) ?_
    exact k
theorem g_Pl_copyFrom_142 {X : XS} (a0 : List Nat) (a1 : List Nat) (a2 : Int32) (h : Hp) (Q : Option AV → Hp → Prop) (w_a0 : IsPl a0) (w_a1 : IsPl a1) (k : ((60 ≤ a2 → Q none h) ∧ (¬ 60 ≤ a2 → (vp_in a2 60 ∧ (vp_in a2 60 ∧ Rn X m_Pl_copyFrom 142 [some (vR a0), some (vR a1), some (vI (a2 + 1))] [] (hsI h (10 :: a0) a2.toNatClampNeg (h.1 (10 :: a1) a2.toNatClampNeg)) Q))))) : Rn X m_Pl_copyFrom 142 [some (vR a0), some (vR a1), some (vI a2)] [] h Q := by
  refine Rn.iload_n (n := 143) (i := 2) d_Pl_copyFrom_142 rfl rfl rfl ?_
  refine Rn.bipush (n := 145) (v := 60) d_Pl_copyFrom_143 rfl (by decide) ?_
  refine Rn.icmp_ge (n := 148) (t := 166) d_Pl_copyFrom_145 rfl (by decide) (fun cc => ?_) (fun cc => ?_)
  · have k := k.1 cc
    exact Rn.vret d_Pl_copyFrom_166 rfl k
  · have k := k.2 cc
    refine Rn.aload_n (n := 149) (i := 0) d_Pl_copyFrom_148 rfl rfl rfl ?_
    refine Rn.getf (n := 152) (v := vR (10 :: a0)) d_Pl_copyFrom_149 rfl fl_Pl_44 w_a0.s rfl ?_
    refine Rn.iload_n (n := 153) (i := 2) d_Pl_copyFrom_152 rfl rfl rfl ?_
    refine Rn.aload_n (n := 154) (i := 1) d_Pl_copyFrom_153 rfl rfl rfl ?_
    refine Rn.getf (n := 157) (v := vR (10 :: a1)) d_Pl_copyFrom_154 rfl fl_Pl_44 w_a1.s rfl ?_
    refine Rn.iload_n (n := 158) (i := 2) d_Pl_copyFrom_157 rfl rfl rfl ?_
    obtain ⟨b1, k⟩ := k
    refine Rn.iald (n := 159) (v := h.1 (10 :: a1) a2.toNatClampNeg) d_Pl_copyFrom_158 rfl w_a1.c10 b1 rfl ?_
    obtain ⟨b2, k⟩ := k
    refine Rn.iast (n := 160) d_Pl_copyFrom_159 rfl w_a0.c10 b2 ?_
    refine Rn.iinc (n := 163) (i := 2) (v := a2 + 1) (ls2 := [some (vR a0), some (vR a1), some (vI (a2 + 1))]) d_Pl_copyFrom_160 rfl rfl rfl (Nat.le_of_ble_eq_true rfl) rfl ?_
    refine Rn.goto (n := 142) d_Pl_copyFrom_163 (by decide) ?_
    exact k
theorem e_Pl_copyFrom {X : XS} (a0 : List Nat) (a1 : List Nat) (h : Hp) (Q : Option AV → Hp → Prop) (k : Rn X m_Pl_copyFrom 0 [some (vR a0), some (vR a1), none] [] h Q) : Ev X m_Pl_copyFrom [vR a0, vR a1] h Q := Ev.intro (plainFor_of_name (by decide +kernel)) (Nat.le_of_ble_eq_true rfl) (ls := [some (vR a0), some (vR a1), none]) rfl k
theorem d_Pl_lay_0 : decode m_Pl_lay.2.1 0 = .ok (.aload_n 0, 1) := by decide +kernel
theorem d_Pl_lay_1 : decode m_Pl_lay.2.1 1 = .ok (.iload_n 1, 1) := by decide +kernel
theorem d_Pl_lay_2 : decode m_Pl_lay.2.1 2 = .ok (.putfield 9, 3) := by decide +kernel
theorem d_Pl_lay_5 : decode m_Pl_lay.2.1 5 = .ok (.aload_n 0, 1) := by decide +kernel
theorem d_Pl_lay_6 : decode m_Pl_lay.2.1 6 = .ok (.iload_n 2, 1) := by decide +kernel
theorem d_Pl_lay_7 : decode m_Pl_lay.2.1 7 = .ok (.putfield 15, 3) := by decide +kernel
theorem d_Pl_lay_10 : decode m_Pl_lay.2.1 10 = .ok (.iconst 0, 1) := by decide +kernel
theorem d_Pl_lay_11 : decode m_Pl_lay.2.1 11 = .ok (.istore_n 3, 1) := by decide +kernel
theorem d_Pl_lay_12 : decode m_Pl_lay.2.1 12 = .ok (.iload_n 3, 1) := by decide +kernel
theorem d_Pl_lay_13 : decode m_Pl_lay.2.1 13 = .ok (.bipush 48, 2) := by decide +kernel
theorem d_Pl_lay_15 : decode m_Pl_lay.2.1 15 = .ok (.if_icmp .ge 16, 3) := by decide +kernel
theorem d_Pl_lay_18 : decode m_Pl_lay.2.1 18 = .ok (.aload_n 0, 1) := by decide +kernel
theorem d_Pl_lay_19 : decode m_Pl_lay.2.1 19 = .ok (.getfield 18, 3) := by decide +kernel
theorem d_Pl_lay_22 : decode m_Pl_lay.2.1 22 = .ok (.iload_n 3, 1) := by decide +kernel
theorem d_Pl_lay_23 : decode m_Pl_lay.2.1 23 = .ok (.iconst 0, 1) := by decide +kernel
theorem d_Pl_lay_24 : decode m_Pl_lay.2.1 24 = .ok (.bastore, 1) := by decide +kernel
theorem d_Pl_lay_25 : decode m_Pl_lay.2.1 25 = .ok (.iinc 3 1, 3) := by decide +kernel
theorem d_Pl_lay_28 : decode m_Pl_lay.2.1 28 = .ok (.goto (-16), 3) := by decide +kernel
theorem d_Pl_lay_31 : decode m_Pl_lay.2.1 31 = .ok (.iconst 0, 1) := by decide +kernel
theorem d_Pl_lay_32 : decode m_Pl_lay.2.1 32 = .ok (.istore_n 3, 1) := by decide +kernel
theorem d_Pl_lay_33 : decode m_Pl_lay.2.1 33 = .ok (.iload_n 3, 1) := by decide +kernel
theorem d_Pl_lay_34 : decode m_Pl_lay.2.1 34 = .ok (.bipush 6, 2) := by decide +kernel
theorem d_Pl_lay_36 : decode m_Pl_lay.2.1 36 = .ok (.if_icmp .ge 16, 3) := by decide +kernel
theorem d_Pl_lay_39 : decode m_Pl_lay.2.1 39 = .ok (.aload_n 0, 1) := by decide +kernel
theorem d_Pl_lay_40 : decode m_Pl_lay.2.1 40 = .ok (.getfield 22, 3) := by decide +kernel
theorem d_Pl_lay_43 : decode m_Pl_lay.2.1 43 = .ok (.iload_n 3, 1) := by decide +kernel
theorem d_Pl_lay_44 : decode m_Pl_lay.2.1 44 = .ok (.iconst 0, 1) := by decide +kernel
theorem d_Pl_lay_45 : decode m_Pl_lay.2.1 45 = .ok (.bastore, 1) := by decide +kernel
theorem d_Pl_lay_46 : decode m_Pl_lay.2.1 46 = .ok (.iinc 3 1, 3) := by decide +kernel
theorem d_Pl_lay_49 : decode m_Pl_lay.2.1 49 = .ok (.goto (-16), 3) := by decide +kernel
theorem d_Pl_lay_52 : decode m_Pl_lay.2.1 52 = .ok (.return_, 1) := by decide +kernel
theorem g_Pl_lay_0 {X : XS} (a0 : List Nat) (a1 : Int32) (a2 : Int32) (h : Hp) (Q : Option AV → Hp → Prop) (w_a0 : IsPl a0) (k : Rn X m_Pl_lay 12 [some (vR a0), some (vI a1), some (vI a2), some (vI 0)] [] (hsI (hsI h a0 0 a1) a0 1 a2) Q) : Rn X m_Pl_lay 0 [some (vR a0), some (vI a1), some (vI a2), none] [] h Q := by
  refine Rn.aload_n (n := 1) (i := 0) d_Pl_lay_0 rfl rfl rfl ?_
  refine Rn.iload_n (n := 2) (i := 1) d_Pl_lay_1 rfl rfl rfl ?_
  refine Rn.putI (n := 5) d_Pl_lay_2 rfl fl_Pl_9 pl_Pl_0 w_a0.s rfl ?_
  refine Rn.aload_n (n := 6) (i := 0) d_Pl_lay_5 rfl rfl rfl ?_
  refine Rn.iload_n (n := 7) (i := 2) d_Pl_lay_6 rfl rfl rfl ?_
  refine Rn.putI (n := 10) d_Pl_lay_7 rfl fl_Pl_15 pl_Pl_1 w_a0.s rfl ?_
  refine Rn.iconst (n := 11) (v := 0) d_Pl_lay_10 rfl (by decide) ?_
  refine Rn.istore_n (n := 12) (i := 3) (ls2 := [some (vR a0), some (vI a1), some (vI a2), some (vI 0)]) d_Pl_lay_11 rfl rfl (Nat.le_of_ble_eq_true rfl) rfl ?_
  exact k
theorem g_Pl_lay_12 {X : XS} (a0 : List Nat) (a1 : Int32) (a2 : Int32) (a3 : Int32) (h : Hp) (Q : Option AV → Hp → Prop) (w_a0 : IsPl a0) (k : ((48 ≤ a3 → Rn X m_Pl_lay 33 [some (vR a0), some (vI a1), some (vI a2), some (vI 0)] [] h Q) ∧ (¬ 48 ≤ a3 → (vp_in a3 48 ∧ Rn X m_Pl_lay 12 [some (vR a0), some (vI a1), some (vI a2), some (vI (a3 + 1))] [] (hsI h (2 :: a0) a3.toNatClampNeg 0) Q)))) : Rn X m_Pl_lay 12 [some (vR a0), some (vI a1), some (vI a2), some (vI a3)] [] h Q := by
  refine Rn.iload_n (n := 13) (i := 3) d_Pl_lay_12 rfl rfl rfl ?_
  refine Rn.bipush (n := 15) (v := 48) d_Pl_lay_13 rfl (by decide) ?_
  refine Rn.icmp_ge (n := 18) (t := 31) d_Pl_lay_15 rfl (by decide) (fun cc => ?_) (fun cc => ?_)
  · have k := k.1 cc
    refine Rn.iconst (n := 32) (v := 0) d_Pl_lay_31 rfl (by decide) ?_
    refine Rn.istore_n (n := 33) (i := 3) (ls2 := [some (vR a0), some (vI a1), some (vI a2), some (vI 0)]) d_Pl_lay_32 rfl rfl (Nat.le_of_ble_eq_true rfl) rfl ?_
    exact k
  · have k := k.2 cc
    refine Rn.aload_n (n := 19) (i := 0) d_Pl_lay_18 rfl rfl rfl ?_
    refine Rn.getf (n := 22) (v := vR (2 :: a0)) d_Pl_lay_19 rfl fl_Pl_18 w_a0.s rfl ?_
    refine Rn.iload_n (n := 23) (i := 3) d_Pl_lay_22 rfl rfl rfl ?_
    refine Rn.iconst (n := 24) (v := 0) d_Pl_lay_23 rfl (by decide) ?_
    obtain ⟨b1, k⟩ := k
    refine Rn.zast (n := 25) (y := 0) d_Pl_lay_24 rfl w_a0.c2 b1 rfl ?_
    refine Rn.iinc (n := 28) (i := 3) (v := a3 + 1) (ls2 := [some (vR a0), some (vI a1), some (vI a2), some (vI (a3 + 1))]) d_Pl_lay_25 rfl rfl rfl (Nat.le_of_ble_eq_true rfl) rfl ?_
    refine Rn.goto (n := 12) d_Pl_lay_28 (by decide) ?_
    exact k
theorem g_Pl_lay_33 {X : XS} (a0 : List Nat) (a1 : Int32) (a2 : Int32) (a3 : Int32) (h : Hp) (Q : Option AV → Hp → Prop) (w_a0 : IsPl a0) (k : ((6 ≤ a3 → Q none h) ∧ (¬ 6 ≤ a3 → (vp_in a3 6 ∧ Rn X m_Pl_lay 33 [some (vR a0), some (vI a1), some (vI a2), some (vI (a3 + 1))] [] (hsI h (3 :: a0) a3.toNatClampNeg 0) Q)))) : Rn X m_Pl_lay 33 [some (vR a0), some (vI a1), some (vI a2), some (vI a3)] [] h Q := by
  refine Rn.iload_n (n := 34) (i := 3) d_Pl_lay_33 rfl rfl rfl ?_
  refine Rn.bipush (n := 36) (v := 6) d_Pl_lay_34 rfl (by decide) ?_
  refine Rn.icmp_ge (n := 39) (t := 52) d_Pl_lay_36 rfl (by decide) (fun cc => ?_) (fun cc => ?_)
  · have k := k.1 cc
    exact Rn.vret d_Pl_lay_52 rfl k
  · have k := k.2 cc
    refine Rn.aload_n (n := 40) (i := 0) d_Pl_lay_39 rfl rfl rfl ?_
    refine Rn.getf (n := 43) (v := vR (3 :: a0)) d_Pl_lay_40 rfl fl_Pl_22 w_a0.s rfl ?_
    refine Rn.iload_n (n := 44) (i := 3) d_Pl_lay_43 rfl rfl rfl ?_
    refine Rn.iconst (n := 45) (v := 0) d_Pl_lay_44 rfl (by decide) ?_
    obtain ⟨b1, k⟩ := k
    refine Rn.zast (n := 46) (y := 0) d_Pl_lay_45 rfl w_a0.c3 b1 rfl ?_
    refine Rn.iinc (n := 49) (i := 3) (v := a3 + 1) (ls2 := [some (vR a0), some (vI a1), some (vI a2), some (vI (a3 + 1))]) d_Pl_lay_46 rfl rfl rfl (Nat.le_of_ble_eq_true rfl) rfl ?_
    refine Rn.goto (n := 33) d_Pl_lay_49 (by decide) ?_
    exact k
theorem e_Pl_lay {X : XS} (a0 : List Nat) (a1 : Int32) (a2 : Int32) (h : Hp) (Q : Option AV → Hp → Prop) (k : Rn X m_Pl_lay 0 [some (vR a0), some (vI a1), some (vI a2), none] [] h Q) : Ev X m_Pl_lay [vR a0, vI a1, vI a2] h Q := Ev.intro (plainFor_of_name (by decide +kernel)) (Nat.le_of_ble_eq_true rfl) (ls := [some (vR a0), some (vI a1), some (vI a2), none]) rfl k
theorem d_Pl_cover_0 : decode m_Pl_cover.2.1 0 = .ok (.aload_n 0, 1) := by decide +kernel
theorem d_Pl_cover_1 : decode m_Pl_cover.2.1 1 = .ok (.iload_n 1, 1) := by decide +kernel
theorem d_Pl_cover_2 : decode m_Pl_cover.2.1 2 = .ok (.invokevirtual 47, 3) := by decide +kernel
theorem d_Pl_cover_5 : decode m_Pl_cover.2.1 5 = .ok (.ifCond .eq 10, 3) := by decide +kernel
theorem d_Pl_cover_8 : decode m_Pl_cover.2.1 8 = .ok (.aload_n 0, 1) := by decide +kernel
theorem d_Pl_cover_9 : decode m_Pl_cover.2.1 9 = .ok (.getfield 18, 3) := by decide +kernel
theorem d_Pl_cover_12 : decode m_Pl_cover.2.1 12 = .ok (.iload_n 1, 1) := by decide +kernel
theorem d_Pl_cover_13 : decode m_Pl_cover.2.1 13 = .ok (.iconst 1, 1) := by decide +kernel
theorem d_Pl_cover_14 : decode m_Pl_cover.2.1 14 = .ok (.bastore, 1) := by decide +kernel
theorem d_Pl_cover_15 : decode m_Pl_cover.2.1 15 = .ok (.return_, 1) := by decide +kernel
theorem g_Pl_cover_0 {X : XS} (a0 : List Nat) (a1 : Int32) (h : Hp) (Q : Option AV → Hp → Prop) (w_a0 : IsPl a0) (k : (∃ Q'4, EvI X m_Pl_hasCell [vR a0, vI a1] h Q'4 ∧ ∀ (r5 : Int32) (h3 : Hp), Q'4 r5 h3 → ((r5 = 0 → Q none h3) ∧ (¬ r5 = 0 → (vp_in a1 48 ∧ Q none (hsI h3 (2 :: a0) a1.toNatClampNeg 1)))))) : Rn X m_Pl_cover 0 [some (vR a0), some (vI a1)] [] h Q := by
  refine Rn.aload_n (n := 1) (i := 0) d_Pl_cover_0 rfl rfl rfl ?_
  refine Rn.iload_n (n := 2) (i := 1) d_Pl_cover_1 rfl rfl rfl ?_
  obtain ⟨Q'4, ev1, k⟩ := k
  refine Rn.callV (n := 5) (av := [vI a1]) d_Pl_cover_2 rfl ml_Pl_cover_47 mi_Pl_hasCell w_a0.s rfl rfl rfl rfl (Nat.le_of_ble_eq_true rfl) ev1 (fun v h3 hq => ?_)
  obtain ⟨r5, rfl, hq⟩ := hq
  have k := k r5 h3 hq
  show Rn X m_Pl_cover 5 [some (vR a0), some (vI a1)] [vI r5] h3 Q
  refine Rn.if_eq (n := 8) (t := 15) d_Pl_cover_5 rfl (by decide) (fun cc => ?_) (fun cc => ?_)
  · have k := k.1 cc
    exact Rn.vret d_Pl_cover_15 rfl k
  · have k := k.2 cc
    refine Rn.aload_n (n := 9) (i := 0) d_Pl_cover_8 rfl rfl rfl ?_
    refine Rn.getf (n := 12) (v := vR (2 :: a0)) d_Pl_cover_9 rfl fl_Pl_18 w_a0.s rfl ?_
    refine Rn.iload_n (n := 13) (i := 1) d_Pl_cover_12 rfl rfl rfl ?_
    refine Rn.iconst (n := 14) (v := 1) d_Pl_cover_13 rfl (by decide) ?_
    obtain ⟨b6, k⟩ := k
    refine Rn.zast (n := 15) (y := 1) d_Pl_cover_14 rfl w_a0.c2 b6 rfl ?_
    exact Rn.vret d_Pl_cover_15 rfl k
theorem e_Pl_cover {X : XS} (a0 : List Nat) (a1 : Int32) (h : Hp) (Q : Option AV → Hp → Prop) (k : Rn X m_Pl_cover 0 [some (vR a0), some (vI a1)] [] h Q) : Ev X m_Pl_cover [vR a0, vI a1] h Q := Ev.intro (plainFor_of_name (by decide +kernel)) (Nat.le_of_ble_eq_true rfl) (ls := [some (vR a0), some (vI a1)]) rfl k
theorem d_Pl_welcome_0 : decode m_Pl_welcome.2.1 0 = .ok (.aload_n 1, 1) := by decide +kernel
theorem d_Pl_welcome_1 : decode m_Pl_welcome.2.1 1 = .ok (.arraylength, 1) := by decide +kernel
theorem d_Pl_welcome_2 : decode m_Pl_welcome.2.1 2 = .ok (.bipush 7, 2) := by decide +kernel
theorem d_Pl_welcome_4 : decode m_Pl_welcome.2.1 4 = .ok (.if_icmp .lt 17, 3) := by decide +kernel
theorem d_Pl_welcome_7 : decode m_Pl_welcome.2.1 7 = .ok (.aload_n 1, 1) := by decide +kernel
theorem d_Pl_welcome_8 : decode m_Pl_welcome.2.1 8 = .ok (.iconst 0, 1) := by decide +kernel
theorem d_Pl_welcome_9 : decode m_Pl_welcome.2.1 9 = .ok (.iaload, 1) := by decide +kernel
theorem d_Pl_welcome_10 : decode m_Pl_welcome.2.1 10 = .ok (.ifCond .lt 11, 3) := by decide +kernel
theorem d_Pl_welcome_13 : decode m_Pl_welcome.2.1 13 = .ok (.aload_n 1, 1) := by decide +kernel
theorem d_Pl_welcome_14 : decode m_Pl_welcome.2.1 14 = .ok (.iconst 0, 1) := by decide +kernel
theorem d_Pl_welcome_15 : decode m_Pl_welcome.2.1 15 = .ok (.iaload, 1) := by decide +kernel
theorem d_Pl_welcome_16 : decode m_Pl_welcome.2.1 16 = .ok (.bipush 6, 2) := by decide +kernel
theorem d_Pl_welcome_18 : decode m_Pl_welcome.2.1 18 = .ok (.if_icmp .lt 4, 3) := by decide +kernel
theorem d_Pl_welcome_21 : decode m_Pl_welcome.2.1 21 = .ok (.return_, 1) := by decide +kernel
theorem d_Pl_welcome_22 : decode m_Pl_welcome.2.1 22 = .ok (.aload_n 1, 1) := by decide +kernel
theorem d_Pl_welcome_23 : decode m_Pl_welcome.2.1 23 = .ok (.iconst 0, 1) := by decide +kernel
theorem d_Pl_welcome_24 : decode m_Pl_welcome.2.1 24 = .ok (.iaload, 1) := by decide +kernel
theorem d_Pl_welcome_25 : decode m_Pl_welcome.2.1 25 = .ok (.istore_n 2, 1) := by decide +kernel
theorem d_Pl_welcome_26 : decode m_Pl_welcome.2.1 26 = .ok (.aload_n 0, 1) := by decide +kernel
theorem d_Pl_welcome_27 : decode m_Pl_welcome.2.1 27 = .ok (.getfield 22, 3) := by decide +kernel
theorem d_Pl_welcome_30 : decode m_Pl_welcome.2.1 30 = .ok (.iload_n 2, 1) := by decide +kernel
theorem d_Pl_welcome_31 : decode m_Pl_welcome.2.1 31 = .ok (.iconst 1, 1) := by decide +kernel
theorem d_Pl_welcome_32 : decode m_Pl_welcome.2.1 32 = .ok (.bastore, 1) := by decide +kernel
theorem d_Pl_welcome_33 : decode m_Pl_welcome.2.1 33 = .ok (.aload_n 0, 1) := by decide +kernel
theorem d_Pl_welcome_34 : decode m_Pl_welcome.2.1 34 = .ok (.getfield 25, 3) := by decide +kernel
theorem d_Pl_welcome_37 : decode m_Pl_welcome.2.1 37 = .ok (.iload_n 2, 1) := by decide +kernel
theorem d_Pl_welcome_38 : decode m_Pl_welcome.2.1 38 = .ok (.aload_n 1, 1) := by decide +kernel
theorem d_Pl_welcome_39 : decode m_Pl_welcome.2.1 39 = .ok (.iconst 1, 1) := by decide +kernel
theorem d_Pl_welcome_40 : decode m_Pl_welcome.2.1 40 = .ok (.iaload, 1) := by decide +kernel
theorem d_Pl_welcome_41 : decode m_Pl_welcome.2.1 41 = .ok (.iastore, 1) := by decide +kernel
theorem d_Pl_welcome_42 : decode m_Pl_welcome.2.1 42 = .ok (.aload_n 0, 1) := by decide +kernel
theorem d_Pl_welcome_43 : decode m_Pl_welcome.2.1 43 = .ok (.getfield 29, 3) := by decide +kernel
theorem d_Pl_welcome_46 : decode m_Pl_welcome.2.1 46 = .ok (.iload_n 2, 1) := by decide +kernel
theorem d_Pl_welcome_47 : decode m_Pl_welcome.2.1 47 = .ok (.aload_n 1, 1) := by decide +kernel
theorem d_Pl_welcome_48 : decode m_Pl_welcome.2.1 48 = .ok (.iconst 2, 1) := by decide +kernel
theorem d_Pl_welcome_49 : decode m_Pl_welcome.2.1 49 = .ok (.iaload, 1) := by decide +kernel
theorem d_Pl_welcome_50 : decode m_Pl_welcome.2.1 50 = .ok (.iastore, 1) := by decide +kernel
theorem d_Pl_welcome_51 : decode m_Pl_welcome.2.1 51 = .ok (.aload_n 0, 1) := by decide +kernel
theorem d_Pl_welcome_52 : decode m_Pl_welcome.2.1 52 = .ok (.getfield 32, 3) := by decide +kernel
theorem d_Pl_welcome_55 : decode m_Pl_welcome.2.1 55 = .ok (.iload_n 2, 1) := by decide +kernel
theorem d_Pl_welcome_56 : decode m_Pl_welcome.2.1 56 = .ok (.aload_n 1, 1) := by decide +kernel
theorem d_Pl_welcome_57 : decode m_Pl_welcome.2.1 57 = .ok (.iconst 3, 1) := by decide +kernel
theorem d_Pl_welcome_58 : decode m_Pl_welcome.2.1 58 = .ok (.iaload, 1) := by decide +kernel
theorem d_Pl_welcome_59 : decode m_Pl_welcome.2.1 59 = .ok (.iastore, 1) := by decide +kernel
theorem d_Pl_welcome_60 : decode m_Pl_welcome.2.1 60 = .ok (.aload_n 0, 1) := by decide +kernel
theorem d_Pl_welcome_61 : decode m_Pl_welcome.2.1 61 = .ok (.getfield 35, 3) := by decide +kernel
theorem d_Pl_welcome_64 : decode m_Pl_welcome.2.1 64 = .ok (.iload_n 2, 1) := by decide +kernel
theorem d_Pl_welcome_65 : decode m_Pl_welcome.2.1 65 = .ok (.aload_n 1, 1) := by decide +kernel
theorem d_Pl_welcome_66 : decode m_Pl_welcome.2.1 66 = .ok (.iconst 4, 1) := by decide +kernel
theorem d_Pl_welcome_67 : decode m_Pl_welcome.2.1 67 = .ok (.iaload, 1) := by decide +kernel
theorem d_Pl_welcome_68 : decode m_Pl_welcome.2.1 68 = .ok (.iastore, 1) := by decide +kernel
theorem d_Pl_welcome_69 : decode m_Pl_welcome.2.1 69 = .ok (.aload_n 0, 1) := by decide +kernel
theorem d_Pl_welcome_70 : decode m_Pl_welcome.2.1 70 = .ok (.getfield 38, 3) := by decide +kernel
theorem d_Pl_welcome_73 : decode m_Pl_welcome.2.1 73 = .ok (.iload_n 2, 1) := by decide +kernel
theorem d_Pl_welcome_74 : decode m_Pl_welcome.2.1 74 = .ok (.aload_n 1, 1) := by decide +kernel
theorem d_Pl_welcome_75 : decode m_Pl_welcome.2.1 75 = .ok (.iconst 5, 1) := by decide +kernel
theorem d_Pl_welcome_76 : decode m_Pl_welcome.2.1 76 = .ok (.iaload, 1) := by decide +kernel
theorem d_Pl_welcome_77 : decode m_Pl_welcome.2.1 77 = .ok (.iastore, 1) := by decide +kernel
theorem d_Pl_welcome_78 : decode m_Pl_welcome.2.1 78 = .ok (.aload_n 0, 1) := by decide +kernel
theorem d_Pl_welcome_79 : decode m_Pl_welcome.2.1 79 = .ok (.getfield 41, 3) := by decide +kernel
theorem d_Pl_welcome_82 : decode m_Pl_welcome.2.1 82 = .ok (.iload_n 2, 1) := by decide +kernel
theorem d_Pl_welcome_83 : decode m_Pl_welcome.2.1 83 = .ok (.aload_n 1, 1) := by decide +kernel
theorem d_Pl_welcome_84 : decode m_Pl_welcome.2.1 84 = .ok (.bipush 6, 2) := by decide +kernel
theorem d_Pl_welcome_86 : decode m_Pl_welcome.2.1 86 = .ok (.iaload, 1) := by decide +kernel
theorem d_Pl_welcome_87 : decode m_Pl_welcome.2.1 87 = .ok (.iastore, 1) := by decide +kernel
theorem d_Pl_welcome_88 : decode m_Pl_welcome.2.1 88 = .ok (.return_, 1) := by decide +kernel
theorem g_Pl_welcome_0 {X : XS} (a0 : List Nat) (a1 : List Nat) (n1 : Nat) (h : Hp) (Q : Option AV → Hp → Prop) (w_a0 : IsPl a0) (w_a1 : Liv a1 8 n1) (k : (((Int32.ofNat n1) < 7 → Q none h) ∧ (¬ (Int32.ofNat n1) < 7 → (vp_in 0 n1 ∧ (((h.1 a1 0) < 0 → Q none h) ∧ (¬ (h.1 a1 0) < 0 → (vp_in 0 n1 ∧ (((h.1 a1 0) < 6 → (vp_in 0 n1 ∧ (vp_in (h.1 a1 0) 6 ∧ (vp_in 1 n1 ∧ (vp_in (h.1 a1 0) 6 ∧ (vp_in 2 n1 ∧ (vp_in (h.1 a1 0) 6 ∧ (vp_in 3 n1 ∧ (vp_in (h.1 a1 0) 6 ∧ (vp_in 4 n1 ∧ (vp_in (h.1 a1 0) 6 ∧ (vp_in 5 n1 ∧ (vp_in (h.1 a1 0) 6 ∧ (vp_in 6 n1 ∧ (vp_in (h.1 a1 0) 6 ∧ Q none (hsI (hsI (hsI (hsI (hsI (hsI (hsI h (3 :: a0) ((h.1 a1 0).toNatClampNeg) 1) (4 :: a0) ((h.1 a1 0).toNatClampNeg) ((hsI h (3 :: a0) ((h.1 a1 0).toNatClampNeg) 1).1 a1 1)) (5 :: a0) ((h.1 a1 0).toNatClampNeg) ((hsI (hsI h (3 :: a0) ((h.1 a1 0).toNatClampNeg) 1) (4 :: a0) ((h.1 a1 0).toNatClampNeg) ((hsI h (3 :: a0) ((h.1 a1 0).toNatClampNeg) 1).1 a1 1)).1 a1 2)) (6 :: a0) ((h.1 a1 0).toNatClampNeg) ((hsI (hsI (hsI h (3 :: a0) ((h.1 a1 0).toNatClampNeg) 1) (4 :: a0) ((h.1 a1 0).toNatClampNeg) ((hsI h (3 :: a0) ((h.1 a1 0).toNatClampNeg) 1).1 a1 1)) (5 :: a0) ((h.1 a1 0).toNatClampNeg) ((hsI (hsI h (3 :: a0) ((h.1 a1 0).toNatClampNeg) 1) (4 :: a0) ((h.1 a1 0).toNatClampNeg) ((hsI h (3 :: a0) ((h.1 a1 0).toNatClampNeg) 1).1 a1 1)).1 a1 2)).1 a1 3)) (7 :: a0) ((h.1 a1 0).toNatClampNeg) ((hsI (hsI (hsI (hsI h (3 :: a0) ((h.1 a1 0).toNatClampNeg) 1) (4 :: a0) ((h.1 a1 0).toNatClampNeg) ((hsI h (3 :: a0) ((h.1 a1 0).toNatClampNeg) 1).1 a1 1)) (5 :: a0) ((h.1 a1 0).toNatClampNeg) ((hsI (hsI h (3 :: a0) ((h.1 a1 0).toNatClampNeg) 1) (4 :: a0) ((h.1 a1 0).toNatClampNeg) ((hsI h (3 :: a0) ((h.1 a1 0).toNatClampNeg) 1).1 a1 1)).1 a1 2)) (6 :: a0) ((h.1 a1 0).toNatClampNeg) ((hsI (hsI (hsI h (3 :: a0) ((h.1 a1 0).toNatClampNeg) 1) (4 :: a0) ((h.1 a1 0).toNatClampNeg) ((hsI h (3 :: a0) ((h.1 a1 0).toNatClampNeg) 1).1 a1 1)) (5 :: a0) ((h.1 a1 0).toNatClampNeg) ((hsI (hsI h (3 :: a0) ((h.1 a1 0).toNatClampNeg) 1) (4 :: a0) ((h.1 a1 0).toNatClampNeg) ((hsI h (3 :: a0) ((h.1 a1 0).toNatClampNeg) 1).1 a1 1)).1 a1 2)).1 a1 3)).1 a1 4)) (8 :: a0) ((h.1 a1 0).toNatClampNeg) ((hsI (hsI (hsI (hsI (hsI h (3 :: a0) ((h.1 a1 0).toNatClampNeg) 1) (4 :: a0) ((h.1 a1 0).toNatClampNeg) ((hsI h (3 :: a0) ((h.1 a1 0).toNatClampNeg) 1).1 a1 1)) (5 :: a0) ((h.1 a1 0).toNatClampNeg) ((hsI (hsI h (3 :: a0) ((h.1 a1 0).toNatClampNeg) 1) (4 :: a0) ((h.1 a1 0).toNatClampNeg) ((hsI h (3 :: a0) ((h.1 a1 0).toNatClampNeg) 1).1 a1 1)).1 a1 2)) (6 :: a0) ((h.1 a1 0).toNatClampNeg) ((hsI (hsI (hsI h (3 :: a0) ((h.1 a1 0).toNatClampNeg) 1) (4 :: a0) ((h.1 a1 0).toNatClampNeg) ((hsI h (3 :: a0) ((h.1 a1 0).toNatClampNeg) 1).1 a1 1)) (5 :: a0) ((h.1 a1 0).toNatClampNeg) ((hsI (hsI h (3 :: a0) ((h.1 a1 0).toNatClampNeg) 1) (4 :: a0) ((h.1 a1 0).toNatClampNeg) ((hsI h (3 :: a0) ((h.1 a1 0).toNatClampNeg) 1).1 a1 1)).1 a1 2)).1 a1 3)) (7 :: a0) ((h.1 a1 0).toNatClampNeg) ((hsI (hsI (hsI (hsI h (3 :: a0) ((h.1 a1 0).toNatClampNeg) 1) (4 :: a0) ((h.1 a1 0).toNatClampNeg) ((hsI h (3 :: a0) ((h.1 a1 0).toNatClampNeg) 1).1 a1 1)) (5 :: a0) ((h.1 a1 0).toNatClampNeg) ((hsI (hsI h (3 :: a0) ((h.1 a1 0).toNatClampNeg) 1) (4 :: a0) ((h.1 a1 0).toNatClampNeg) ((hsI h (3 :: a0) ((h.1 a1 0).toNatClampNeg) 1).1 a1 1)).1 a1 2)) (6 :: a0) ((h.1 a1 0).toNatClampNeg) ((hsI (hsI (hsI h (3 :: a0) ((h.1 a1 0).toNatClampNeg) 1) (4 :: a0) ((h.1 a1 0).toNatClampNeg) ((hsI h (3 :: a0) ((h.1 a1 0).toNatClampNeg) 1).1 a1 1)) (5 :: a0) ((h.1 a1 0).toNatClampNeg) ((hsI (hsI h (3 :: a0) ((h.1 a1 0).toNatClampNeg) 1) (4 :: a0) ((h.1 a1 0).toNatClampNeg) ((hsI h (3 :: a0) ((h.1 a1 0).toNatClampNeg) 1).1 a1 1)).1 a1 2)).1 a1 3)).1 a1 4)).1 a1 5)) (9 :: a0) ((h.1 a1 0).toNatClampNeg) ((hsI (hsI (hsI (hsI (hsI (hsI h (3 :: a0) ((h.1 a1 0).toNatClampNeg) 1) (4 :: a0) ((h.1 a1 0).toNatClampNeg) ((hsI h (3 :: a0) ((h.1 a1 0).toNatClampNeg) 1).1 a1 1)) (5 :: a0) ((h.1 a1 0).toNatClampNeg) ((hsI (hsI h (3 :: a0) ((h.1 a1 0).toNatClampNeg) 1) (4 :: a0) ((h.1 a1 0).toNatClampNeg) ((hsI h (3 :: a0) ((h.1 a1 0).toNatClampNeg) 1).1 a1 1)).1 a1 2)) (6 :: a0) ((h.1 a1 0).toNatClampNeg) ((hsI (hsI (hsI h (3 :: a0) ((h.1 a1 0).toNatClampNeg) 1) (4 :: a0) ((h.1 a1 0).toNatClampNeg) ((hsI h (3 :: a0) ((h.1 a1 0).toNatClampNeg) 1).1 a1 1)) (5 :: a0) ((h.1 a1 0).toNatClampNeg) ((hsI (hsI h (3 :: a0) ((h.1 a1 0).toNatClampNeg) 1) (4 :: a0) ((h.1 a1 0).toNatClampNeg) ((hsI h (3 :: a0) ((h.1 a1 0).toNatClampNeg) 1).1 a1 1)).1 a1 2)).1 a1 3)) (7 :: a0) ((h.1 a1 0).toNatClampNeg) ((hsI (hsI (hsI (hsI h (3 :: a0) ((h.1 a1 0).toNatClampNeg) 1) (4 :: a0) ((h.1 a1 0).toNatClampNeg) ((hsI h (3 :: a0) ((h.1 a1 0).toNatClampNeg) 1).1 a1 1)) (5 :: a0) ((h.1 a1 0).toNatClampNeg) ((hsI (hsI h (3 :: a0) ((h.1 a1 0).toNatClampNeg) 1) (4 :: a0) ((h.1 a1 0).toNatClampNeg) ((hsI h (3 :: a0) ((h.1 a1 0).toNatClampNeg) 1).1 a1 1)).1 a1 2)) (6 :: a0) ((h.1 a1 0).toNatClampNeg) ((hsI (hsI (hsI h (3 :: a0) ((h.1 a1 0).toNatClampNeg) 1) (4 :: a0) ((h.1 a1 0).toNatClampNeg) ((hsI h (3 :: a0) ((h.1 a1 0).toNatClampNeg) 1).1 a1 1)) (5 :: a0) ((h.1 a1 0).toNatClampNeg) ((hsI (hsI h (3 :: a0) ((h.1 a1 0).toNatClampNeg) 1) (4 :: a0) ((h.1 a1 0).toNatClampNeg) ((hsI h (3 :: a0) ((h.1 a1 0).toNatClampNeg) 1).1 a1 1)).1 a1 2)).1 a1 3)).1 a1 4)) (8 :: a0) ((h.1 a1 0).toNatClampNeg) ((hsI (hsI (hsI (hsI (hsI h (3 :: a0) ((h.1 a1 0).toNatClampNeg) 1) (4 :: a0) ((h.1 a1 0).toNatClampNeg) ((hsI h (3 :: a0) ((h.1 a1 0).toNatClampNeg) 1).1 a1 1)) (5 :: a0) ((h.1 a1 0).toNatClampNeg) ((hsI (hsI h (3 :: a0) ((h.1 a1 0).toNatClampNeg) 1) (4 :: a0) ((h.1 a1 0).toNatClampNeg) ((hsI h (3 :: a0) ((h.1 a1 0).toNatClampNeg) 1).1 a1 1)).1 a1 2)) (6 :: a0) ((h.1 a1 0).toNatClampNeg) ((hsI (hsI (hsI h (3 :: a0) ((h.1 a1 0).toNatClampNeg) 1) (4 :: a0) ((h.1 a1 0).toNatClampNeg) ((hsI h (3 :: a0) ((h.1 a1 0).toNatClampNeg) 1).1 a1 1)) (5 :: a0) ((h.1 a1 0).toNatClampNeg) ((hsI (hsI h (3 :: a0) ((h.1 a1 0).toNatClampNeg) 1) (4 :: a0) ((h.1 a1 0).toNatClampNeg) ((hsI h (3 :: a0) ((h.1 a1 0).toNatClampNeg) 1).1 a1 1)).1 a1 2)).1 a1 3)) (7 :: a0) ((h.1 a1 0).toNatClampNeg) ((hsI (hsI (hsI (hsI h (3 :: a0) ((h.1 a1 0).toNatClampNeg) 1) (4 :: a0) ((h.1 a1 0).toNatClampNeg) ((hsI h (3 :: a0) ((h.1 a1 0).toNatClampNeg) 1).1 a1 1)) (5 :: a0) ((h.1 a1 0).toNatClampNeg) ((hsI (hsI h (3 :: a0) ((h.1 a1 0).toNatClampNeg) 1) (4 :: a0) ((h.1 a1 0).toNatClampNeg) ((hsI h (3 :: a0) ((h.1 a1 0).toNatClampNeg) 1).1 a1 1)).1 a1 2)) (6 :: a0) ((h.1 a1 0).toNatClampNeg) ((hsI (hsI (hsI h (3 :: a0) ((h.1 a1 0).toNatClampNeg) 1) (4 :: a0) ((h.1 a1 0).toNatClampNeg) ((hsI h (3 :: a0) ((h.1 a1 0).toNatClampNeg) 1).1 a1 1)) (5 :: a0) ((h.1 a1 0).toNatClampNeg) ((hsI (hsI h (3 :: a0) ((h.1 a1 0).toNatClampNeg) 1) (4 :: a0) ((h.1 a1 0).toNatClampNeg) ((hsI h (3 :: a0) ((h.1 a1 0).toNatClampNeg) 1).1 a1 1)).1 a1 2)).1 a1 3)).1 a1 4)).1 a1 5)).1 a1 6))))))))))))))))) ∧ (¬ (h.1 a1 0) < 6 → Q none h))))))))) : Rn X m_Pl_welcome 0 [some (vR a0), some (vR a1), none] [] h Q := by
  refine Rn.aload_n (n := 1) (i := 1) d_Pl_welcome_0 rfl rfl rfl ?_
  refine Rn.alen8 (n := 2) (v := Int32.ofNat n1) d_Pl_welcome_1 rfl w_a1 rfl ?_
  refine Rn.bipush (n := 4) (v := 7) d_Pl_welcome_2 rfl (by decide) ?_
  refine Rn.icmp_lt (n := 7) (t := 21) d_Pl_welcome_4 rfl (by decide) (fun cc => ?_) (fun cc => ?_)
  · have k := k.1 cc
    exact Rn.vret d_Pl_welcome_21 rfl k
  · have k := k.2 cc
    refine Rn.aload_n (n := 8) (i := 1) d_Pl_welcome_7 rfl rfl rfl ?_
    refine Rn.iconst (n := 9) (v := 0) d_Pl_welcome_8 rfl (by decide) ?_
    obtain ⟨b1, k⟩ := k
    refine Rn.iald (n := 10) (v := h.1 a1 0) d_Pl_welcome_9 rfl w_a1 b1 rfl ?_
    refine Rn.if_lt (n := 13) (t := 21) d_Pl_welcome_10 rfl (by decide) (fun cc => ?_) (fun cc => ?_)
    · have k := k.1 cc
      exact Rn.vret d_Pl_welcome_21 rfl k
    · have k := k.2 cc
      refine Rn.aload_n (n := 14) (i := 1) d_Pl_welcome_13 rfl rfl rfl ?_
      refine Rn.iconst (n := 15) (v := 0) d_Pl_welcome_14 rfl (by decide) ?_
      obtain ⟨b2, k⟩ := k
      refine Rn.iald (n := 16) (v := h.1 a1 0) d_Pl_welcome_15 rfl w_a1 b2 rfl ?_
      refine Rn.bipush (n := 18) (v := 6) d_Pl_welcome_16 rfl (by decide) ?_
      refine Rn.icmp_lt (n := 21) (t := 22) d_Pl_welcome_18 rfl (by decide) (fun cc => ?_) (fun cc => ?_)
      · have k := k.1 cc
        refine Rn.aload_n (n := 23) (i := 1) d_Pl_welcome_22 rfl rfl rfl ?_
        refine Rn.iconst (n := 24) (v := 0) d_Pl_welcome_23 rfl (by decide) ?_
        obtain ⟨b3, k⟩ := k
        refine Rn.iald (n := 25) (v := h.1 a1 0) d_Pl_welcome_24 rfl w_a1 b3 rfl ?_
        refine Rn.istore_n (n := 26) (i := 2) (ls2 := [some (vR a0), some (vR a1), some (vI (h.1 a1 0))]) d_Pl_welcome_25 rfl rfl (Nat.le_of_ble_eq_true rfl) rfl ?_
        refine Rn.aload_n (n := 27) (i := 0) d_Pl_welcome_26 rfl rfl rfl ?_
        refine Rn.getf (n := 30) (v := vR (3 :: a0)) d_Pl_welcome_27 rfl fl_Pl_22 w_a0.s rfl ?_
        refine Rn.iload_n (n := 31) (i := 2) d_Pl_welcome_30 rfl rfl rfl ?_
        refine Rn.iconst (n := 32) (v := 1) d_Pl_welcome_31 rfl (by decide) ?_
        obtain ⟨b4, k⟩ := k
        refine Rn.zast (n := 33) (y := 1) d_Pl_welcome_32 rfl w_a0.c3 b4 rfl ?_
        refine Rn.aload_n (n := 34) (i := 0) d_Pl_welcome_33 rfl rfl rfl ?_
        refine Rn.getf (n := 37) (v := vR (4 :: a0)) d_Pl_welcome_34 rfl fl_Pl_25 w_a0.s rfl ?_
        refine Rn.iload_n (n := 38) (i := 2) d_Pl_welcome_37 rfl rfl rfl ?_
        refine Rn.aload_n (n := 39) (i := 1) d_Pl_welcome_38 rfl rfl rfl ?_
        refine Rn.iconst (n := 40) (v := 1) d_Pl_welcome_39 rfl (by decide) ?_
        obtain ⟨b5, k⟩ := k
        refine Rn.iald (n := 41) (v := (hsI h (3 :: a0) ((h.1 a1 0).toNatClampNeg) 1).1 a1 1) d_Pl_welcome_40 rfl w_a1 b5 rfl ?_
        obtain ⟨b6, k⟩ := k
        refine Rn.iast (n := 42) d_Pl_welcome_41 rfl w_a0.c4 b6 ?_
        refine Rn.aload_n (n := 43) (i := 0) d_Pl_welcome_42 rfl rfl rfl ?_
        refine Rn.getf (n := 46) (v := vR (5 :: a0)) d_Pl_welcome_43 rfl fl_Pl_29 w_a0.s rfl ?_
        refine Rn.iload_n (n := 47) (i := 2) d_Pl_welcome_46 rfl rfl rfl ?_
        refine Rn.aload_n (n := 48) (i := 1) d_Pl_welcome_47 rfl rfl rfl ?_
        refine Rn.iconst (n := 49) (v := 2) d_Pl_welcome_48 rfl (by decide) ?_
        obtain ⟨b7, k⟩ := k
        refine Rn.iald (n := 50) (v := (hsI (hsI h (3 :: a0) ((h.1 a1 0).toNatClampNeg) 1) (4 :: a0) ((h.1 a1 0).toNatClampNeg) ((hsI h (3 :: a0) ((h.1 a1 0).toNatClampNeg) 1).1 a1 1)).1 a1 2) d_Pl_welcome_49 rfl w_a1 b7 rfl ?_
        obtain ⟨b8, k⟩ := k
        refine Rn.iast (n := 51) d_Pl_welcome_50 rfl w_a0.c5 b8 ?_
        refine Rn.aload_n (n := 52) (i := 0) d_Pl_welcome_51 rfl rfl rfl ?_
        refine Rn.getf (n := 55) (v := vR (6 :: a0)) d_Pl_welcome_52 rfl fl_Pl_32 w_a0.s rfl ?_
        refine Rn.iload_n (n := 56) (i := 2) d_Pl_welcome_55 rfl rfl rfl ?_
        refine Rn.aload_n (n := 57) (i := 1) d_Pl_welcome_56 rfl rfl rfl ?_
        refine Rn.iconst (n := 58) (v := 3) d_Pl_welcome_57 rfl (by decide) ?_
        obtain ⟨b9, k⟩ := k
        refine Rn.iald (n := 59) (v := (hsI (hsI (hsI h (3 :: a0) ((h.1 a1 0).toNatClampNeg) 1) (4 :: a0) ((h.1 a1 0).toNatClampNeg) ((hsI h (3 :: a0) ((h.1 a1 0).toNatClampNeg) 1).1 a1 1)) (5 :: a0) ((h.1 a1 0).toNatClampNeg) ((hsI (hsI h (3 :: a0) ((h.1 a1 0).toNatClampNeg) 1) (4 :: a0) ((h.1 a1 0).toNatClampNeg) ((hsI h (3 :: a0) ((h.1 a1 0).toNatClampNeg) 1).1 a1 1)).1 a1 2)).1 a1 3) d_Pl_welcome_58 rfl w_a1 b9 rfl ?_
        obtain ⟨b10, k⟩ := k
        refine Rn.iast (n := 60) d_Pl_welcome_59 rfl w_a0.c6 b10 ?_
        refine Rn.aload_n (n := 61) (i := 0) d_Pl_welcome_60 rfl rfl rfl ?_
        refine Rn.getf (n := 64) (v := vR (7 :: a0)) d_Pl_welcome_61 rfl fl_Pl_35 w_a0.s rfl ?_
        refine Rn.iload_n (n := 65) (i := 2) d_Pl_welcome_64 rfl rfl rfl ?_
        refine Rn.aload_n (n := 66) (i := 1) d_Pl_welcome_65 rfl rfl rfl ?_
        refine Rn.iconst (n := 67) (v := 4) d_Pl_welcome_66 rfl (by decide) ?_
        obtain ⟨b11, k⟩ := k
        refine Rn.iald (n := 68) (v := (hsI (hsI (hsI (hsI h (3 :: a0) ((h.1 a1 0).toNatClampNeg) 1) (4 :: a0) ((h.1 a1 0).toNatClampNeg) ((hsI h (3 :: a0) ((h.1 a1 0).toNatClampNeg) 1).1 a1 1)) (5 :: a0) ((h.1 a1 0).toNatClampNeg) ((hsI (hsI h (3 :: a0) ((h.1 a1 0).toNatClampNeg) 1) (4 :: a0) ((h.1 a1 0).toNatClampNeg) ((hsI h (3 :: a0) ((h.1 a1 0).toNatClampNeg) 1).1 a1 1)).1 a1 2)) (6 :: a0) ((h.1 a1 0).toNatClampNeg) ((hsI (hsI (hsI h (3 :: a0) ((h.1 a1 0).toNatClampNeg) 1) (4 :: a0) ((h.1 a1 0).toNatClampNeg) ((hsI h (3 :: a0) ((h.1 a1 0).toNatClampNeg) 1).1 a1 1)) (5 :: a0) ((h.1 a1 0).toNatClampNeg) ((hsI (hsI h (3 :: a0) ((h.1 a1 0).toNatClampNeg) 1) (4 :: a0) ((h.1 a1 0).toNatClampNeg) ((hsI h (3 :: a0) ((h.1 a1 0).toNatClampNeg) 1).1 a1 1)).1 a1 2)).1 a1 3)).1 a1 4) d_Pl_welcome_67 rfl w_a1 b11 rfl ?_
        obtain ⟨b12, k⟩ := k
        refine Rn.iast (n := 69) d_Pl_welcome_68 rfl w_a0.c7 b12 ?_
        refine Rn.aload_n (n := 70) (i := 0) d_Pl_welcome_69 rfl rfl rfl ?_
        refine Rn.getf (n := 73) (v := vR (8 :: a0)) d_Pl_welcome_70 rfl fl_Pl_38 w_a0.s rfl ?_
        refine Rn.iload_n (n := 74) (i := 2) d_Pl_welcome_73 rfl rfl rfl ?_
        refine Rn.aload_n (n := 75) (i := 1) d_Pl_welcome_74 rfl rfl rfl ?_
        refine Rn.iconst (n := 76) (v := 5) d_Pl_welcome_75 rfl (by decide) ?_
        obtain ⟨b13, k⟩ := k
        refine Rn.iald (n := 77) (v := (hsI (hsI (hsI (hsI (hsI h (3 :: a0) ((h.1 a1 0).toNatClampNeg) 1) (4 :: a0) ((h.1 a1 0).toNatClampNeg) ((hsI h (3 :: a0) ((h.1 a1 0).toNatClampNeg) 1).1 a1 1)) (5 :: a0) ((h.1 a1 0).toNatClampNeg) ((hsI (hsI h (3 :: a0) ((h.1 a1 0).toNatClampNeg) 1) (4 :: a0) ((h.1 a1 0).toNatClampNeg) ((hsI h (3 :: a0) ((h.1 a1 0).toNatClampNeg) 1).1 a1 1)).1 a1 2)) (6 :: a0) ((h.1 a1 0).toNatClampNeg) ((hsI (hsI (hsI h (3 :: a0) ((h.1 a1 0).toNatClampNeg) 1) (4 :: a0) ((h.1 a1 0).toNatClampNeg) ((hsI h (3 :: a0) ((h.1 a1 0).toNatClampNeg) 1).1 a1 1)) (5 :: a0) ((h.1 a1 0).toNatClampNeg) ((hsI (hsI h (3 :: a0) ((h.1 a1 0).toNatClampNeg) 1) (4 :: a0) ((h.1 a1 0).toNatClampNeg) ((hsI h (3 :: a0) ((h.1 a1 0).toNatClampNeg) 1).1 a1 1)).1 a1 2)).1 a1 3)) (7 :: a0) ((h.1 a1 0).toNatClampNeg) ((hsI (hsI (hsI (hsI h (3 :: a0) ((h.1 a1 0).toNatClampNeg) 1) (4 :: a0) ((h.1 a1 0).toNatClampNeg) ((hsI h (3 :: a0) ((h.1 a1 0).toNatClampNeg) 1).1 a1 1)) (5 :: a0) ((h.1 a1 0).toNatClampNeg) ((hsI (hsI h (3 :: a0) ((h.1 a1 0).toNatClampNeg) 1) (4 :: a0) ((h.1 a1 0).toNatClampNeg) ((hsI h (3 :: a0) ((h.1 a1 0).toNatClampNeg) 1).1 a1 1)).1 a1 2)) (6 :: a0) ((h.1 a1 0).toNatClampNeg) ((hsI (hsI (hsI h (3 :: a0) ((h.1 a1 0).toNatClampNeg) 1) (4 :: a0) ((h.1 a1 0).toNatClampNeg) ((hsI h (3 :: a0) ((h.1 a1 0).toNatClampNeg) 1).1 a1 1)) (5 :: a0) ((h.1 a1 0).toNatClampNeg) ((hsI (hsI h (3 :: a0) ((h.1 a1 0).toNatClampNeg) 1) (4 :: a0) ((h.1 a1 0).toNatClampNeg) ((hsI h (3 :: a0) ((h.1 a1 0).toNatClampNeg) 1).1 a1 1)).1 a1 2)).1 a1 3)).1 a1 4)).1 a1 5) d_Pl_welcome_76 rfl w_a1 b13 rfl ?_
        obtain ⟨b14, k⟩ := k
        refine Rn.iast (n := 78) d_Pl_welcome_77 rfl w_a0.c8 b14 ?_
        refine Rn.aload_n (n := 79) (i := 0) d_Pl_welcome_78 rfl rfl rfl ?_
        refine Rn.getf (n := 82) (v := vR (9 :: a0)) d_Pl_welcome_79 rfl fl_Pl_41 w_a0.s rfl ?_
        refine Rn.iload_n (n := 83) (i := 2) d_Pl_welcome_82 rfl rfl rfl ?_
        refine Rn.aload_n (n := 84) (i := 1) d_Pl_welcome_83 rfl rfl rfl ?_
        refine Rn.bipush (n := 86) (v := 6) d_Pl_welcome_84 rfl (by decide) ?_
        obtain ⟨b15, k⟩ := k
        refine Rn.iald (n := 87) (v := (hsI (hsI (hsI (hsI (hsI (hsI h (3 :: a0) ((h.1 a1 0).toNatClampNeg) 1) (4 :: a0) ((h.1 a1 0).toNatClampNeg) ((hsI h (3 :: a0) ((h.1 a1 0).toNatClampNeg) 1).1 a1 1)) (5 :: a0) ((h.1 a1 0).toNatClampNeg) ((hsI (hsI h (3 :: a0) ((h.1 a1 0).toNatClampNeg) 1) (4 :: a0) ((h.1 a1 0).toNatClampNeg) ((hsI h (3 :: a0) ((h.1 a1 0).toNatClampNeg) 1).1 a1 1)).1 a1 2)) (6 :: a0) ((h.1 a1 0).toNatClampNeg) ((hsI (hsI (hsI h (3 :: a0) ((h.1 a1 0).toNatClampNeg) 1) (4 :: a0) ((h.1 a1 0).toNatClampNeg) ((hsI h (3 :: a0) ((h.1 a1 0).toNatClampNeg) 1).1 a1 1)) (5 :: a0) ((h.1 a1 0).toNatClampNeg) ((hsI (hsI h (3 :: a0) ((h.1 a1 0).toNatClampNeg) 1) (4 :: a0) ((h.1 a1 0).toNatClampNeg) ((hsI h (3 :: a0) ((h.1 a1 0).toNatClampNeg) 1).1 a1 1)).1 a1 2)).1 a1 3)) (7 :: a0) ((h.1 a1 0).toNatClampNeg) ((hsI (hsI (hsI (hsI h (3 :: a0) ((h.1 a1 0).toNatClampNeg) 1) (4 :: a0) ((h.1 a1 0).toNatClampNeg) ((hsI h (3 :: a0) ((h.1 a1 0).toNatClampNeg) 1).1 a1 1)) (5 :: a0) ((h.1 a1 0).toNatClampNeg) ((hsI (hsI h (3 :: a0) ((h.1 a1 0).toNatClampNeg) 1) (4 :: a0) ((h.1 a1 0).toNatClampNeg) ((hsI h (3 :: a0) ((h.1 a1 0).toNatClampNeg) 1).1 a1 1)).1 a1 2)) (6 :: a0) ((h.1 a1 0).toNatClampNeg) ((hsI (hsI (hsI h (3 :: a0) ((h.1 a1 0).toNatClampNeg) 1) (4 :: a0) ((h.1 a1 0).toNatClampNeg) ((hsI h (3 :: a0) ((h.1 a1 0).toNatClampNeg) 1).1 a1 1)) (5 :: a0) ((h.1 a1 0).toNatClampNeg) ((hsI (hsI h (3 :: a0) ((h.1 a1 0).toNatClampNeg) 1) (4 :: a0) ((h.1 a1 0).toNatClampNeg) ((hsI h (3 :: a0) ((h.1 a1 0).toNatClampNeg) 1).1 a1 1)).1 a1 2)).1 a1 3)).1 a1 4)) (8 :: a0) ((h.1 a1 0).toNatClampNeg) ((hsI (hsI (hsI (hsI (hsI h (3 :: a0) ((h.1 a1 0).toNatClampNeg) 1) (4 :: a0) ((h.1 a1 0).toNatClampNeg) ((hsI h (3 :: a0) ((h.1 a1 0).toNatClampNeg) 1).1 a1 1)) (5 :: a0) ((h.1 a1 0).toNatClampNeg) ((hsI (hsI h (3 :: a0) ((h.1 a1 0).toNatClampNeg) 1) (4 :: a0) ((h.1 a1 0).toNatClampNeg) ((hsI h (3 :: a0) ((h.1 a1 0).toNatClampNeg) 1).1 a1 1)).1 a1 2)) (6 :: a0) ((h.1 a1 0).toNatClampNeg) ((hsI (hsI (hsI h (3 :: a0) ((h.1 a1 0).toNatClampNeg) 1) (4 :: a0) ((h.1 a1 0).toNatClampNeg) ((hsI h (3 :: a0) ((h.1 a1 0).toNatClampNeg) 1).1 a1 1)) (5 :: a0) ((h.1 a1 0).toNatClampNeg) ((hsI (hsI h (3 :: a0) ((h.1 a1 0).toNatClampNeg) 1) (4 :: a0) ((h.1 a1 0).toNatClampNeg) ((hsI h (3 :: a0) ((h.1 a1 0).toNatClampNeg) 1).1 a1 1)).1 a1 2)).1 a1 3)) (7 :: a0) ((h.1 a1 0).toNatClampNeg) ((hsI (hsI (hsI (hsI h (3 :: a0) ((h.1 a1 0).toNatClampNeg) 1) (4 :: a0) ((h.1 a1 0).toNatClampNeg) ((hsI h (3 :: a0) ((h.1 a1 0).toNatClampNeg) 1).1 a1 1)) (5 :: a0) ((h.1 a1 0).toNatClampNeg) ((hsI (hsI h (3 :: a0) ((h.1 a1 0).toNatClampNeg) 1) (4 :: a0) ((h.1 a1 0).toNatClampNeg) ((hsI h (3 :: a0) ((h.1 a1 0).toNatClampNeg) 1).1 a1 1)).1 a1 2)) (6 :: a0) ((h.1 a1 0).toNatClampNeg) ((hsI (hsI (hsI h (3 :: a0) ((h.1 a1 0).toNatClampNeg) 1) (4 :: a0) ((h.1 a1 0).toNatClampNeg) ((hsI h (3 :: a0) ((h.1 a1 0).toNatClampNeg) 1).1 a1 1)) (5 :: a0) ((h.1 a1 0).toNatClampNeg) ((hsI (hsI h (3 :: a0) ((h.1 a1 0).toNatClampNeg) 1) (4 :: a0) ((h.1 a1 0).toNatClampNeg) ((hsI h (3 :: a0) ((h.1 a1 0).toNatClampNeg) 1).1 a1 1)).1 a1 2)).1 a1 3)).1 a1 4)).1 a1 5)).1 a1 6) d_Pl_welcome_86 rfl w_a1 b15 rfl ?_
        obtain ⟨b16, k⟩ := k
        refine Rn.iast (n := 88) d_Pl_welcome_87 rfl w_a0.c9 b16 ?_
        exact Rn.vret d_Pl_welcome_88 rfl k
      · have k := k.2 cc
        exact Rn.vret d_Pl_welcome_21 rfl k
theorem e_Pl_welcome {X : XS} (a0 : List Nat) (a1 : List Nat) (h : Hp) (Q : Option AV → Hp → Prop) (k : Rn X m_Pl_welcome 0 [some (vR a0), some (vR a1), none] [] h Q) : Ev X m_Pl_welcome [vR a0, vR a1] h Q := Ev.intro (plainFor_of_name (by decide +kernel)) (Nat.le_of_ble_eq_true rfl) (ls := [some (vR a0), some (vR a1), none]) rfl k
theorem d_Pl_forget_0 : decode m_Pl_forget.2.1 0 = .ok (.aload_n 0, 1) := by decide +kernel
theorem d_Pl_forget_1 : decode m_Pl_forget.2.1 1 = .ok (.iload_n 1, 1) := by decide +kernel
theorem d_Pl_forget_2 : decode m_Pl_forget.2.1 2 = .ok (.invokevirtual 51, 3) := by decide +kernel
theorem d_Pl_forget_5 : decode m_Pl_forget.2.1 5 = .ok (.ifCond .eq 10, 3) := by decide +kernel
theorem d_Pl_forget_8 : decode m_Pl_forget.2.1 8 = .ok (.aload_n 0, 1) := by decide +kernel
theorem d_Pl_forget_9 : decode m_Pl_forget.2.1 9 = .ok (.getfield 22, 3) := by decide +kernel
theorem d_Pl_forget_12 : decode m_Pl_forget.2.1 12 = .ok (.iload_n 1, 1) := by decide +kernel
theorem d_Pl_forget_13 : decode m_Pl_forget.2.1 13 = .ok (.iconst 0, 1) := by decide +kernel
theorem d_Pl_forget_14 : decode m_Pl_forget.2.1 14 = .ok (.bastore, 1) := by decide +kernel
theorem d_Pl_forget_15 : decode m_Pl_forget.2.1 15 = .ok (.return_, 1) := by decide +kernel
theorem g_Pl_forget_0 {X : XS} (a0 : List Nat) (a1 : Int32) (h : Hp) (Q : Option AV → Hp → Prop) (w_a0 : IsPl a0) (k : (∃ Q'4, EvI X m_Pl_hasWalker [vR a0, vI a1] h Q'4 ∧ ∀ (r5 : Int32) (h3 : Hp), Q'4 r5 h3 → ((r5 = 0 → Q none h3) ∧ (¬ r5 = 0 → (vp_in a1 6 ∧ Q none (hsI h3 (3 :: a0) a1.toNatClampNeg 0)))))) : Rn X m_Pl_forget 0 [some (vR a0), some (vI a1)] [] h Q := by
  refine Rn.aload_n (n := 1) (i := 0) d_Pl_forget_0 rfl rfl rfl ?_
  refine Rn.iload_n (n := 2) (i := 1) d_Pl_forget_1 rfl rfl rfl ?_
  obtain ⟨Q'4, ev1, k⟩ := k
  refine Rn.callV (n := 5) (av := [vI a1]) d_Pl_forget_2 rfl ml_Pl_forget_51 mi_Pl_hasWalker w_a0.s rfl rfl rfl rfl (Nat.le_of_ble_eq_true rfl) ev1 (fun v h3 hq => ?_)
  obtain ⟨r5, rfl, hq⟩ := hq
  have k := k r5 h3 hq
  show Rn X m_Pl_forget 5 [some (vR a0), some (vI a1)] [vI r5] h3 Q
  refine Rn.if_eq (n := 8) (t := 15) d_Pl_forget_5 rfl (by decide) (fun cc => ?_) (fun cc => ?_)
  · have k := k.1 cc
    exact Rn.vret d_Pl_forget_15 rfl k
  · have k := k.2 cc
    refine Rn.aload_n (n := 9) (i := 0) d_Pl_forget_8 rfl rfl rfl ?_
    refine Rn.getf (n := 12) (v := vR (3 :: a0)) d_Pl_forget_9 rfl fl_Pl_22 w_a0.s rfl ?_
    refine Rn.iload_n (n := 13) (i := 1) d_Pl_forget_12 rfl rfl rfl ?_
    refine Rn.iconst (n := 14) (v := 0) d_Pl_forget_13 rfl (by decide) ?_
    obtain ⟨b6, k⟩ := k
    refine Rn.zast (n := 15) (y := 0) d_Pl_forget_14 rfl w_a0.c3 b6 rfl ?_
    exact Rn.vret d_Pl_forget_15 rfl k
theorem e_Pl_forget {X : XS} (a0 : List Nat) (a1 : Int32) (h : Hp) (Q : Option AV → Hp → Prop) (k : Rn X m_Pl_forget 0 [some (vR a0), some (vI a1)] [] h Q) : Ev X m_Pl_forget [vR a0, vI a1] h Q := Ev.intro (plainFor_of_name (by decide +kernel)) (Nat.le_of_ble_eq_true rfl) (ls := [some (vR a0), some (vI a1)]) rfl k
theorem d_Pl_pour_0 : decode m_Pl_pour.2.1 0 = .ok (.iconst 0, 1) := by decide +kernel
theorem d_Pl_pour_1 : decode m_Pl_pour.2.1 1 = .ok (.iload_n 1, 1) := by decide +kernel
theorem d_Pl_pour_2 : decode m_Pl_pour.2.1 2 = .ok (.invokestatic 54, 3) := by decide +kernel
theorem d_Pl_pour_5 : decode m_Pl_pour.2.1 5 = .ok (.istore 4, 2) := by decide +kernel
theorem d_Pl_pour_7 : decode m_Pl_pour.2.1 7 = .ok (.iload 4, 2) := by decide +kernel
theorem d_Pl_pour_9 : decode m_Pl_pour.2.1 9 = .ok (.iload_n 2, 1) := by decide +kernel
theorem d_Pl_pour_10 : decode m_Pl_pour.2.1 10 = .ok (.if_icmp .gt 24, 3) := by decide +kernel
theorem d_Pl_pour_13 : decode m_Pl_pour.2.1 13 = .ok (.iload 4, 2) := by decide +kernel
theorem d_Pl_pour_15 : decode m_Pl_pour.2.1 15 = .ok (.bipush 60, 2) := by decide +kernel
theorem d_Pl_pour_17 : decode m_Pl_pour.2.1 17 = .ok (.if_icmp .ge 17, 3) := by decide +kernel
theorem d_Pl_pour_20 : decode m_Pl_pour.2.1 20 = .ok (.aload_n 0, 1) := by decide +kernel
theorem d_Pl_pour_21 : decode m_Pl_pour.2.1 21 = .ok (.getfield 44, 3) := by decide +kernel
theorem d_Pl_pour_24 : decode m_Pl_pour.2.1 24 = .ok (.iload 4, 2) := by decide +kernel
theorem d_Pl_pour_26 : decode m_Pl_pour.2.1 26 = .ok (.iload_n 3, 1) := by decide +kernel
theorem d_Pl_pour_27 : decode m_Pl_pour.2.1 27 = .ok (.iastore, 1) := by decide +kernel
theorem d_Pl_pour_28 : decode m_Pl_pour.2.1 28 = .ok (.iinc 4 1, 3) := by decide +kernel
theorem d_Pl_pour_31 : decode m_Pl_pour.2.1 31 = .ok (.goto (-24), 3) := by decide +kernel
theorem d_Pl_pour_34 : decode m_Pl_pour.2.1 34 = .ok (.return_, 1) := by decide +kernel
theorem g_Pl_pour_0 {X : XS} (a0 : List Nat) (a1 : Int32) (a2 : Int32) (a3 : Int32) (h : Hp) (Q : Option AV → Hp → Prop) (w_a0 : IsPl a0) (k : Rn X m_Pl_pour 7 [some (vR a0), some (vI a1), some (vI a2), some (vI a3), some (vI (iMax 0 a1))] [] h Q) : Rn X m_Pl_pour 0 [some (vR a0), some (vI a1), some (vI a2), some (vI a3), none] [] h Q := by
  refine Rn.iconst (n := 1) (v := 0) d_Pl_pour_0 rfl (by decide) ?_
  refine Rn.iload_n (n := 2) (i := 1) d_Pl_pour_1 rfl rfl rfl ?_
  refine Rn.mmax (n := 5) d_Pl_pour_2 rfl ml_Pl_pour_54 (Nat.le_of_ble_eq_true rfl) ?_
  refine Rn.istore (n := 7) (i := 4) (ls2 := [some (vR a0), some (vI a1), some (vI a2), some (vI a3), some (vI (iMax 0 a1))]) d_Pl_pour_5 rfl (Nat.le_of_ble_eq_true rfl) rfl ?_
  exact k
theorem g_Pl_pour_7 {X : XS} (a0 : List Nat) (a1 : Int32) (a2 : Int32) (a3 : Int32) (a4 : Int32) (h : Hp) (Q : Option AV → Hp → Prop) (w_a0 : IsPl a0) (k : ((a2 < a4 → Q none h) ∧ (¬ a2 < a4 → ((60 ≤ a4 → Q none h) ∧ (¬ 60 ≤ a4 → (vp_in a4 60 ∧ Rn X m_Pl_pour 7 [some (vR a0), some (vI a1), some (vI a2), some (vI a3), some (vI (a4 + 1))] [] (hsI h (10 :: a0) a4.toNatClampNeg a3) Q)))))) : Rn X m_Pl_pour 7 [some (vR a0), some (vI a1), some (vI a2), some (vI a3), some (vI a4)] [] h Q := by
  refine Rn.iload (n := 9) (i := 4) d_Pl_pour_7 rfl rfl ?_
  refine Rn.iload_n (n := 10) (i := 2) d_Pl_pour_9 rfl rfl rfl ?_
  refine Rn.icmp_gt (n := 13) (t := 34) d_Pl_pour_10 rfl (by decide) (fun cc => ?_) (fun cc => ?_)
  · have k := k.1 cc
    exact Rn.vret d_Pl_pour_34 rfl k
  · have k := k.2 cc
    refine Rn.iload (n := 15) (i := 4) d_Pl_pour_13 rfl rfl ?_
    refine Rn.bipush (n := 17) (v := 60) d_Pl_pour_15 rfl (by decide) ?_
    refine Rn.icmp_ge (n := 20) (t := 34) d_Pl_pour_17 rfl (by decide) (fun cc => ?_) (fun cc => ?_)
    · have k := k.1 cc
      exact Rn.vret d_Pl_pour_34 rfl k
    · have k := k.2 cc
      refine Rn.aload_n (n := 21) (i := 0) d_Pl_pour_20 rfl rfl rfl ?_
      refine Rn.getf (n := 24) (v := vR (10 :: a0)) d_Pl_pour_21 rfl fl_Pl_44 w_a0.s rfl ?_
      refine Rn.iload (n := 26) (i := 4) d_Pl_pour_24 rfl rfl ?_
      refine Rn.iload_n (n := 27) (i := 3) d_Pl_pour_26 rfl rfl rfl ?_
      obtain ⟨b1, k⟩ := k
      refine Rn.iast (n := 28) d_Pl_pour_27 rfl w_a0.c10 b1 ?_
      refine Rn.iinc (n := 31) (i := 4) (v := a4 + 1) (ls2 := [some (vR a0), some (vI a1), some (vI a2), some (vI a3), some (vI (a4 + 1))]) d_Pl_pour_28 rfl rfl rfl (Nat.le_of_ble_eq_true rfl) rfl ?_
      refine Rn.goto (n := 7) d_Pl_pour_31 (by decide) ?_
      exact k
theorem e_Pl_pour {X : XS} (a0 : List Nat) (a1 : Int32) (a2 : Int32) (a3 : Int32) (h : Hp) (Q : Option AV → Hp → Prop) (k : Rn X m_Pl_pour 0 [some (vR a0), some (vI a1), some (vI a2), some (vI a3), none] [] h Q) : Ev X m_Pl_pour [vR a0, vI a1, vI a2, vI a3] h Q := Ev.intro (plainFor_of_name (by decide +kernel)) (Nat.le_of_ble_eq_true rfl) (ls := [some (vR a0), some (vI a1), some (vI a2), some (vI a3), none]) rfl k
theorem d_Pl_hasCell_0 : decode m_Pl_hasCell.2.1 0 = .ok (.iload_n 1, 1) := by decide +kernel
theorem d_Pl_hasCell_1 : decode m_Pl_hasCell.2.1 1 = .ok (.ifCond .lt 33, 3) := by decide +kernel
theorem d_Pl_hasCell_4 : decode m_Pl_hasCell.2.1 4 = .ok (.iload_n 1, 1) := by decide +kernel
theorem d_Pl_hasCell_5 : decode m_Pl_hasCell.2.1 5 = .ok (.bipush 48, 2) := by decide +kernel
theorem d_Pl_hasCell_7 : decode m_Pl_hasCell.2.1 7 = .ok (.if_icmp .ge 27, 3) := by decide +kernel
theorem d_Pl_hasCell_10 : decode m_Pl_hasCell.2.1 10 = .ok (.iload_n 1, 1) := by decide +kernel
theorem d_Pl_hasCell_11 : decode m_Pl_hasCell.2.1 11 = .ok (.iconst 4, 1) := by decide +kernel
theorem d_Pl_hasCell_12 : decode m_Pl_hasCell.2.1 12 = .ok (.irem, 1) := by decide +kernel
theorem d_Pl_hasCell_13 : decode m_Pl_hasCell.2.1 13 = .ok (.aload_n 0, 1) := by decide +kernel
theorem d_Pl_hasCell_14 : decode m_Pl_hasCell.2.1 14 = .ok (.getfield 9, 3) := by decide +kernel
theorem d_Pl_hasCell_17 : decode m_Pl_hasCell.2.1 17 = .ok (.if_icmp .ge 17, 3) := by decide +kernel
theorem d_Pl_hasCell_20 : decode m_Pl_hasCell.2.1 20 = .ok (.iload_n 1, 1) := by decide +kernel
theorem d_Pl_hasCell_21 : decode m_Pl_hasCell.2.1 21 = .ok (.iconst 4, 1) := by decide +kernel
theorem d_Pl_hasCell_22 : decode m_Pl_hasCell.2.1 22 = .ok (.idiv, 1) := by decide +kernel
theorem d_Pl_hasCell_23 : decode m_Pl_hasCell.2.1 23 = .ok (.aload_n 0, 1) := by decide +kernel
theorem d_Pl_hasCell_24 : decode m_Pl_hasCell.2.1 24 = .ok (.getfield 15, 3) := by decide +kernel
theorem d_Pl_hasCell_27 : decode m_Pl_hasCell.2.1 27 = .ok (.if_icmp .ge 7, 3) := by decide +kernel
theorem d_Pl_hasCell_30 : decode m_Pl_hasCell.2.1 30 = .ok (.iconst 1, 1) := by decide +kernel
theorem d_Pl_hasCell_31 : decode m_Pl_hasCell.2.1 31 = .ok (.goto 4, 3) := by decide +kernel
theorem d_Pl_hasCell_34 : decode m_Pl_hasCell.2.1 34 = .ok (.iconst 0, 1) := by decide +kernel
theorem d_Pl_hasCell_35 : decode m_Pl_hasCell.2.1 35 = .ok (.ireturn, 1) := by decide +kernel
theorem g_Pl_hasCell_0 {X : XS} (a0 : List Nat) (a1 : Int32) (h : Hp) (Q : Option AV → Hp → Prop) (w_a0 : IsPl a0) (k : ((a1 < 0 → Q (some (vI 0)) h) ∧ (¬ a1 < 0 → ((48 ≤ a1 → Q (some (vI 0)) h) ∧ (¬ 48 ≤ a1 → (((h.1 a0 0) ≤ (iR a1 4) → Q (some (vI 0)) h) ∧ (¬ (h.1 a0 0) ≤ (iR a1 4) → (((h.1 a0 1) ≤ (a1 / 4) → Q (some (vI 0)) h) ∧ (¬ (h.1 a0 1) ≤ (a1 / 4) → Q (some (vI 1)) h))))))))) : Rn X m_Pl_hasCell 0 [some (vR a0), some (vI a1)] [] h Q := by
  refine Rn.iload_n (n := 1) (i := 1) d_Pl_hasCell_0 rfl rfl rfl ?_
  refine Rn.if_lt (n := 4) (t := 34) d_Pl_hasCell_1 rfl (by decide) (fun cc => ?_) (fun cc => ?_)
  · have k := k.1 cc
    refine Rn.iconst (n := 35) (v := 0) d_Pl_hasCell_34 rfl (by decide) ?_
    exact Rn.iret d_Pl_hasCell_35 rfl rfl k
  · have k := k.2 cc
    refine Rn.iload_n (n := 5) (i := 1) d_Pl_hasCell_4 rfl rfl rfl ?_
    refine Rn.bipush (n := 7) (v := 48) d_Pl_hasCell_5 rfl (by decide) ?_
    refine Rn.icmp_ge (n := 10) (t := 34) d_Pl_hasCell_7 rfl (by decide) (fun cc => ?_) (fun cc => ?_)
    · have k := k.1 cc
      refine Rn.iconst (n := 35) (v := 0) d_Pl_hasCell_34 rfl (by decide) ?_
      exact Rn.iret d_Pl_hasCell_35 rfl rfl k
    · have k := k.2 cc
      refine Rn.iload_n (n := 11) (i := 1) d_Pl_hasCell_10 rfl rfl rfl ?_
      refine Rn.iconst (n := 12) (v := 4) d_Pl_hasCell_11 rfl (by decide) ?_
      refine Rn.irem (n := 13) d_Pl_hasCell_12 rfl (by decide) ?_
      refine Rn.aload_n (n := 14) (i := 0) d_Pl_hasCell_13 rfl rfl rfl ?_
      refine Rn.getf (n := 17) (v := vI (h.1 a0 0)) d_Pl_hasCell_14 rfl fl_Pl_9 w_a0.s rfl ?_
      refine Rn.icmp_ge (n := 20) (t := 34) d_Pl_hasCell_17 rfl (by decide) (fun cc => ?_) (fun cc => ?_)
      · have k := k.1 cc
        refine Rn.iconst (n := 35) (v := 0) d_Pl_hasCell_34 rfl (by decide) ?_
        exact Rn.iret d_Pl_hasCell_35 rfl rfl k
      · have k := k.2 cc
        refine Rn.iload_n (n := 21) (i := 1) d_Pl_hasCell_20 rfl rfl rfl ?_
        refine Rn.iconst (n := 22) (v := 4) d_Pl_hasCell_21 rfl (by decide) ?_
        refine Rn.idiv (n := 23) d_Pl_hasCell_22 rfl (by decide) ?_
        refine Rn.aload_n (n := 24) (i := 0) d_Pl_hasCell_23 rfl rfl rfl ?_
        refine Rn.getf (n := 27) (v := vI (h.1 a0 1)) d_Pl_hasCell_24 rfl fl_Pl_15 w_a0.s rfl ?_
        refine Rn.icmp_ge (n := 30) (t := 34) d_Pl_hasCell_27 rfl (by decide) (fun cc => ?_) (fun cc => ?_)
        · have k := k.1 cc
          refine Rn.iconst (n := 35) (v := 0) d_Pl_hasCell_34 rfl (by decide) ?_
          exact Rn.iret d_Pl_hasCell_35 rfl rfl k
        · have k := k.2 cc
          refine Rn.iconst (n := 31) (v := 1) d_Pl_hasCell_30 rfl (by decide) ?_
          refine Rn.goto (n := 35) d_Pl_hasCell_31 (by decide) ?_
          exact Rn.iret d_Pl_hasCell_35 rfl rfl k
theorem e_Pl_hasCell {X : XS} (a0 : List Nat) (a1 : Int32) (h : Hp) (Q : Option AV → Hp → Prop) (k : Rn X m_Pl_hasCell 0 [some (vR a0), some (vI a1)] [] h Q) : Ev X m_Pl_hasCell [vR a0, vI a1] h Q := Ev.intro (plainFor_of_name (by decide +kernel)) (Nat.le_of_ble_eq_true rfl) (ls := [some (vR a0), some (vI a1)]) rfl k
theorem d_Pl_isDry_0 : decode m_Pl_isDry.2.1 0 = .ok (.aload_n 0, 1) := by decide +kernel
theorem d_Pl_isDry_1 : decode m_Pl_isDry.2.1 1 = .ok (.iload_n 1, 1) := by decide +kernel
theorem d_Pl_isDry_2 : decode m_Pl_isDry.2.1 2 = .ok (.invokevirtual 47, 3) := by decide +kernel
theorem d_Pl_isDry_5 : decode m_Pl_isDry.2.1 5 = .ok (.ifCond .eq 16, 3) := by decide +kernel
theorem d_Pl_isDry_8 : decode m_Pl_isDry.2.1 8 = .ok (.aload_n 0, 1) := by decide +kernel
theorem d_Pl_isDry_9 : decode m_Pl_isDry.2.1 9 = .ok (.getfield 18, 3) := by decide +kernel
theorem d_Pl_isDry_12 : decode m_Pl_isDry.2.1 12 = .ok (.iload_n 1, 1) := by decide +kernel
theorem d_Pl_isDry_13 : decode m_Pl_isDry.2.1 13 = .ok (.baload, 1) := by decide +kernel
theorem d_Pl_isDry_14 : decode m_Pl_isDry.2.1 14 = .ok (.ifCond .eq 7, 3) := by decide +kernel
theorem d_Pl_isDry_17 : decode m_Pl_isDry.2.1 17 = .ok (.iconst 1, 1) := by decide +kernel
theorem d_Pl_isDry_18 : decode m_Pl_isDry.2.1 18 = .ok (.goto 4, 3) := by decide +kernel
theorem d_Pl_isDry_21 : decode m_Pl_isDry.2.1 21 = .ok (.iconst 0, 1) := by decide +kernel
theorem d_Pl_isDry_22 : decode m_Pl_isDry.2.1 22 = .ok (.ireturn, 1) := by decide +kernel
theorem g_Pl_isDry_0 {X : XS} (a0 : List Nat) (a1 : Int32) (h : Hp) (Q : Option AV → Hp → Prop) (w_a0 : IsPl a0) (k : (∃ Q'4, EvI X m_Pl_hasCell [vR a0, vI a1] h Q'4 ∧ ∀ (r5 : Int32) (h3 : Hp), Q'4 r5 h3 → ((r5 = 0 → Q (some (vI 0)) h3) ∧ (¬ r5 = 0 → (vp_in a1 48 ∧ (((h3.1 (2 :: a0) a1.toNatClampNeg) = 0 → Q (some (vI 0)) h3) ∧ (¬ (h3.1 (2 :: a0) a1.toNatClampNeg) = 0 → Q (some (vI 1)) h3))))))) : Rn X m_Pl_isDry 0 [some (vR a0), some (vI a1)] [] h Q := by
  refine Rn.aload_n (n := 1) (i := 0) d_Pl_isDry_0 rfl rfl rfl ?_
  refine Rn.iload_n (n := 2) (i := 1) d_Pl_isDry_1 rfl rfl rfl ?_
  obtain ⟨Q'4, ev1, k⟩ := k
  refine Rn.callV (n := 5) (av := [vI a1]) d_Pl_isDry_2 rfl ml_Pl_isDry_47 mi_Pl_hasCell w_a0.s rfl rfl rfl rfl (Nat.le_of_ble_eq_true rfl) ev1 (fun v h3 hq => ?_)
  obtain ⟨r5, rfl, hq⟩ := hq
  have k := k r5 h3 hq
  show Rn X m_Pl_isDry 5 [some (vR a0), some (vI a1)] [vI r5] h3 Q
  refine Rn.if_eq (n := 8) (t := 21) d_Pl_isDry_5 rfl (by decide) (fun cc => ?_) (fun cc => ?_)
  · have k := k.1 cc
    refine Rn.iconst (n := 22) (v := 0) d_Pl_isDry_21 rfl (by decide) ?_
    exact Rn.iret d_Pl_isDry_22 rfl rfl k
  · have k := k.2 cc
    refine Rn.aload_n (n := 9) (i := 0) d_Pl_isDry_8 rfl rfl rfl ?_
    refine Rn.getf (n := 12) (v := vR (2 :: a0)) d_Pl_isDry_9 rfl fl_Pl_18 w_a0.s rfl ?_
    refine Rn.iload_n (n := 13) (i := 1) d_Pl_isDry_12 rfl rfl rfl ?_
    obtain ⟨b6, k⟩ := k
    refine Rn.zald (n := 14) (v := h3.1 (2 :: a0) a1.toNatClampNeg) d_Pl_isDry_13 rfl w_a0.c2 b6 rfl ?_
    refine Rn.if_eq (n := 17) (t := 21) d_Pl_isDry_14 rfl (by decide) (fun cc => ?_) (fun cc => ?_)
    · have k := k.1 cc
      refine Rn.iconst (n := 22) (v := 0) d_Pl_isDry_21 rfl (by decide) ?_
      exact Rn.iret d_Pl_isDry_22 rfl rfl k
    · have k := k.2 cc
      refine Rn.iconst (n := 18) (v := 1) d_Pl_isDry_17 rfl (by decide) ?_
      refine Rn.goto (n := 22) d_Pl_isDry_18 (by decide) ?_
      exact Rn.iret d_Pl_isDry_22 rfl rfl k
theorem e_Pl_isDry {X : XS} (a0 : List Nat) (a1 : Int32) (h : Hp) (Q : Option AV → Hp → Prop) (k : Rn X m_Pl_isDry 0 [some (vR a0), some (vI a1)] [] h Q) : Ev X m_Pl_isDry [vR a0, vI a1] h Q := Ev.intro (plainFor_of_name (by decide +kernel)) (Nat.le_of_ble_eq_true rfl) (ls := [some (vR a0), some (vI a1)]) rfl k
theorem d_Pl_hasWalker_0 : decode m_Pl_hasWalker.2.1 0 = .ok (.iload_n 1, 1) := by decide +kernel
theorem d_Pl_hasWalker_1 : decode m_Pl_hasWalker.2.1 1 = .ok (.ifCond .lt 22, 3) := by decide +kernel
theorem d_Pl_hasWalker_4 : decode m_Pl_hasWalker.2.1 4 = .ok (.iload_n 1, 1) := by decide +kernel
theorem d_Pl_hasWalker_5 : decode m_Pl_hasWalker.2.1 5 = .ok (.bipush 6, 2) := by decide +kernel
theorem d_Pl_hasWalker_7 : decode m_Pl_hasWalker.2.1 7 = .ok (.if_icmp .ge 16, 3) := by decide +kernel
theorem d_Pl_hasWalker_10 : decode m_Pl_hasWalker.2.1 10 = .ok (.aload_n 0, 1) := by decide +kernel
theorem d_Pl_hasWalker_11 : decode m_Pl_hasWalker.2.1 11 = .ok (.getfield 22, 3) := by decide +kernel
theorem d_Pl_hasWalker_14 : decode m_Pl_hasWalker.2.1 14 = .ok (.iload_n 1, 1) := by decide +kernel
theorem d_Pl_hasWalker_15 : decode m_Pl_hasWalker.2.1 15 = .ok (.baload, 1) := by decide +kernel
theorem d_Pl_hasWalker_16 : decode m_Pl_hasWalker.2.1 16 = .ok (.ifCond .eq 7, 3) := by decide +kernel
theorem d_Pl_hasWalker_19 : decode m_Pl_hasWalker.2.1 19 = .ok (.iconst 1, 1) := by decide +kernel
theorem d_Pl_hasWalker_20 : decode m_Pl_hasWalker.2.1 20 = .ok (.goto 4, 3) := by decide +kernel
theorem d_Pl_hasWalker_23 : decode m_Pl_hasWalker.2.1 23 = .ok (.iconst 0, 1) := by decide +kernel
theorem d_Pl_hasWalker_24 : decode m_Pl_hasWalker.2.1 24 = .ok (.ireturn, 1) := by decide +kernel
theorem g_Pl_hasWalker_0 {X : XS} (a0 : List Nat) (a1 : Int32) (h : Hp) (Q : Option AV → Hp → Prop) (w_a0 : IsPl a0) (k : ((a1 < 0 → Q (some (vI 0)) h) ∧ (¬ a1 < 0 → ((6 ≤ a1 → Q (some (vI 0)) h) ∧ (¬ 6 ≤ a1 → (vp_in a1 6 ∧ (((h.1 (3 :: a0) a1.toNatClampNeg) = 0 → Q (some (vI 0)) h) ∧ (¬ (h.1 (3 :: a0) a1.toNatClampNeg) = 0 → Q (some (vI 1)) h)))))))) : Rn X m_Pl_hasWalker 0 [some (vR a0), some (vI a1)] [] h Q := by
  refine Rn.iload_n (n := 1) (i := 1) d_Pl_hasWalker_0 rfl rfl rfl ?_
  refine Rn.if_lt (n := 4) (t := 23) d_Pl_hasWalker_1 rfl (by decide) (fun cc => ?_) (fun cc => ?_)
  · have k := k.1 cc
    refine Rn.iconst (n := 24) (v := 0) d_Pl_hasWalker_23 rfl (by decide) ?_
    exact Rn.iret d_Pl_hasWalker_24 rfl rfl k
  · have k := k.2 cc
    refine Rn.iload_n (n := 5) (i := 1) d_Pl_hasWalker_4 rfl rfl rfl ?_
    refine Rn.bipush (n := 7) (v := 6) d_Pl_hasWalker_5 rfl (by decide) ?_
    refine Rn.icmp_ge (n := 10) (t := 23) d_Pl_hasWalker_7 rfl (by decide) (fun cc => ?_) (fun cc => ?_)
    · have k := k.1 cc
      refine Rn.iconst (n := 24) (v := 0) d_Pl_hasWalker_23 rfl (by decide) ?_
      exact Rn.iret d_Pl_hasWalker_24 rfl rfl k
    · have k := k.2 cc
      refine Rn.aload_n (n := 11) (i := 0) d_Pl_hasWalker_10 rfl rfl rfl ?_
      refine Rn.getf (n := 14) (v := vR (3 :: a0)) d_Pl_hasWalker_11 rfl fl_Pl_22 w_a0.s rfl ?_
      refine Rn.iload_n (n := 15) (i := 1) d_Pl_hasWalker_14 rfl rfl rfl ?_
      obtain ⟨b1, k⟩ := k
      refine Rn.zald (n := 16) (v := h.1 (3 :: a0) a1.toNatClampNeg) d_Pl_hasWalker_15 rfl w_a0.c3 b1 rfl ?_
      refine Rn.if_eq (n := 19) (t := 23) d_Pl_hasWalker_16 rfl (by decide) (fun cc => ?_) (fun cc => ?_)
      · have k := k.1 cc
        refine Rn.iconst (n := 24) (v := 0) d_Pl_hasWalker_23 rfl (by decide) ?_
        exact Rn.iret d_Pl_hasWalker_24 rfl rfl k
      · have k := k.2 cc
        refine Rn.iconst (n := 20) (v := 1) d_Pl_hasWalker_19 rfl (by decide) ?_
        refine Rn.goto (n := 24) d_Pl_hasWalker_20 (by decide) ?_
        exact Rn.iret d_Pl_hasWalker_24 rfl rfl k
theorem e_Pl_hasWalker {X : XS} (a0 : List Nat) (a1 : Int32) (h : Hp) (Q : Option AV → Hp → Prop) (k : Rn X m_Pl_hasWalker 0 [some (vR a0), some (vI a1)] [] h Q) : Ev X m_Pl_hasWalker [vR a0, vI a1] h Q := Ev.intro (plainFor_of_name (by decide +kernel)) (Nat.le_of_ble_eq_true rfl) (ls := [some (vR a0), some (vI a1)]) rfl k
theorem d_Pl_walkers_0 : decode m_Pl_walkers.2.1 0 = .ok (.iconst 0, 1) := by decide +kernel
theorem d_Pl_walkers_1 : decode m_Pl_walkers.2.1 1 = .ok (.istore_n 1, 1) := by decide +kernel
theorem d_Pl_walkers_2 : decode m_Pl_walkers.2.1 2 = .ok (.iconst 0, 1) := by decide +kernel
theorem d_Pl_walkers_3 : decode m_Pl_walkers.2.1 3 = .ok (.istore_n 2, 1) := by decide +kernel
theorem d_Pl_walkers_4 : decode m_Pl_walkers.2.1 4 = .ok (.iload_n 2, 1) := by decide +kernel
theorem d_Pl_walkers_5 : decode m_Pl_walkers.2.1 5 = .ok (.bipush 6, 2) := by decide +kernel
theorem d_Pl_walkers_7 : decode m_Pl_walkers.2.1 7 = .ok (.if_icmp .ge 26, 3) := by decide +kernel
theorem d_Pl_walkers_10 : decode m_Pl_walkers.2.1 10 = .ok (.iload_n 1, 1) := by decide +kernel
theorem d_Pl_walkers_11 : decode m_Pl_walkers.2.1 11 = .ok (.aload_n 0, 1) := by decide +kernel
theorem d_Pl_walkers_12 : decode m_Pl_walkers.2.1 12 = .ok (.getfield 22, 3) := by decide +kernel
theorem d_Pl_walkers_15 : decode m_Pl_walkers.2.1 15 = .ok (.iload_n 2, 1) := by decide +kernel
theorem d_Pl_walkers_16 : decode m_Pl_walkers.2.1 16 = .ok (.baload, 1) := by decide +kernel
theorem d_Pl_walkers_17 : decode m_Pl_walkers.2.1 17 = .ok (.ifCond .eq 7, 3) := by decide +kernel
theorem d_Pl_walkers_20 : decode m_Pl_walkers.2.1 20 = .ok (.iconst 1, 1) := by decide +kernel
theorem d_Pl_walkers_21 : decode m_Pl_walkers.2.1 21 = .ok (.goto 4, 3) := by decide +kernel
theorem d_Pl_walkers_24 : decode m_Pl_walkers.2.1 24 = .ok (.iconst 0, 1) := by decide +kernel
theorem d_Pl_walkers_25 : decode m_Pl_walkers.2.1 25 = .ok (.iadd, 1) := by decide +kernel
theorem d_Pl_walkers_26 : decode m_Pl_walkers.2.1 26 = .ok (.istore_n 1, 1) := by decide +kernel
theorem d_Pl_walkers_27 : decode m_Pl_walkers.2.1 27 = .ok (.iinc 2 1, 3) := by decide +kernel
theorem d_Pl_walkers_30 : decode m_Pl_walkers.2.1 30 = .ok (.goto (-26), 3) := by decide +kernel
theorem d_Pl_walkers_33 : decode m_Pl_walkers.2.1 33 = .ok (.iload_n 1, 1) := by decide +kernel
theorem d_Pl_walkers_34 : decode m_Pl_walkers.2.1 34 = .ok (.ireturn, 1) := by decide +kernel
theorem g_Pl_walkers_0 {X : XS} (a0 : List Nat) (h : Hp) (Q : Option AV → Hp → Prop) (w_a0 : IsPl a0) (k : Rn X m_Pl_walkers 4 [some (vR a0), some (vI 0), some (vI 0)] [] h Q) : Rn X m_Pl_walkers 0 [some (vR a0), none, none] [] h Q := by
  refine Rn.iconst (n := 1) (v := 0) d_Pl_walkers_0 rfl (by decide) ?_
  refine Rn.istore_n (n := 2) (i := 1) (ls2 := [some (vR a0), some (vI 0), none]) d_Pl_walkers_1 rfl rfl (Nat.le_of_ble_eq_true rfl) rfl ?_
  refine Rn.iconst (n := 3) (v := 0) d_Pl_walkers_2 rfl (by decide) ?_
  refine Rn.istore_n (n := 4) (i := 2) (ls2 := [some (vR a0), some (vI 0), some (vI 0)]) d_Pl_walkers_3 rfl rfl (Nat.le_of_ble_eq_true rfl) rfl ?_
  exact k
theorem g_Pl_walkers_4 {X : XS} (a0 : List Nat) (a1 : Int32) (a2 : Int32) (h : Hp) (Q : Option AV → Hp → Prop) (w_a0 : IsPl a0) (k : ((6 ≤ a2 → Q (some (vI a1)) h) ∧ (¬ 6 ≤ a2 → (vp_in a2 6 ∧ (((h.1 (3 :: a0) a2.toNatClampNeg) = 0 → Rn X m_Pl_walkers 4 [some (vR a0), some (vI (a1 + 0)), some (vI (a2 + 1))] [] h Q) ∧ (¬ (h.1 (3 :: a0) a2.toNatClampNeg) = 0 → Rn X m_Pl_walkers 4 [some (vR a0), some (vI (a1 + 1)), some (vI (a2 + 1))] [] h Q)))))) : Rn X m_Pl_walkers 4 [some (vR a0), some (vI a1), some (vI a2)] [] h Q := by
  refine Rn.iload_n (n := 5) (i := 2) d_Pl_walkers_4 rfl rfl rfl ?_
  refine Rn.bipush (n := 7) (v := 6) d_Pl_walkers_5 rfl (by decide) ?_
  refine Rn.icmp_ge (n := 10) (t := 33) d_Pl_walkers_7 rfl (by decide) (fun cc => ?_) (fun cc => ?_)
  · have k := k.1 cc
    refine Rn.iload_n (n := 34) (i := 1) d_Pl_walkers_33 rfl rfl rfl ?_
    exact Rn.iret d_Pl_walkers_34 rfl rfl k
  · have k := k.2 cc
    refine Rn.iload_n (n := 11) (i := 1) d_Pl_walkers_10 rfl rfl rfl ?_
    refine Rn.aload_n (n := 12) (i := 0) d_Pl_walkers_11 rfl rfl rfl ?_
    refine Rn.getf (n := 15) (v := vR (3 :: a0)) d_Pl_walkers_12 rfl fl_Pl_22 w_a0.s rfl ?_
    refine Rn.iload_n (n := 16) (i := 2) d_Pl_walkers_15 rfl rfl rfl ?_
    obtain ⟨b1, k⟩ := k
    refine Rn.zald (n := 17) (v := h.1 (3 :: a0) a2.toNatClampNeg) d_Pl_walkers_16 rfl w_a0.c3 b1 rfl ?_
    refine Rn.if_eq (n := 20) (t := 24) d_Pl_walkers_17 rfl (by decide) (fun cc => ?_) (fun cc => ?_)
    · have k := k.1 cc
      refine Rn.iconst (n := 25) (v := 0) d_Pl_walkers_24 rfl (by decide) ?_
      refine Rn.iadd (n := 26) d_Pl_walkers_25 rfl ?_
      refine Rn.istore_n (n := 27) (i := 1) (ls2 := [some (vR a0), some (vI (a1 + 0)), some (vI a2)]) d_Pl_walkers_26 rfl rfl (Nat.le_of_ble_eq_true rfl) rfl ?_
      refine Rn.iinc (n := 30) (i := 2) (v := a2 + 1) (ls2 := [some (vR a0), some (vI (a1 + 0)), some (vI (a2 + 1))]) d_Pl_walkers_27 rfl rfl rfl (Nat.le_of_ble_eq_true rfl) rfl ?_
      refine Rn.goto (n := 4) d_Pl_walkers_30 (by decide) ?_
      exact k
    · have k := k.2 cc
      refine Rn.iconst (n := 21) (v := 1) d_Pl_walkers_20 rfl (by decide) ?_
      refine Rn.goto (n := 25) d_Pl_walkers_21 (by decide) ?_
      refine Rn.iadd (n := 26) d_Pl_walkers_25 rfl ?_
      refine Rn.istore_n (n := 27) (i := 1) (ls2 := [some (vR a0), some (vI (a1 + 1)), some (vI a2)]) d_Pl_walkers_26 rfl rfl (Nat.le_of_ble_eq_true rfl) rfl ?_
      refine Rn.iinc (n := 30) (i := 2) (v := a2 + 1) (ls2 := [some (vR a0), some (vI (a1 + 1)), some (vI (a2 + 1))]) d_Pl_walkers_27 rfl rfl rfl (Nat.le_of_ble_eq_true rfl) rfl ?_
      refine Rn.goto (n := 4) d_Pl_walkers_30 (by decide) ?_
      exact k
theorem e_Pl_walkers {X : XS} (a0 : List Nat) (h : Hp) (Q : Option AV → Hp → Prop) (k : Rn X m_Pl_walkers 0 [some (vR a0), none, none] [] h Q) : Ev X m_Pl_walkers [vR a0] h Q := Ev.intro (plainFor_of_name (by decide +kernel)) (Nat.le_of_ble_eq_true rfl) (ls := [some (vR a0), none, none]) rfl k
theorem d_Pl_rainOf_0 : decode m_Pl_rainOf.2.1 0 = .ok (.iload_n 1, 1) := by decide +kernel
theorem d_Pl_rainOf_1 : decode m_Pl_rainOf.2.1 1 = .ok (.ifCond .lt 18, 3) := by decide +kernel
theorem d_Pl_rainOf_4 : decode m_Pl_rainOf.2.1 4 = .ok (.iload_n 1, 1) := by decide +kernel
theorem d_Pl_rainOf_5 : decode m_Pl_rainOf.2.1 5 = .ok (.bipush 60, 2) := by decide +kernel
theorem d_Pl_rainOf_7 : decode m_Pl_rainOf.2.1 7 = .ok (.if_icmp .ge 12, 3) := by decide +kernel
theorem d_Pl_rainOf_10 : decode m_Pl_rainOf.2.1 10 = .ok (.aload_n 0, 1) := by decide +kernel
theorem d_Pl_rainOf_11 : decode m_Pl_rainOf.2.1 11 = .ok (.getfield 44, 3) := by decide +kernel
theorem d_Pl_rainOf_14 : decode m_Pl_rainOf.2.1 14 = .ok (.iload_n 1, 1) := by decide +kernel
theorem d_Pl_rainOf_15 : decode m_Pl_rainOf.2.1 15 = .ok (.iaload, 1) := by decide +kernel
theorem d_Pl_rainOf_16 : decode m_Pl_rainOf.2.1 16 = .ok (.goto 4, 3) := by decide +kernel
theorem d_Pl_rainOf_19 : decode m_Pl_rainOf.2.1 19 = .ok (.iconst 0, 1) := by decide +kernel
theorem d_Pl_rainOf_20 : decode m_Pl_rainOf.2.1 20 = .ok (.ireturn, 1) := by decide +kernel
theorem g_Pl_rainOf_0 {X : XS} (a0 : List Nat) (a1 : Int32) (h : Hp) (Q : Option AV → Hp → Prop) (w_a0 : IsPl a0) (k : ((a1 < 0 → Q (some (vI 0)) h) ∧ (¬ a1 < 0 → ((60 ≤ a1 → Q (some (vI 0)) h) ∧ (¬ 60 ≤ a1 → (vp_in a1 60 ∧ Q (some (vI (h.1 (10 :: a0) a1.toNatClampNeg))) h)))))) : Rn X m_Pl_rainOf 0 [some (vR a0), some (vI a1)] [] h Q := by
  refine Rn.iload_n (n := 1) (i := 1) d_Pl_rainOf_0 rfl rfl rfl ?_
  refine Rn.if_lt (n := 4) (t := 19) d_Pl_rainOf_1 rfl (by decide) (fun cc => ?_) (fun cc => ?_)
  · have k := k.1 cc
    refine Rn.iconst (n := 20) (v := 0) d_Pl_rainOf_19 rfl (by decide) ?_
    exact Rn.iret d_Pl_rainOf_20 rfl rfl k
  · have k := k.2 cc
    refine Rn.iload_n (n := 5) (i := 1) d_Pl_rainOf_4 rfl rfl rfl ?_
    refine Rn.bipush (n := 7) (v := 60) d_Pl_rainOf_5 rfl (by decide) ?_
    refine Rn.icmp_ge (n := 10) (t := 19) d_Pl_rainOf_7 rfl (by decide) (fun cc => ?_) (fun cc => ?_)
    · have k := k.1 cc
      refine Rn.iconst (n := 20) (v := 0) d_Pl_rainOf_19 rfl (by decide) ?_
      exact Rn.iret d_Pl_rainOf_20 rfl rfl k
    · have k := k.2 cc
      refine Rn.aload_n (n := 11) (i := 0) d_Pl_rainOf_10 rfl rfl rfl ?_
      refine Rn.getf (n := 14) (v := vR (10 :: a0)) d_Pl_rainOf_11 rfl fl_Pl_44 w_a0.s rfl ?_
      refine Rn.iload_n (n := 15) (i := 1) d_Pl_rainOf_14 rfl rfl rfl ?_
      obtain ⟨b1, k⟩ := k
      refine Rn.iald (n := 16) (v := h.1 (10 :: a0) a1.toNatClampNeg) d_Pl_rainOf_15 rfl w_a0.c10 b1 rfl ?_
      refine Rn.goto (n := 20) d_Pl_rainOf_16 (by decide) ?_
      exact Rn.iret d_Pl_rainOf_20 rfl rfl k
theorem e_Pl_rainOf {X : XS} (a0 : List Nat) (a1 : Int32) (h : Hp) (Q : Option AV → Hp → Prop) (k : Rn X m_Pl_rainOf 0 [some (vR a0), some (vI a1)] [] h Q) : Ev X m_Pl_rainOf [vR a0, vI a1] h Q := Ev.intro (plainFor_of_name (by decide +kernel)) (Nat.le_of_ble_eq_true rfl) (ls := [some (vR a0), some (vI a1)]) rfl k
