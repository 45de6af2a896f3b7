theorem d_Tr_walkWith_0 : decode m_Tr_walkWith.2.1 0 = .ok (.aload_n 0, 1) := by decide +kernel
theorem d_Tr_walkWith_1 : decode m_Tr_walkWith.2.1 1 = .ok (.getfield 12, 3) := by decide +kernel
theorem d_Tr_walkWith_4 : decode m_Tr_walkWith.2.1 4 = .ok (.aload_n 1, 1) := by decide +kernel
theorem d_Tr_walkWith_5 : decode m_Tr_walkWith.2.1 5 = .ok (.invokevirtual 29, 3) := by decide +kernel
theorem d_Tr_walkWith_8 : decode m_Tr_walkWith.2.1 8 = .ok (.iconst 0, 1) := by decide +kernel
theorem d_Tr_walkWith_9 : decode m_Tr_walkWith.2.1 9 = .ok (.istore_n 3, 1) := by decide +kernel
theorem d_Tr_walkWith_10 : decode m_Tr_walkWith.2.1 10 = .ok (.iconst 0, 1) := by decide +kernel
theorem d_Tr_walkWith_11 : decode m_Tr_walkWith.2.1 11 = .ok (.istore 4, 2) := by decide +kernel
theorem d_Tr_walkWith_13 : decode m_Tr_walkWith.2.1 13 = .ok (.iload 4, 2) := by decide +kernel
theorem d_Tr_walkWith_15 : decode m_Tr_walkWith.2.1 15 = .ok (.bipush 6, 2) := by decide +kernel
theorem d_Tr_walkWith_17 : decode m_Tr_walkWith.2.1 17 = .ok (.if_icmp .ge 42, 3) := by decide +kernel
theorem d_Tr_walkWith_20 : decode m_Tr_walkWith.2.1 20 = .ok (.aload_n 0, 1) := by decide +kernel
theorem d_Tr_walkWith_21 : decode m_Tr_walkWith.2.1 21 = .ok (.getfield 12, 3) := by decide +kernel
theorem d_Tr_walkWith_24 : decode m_Tr_walkWith.2.1 24 = .ok (.getfield 33, 3) := by decide +kernel
theorem d_Tr_walkWith_27 : decode m_Tr_walkWith.2.1 27 = .ok (.iload 4, 2) := by decide +kernel
theorem d_Tr_walkWith_29 : decode m_Tr_walkWith.2.1 29 = .ok (.baload, 1) := by decide +kernel
theorem d_Tr_walkWith_30 : decode m_Tr_walkWith.2.1 30 = .ok (.ifCond .eq 23, 3) := by decide +kernel
theorem d_Tr_walkWith_33 : decode m_Tr_walkWith.2.1 33 = .ok (.aload_n 0, 1) := by decide +kernel
theorem d_Tr_walkWith_34 : decode m_Tr_walkWith.2.1 34 = .ok (.getfield 12, 3) := by decide +kernel
theorem d_Tr_walkWith_37 : decode m_Tr_walkWith.2.1 37 = .ok (.getfield 37, 3) := by decide +kernel
theorem d_Tr_walkWith_40 : decode m_Tr_walkWith.2.1 40 = .ok (.iload 4, 2) := by decide +kernel
theorem d_Tr_walkWith_42 : decode m_Tr_walkWith.2.1 42 = .ok (.iload_n 2, 1) := by decide +kernel
theorem d_Tr_walkWith_43 : decode m_Tr_walkWith.2.1 43 = .ok (.iconst 2, 1) := by decide +kernel
theorem d_Tr_walkWith_44 : decode m_Tr_walkWith.2.1 44 = .ok (.iload_n 3, 1) := by decide +kernel
theorem d_Tr_walkWith_45 : decode m_Tr_walkWith.2.1 45 = .ok (.imul, 1) := by decide +kernel
theorem d_Tr_walkWith_46 : decode m_Tr_walkWith.2.1 46 = .ok (.ishr, 1) := by decide +kernel
theorem d_Tr_walkWith_47 : decode m_Tr_walkWith.2.1 47 = .ok (.iconst 3, 1) := by decide +kernel
theorem d_Tr_walkWith_48 : decode m_Tr_walkWith.2.1 48 = .ok (.iand, 1) := by decide +kernel
theorem d_Tr_walkWith_49 : decode m_Tr_walkWith.2.1 49 = .ok (.iastore, 1) := by decide +kernel
theorem d_Tr_walkWith_50 : decode m_Tr_walkWith.2.1 50 = .ok (.iinc 3 1, 3) := by decide +kernel
theorem d_Tr_walkWith_53 : decode m_Tr_walkWith.2.1 53 = .ok (.iinc 4 1, 3) := by decide +kernel
theorem d_Tr_walkWith_56 : decode m_Tr_walkWith.2.1 56 = .ok (.goto (-43), 3) := by decide +kernel
theorem d_Tr_walkWith_59 : decode m_Tr_walkWith.2.1 59 = .ok (.aload_n 0, 1) := by decide +kernel
theorem d_Tr_walkWith_60 : decode m_Tr_walkWith.2.1 60 = .ok (.getfield 21, 3) := by decide +kernel
theorem d_Tr_walkWith_63 : decode m_Tr_walkWith.2.1 63 = .ok (.invokevirtual 40, 3) := by decide +kernel
theorem d_Tr_walkWith_66 : decode m_Tr_walkWith.2.1 66 = .ok (.iconst 0, 1) := by decide +kernel
theorem d_Tr_walkWith_67 : decode m_Tr_walkWith.2.1 67 = .ok (.istore 4, 2) := by decide +kernel
theorem d_Tr_walkWith_69 : decode m_Tr_walkWith.2.1 69 = .ok (.iload 4, 2) := by decide +kernel
theorem d_Tr_walkWith_71 : decode m_Tr_walkWith.2.1 71 = .ok (.bipush 60, 2) := by decide +kernel
theorem d_Tr_walkWith_73 : decode m_Tr_walkWith.2.1 73 = .ok (.if_icmp .ge 20, 3) := by decide +kernel
theorem d_Tr_walkWith_76 : decode m_Tr_walkWith.2.1 76 = .ok (.aload_n 0, 1) := by decide +kernel
theorem d_Tr_walkWith_77 : decode m_Tr_walkWith.2.1 77 = .ok (.getfield 21, 3) := by decide +kernel
theorem d_Tr_walkWith_80 : decode m_Tr_walkWith.2.1 80 = .ok (.aload_n 0, 1) := by decide +kernel
theorem d_Tr_walkWith_81 : decode m_Tr_walkWith.2.1 81 = .ok (.getfield 12, 3) := by decide +kernel
theorem d_Tr_walkWith_84 : decode m_Tr_walkWith.2.1 84 = .ok (.invokevirtual 43, 3) := by decide +kernel
theorem d_Tr_walkWith_87 : decode m_Tr_walkWith.2.1 87 = .ok (.iinc 4 1, 3) := by decide +kernel
theorem d_Tr_walkWith_90 : decode m_Tr_walkWith.2.1 90 = .ok (.goto (-21), 3) := by decide +kernel
theorem d_Tr_walkWith_93 : decode m_Tr_walkWith.2.1 93 = .ok (.return_, 1) := by decide +kernel
theorem g_Tr_walkWith_0 {X : XS} (a1 : List Nat) (a2 : Int32) (h : Hp) (Q : Option AV → Hp → Prop) (w_a1 : IsPl a1) (k : (∃ Q'4, EvV X m_Pl_copyFrom [vR [0, 6, 0], vR a1] h Q'4 ∧ ∀ (h3 : Hp), Q'4 h3 → Rn X m_Tr_walkWith 13 [some (vR [6, 0]), some (vR a1), some (vI a2), some (vI 0), some (vI 0)] [] h3 Q)) : Rn X m_Tr_walkWith 0 [some (vR [6, 0]), some (vR a1), some (vI a2), none, none] [] h Q := by
  refine Rn.aload_n (n := 1) (i := 0) d_Tr_walkWith_0 rfl rfl rfl ?_
  refine Rn.getf (n := 4) (v := vR [0, 6, 0]) d_Tr_walkWith_1 rfl fl_Tr_12 Lv_6_0 rfl ?_
  refine Rn.aload_n (n := 5) (i := 1) d_Tr_walkWith_4 rfl rfl rfl ?_
  obtain ⟨Q'4, ev1, k⟩ := k
  refine Rn.callV (n := 8) (av := [vR a1]) d_Tr_walkWith_5 rfl ml_Tr_walkWith_29 mi_Pl_copyFrom Lv_0_6_0 rfl rfl rfl rfl (Nat.le_of_ble_eq_true rfl) ev1 (fun v h3 hq => ?_)
  obtain ⟨rfl, hq⟩ := hq
  have k := k h3 hq
  show Rn X m_Tr_walkWith 8 [some (vR [6, 0]), some (vR a1), some (vI a2), none, none] [] h3 Q
  refine Rn.iconst (n := 9) (v := 0) d_Tr_walkWith_8 rfl (by decide) ?_
  refine Rn.istore_n (n := 10) (i := 3) (ls2 := [some (vR [6, 0]), some (vR a1), some (vI a2), some (vI 0), none]) d_Tr_walkWith_9 rfl rfl (Nat.le_of_ble_eq_true rfl) rfl ?_
  refine Rn.iconst (n := 11) (v := 0) d_Tr_walkWith_10 rfl (by decide) ?_
  refine Rn.istore (n := 13) (i := 4) (ls2 := [some (vR [6, 0]), some (vR a1), some (vI a2), some (vI 0), some (vI 0)]) d_Tr_walkWith_11 rfl (Nat.le_of_ble_eq_true rfl) rfl ?_
  exact k
theorem g_Tr_walkWith_13 {X : XS} (a1 : List Nat) (a2 : Int32) (a3 : Int32) (a4 : Int32) (h : Hp) (Q : Option AV → Hp → Prop) (w_a1 : IsPl a1) (k : ((6 ≤ a4 → (∃ Q'4, EvV X m_Wk_clear [vR [1, 6, 0]] h Q'4 ∧ ∀ (h3 : Hp), Q'4 h3 → Rn X m_Tr_walkWith 69 [some (vR [6, 0]), some (vR a1), some (vI a2), some (vI a3), some (vI 0)] [] h3 Q)) ∧ (¬ 6 ≤ a4 → (vp_in a4 6 ∧ (((h.1 [3, 0, 6, 0] a4.toNatClampNeg) = 0 → Rn X m_Tr_walkWith 13 [some (vR [6, 0]), some (vR a1), some (vI a2), some (vI a3), some (vI (a4 + 1))] [] h Q) ∧ (¬ (h.1 [3, 0, 6, 0] a4.toNatClampNeg) = 0 → (vp_in a4 6 ∧ Rn X m_Tr_walkWith 13 [some (vR [6, 0]), some (vR a1), some (vI a2), some (vI (a3 + 1)), some (vI (a4 + 1))] [] (hsI h [8, 0, 6, 0] a4.toNatClampNeg ((iShr a2 (2 * a3)) &&& 3)) Q))))))) : Rn X m_Tr_walkWith 13 [some (vR [6, 0]), some (vR a1), some (vI a2), some (vI a3), some (vI a4)] [] h Q := by
  refine Rn.iload (n := 15) (i := 4) d_Tr_walkWith_13 rfl rfl ?_
  refine Rn.bipush (n := 17) (v := 6) d_Tr_walkWith_15 rfl (by decide) ?_
  refine Rn.icmp_ge (n := 20) (t := 59) d_Tr_walkWith_17 rfl (by decide) (fun cc => ?_) (fun cc => ?_)
  · have k := k.1 cc
    refine Rn.aload_n (n := 60) (i := 0) d_Tr_walkWith_59 rfl rfl rfl ?_
    refine Rn.getf (n := 63) (v := vR [1, 6, 0]) d_Tr_walkWith_60 rfl fl_Tr_21 Lv_6_0 rfl ?_
    obtain ⟨Q'4, ev1, k⟩ := k
    refine Rn.callV (n := 66) (av := []) d_Tr_walkWith_63 rfl ml_Tr_walkWith_40 mi_Wk_clear Lv_1_6_0 rfl rfl rfl rfl (Nat.le_of_ble_eq_true rfl) ev1 (fun v h3 hq => ?_)
    obtain ⟨rfl, hq⟩ := hq
    have k := k h3 hq
    show Rn X m_Tr_walkWith 66 [some (vR [6, 0]), some (vR a1), some (vI a2), some (vI a3), some (vI a4)] [] h3 Q
    refine Rn.iconst (n := 67) (v := 0) d_Tr_walkWith_66 rfl (by decide) ?_
    refine Rn.istore (n := 69) (i := 4) (ls2 := [some (vR [6, 0]), some (vR a1), some (vI a2), some (vI a3), some (vI 0)]) d_Tr_walkWith_67 rfl (Nat.le_of_ble_eq_true rfl) rfl ?_
    exact k
  · have k := k.2 cc
    refine Rn.aload_n (n := 21) (i := 0) d_Tr_walkWith_20 rfl rfl rfl ?_
    refine Rn.getf (n := 24) (v := vR [0, 6, 0]) d_Tr_walkWith_21 rfl fl_Tr_12 Lv_6_0 rfl ?_
    refine Rn.getf (n := 27) (v := vR [3, 0, 6, 0]) d_Tr_walkWith_24 rfl fl_Tr_33 Lv_0_6_0 rfl ?_
    refine Rn.iload (n := 29) (i := 4) d_Tr_walkWith_27 rfl rfl ?_
    obtain ⟨b5, k⟩ := k
    refine Rn.zald (n := 30) (v := h.1 [3, 0, 6, 0] a4.toNatClampNeg) d_Tr_walkWith_29 rfl Lv_3_0_6_0 b5 rfl ?_
    refine Rn.if_eq (n := 33) (t := 53) d_Tr_walkWith_30 rfl (by decide) (fun cc => ?_) (fun cc => ?_)
    · have k := k.1 cc
      refine Rn.iinc (n := 56) (i := 4) (v := a4 + 1) (ls2 := [some (vR [6, 0]), some (vR a1), some (vI a2), some (vI a3), some (vI (a4 + 1))]) d_Tr_walkWith_53 rfl rfl rfl (Nat.le_of_ble_eq_true rfl) rfl ?_
      refine Rn.goto (n := 13) d_Tr_walkWith_56 (by decide) ?_
      exact k
    · have k := k.2 cc
      refine Rn.aload_n (n := 34) (i := 0) d_Tr_walkWith_33 rfl rfl rfl ?_
      refine Rn.getf (n := 37) (v := vR [0, 6, 0]) d_Tr_walkWith_34 rfl fl_Tr_12 Lv_6_0 rfl ?_
      refine Rn.getf (n := 40) (v := vR [8, 0, 6, 0]) d_Tr_walkWith_37 rfl fl_Tr_37 Lv_0_6_0 rfl ?_
      refine Rn.iload (n := 42) (i := 4) d_Tr_walkWith_40 rfl rfl ?_
      refine Rn.iload_n (n := 43) (i := 2) d_Tr_walkWith_42 rfl rfl rfl ?_
      refine Rn.iconst (n := 44) (v := 2) d_Tr_walkWith_43 rfl (by decide) ?_
      refine Rn.iload_n (n := 45) (i := 3) d_Tr_walkWith_44 rfl rfl rfl ?_
      refine Rn.imul (n := 46) d_Tr_walkWith_45 rfl ?_
      refine Rn.ishr (n := 47) d_Tr_walkWith_46 rfl ?_
      refine Rn.iconst (n := 48) (v := 3) d_Tr_walkWith_47 rfl (by decide) ?_
      refine Rn.iand (n := 49) d_Tr_walkWith_48 rfl ?_
      obtain ⟨b6, k⟩ := k
      refine Rn.iast (n := 50) d_Tr_walkWith_49 rfl Lv_8_0_6_0 b6 ?_
      refine Rn.iinc (n := 53) (i := 3) (v := a3 + 1) (ls2 := [some (vR [6, 0]), some (vR a1), some (vI a2), some (vI (a3 + 1)), some (vI a4)]) d_Tr_walkWith_50 rfl rfl rfl (Nat.le_of_ble_eq_true rfl) rfl ?_
      refine Rn.iinc (n := 56) (i := 4) (v := a4 + 1) (ls2 := [some (vR [6, 0]), some (vR a1), some (vI a2), some (vI (a3 + 1)), some (vI (a4 + 1))]) d_Tr_walkWith_53 rfl rfl rfl (Nat.le_of_ble_eq_true rfl) rfl ?_
      refine Rn.goto (n := 13) d_Tr_walkWith_56 (by decide) ?_
      exact k
theorem g_Tr_walkWith_69 {X : XS} (a1 : List Nat) (a2 : Int32) (a3 : Int32) (a4 : Int32) (h : Hp) (Q : Option AV → Hp → Prop) (w_a1 : IsPl a1) (k : ((60 ≤ a4 → Q none h) ∧ (¬ 60 ≤ a4 → (∃ Q'4, EvV X m_Wk_tick [vR [1, 6, 0], vR [0, 6, 0]] h Q'4 ∧ ∀ (h3 : Hp), Q'4 h3 → Rn X m_Tr_walkWith 69 [some (vR [6, 0]), some (vR a1), some (vI a2), some (vI a3), some (vI (a4 + 1))] [] h3 Q)))) : Rn X m_Tr_walkWith 69 [some (vR [6, 0]), some (vR a1), some (vI a2), some (vI a3), some (vI a4)] [] h Q := by
  refine Rn.iload (n := 71) (i := 4) d_Tr_walkWith_69 rfl rfl ?_
  refine Rn.bipush (n := 73) (v := 60) d_Tr_walkWith_71 rfl (by decide) ?_
  refine Rn.icmp_ge (n := 76) (t := 93) d_Tr_walkWith_73 rfl (by decide) (fun cc => ?_) (fun cc => ?_)
  · have k := k.1 cc
    exact Rn.vret d_Tr_walkWith_93 rfl k
  · have k := k.2 cc
    refine Rn.aload_n (n := 77) (i := 0) d_Tr_walkWith_76 rfl rfl rfl ?_
    refine Rn.getf (n := 80) (v := vR [1, 6, 0]) d_Tr_walkWith_77 rfl fl_Tr_21 Lv_6_0 rfl ?_
    refine Rn.aload_n (n := 81) (i := 0) d_Tr_walkWith_80 rfl rfl rfl ?_
    refine Rn.getf (n := 84) (v := vR [0, 6, 0]) d_Tr_walkWith_81 rfl fl_Tr_12 Lv_6_0 rfl ?_
    obtain ⟨Q'4, ev1, k⟩ := k
    refine Rn.callV (n := 87) (av := [vR [0, 6, 0]]) d_Tr_walkWith_84 rfl ml_Tr_walkWith_43 mi_Wk_tick Lv_1_6_0 rfl rfl rfl rfl (Nat.le_of_ble_eq_true rfl) ev1 (fun v h3 hq => ?_)
    obtain ⟨rfl, hq⟩ := hq
    have k := k h3 hq
    show Rn X m_Tr_walkWith 87 [some (vR [6, 0]), some (vR a1), some (vI a2), some (vI a3), some (vI a4)] [] h3 Q
    refine Rn.iinc (n := 90) (i := 4) (v := a4 + 1) (ls2 := [some (vR [6, 0]), some (vR a1), some (vI a2), some (vI a3), some (vI (a4 + 1))]) d_Tr_walkWith_87 rfl rfl rfl (Nat.le_of_ble_eq_true rfl) rfl ?_
    refine Rn.goto (n := 69) d_Tr_walkWith_90 (by decide) ?_
    exact k
theorem e_Tr_walkWith {X : XS} (a1 : List Nat) (a2 : Int32) (h : Hp) (Q : Option AV → Hp → Prop) (k : Rn X m_Tr_walkWith 0 [some (vR [6, 0]), some (vR a1), some (vI a2), none, none] [] h Q) : Ev X m_Tr_walkWith [vR [6, 0], vR a1, vI a2] h Q := Ev.intro (plainFor_of_name (by decide +kernel)) (Nat.le_of_ble_eq_true rfl) (ls := [some (vR [6, 0]), some (vR a1), some (vI a2), none, none]) rfl k
theorem d_Tr_paidBy_0 : decode m_Tr_paidBy.2.1 0 = .ok (.iload_n 1, 1) := by decide +kernel
theorem d_Tr_paidBy_1 : decode m_Tr_paidBy.2.1 1 = .ok (.ifCond .lt 9, 3) := by decide +kernel
theorem d_Tr_paidBy_4 : decode m_Tr_paidBy.2.1 4 = .ok (.iload_n 1, 1) := by decide +kernel
theorem d_Tr_paidBy_5 : decode m_Tr_paidBy.2.1 5 = .ok (.bipush 6, 2) := by decide +kernel
theorem d_Tr_paidBy_7 : decode m_Tr_paidBy.2.1 7 = .ok (.if_icmp .lt 5, 3) := by decide +kernel
theorem d_Tr_paidBy_10 : decode m_Tr_paidBy.2.1 10 = .ok (.iconst 0, 1) := by decide +kernel
theorem d_Tr_paidBy_11 : decode m_Tr_paidBy.2.1 11 = .ok (.ireturn, 1) := by decide +kernel
theorem d_Tr_paidBy_12 : decode m_Tr_paidBy.2.1 12 = .ok (.aload_n 0, 1) := by decide +kernel
theorem d_Tr_paidBy_13 : decode m_Tr_paidBy.2.1 13 = .ok (.getfield 21, 3) := by decide +kernel
theorem d_Tr_paidBy_16 : decode m_Tr_paidBy.2.1 16 = .ok (.getfield 46, 3) := by decide +kernel
theorem d_Tr_paidBy_19 : decode m_Tr_paidBy.2.1 19 = .ok (.iload_n 1, 1) := by decide +kernel
theorem d_Tr_paidBy_20 : decode m_Tr_paidBy.2.1 20 = .ok (.iaload, 1) := by decide +kernel
theorem d_Tr_paidBy_21 : decode m_Tr_paidBy.2.1 21 = .ok (.iload_n 2, 1) := by decide +kernel
theorem d_Tr_paidBy_22 : decode m_Tr_paidBy.2.1 22 = .ok (.aload_n 0, 1) := by decide +kernel
theorem d_Tr_paidBy_23 : decode m_Tr_paidBy.2.1 23 = .ok (.getfield 12, 3) := by decide +kernel
theorem d_Tr_paidBy_26 : decode m_Tr_paidBy.2.1 26 = .ok (.getfield 37, 3) := by decide +kernel
theorem d_Tr_paidBy_29 : decode m_Tr_paidBy.2.1 29 = .ok (.iload_n 1, 1) := by decide +kernel
theorem d_Tr_paidBy_30 : decode m_Tr_paidBy.2.1 30 = .ok (.iaload, 1) := by decide +kernel
theorem d_Tr_paidBy_31 : decode m_Tr_paidBy.2.1 31 = .ok (.imul, 1) := by decide +kernel
theorem d_Tr_paidBy_32 : decode m_Tr_paidBy.2.1 32 = .ok (.iadd, 1) := by decide +kernel
theorem d_Tr_paidBy_33 : decode m_Tr_paidBy.2.1 33 = .ok (.iload_n 3, 1) := by decide +kernel
theorem d_Tr_paidBy_34 : decode m_Tr_paidBy.2.1 34 = .ok (.aload_n 0, 1) := by decide +kernel
theorem d_Tr_paidBy_35 : decode m_Tr_paidBy.2.1 35 = .ok (.getfield 21, 3) := by decide +kernel
theorem d_Tr_paidBy_38 : decode m_Tr_paidBy.2.1 38 = .ok (.getfield 49, 3) := by decide +kernel
theorem d_Tr_paidBy_41 : decode m_Tr_paidBy.2.1 41 = .ok (.iload_n 1, 1) := by decide +kernel
theorem d_Tr_paidBy_42 : decode m_Tr_paidBy.2.1 42 = .ok (.iaload, 1) := by decide +kernel
theorem d_Tr_paidBy_43 : decode m_Tr_paidBy.2.1 43 = .ok (.imul, 1) := by decide +kernel
theorem d_Tr_paidBy_44 : decode m_Tr_paidBy.2.1 44 = .ok (.iadd, 1) := by decide +kernel
theorem d_Tr_paidBy_45 : decode m_Tr_paidBy.2.1 45 = .ok (.ireturn, 1) := by decide +kernel
theorem g_Tr_paidBy_0 {X : XS} (a1 : Int32) (a2 : Int32) (a3 : Int32) (h : Hp) (Q : Option AV → Hp → Prop)  (k : ((a1 < 0 → Q (some (vI 0)) h) ∧ (¬ a1 < 0 → ((a1 < 6 → (vp_in a1 6 ∧ (vp_in a1 6 ∧ (vp_in a1 6 ∧ Q (some (vI (((h.1 [5, 1, 6, 0] a1.toNatClampNeg) + (a2 * (h.1 [8, 0, 6, 0] a1.toNatClampNeg))) + (a3 * (h.1 [6, 1, 6, 0] a1.toNatClampNeg))))) h)))) ∧ (¬ a1 < 6 → Q (some (vI 0)) h))))) : Rn X m_Tr_paidBy 0 [some (vR [6, 0]), some (vI a1), some (vI a2), some (vI a3)] [] h Q := by
  refine Rn.iload_n (n := 1) (i := 1) d_Tr_paidBy_0 rfl rfl rfl ?_
  refine Rn.if_lt (n := 4) (t := 10) d_Tr_paidBy_1 rfl (by decide) (fun cc => ?_) (fun cc => ?_)
  · have k := k.1 cc
    refine Rn.iconst (n := 11) (v := 0) d_Tr_paidBy_10 rfl (by decide) ?_
    exact Rn.iret d_Tr_paidBy_11 rfl rfl k
  · have k := k.2 cc
    refine Rn.iload_n (n := 5) (i := 1) d_Tr_paidBy_4 rfl rfl rfl ?_
    refine Rn.bipush (n := 7) (v := 6) d_Tr_paidBy_5 rfl (by decide) ?_
    refine Rn.icmp_lt (n := 10) (t := 12) d_Tr_paidBy_7 rfl (by decide) (fun cc => ?_) (fun cc => ?_)
    · have k := k.1 cc
      refine Rn.aload_n (n := 13) (i := 0) d_Tr_paidBy_12 rfl rfl rfl ?_
      refine Rn.getf (n := 16) (v := vR [1, 6, 0]) d_Tr_paidBy_13 rfl fl_Tr_21 Lv_6_0 rfl ?_
      refine Rn.getf (n := 19) (v := vR [5, 1, 6, 0]) d_Tr_paidBy_16 rfl fl_Tr_46 Lv_1_6_0 rfl ?_
      refine Rn.iload_n (n := 20) (i := 1) d_Tr_paidBy_19 rfl rfl rfl ?_
      obtain ⟨b1, k⟩ := k
      refine Rn.iald (n := 21) (v := h.1 [5, 1, 6, 0] a1.toNatClampNeg) d_Tr_paidBy_20 rfl Lv_5_1_6_0 b1 rfl ?_
      refine Rn.iload_n (n := 22) (i := 2) d_Tr_paidBy_21 rfl rfl rfl ?_
      refine Rn.aload_n (n := 23) (i := 0) d_Tr_paidBy_22 rfl rfl rfl ?_
      refine Rn.getf (n := 26) (v := vR [0, 6, 0]) d_Tr_paidBy_23 rfl fl_Tr_12 Lv_6_0 rfl ?_
      refine Rn.getf (n := 29) (v := vR [8, 0, 6, 0]) d_Tr_paidBy_26 rfl fl_Tr_37 Lv_0_6_0 rfl ?_
      refine Rn.iload_n (n := 30) (i := 1) d_Tr_paidBy_29 rfl rfl rfl ?_
      obtain ⟨b2, k⟩ := k
      refine Rn.iald (n := 31) (v := h.1 [8, 0, 6, 0] a1.toNatClampNeg) d_Tr_paidBy_30 rfl Lv_8_0_6_0 b2 rfl ?_
      refine Rn.imul (n := 32) d_Tr_paidBy_31 rfl ?_
      refine Rn.iadd (n := 33) d_Tr_paidBy_32 rfl ?_
      refine Rn.iload_n (n := 34) (i := 3) d_Tr_paidBy_33 rfl rfl rfl ?_
      refine Rn.aload_n (n := 35) (i := 0) d_Tr_paidBy_34 rfl rfl rfl ?_
      refine Rn.getf (n := 38) (v := vR [1, 6, 0]) d_Tr_paidBy_35 rfl fl_Tr_21 Lv_6_0 rfl ?_
      refine Rn.getf (n := 41) (v := vR [6, 1, 6, 0]) d_Tr_paidBy_38 rfl fl_Tr_49 Lv_1_6_0 rfl ?_
      refine Rn.iload_n (n := 42) (i := 1) d_Tr_paidBy_41 rfl rfl rfl ?_
      obtain ⟨b3, k⟩ := k
      refine Rn.iald (n := 43) (v := h.1 [6, 1, 6, 0] a1.toNatClampNeg) d_Tr_paidBy_42 rfl Lv_6_1_6_0 b3 rfl ?_
      refine Rn.imul (n := 44) d_Tr_paidBy_43 rfl ?_
      refine Rn.iadd (n := 45) d_Tr_paidBy_44 rfl ?_
      exact Rn.iret d_Tr_paidBy_45 rfl rfl k
    · have k := k.2 cc
      refine Rn.iconst (n := 11) (v := 0) d_Tr_paidBy_10 rfl (by decide) ?_
      exact Rn.iret d_Tr_paidBy_11 rfl rfl k
theorem e_Tr_paidBy {X : XS} (a1 : Int32) (a2 : Int32) (a3 : Int32) (h : Hp) (Q : Option AV → Hp → Prop) (k : Rn X m_Tr_paidBy 0 [some (vR [6, 0]), some (vI a1), some (vI a2), some (vI a3)] [] h Q) : Ev X m_Tr_paidBy [vR [6, 0], vI a1, vI a2, vI a3] h Q := Ev.intro (plainFor_of_name (by decide +kernel)) (Nat.le_of_ble_eq_true rfl) (ls := [some (vR [6, 0]), some (vI a1), some (vI a2), some (vI a3)]) rfl k
theorem d_Tr_seekRests_0 : decode m_Tr_seekRests.2.1 0 = .ok (.iconst 4, 1) := by decide +kernel
theorem d_Tr_seekRests_1 : decode m_Tr_seekRests.2.1 1 = .ok (.aload_n 1, 1) := by decide +kernel
theorem d_Tr_seekRests_2 : decode m_Tr_seekRests.2.1 2 = .ok (.invokevirtual 52, 3) := by decide +kernel
theorem d_Tr_seekRests_5 : decode m_Tr_seekRests.2.1 5 = .ok (.invokestatic 56, 3) := by decide +kernel
theorem d_Tr_seekRests_8 : decode m_Tr_seekRests.2.1 8 = .ok (.istore 4, 2) := by decide +kernel
theorem d_Tr_seekRests_10 : decode m_Tr_seekRests.2.1 10 = .ok (.iconst 1, 1) := by decide +kernel
theorem d_Tr_seekRests_11 : decode m_Tr_seekRests.2.1 11 = .ok (.istore 5, 2) := by decide +kernel
theorem d_Tr_seekRests_13 : decode m_Tr_seekRests.2.1 13 = .ok (.iconst 0, 1) := by decide +kernel
theorem d_Tr_seekRests_14 : decode m_Tr_seekRests.2.1 14 = .ok (.istore 6, 2) := by decide +kernel
theorem d_Tr_seekRests_16 : decode m_Tr_seekRests.2.1 16 = .ok (.iload 6, 2) := by decide +kernel
theorem d_Tr_seekRests_18 : decode m_Tr_seekRests.2.1 18 = .ok (.iload 4, 2) := by decide +kernel
theorem d_Tr_seekRests_20 : decode m_Tr_seekRests.2.1 20 = .ok (.if_icmp .ge 15, 3) := by decide +kernel
theorem d_Tr_seekRests_23 : decode m_Tr_seekRests.2.1 23 = .ok (.iload 5, 2) := by decide +kernel
theorem d_Tr_seekRests_25 : decode m_Tr_seekRests.2.1 25 = .ok (.iconst 3, 1) := by decide +kernel
theorem d_Tr_seekRests_26 : decode m_Tr_seekRests.2.1 26 = .ok (.imul, 1) := by decide +kernel
theorem d_Tr_seekRests_27 : decode m_Tr_seekRests.2.1 27 = .ok (.istore 5, 2) := by decide +kernel
theorem d_Tr_seekRests_29 : decode m_Tr_seekRests.2.1 29 = .ok (.iinc 6 1, 3) := by decide +kernel
theorem d_Tr_seekRests_32 : decode m_Tr_seekRests.2.1 32 = .ok (.goto (-16), 3) := by decide +kernel
theorem d_Tr_seekRests_35 : decode m_Tr_seekRests.2.1 35 = .ok (.iconst 0, 1) := by decide +kernel
theorem d_Tr_seekRests_36 : decode m_Tr_seekRests.2.1 36 = .ok (.istore 6, 2) := by decide +kernel
theorem d_Tr_seekRests_38 : decode m_Tr_seekRests.2.1 38 = .ok (.iload 6, 2) := by decide +kernel
theorem d_Tr_seekRests_40 : decode m_Tr_seekRests.2.1 40 = .ok (.iload 5, 2) := by decide +kernel
theorem d_Tr_seekRests_42 : decode m_Tr_seekRests.2.1 42 = .ok (.if_icmp .ge 29, 3) := by decide +kernel
theorem d_Tr_seekRests_45 : decode m_Tr_seekRests.2.1 45 = .ok (.aload_n 0, 1) := by decide +kernel
theorem d_Tr_seekRests_46 : decode m_Tr_seekRests.2.1 46 = .ok (.aload_n 1, 1) := by decide +kernel
theorem d_Tr_seekRests_47 : decode m_Tr_seekRests.2.1 47 = .ok (.iload 6, 2) := by decide +kernel
theorem d_Tr_seekRests_49 : decode m_Tr_seekRests.2.1 49 = .ok (.iload 4, 2) := by decide +kernel
theorem d_Tr_seekRests_51 : decode m_Tr_seekRests.2.1 51 = .ok (.invokestatic 62, 3) := by decide +kernel
theorem d_Tr_seekRests_54 : decode m_Tr_seekRests.2.1 54 = .ok (.invokevirtual 65, 3) := by decide +kernel
theorem d_Tr_seekRests_57 : decode m_Tr_seekRests.2.1 57 = .ok (.aload_n 0, 1) := by decide +kernel
theorem d_Tr_seekRests_58 : decode m_Tr_seekRests.2.1 58 = .ok (.iload 6, 2) := by decide +kernel
theorem d_Tr_seekRests_60 : decode m_Tr_seekRests.2.1 60 = .ok (.iload_n 2, 1) := by decide +kernel
theorem d_Tr_seekRests_61 : decode m_Tr_seekRests.2.1 61 = .ok (.iload_n 3, 1) := by decide +kernel
theorem d_Tr_seekRests_62 : decode m_Tr_seekRests.2.1 62 = .ok (.invokevirtual 69, 3) := by decide +kernel
theorem d_Tr_seekRests_65 : decode m_Tr_seekRests.2.1 65 = .ok (.iinc 6 1, 3) := by decide +kernel
theorem d_Tr_seekRests_68 : decode m_Tr_seekRests.2.1 68 = .ok (.goto (-30), 3) := by decide +kernel
theorem d_Tr_seekRests_71 : decode m_Tr_seekRests.2.1 71 = .ok (.aload_n 0, 1) := by decide +kernel
theorem d_Tr_seekRests_72 : decode m_Tr_seekRests.2.1 72 = .ok (.iconst 0, 1) := by decide +kernel
theorem d_Tr_seekRests_73 : decode m_Tr_seekRests.2.1 73 = .ok (.putfield 73, 3) := by decide +kernel
theorem d_Tr_seekRests_76 : decode m_Tr_seekRests.2.1 76 = .ok (.aload_n 0, 1) := by decide +kernel
theorem d_Tr_seekRests_77 : decode m_Tr_seekRests.2.1 77 = .ok (.iconst (-1), 1) := by decide +kernel
theorem d_Tr_seekRests_78 : decode m_Tr_seekRests.2.1 78 = .ok (.putfield 77, 3) := by decide +kernel
theorem d_Tr_seekRests_81 : decode m_Tr_seekRests.2.1 81 = .ok (.iload 5, 2) := by decide +kernel
theorem d_Tr_seekRests_83 : decode m_Tr_seekRests.2.1 83 = .ok (.iconst 1, 1) := by decide +kernel
theorem d_Tr_seekRests_84 : decode m_Tr_seekRests.2.1 84 = .ok (.isub, 1) := by decide +kernel
theorem d_Tr_seekRests_85 : decode m_Tr_seekRests.2.1 85 = .ok (.istore 6, 2) := by decide +kernel
theorem d_Tr_seekRests_87 : decode m_Tr_seekRests.2.1 87 = .ok (.iload 6, 2) := by decide +kernel
theorem d_Tr_seekRests_89 : decode m_Tr_seekRests.2.1 89 = .ok (.ifCond .lt 41, 3) := by decide +kernel
theorem d_Tr_seekRests_92 : decode m_Tr_seekRests.2.1 92 = .ok (.aload_n 0, 1) := by decide +kernel
theorem d_Tr_seekRests_93 : decode m_Tr_seekRests.2.1 93 = .ok (.iload 6, 2) := by decide +kernel
theorem d_Tr_seekRests_95 : decode m_Tr_seekRests.2.1 95 = .ok (.iload 4, 2) := by decide +kernel
theorem d_Tr_seekRests_97 : decode m_Tr_seekRests.2.1 97 = .ok (.invokevirtual 80, 3) := by decide +kernel
theorem d_Tr_seekRests_100 : decode m_Tr_seekRests.2.1 100 = .ok (.ifCond .eq 24, 3) := by decide +kernel
theorem d_Tr_seekRests_103 : decode m_Tr_seekRests.2.1 103 = .ok (.aload_n 0, 1) := by decide +kernel
theorem d_Tr_seekRests_104 : decode m_Tr_seekRests.2.1 104 = .ok (.dup, 1) := by decide +kernel
theorem d_Tr_seekRests_105 : decode m_Tr_seekRests.2.1 105 = .ok (.getfield 73, 3) := by decide +kernel
theorem d_Tr_seekRests_108 : decode m_Tr_seekRests.2.1 108 = .ok (.iconst 1, 1) := by decide +kernel
theorem d_Tr_seekRests_109 : decode m_Tr_seekRests.2.1 109 = .ok (.iadd, 1) := by decide +kernel
theorem d_Tr_seekRests_110 : decode m_Tr_seekRests.2.1 110 = .ok (.putfield 73, 3) := by decide +kernel
theorem d_Tr_seekRests_113 : decode m_Tr_seekRests.2.1 113 = .ok (.aload_n 0, 1) := by decide +kernel
theorem d_Tr_seekRests_114 : decode m_Tr_seekRests.2.1 114 = .ok (.iload 6, 2) := by decide +kernel
theorem d_Tr_seekRests_116 : decode m_Tr_seekRests.2.1 116 = .ok (.iload 4, 2) := by decide +kernel
theorem d_Tr_seekRests_118 : decode m_Tr_seekRests.2.1 118 = .ok (.invokestatic 62, 3) := by decide +kernel
theorem d_Tr_seekRests_121 : decode m_Tr_seekRests.2.1 121 = .ok (.putfield 77, 3) := by decide +kernel
theorem d_Tr_seekRests_124 : decode m_Tr_seekRests.2.1 124 = .ok (.iinc 6 (-1), 3) := by decide +kernel
theorem d_Tr_seekRests_127 : decode m_Tr_seekRests.2.1 127 = .ok (.goto (-40), 3) := by decide +kernel
theorem d_Tr_seekRests_130 : decode m_Tr_seekRests.2.1 130 = .ok (.return_, 1) := by decide +kernel
theorem g_Tr_seekRests_0 {X : XS} (a1 : List Nat) (a2 : Int32) (a3 : Int32) (h : Hp) (Q : Option AV → Hp → Prop) (w_a1 : IsPl a1) (k : (∃ Q'4, EvI X m_Pl_walkers [vR a1] h Q'4 ∧ ∀ (r5 : Int32) (h3 : Hp), Q'4 r5 h3 → Rn X m_Tr_seekRests 16 [some (vR [6, 0]), some (vR a1), some (vI a2), some (vI a3), some (vI (iMin 4 r5)), some (vI 1), some (vI 0)] [] h3 Q)) : Rn X m_Tr_seekRests 0 [some (vR [6, 0]), some (vR a1), some (vI a2), some (vI a3), none, none, none] [] h Q := by
  refine Rn.iconst (n := 1) (v := 4) d_Tr_seekRests_0 rfl (by decide) ?_
  refine Rn.aload_n (n := 2) (i := 1) d_Tr_seekRests_1 rfl rfl rfl ?_
  obtain ⟨Q'4, ev1, k⟩ := k
  refine Rn.callV (n := 5) (av := []) d_Tr_seekRests_2 rfl ml_Tr_seekRests_52 mi_Pl_walkers w_a1.s rfl rfl rfl rfl (Nat.le_of_ble_eq_true rfl) ev1 (fun v h3 hq => ?_)
  obtain ⟨r5, rfl, hq⟩ := hq
  have k := k r5 h3 hq
  show Rn X m_Tr_seekRests 5 [some (vR [6, 0]), some (vR a1), some (vI a2), some (vI a3), none, none, none] [vI r5, vI 4] h3 Q
  refine Rn.mmin (n := 8) d_Tr_seekRests_5 rfl ml_Tr_seekRests_56 (Nat.le_of_ble_eq_true rfl) ?_
  refine Rn.istore (n := 10) (i := 4) (ls2 := [some (vR [6, 0]), some (vR a1), some (vI a2), some (vI a3), some (vI (iMin 4 r5)), none, none]) d_Tr_seekRests_8 rfl (Nat.le_of_ble_eq_true rfl) rfl ?_
  refine Rn.iconst (n := 11) (v := 1) d_Tr_seekRests_10 rfl (by decide) ?_
  refine Rn.istore (n := 13) (i := 5) (ls2 := [some (vR [6, 0]), some (vR a1), some (vI a2), some (vI a3), some (vI (iMin 4 r5)), some (vI 1), none]) d_Tr_seekRests_11 rfl (Nat.le_of_ble_eq_true rfl) rfl ?_
  refine Rn.iconst (n := 14) (v := 0) d_Tr_seekRests_13 rfl (by decide) ?_
  refine Rn.istore (n := 16) (i := 6) (ls2 := [some (vR [6, 0]), some (vR a1), some (vI a2), some (vI a3), some (vI (iMin 4 r5)), some (vI 1), some (vI 0)]) d_Tr_seekRests_14 rfl (Nat.le_of_ble_eq_true rfl) rfl ?_
  exact k
theorem g_Tr_seekRests_16 {X : XS} (a1 : List Nat) (a2 : Int32) (a3 : Int32) (a4 : Int32) (a5 : Int32) (a6 : Int32) (h : Hp) (Q : Option AV → Hp → Prop) (w_a1 : IsPl a1) (k : ((a4 ≤ a6 → Rn X m_Tr_seekRests 38 [some (vR [6, 0]), some (vR a1), some (vI a2), some (vI a3), some (vI a4), some (vI a5), some (vI 0)] [] h Q) ∧ (¬ a4 ≤ a6 → Rn X m_Tr_seekRests 16 [some (vR [6, 0]), some (vR a1), some (vI a2), some (vI a3), some (vI a4), some (vI (a5 * 3)), some (vI (a6 + 1))] [] h Q))) : Rn X m_Tr_seekRests 16 [some (vR [6, 0]), some (vR a1), some (vI a2), some (vI a3), some (vI a4), some (vI a5), some (vI a6)] [] h Q := by
  refine Rn.iload (n := 18) (i := 6) d_Tr_seekRests_16 rfl rfl ?_
  refine Rn.iload (n := 20) (i := 4) d_Tr_seekRests_18 rfl rfl ?_
  refine Rn.icmp_ge (n := 23) (t := 35) d_Tr_seekRests_20 rfl (by decide) (fun cc => ?_) (fun cc => ?_)
  · have k := k.1 cc
    refine Rn.iconst (n := 36) (v := 0) d_Tr_seekRests_35 rfl (by decide) ?_
    refine Rn.istore (n := 38) (i := 6) (ls2 := [some (vR [6, 0]), some (vR a1), some (vI a2), some (vI a3), some (vI a4), some (vI a5), some (vI 0)]) d_Tr_seekRests_36 rfl (Nat.le_of_ble_eq_true rfl) rfl ?_
    exact k
  · have k := k.2 cc
    refine Rn.iload (n := 25) (i := 5) d_Tr_seekRests_23 rfl rfl ?_
    refine Rn.iconst (n := 26) (v := 3) d_Tr_seekRests_25 rfl (by decide) ?_
    refine Rn.imul (n := 27) d_Tr_seekRests_26 rfl ?_
    refine Rn.istore (n := 29) (i := 5) (ls2 := [some (vR [6, 0]), some (vR a1), some (vI a2), some (vI a3), some (vI a4), some (vI (a5 * 3)), some (vI a6)]) d_Tr_seekRests_27 rfl (Nat.le_of_ble_eq_true rfl) rfl ?_
    refine Rn.iinc (n := 32) (i := 6) (v := a6 + 1) (ls2 := [some (vR [6, 0]), some (vR a1), some (vI a2), some (vI a3), some (vI a4), some (vI (a5 * 3)), some (vI (a6 + 1))]) d_Tr_seekRests_29 rfl rfl rfl (Nat.le_of_ble_eq_true rfl) rfl ?_
    refine Rn.goto (n := 16) d_Tr_seekRests_32 (by decide) ?_
    exact k
theorem g_Tr_seekRests_38 {X : XS} (a1 : List Nat) (a2 : Int32) (a3 : Int32) (a4 : Int32) (a5 : Int32) (a6 : Int32) (h : Hp) (Q : Option AV → Hp → Prop) (w_a1 : IsPl a1) (k : ((a5 ≤ a6 → Rn X m_Tr_seekRests 87 [some (vR [6, 0]), some (vR a1), some (vI a2), some (vI a3), some (vI a4), some (vI a5), some (vI (a5 - 1))] [] (hsI (hsI h [6, 0] 3 0) [6, 0] 4 (-1)) Q) ∧ (¬ a5 ≤ a6 → (∃ Q'4, EvI X m_Tr_sizesOf [vI a6, vI a4] h Q'4 ∧ ∀ (r5 : Int32) (h3 : Hp), Q'4 r5 h3 → (∃ Q'9, EvV X m_Tr_walkWith [vR [6, 0], vR a1, vI r5] h3 Q'9 ∧ ∀ (h8 : Hp), Q'9 h8 → (∃ Q'13, EvV X m_Tr_notePaid [vR [6, 0], vI a6, vI a2, vI a3] h8 Q'13 ∧ ∀ (h12 : Hp), Q'13 h12 → Rn X m_Tr_seekRests 38 [some (vR [6, 0]), some (vR a1), some (vI a2), some (vI a3), some (vI a4), some (vI a5), some (vI (a6 + 1))] [] h12 Q)))))) : Rn X m_Tr_seekRests 38 [some (vR [6, 0]), some (vR a1), some (vI a2), some (vI a3), some (vI a4), some (vI a5), some (vI a6)] [] h Q := by
  refine Rn.iload (n := 40) (i := 6) d_Tr_seekRests_38 rfl rfl ?_
  refine Rn.iload (n := 42) (i := 5) d_Tr_seekRests_40 rfl rfl ?_
  refine Rn.icmp_ge (n := 45) (t := 71) d_Tr_seekRests_42 rfl (by decide) (fun cc => ?_) (fun cc => ?_)
  · have k := k.1 cc
    refine Rn.aload_n (n := 72) (i := 0) d_Tr_seekRests_71 rfl rfl rfl ?_
    refine Rn.iconst (n := 73) (v := 0) d_Tr_seekRests_72 rfl (by decide) ?_
    refine Rn.putI (n := 76) d_Tr_seekRests_73 rfl fl_Tr_73 pl_Tr_3 Lv_6_0 rfl ?_
    refine Rn.aload_n (n := 77) (i := 0) d_Tr_seekRests_76 rfl rfl rfl ?_
    refine Rn.iconst (n := 78) (v := (-1)) d_Tr_seekRests_77 rfl (by decide) ?_
    refine Rn.putI (n := 81) d_Tr_seekRests_78 rfl fl_Tr_77 pl_Tr_4 Lv_6_0 rfl ?_
    refine Rn.iload (n := 83) (i := 5) d_Tr_seekRests_81 rfl rfl ?_
    refine Rn.iconst (n := 84) (v := 1) d_Tr_seekRests_83 rfl (by decide) ?_
    refine Rn.isub (n := 85) d_Tr_seekRests_84 rfl ?_
    refine Rn.istore (n := 87) (i := 6) (ls2 := [some (vR [6, 0]), some (vR a1), some (vI a2), some (vI a3), some (vI a4), some (vI a5), some (vI (a5 - 1))]) d_Tr_seekRests_85 rfl (Nat.le_of_ble_eq_true rfl) rfl ?_
    exact k
  · have k := k.2 cc
    refine Rn.aload_n (n := 46) (i := 0) d_Tr_seekRests_45 rfl rfl rfl ?_
    refine Rn.aload_n (n := 47) (i := 1) d_Tr_seekRests_46 rfl rfl rfl ?_
    refine Rn.iload (n := 49) (i := 6) d_Tr_seekRests_47 rfl rfl ?_
    refine Rn.iload (n := 51) (i := 4) d_Tr_seekRests_49 rfl rfl ?_
    obtain ⟨Q'4, ev1, k⟩ := k
    refine Rn.callS (n := 54) (av := [vI a6, vI a4]) d_Tr_seekRests_51 rfl ml_Tr_seekRests_62 ms_Tr_sizesOf rfl rfl (Nat.le_of_ble_eq_true rfl) ev1 (fun v h3 hq => ?_)
    obtain ⟨r5, rfl, hq⟩ := hq
    have k := k r5 h3 hq
    show Rn X m_Tr_seekRests 54 [some (vR [6, 0]), some (vR a1), some (vI a2), some (vI a3), some (vI a4), some (vI a5), some (vI a6)] [vI r5, vR a1, vR [6, 0]] h3 Q
    obtain ⟨Q'9, ev6, k⟩ := k
    refine Rn.callV (n := 57) (av := [vR a1, vI r5]) d_Tr_seekRests_54 rfl ml_Tr_seekRests_65 mi_Tr_walkWith Lv_6_0 rfl rfl rfl rfl (Nat.le_of_ble_eq_true rfl) ev6 (fun v h8 hq => ?_)
    obtain ⟨rfl, hq⟩ := hq
    have k := k h8 hq
    show Rn X m_Tr_seekRests 57 [some (vR [6, 0]), some (vR a1), some (vI a2), some (vI a3), some (vI a4), some (vI a5), some (vI a6)] [] h8 Q
    refine Rn.aload_n (n := 58) (i := 0) d_Tr_seekRests_57 rfl rfl rfl ?_
    refine Rn.iload (n := 60) (i := 6) d_Tr_seekRests_58 rfl rfl ?_
    refine Rn.iload_n (n := 61) (i := 2) d_Tr_seekRests_60 rfl rfl rfl ?_
    refine Rn.iload_n (n := 62) (i := 3) d_Tr_seekRests_61 rfl rfl rfl ?_
    obtain ⟨Q'13, ev10, k⟩ := k
    refine Rn.callV (n := 65) (av := [vI a6, vI a2, vI a3]) d_Tr_seekRests_62 rfl ml_Tr_seekRests_69 mi_Tr_notePaid Lv_6_0 rfl rfl rfl rfl (Nat.le_of_ble_eq_true rfl) ev10 (fun v h12 hq => ?_)
    obtain ⟨rfl, hq⟩ := hq
    have k := k h12 hq
    show Rn X m_Tr_seekRests 65 [some (vR [6, 0]), some (vR a1), some (vI a2), some (vI a3), some (vI a4), some (vI a5), some (vI a6)] [] h12 Q
    refine Rn.iinc (n := 68) (i := 6) (v := a6 + 1) (ls2 := [some (vR [6, 0]), some (vR a1), some (vI a2), some (vI a3), some (vI a4), some (vI a5), some (vI (a6 + 1))]) d_Tr_seekRests_65 rfl rfl rfl (Nat.le_of_ble_eq_true rfl) rfl ?_
    refine Rn.goto (n := 38) d_Tr_seekRests_68 (by decide) ?_
    exact k
theorem g_Tr_seekRests_87 {X : XS} (a1 : List Nat) (a2 : Int32) (a3 : Int32) (a4 : Int32) (a5 : Int32) (a6 : Int32) (h : Hp) (Q : Option AV → Hp → Prop) (w_a1 : IsPl a1) (k : ((a6 < 0 → Q none h) ∧ (¬ a6 < 0 → (∃ Q'4, EvI X m_Tr_isRest [vR [6, 0], vI a6, vI a4] h Q'4 ∧ ∀ (r5 : Int32) (h3 : Hp), Q'4 r5 h3 → ((r5 = 0 → Rn X m_Tr_seekRests 87 [some (vR [6, 0]), some (vR a1), some (vI a2), some (vI a3), some (vI a4), some (vI a5), some (vI (a6 + (-1)))] [] h3 Q) ∧ (¬ r5 = 0 → (∃ Q'9, EvI X m_Tr_sizesOf [vI a6, vI a4] (hsI h3 [6, 0] 3 ((h3.1 [6, 0] 3) + 1)) Q'9 ∧ ∀ (r10 : Int32) (h8 : Hp), Q'9 r10 h8 → Rn X m_Tr_seekRests 87 [some (vR [6, 0]), some (vR a1), some (vI a2), some (vI a3), some (vI a4), some (vI a5), some (vI (a6 + (-1)))] [] (hsI h8 [6, 0] 4 r10) Q))))))) : Rn X m_Tr_seekRests 87 [some (vR [6, 0]), some (vR a1), some (vI a2), some (vI a3), some (vI a4), some (vI a5), some (vI a6)] [] h Q := by
  refine Rn.iload (n := 89) (i := 6) d_Tr_seekRests_87 rfl rfl ?_
  refine Rn.if_lt (n := 92) (t := 130) d_Tr_seekRests_89 rfl (by decide) (fun cc => ?_) (fun cc => ?_)
  · have k := k.1 cc
    exact Rn.vret d_Tr_seekRests_130 rfl k
  · have k := k.2 cc
    refine Rn.aload_n (n := 93) (i := 0) d_Tr_seekRests_92 rfl rfl rfl ?_
    refine Rn.iload (n := 95) (i := 6) d_Tr_seekRests_93 rfl rfl ?_
    refine Rn.iload (n := 97) (i := 4) d_Tr_seekRests_95 rfl rfl ?_
    obtain ⟨Q'4, ev1, k⟩ := k
    refine Rn.callV (n := 100) (av := [vI a6, vI a4]) d_Tr_seekRests_97 rfl ml_Tr_seekRests_80 mi_Tr_isRest Lv_6_0 rfl rfl rfl rfl (Nat.le_of_ble_eq_true rfl) ev1 (fun v h3 hq => ?_)
    obtain ⟨r5, rfl, hq⟩ := hq
    have k := k r5 h3 hq
    show Rn X m_Tr_seekRests 100 [some (vR [6, 0]), some (vR a1), some (vI a2), some (vI a3), some (vI a4), some (vI a5), some (vI a6)] [vI r5] h3 Q
    refine Rn.if_eq (n := 103) (t := 124) d_Tr_seekRests_100 rfl (by decide) (fun cc => ?_) (fun cc => ?_)
    · have k := k.1 cc
      refine Rn.iinc (n := 127) (i := 6) (v := a6 + (-1)) (ls2 := [some (vR [6, 0]), some (vR a1), some (vI a2), some (vI a3), some (vI a4), some (vI a5), some (vI (a6 + (-1)))]) d_Tr_seekRests_124 rfl rfl rfl (Nat.le_of_ble_eq_true rfl) rfl ?_
      refine Rn.goto (n := 87) d_Tr_seekRests_127 (by decide) ?_
      exact k
    · have k := k.2 cc
      refine Rn.aload_n (n := 104) (i := 0) d_Tr_seekRests_103 rfl rfl rfl ?_
      refine Rn.dup (n := 105) d_Tr_seekRests_104 rfl rfl ?_
      refine Rn.getf (n := 108) (v := vI (h3.1 [6, 0] 3)) d_Tr_seekRests_105 rfl fl_Tr_73 Lv_6_0 rfl ?_
      refine Rn.iconst (n := 109) (v := 1) d_Tr_seekRests_108 rfl (by decide) ?_
      refine Rn.iadd (n := 110) d_Tr_seekRests_109 rfl ?_
      refine Rn.putI (n := 113) d_Tr_seekRests_110 rfl fl_Tr_73 pl_Tr_3 Lv_6_0 rfl ?_
      refine Rn.aload_n (n := 114) (i := 0) d_Tr_seekRests_113 rfl rfl rfl ?_
      refine Rn.iload (n := 116) (i := 6) d_Tr_seekRests_114 rfl rfl ?_
      refine Rn.iload (n := 118) (i := 4) d_Tr_seekRests_116 rfl rfl ?_
      obtain ⟨Q'9, ev6, k⟩ := k
      refine Rn.callS (n := 121) (av := [vI a6, vI a4]) d_Tr_seekRests_118 rfl ml_Tr_seekRests_62 ms_Tr_sizesOf rfl rfl (Nat.le_of_ble_eq_true rfl) ev6 (fun v h8 hq => ?_)
      obtain ⟨r10, rfl, hq⟩ := hq
      have k := k r10 h8 hq
      show Rn X m_Tr_seekRests 121 [some (vR [6, 0]), some (vR a1), some (vI a2), some (vI a3), some (vI a4), some (vI a5), some (vI a6)] [vI r10, vR [6, 0]] h8 Q
      refine Rn.putI (n := 124) d_Tr_seekRests_121 rfl fl_Tr_77 pl_Tr_4 Lv_6_0 rfl ?_
      refine Rn.iinc (n := 127) (i := 6) (v := a6 + (-1)) (ls2 := [some (vR [6, 0]), some (vR a1), some (vI a2), some (vI a3), some (vI a4), some (vI a5), some (vI (a6 + (-1)))]) d_Tr_seekRests_124 rfl rfl rfl (Nat.le_of_ble_eq_true rfl) rfl ?_
      refine Rn.goto (n := 87) d_Tr_seekRests_127 (by decide) ?_
      exact k
theorem e_Tr_seekRests {X : XS} (a1 : List Nat) (a2 : Int32) (a3 : Int32) (h : Hp) (Q : Option AV → Hp → Prop) (k : Rn X m_Tr_seekRests 0 [some (vR [6, 0]), some (vR a1), some (vI a2), some (vI a3), none, none, none] [] h Q) : Ev X m_Tr_seekRests [vR [6, 0], vR a1, vI a2, vI a3] h Q := Ev.intro (plainFor_of_name (by decide +kernel)) (Nat.le_of_ble_eq_true rfl) (ls := [some (vR [6, 0]), some (vR a1), some (vI a2), some (vI a3), none, none, none]) rfl k
theorem d_Tr_sizesOf_0 : decode m_Tr_sizesOf.2.1 0 = .ok (.iconst 0, 1) := by decide +kernel
theorem d_Tr_sizesOf_1 : decode m_Tr_sizesOf.2.1 1 = .ok (.istore_n 2, 1) := by decide +kernel
theorem d_Tr_sizesOf_2 : decode m_Tr_sizesOf.2.1 2 = .ok (.iload_n 0, 1) := by decide +kernel
theorem d_Tr_sizesOf_3 : decode m_Tr_sizesOf.2.1 3 = .ok (.istore_n 3, 1) := by decide +kernel
theorem d_Tr_sizesOf_4 : decode m_Tr_sizesOf.2.1 4 = .ok (.iload_n 1, 1) := by decide +kernel
theorem d_Tr_sizesOf_5 : decode m_Tr_sizesOf.2.1 5 = .ok (.iconst 1, 1) := by decide +kernel
theorem d_Tr_sizesOf_6 : decode m_Tr_sizesOf.2.1 6 = .ok (.isub, 1) := by decide +kernel
theorem d_Tr_sizesOf_7 : decode m_Tr_sizesOf.2.1 7 = .ok (.istore 4, 2) := by decide +kernel
theorem d_Tr_sizesOf_9 : decode m_Tr_sizesOf.2.1 9 = .ok (.iload 4, 2) := by decide +kernel
theorem d_Tr_sizesOf_11 : decode m_Tr_sizesOf.2.1 11 = .ok (.ifCond .lt 24, 3) := by decide +kernel
theorem d_Tr_sizesOf_14 : decode m_Tr_sizesOf.2.1 14 = .ok (.iload_n 2, 1) := by decide +kernel
theorem d_Tr_sizesOf_15 : decode m_Tr_sizesOf.2.1 15 = .ok (.iload_n 3, 1) := by decide +kernel
theorem d_Tr_sizesOf_16 : decode m_Tr_sizesOf.2.1 16 = .ok (.iconst 3, 1) := by decide +kernel
theorem d_Tr_sizesOf_17 : decode m_Tr_sizesOf.2.1 17 = .ok (.irem, 1) := by decide +kernel
theorem d_Tr_sizesOf_18 : decode m_Tr_sizesOf.2.1 18 = .ok (.iconst 2, 1) := by decide +kernel
theorem d_Tr_sizesOf_19 : decode m_Tr_sizesOf.2.1 19 = .ok (.iload 4, 2) := by decide +kernel
theorem d_Tr_sizesOf_21 : decode m_Tr_sizesOf.2.1 21 = .ok (.imul, 1) := by decide +kernel
theorem d_Tr_sizesOf_22 : decode m_Tr_sizesOf.2.1 22 = .ok (.ishl, 1) := by decide +kernel
theorem d_Tr_sizesOf_23 : decode m_Tr_sizesOf.2.1 23 = .ok (.ior, 1) := by decide +kernel
theorem d_Tr_sizesOf_24 : decode m_Tr_sizesOf.2.1 24 = .ok (.istore_n 2, 1) := by decide +kernel
theorem d_Tr_sizesOf_25 : decode m_Tr_sizesOf.2.1 25 = .ok (.iload_n 3, 1) := by decide +kernel
theorem d_Tr_sizesOf_26 : decode m_Tr_sizesOf.2.1 26 = .ok (.iconst 3, 1) := by decide +kernel
theorem d_Tr_sizesOf_27 : decode m_Tr_sizesOf.2.1 27 = .ok (.idiv, 1) := by decide +kernel
theorem d_Tr_sizesOf_28 : decode m_Tr_sizesOf.2.1 28 = .ok (.istore_n 3, 1) := by decide +kernel
theorem d_Tr_sizesOf_29 : decode m_Tr_sizesOf.2.1 29 = .ok (.iinc 4 (-1), 3) := by decide +kernel
theorem d_Tr_sizesOf_32 : decode m_Tr_sizesOf.2.1 32 = .ok (.goto (-23), 3) := by decide +kernel
theorem d_Tr_sizesOf_35 : decode m_Tr_sizesOf.2.1 35 = .ok (.iload_n 2, 1) := by decide +kernel
theorem d_Tr_sizesOf_36 : decode m_Tr_sizesOf.2.1 36 = .ok (.ireturn, 1) := by decide +kernel
theorem g_Tr_sizesOf_0 {X : XS} (a0 : Int32) (a1 : Int32) (h : Hp) (Q : Option AV → Hp → Prop)  (k : Rn X m_Tr_sizesOf 9 [some (vI a0), some (vI a1), some (vI 0), some (vI a0), some (vI (a1 - 1))] [] h Q) : Rn X m_Tr_sizesOf 0 [some (vI a0), some (vI a1), none, none, none] [] h Q := by
  refine Rn.iconst (n := 1) (v := 0) d_Tr_sizesOf_0 rfl (by decide) ?_
  refine Rn.istore_n (n := 2) (i := 2) (ls2 := [some (vI a0), some (vI a1), some (vI 0), none, none]) d_Tr_sizesOf_1 rfl rfl (Nat.le_of_ble_eq_true rfl) rfl ?_
  refine Rn.iload_n (n := 3) (i := 0) d_Tr_sizesOf_2 rfl rfl rfl ?_
  refine Rn.istore_n (n := 4) (i := 3) (ls2 := [some (vI a0), some (vI a1), some (vI 0), some (vI a0), none]) d_Tr_sizesOf_3 rfl rfl (Nat.le_of_ble_eq_true rfl) rfl ?_
  refine Rn.iload_n (n := 5) (i := 1) d_Tr_sizesOf_4 rfl rfl rfl ?_
  refine Rn.iconst (n := 6) (v := 1) d_Tr_sizesOf_5 rfl (by decide) ?_
  refine Rn.isub (n := 7) d_Tr_sizesOf_6 rfl ?_
  refine Rn.istore (n := 9) (i := 4) (ls2 := [some (vI a0), some (vI a1), some (vI 0), some (vI a0), some (vI (a1 - 1))]) d_Tr_sizesOf_7 rfl (Nat.le_of_ble_eq_true rfl) rfl ?_
  exact k
theorem g_Tr_sizesOf_9 {X : XS} (a0 : Int32) (a1 : Int32) (a2 : Int32) (a3 : Int32) (a4 : Int32) (h : Hp) (Q : Option AV → Hp → Prop)  (k : ((a4 < 0 → Q (some (vI a2)) h) ∧ (¬ a4 < 0 → Rn X m_Tr_sizesOf 9 [some (vI a0), some (vI a1), some (vI (a2 ||| (iShl (iR a3 3) (2 * a4)))), some (vI (a3 / 3)), some (vI (a4 + (-1)))] [] h Q))) : Rn X m_Tr_sizesOf 9 [some (vI a0), some (vI a1), some (vI a2), some (vI a3), some (vI a4)] [] h Q := by
  refine Rn.iload (n := 11) (i := 4) d_Tr_sizesOf_9 rfl rfl ?_
  refine Rn.if_lt (n := 14) (t := 35) d_Tr_sizesOf_11 rfl (by decide) (fun cc => ?_) (fun cc => ?_)
  · have k := k.1 cc
    refine Rn.iload_n (n := 36) (i := 2) d_Tr_sizesOf_35 rfl rfl rfl ?_
    exact Rn.iret d_Tr_sizesOf_36 rfl rfl k
  · have k := k.2 cc
    refine Rn.iload_n (n := 15) (i := 2) d_Tr_sizesOf_14 rfl rfl rfl ?_
    refine Rn.iload_n (n := 16) (i := 3) d_Tr_sizesOf_15 rfl rfl rfl ?_
    refine Rn.iconst (n := 17) (v := 3) d_Tr_sizesOf_16 rfl (by decide) ?_
    refine Rn.irem (n := 18) d_Tr_sizesOf_17 rfl (by decide) ?_
    refine Rn.iconst (n := 19) (v := 2) d_Tr_sizesOf_18 rfl (by decide) ?_
    refine Rn.iload (n := 21) (i := 4) d_Tr_sizesOf_19 rfl rfl ?_
    refine Rn.imul (n := 22) d_Tr_sizesOf_21 rfl ?_
    refine Rn.ishl (n := 23) d_Tr_sizesOf_22 rfl ?_
    refine Rn.ior (n := 24) d_Tr_sizesOf_23 rfl ?_
    refine Rn.istore_n (n := 25) (i := 2) (ls2 := [some (vI a0), some (vI a1), some (vI (a2 ||| (iShl (iR a3 3) (2 * a4)))), some (vI a3), some (vI a4)]) d_Tr_sizesOf_24 rfl rfl (Nat.le_of_ble_eq_true rfl) rfl ?_
    refine Rn.iload_n (n := 26) (i := 3) d_Tr_sizesOf_25 rfl rfl rfl ?_
    refine Rn.iconst (n := 27) (v := 3) d_Tr_sizesOf_26 rfl (by decide) ?_
    refine Rn.idiv (n := 28) d_Tr_sizesOf_27 rfl (by decide) ?_
    refine Rn.istore_n (n := 29) (i := 3) (ls2 := [some (vI a0), some (vI a1), some (vI (a2 ||| (iShl (iR a3 3) (2 * a4)))), some (vI (a3 / 3)), some (vI a4)]) d_Tr_sizesOf_28 rfl rfl (Nat.le_of_ble_eq_true rfl) rfl ?_
    refine Rn.iinc (n := 32) (i := 4) (v := a4 + (-1)) (ls2 := [some (vI a0), some (vI a1), some (vI (a2 ||| (iShl (iR a3 3) (2 * a4)))), some (vI (a3 / 3)), some (vI (a4 + (-1)))]) d_Tr_sizesOf_29 rfl rfl rfl (Nat.le_of_ble_eq_true rfl) rfl ?_
    refine Rn.goto (n := 9) d_Tr_sizesOf_32 (by decide) ?_
    exact k
theorem e_Tr_sizesOf {X : XS} (a0 : Int32) (a1 : Int32) (h : Hp) (Q : Option AV → Hp → Prop) (k : Rn X m_Tr_sizesOf 0 [some (vI a0), some (vI a1), none, none, none] [] h Q) : Ev X m_Tr_sizesOf [vI a0, vI a1] h Q := Ev.intro (plainFor_of_name (by decide +kernel)) (Nat.le_of_ble_eq_true rfl) (ls := [some (vI a0), some (vI a1), none, none, none]) rfl k
theorem d_Tr_notePaid_0 : decode m_Tr_notePaid.2.1 0 = .ok (.iload_n 1, 1) := by decide +kernel
theorem d_Tr_notePaid_1 : decode m_Tr_notePaid.2.1 1 = .ok (.iconst 4, 1) := by decide +kernel
theorem d_Tr_notePaid_2 : decode m_Tr_notePaid.2.1 2 = .ok (.imul, 1) := by decide +kernel
theorem d_Tr_notePaid_3 : decode m_Tr_notePaid.2.1 3 = .ok (.istore 4, 2) := by decide +kernel
theorem d_Tr_notePaid_5 : decode m_Tr_notePaid.2.1 5 = .ok (.iconst 0, 1) := by decide +kernel
theorem d_Tr_notePaid_6 : decode m_Tr_notePaid.2.1 6 = .ok (.istore 5, 2) := by decide +kernel
theorem d_Tr_notePaid_8 : decode m_Tr_notePaid.2.1 8 = .ok (.iload 5, 2) := by decide +kernel
theorem d_Tr_notePaid_10 : decode m_Tr_notePaid.2.1 10 = .ok (.bipush 6, 2) := by decide +kernel
theorem d_Tr_notePaid_12 : decode m_Tr_notePaid.2.1 12 = .ok (.if_icmp .ge 55, 3) := by decide +kernel
theorem d_Tr_notePaid_15 : decode m_Tr_notePaid.2.1 15 = .ok (.aload_n 0, 1) := by decide +kernel
theorem d_Tr_notePaid_16 : decode m_Tr_notePaid.2.1 16 = .ok (.getfield 12, 3) := by decide +kernel
theorem d_Tr_notePaid_19 : decode m_Tr_notePaid.2.1 19 = .ok (.getfield 33, 3) := by decide +kernel
theorem d_Tr_notePaid_22 : decode m_Tr_notePaid.2.1 22 = .ok (.iload 5, 2) := by decide +kernel
theorem d_Tr_notePaid_24 : decode m_Tr_notePaid.2.1 24 = .ok (.baload, 1) := by decide +kernel
theorem d_Tr_notePaid_25 : decode m_Tr_notePaid.2.1 25 = .ok (.ifCond .eq 36, 3) := by decide +kernel
theorem d_Tr_notePaid_28 : decode m_Tr_notePaid.2.1 28 = .ok (.iload 4, 2) := by decide +kernel
theorem d_Tr_notePaid_30 : decode m_Tr_notePaid.2.1 30 = .ok (.ifCond .lt 31, 3) := by decide +kernel
theorem d_Tr_notePaid_33 : decode m_Tr_notePaid.2.1 33 = .ok (.iload 4, 2) := by decide +kernel
theorem d_Tr_notePaid_35 : decode m_Tr_notePaid.2.1 35 = .ok (.aload_n 0, 1) := by decide +kernel
theorem d_Tr_notePaid_36 : decode m_Tr_notePaid.2.1 36 = .ok (.getfield 25, 3) := by decide +kernel
theorem d_Tr_notePaid_39 : decode m_Tr_notePaid.2.1 39 = .ok (.arraylength, 1) := by decide +kernel
theorem d_Tr_notePaid_40 : decode m_Tr_notePaid.2.1 40 = .ok (.if_icmp .ge 21, 3) := by decide +kernel
theorem d_Tr_notePaid_43 : decode m_Tr_notePaid.2.1 43 = .ok (.aload_n 0, 1) := by decide +kernel
theorem d_Tr_notePaid_44 : decode m_Tr_notePaid.2.1 44 = .ok (.getfield 25, 3) := by decide +kernel
theorem d_Tr_notePaid_47 : decode m_Tr_notePaid.2.1 47 = .ok (.iload 4, 2) := by decide +kernel
theorem d_Tr_notePaid_49 : decode m_Tr_notePaid.2.1 49 = .ok (.aload_n 0, 1) := by decide +kernel
theorem d_Tr_notePaid_50 : decode m_Tr_notePaid.2.1 50 = .ok (.iload 5, 2) := by decide +kernel
theorem d_Tr_notePaid_52 : decode m_Tr_notePaid.2.1 52 = .ok (.iload_n 2, 1) := by decide +kernel
theorem d_Tr_notePaid_53 : decode m_Tr_notePaid.2.1 53 = .ok (.iload_n 3, 1) := by decide +kernel
theorem d_Tr_notePaid_54 : decode m_Tr_notePaid.2.1 54 = .ok (.invokevirtual 84, 3) := by decide +kernel
theorem d_Tr_notePaid_57 : decode m_Tr_notePaid.2.1 57 = .ok (.iastore, 1) := by decide +kernel
theorem d_Tr_notePaid_58 : decode m_Tr_notePaid.2.1 58 = .ok (.iinc 4 1, 3) := by decide +kernel
theorem d_Tr_notePaid_61 : decode m_Tr_notePaid.2.1 61 = .ok (.iinc 5 1, 3) := by decide +kernel
theorem d_Tr_notePaid_64 : decode m_Tr_notePaid.2.1 64 = .ok (.goto (-56), 3) := by decide +kernel
theorem d_Tr_notePaid_67 : decode m_Tr_notePaid.2.1 67 = .ok (.return_, 1) := by decide +kernel
theorem g_Tr_notePaid_0 {X : XS} (a1 : Int32) (a2 : Int32) (a3 : Int32) (h : Hp) (Q : Option AV → Hp → Prop)  (k : Rn X m_Tr_notePaid 8 [some (vR [6, 0]), some (vI a1), some (vI a2), some (vI a3), some (vI (a1 * 4)), some (vI 0)] [] h Q) : Rn X m_Tr_notePaid 0 [some (vR [6, 0]), some (vI a1), some (vI a2), some (vI a3), none, none] [] h Q := by
  refine Rn.iload_n (n := 1) (i := 1) d_Tr_notePaid_0 rfl rfl rfl ?_
  refine Rn.iconst (n := 2) (v := 4) d_Tr_notePaid_1 rfl (by decide) ?_
  refine Rn.imul (n := 3) d_Tr_notePaid_2 rfl ?_
  refine Rn.istore (n := 5) (i := 4) (ls2 := [some (vR [6, 0]), some (vI a1), some (vI a2), some (vI a3), some (vI (a1 * 4)), none]) d_Tr_notePaid_3 rfl (Nat.le_of_ble_eq_true rfl) rfl ?_
  refine Rn.iconst (n := 6) (v := 0) d_Tr_notePaid_5 rfl (by decide) ?_
  refine Rn.istore (n := 8) (i := 5) (ls2 := [some (vR [6, 0]), some (vI a1), some (vI a2), some (vI a3), some (vI (a1 * 4)), some (vI 0)]) d_Tr_notePaid_6 rfl (Nat.le_of_ble_eq_true rfl) rfl ?_
  exact k
theorem g_Tr_notePaid_8 {X : XS} (a1 : Int32) (a2 : Int32) (a3 : Int32) (a4 : Int32) (a5 : Int32) (h : Hp) (Q : Option AV → Hp → Prop)  (k : ((6 ≤ a5 → Q none h) ∧ (¬ 6 ≤ a5 → (vp_in a5 6 ∧ (((h.1 [3, 0, 6, 0] a5.toNatClampNeg) = 0 → Rn X m_Tr_notePaid 8 [some (vR [6, 0]), some (vI a1), some (vI a2), some (vI a3), some (vI a4), some (vI (a5 + 1))] [] h Q) ∧ (¬ (h.1 [3, 0, 6, 0] a5.toNatClampNeg) = 0 → ((a4 < 0 → Rn X m_Tr_notePaid 8 [some (vR [6, 0]), some (vI a1), some (vI a2), some (vI a3), some (vI a4), some (vI (a5 + 1))] [] h Q) ∧ (¬ a4 < 0 → ((324 ≤ a4 → Rn X m_Tr_notePaid 8 [some (vR [6, 0]), some (vI a1), some (vI a2), some (vI a3), some (vI a4), some (vI (a5 + 1))] [] h Q) ∧ (¬ 324 ≤ a4 → (∃ Q'5, EvI X m_Tr_paidBy [vR [6, 0], vI a5, vI a2, vI a3] h Q'5 ∧ ∀ (r6 : Int32) (h4 : Hp), Q'5 r6 h4 → (vp_in a4 324 ∧ Rn X m_Tr_notePaid 8 [some (vR [6, 0]), some (vI a1), some (vI a2), some (vI a3), some (vI (a4 + 1)), some (vI (a5 + 1))] [] (hsI h4 [2, 6, 0] a4.toNatClampNeg r6) Q)))))))))))) : Rn X m_Tr_notePaid 8 [some (vR [6, 0]), some (vI a1), some (vI a2), some (vI a3), some (vI a4), some (vI a5)] [] h Q := by
  refine Rn.iload (n := 10) (i := 5) d_Tr_notePaid_8 rfl rfl ?_
  refine Rn.bipush (n := 12) (v := 6) d_Tr_notePaid_10 rfl (by decide) ?_
  refine Rn.icmp_ge (n := 15) (t := 67) d_Tr_notePaid_12 rfl (by decide) (fun cc => ?_) (fun cc => ?_)
  · have k := k.1 cc
    exact Rn.vret d_Tr_notePaid_67 rfl k
  · have k := k.2 cc
    refine Rn.aload_n (n := 16) (i := 0) d_Tr_notePaid_15 rfl rfl rfl ?_
    refine Rn.getf (n := 19) (v := vR [0, 6, 0]) d_Tr_notePaid_16 rfl fl_Tr_12 Lv_6_0 rfl ?_
    refine Rn.getf (n := 22) (v := vR [3, 0, 6, 0]) d_Tr_notePaid_19 rfl fl_Tr_33 Lv_0_6_0 rfl ?_
    refine Rn.iload (n := 24) (i := 5) d_Tr_notePaid_22 rfl rfl ?_
    obtain ⟨b1, k⟩ := k
    refine Rn.zald (n := 25) (v := h.1 [3, 0, 6, 0] a5.toNatClampNeg) d_Tr_notePaid_24 rfl Lv_3_0_6_0 b1 rfl ?_
    refine Rn.if_eq (n := 28) (t := 61) d_Tr_notePaid_25 rfl (by decide) (fun cc => ?_) (fun cc => ?_)
    · have k := k.1 cc
      refine Rn.iinc (n := 64) (i := 5) (v := a5 + 1) (ls2 := [some (vR [6, 0]), some (vI a1), some (vI a2), some (vI a3), some (vI a4), some (vI (a5 + 1))]) d_Tr_notePaid_61 rfl rfl rfl (Nat.le_of_ble_eq_true rfl) rfl ?_
      refine Rn.goto (n := 8) d_Tr_notePaid_64 (by decide) ?_
      exact k
    · have k := k.2 cc
      refine Rn.iload (n := 30) (i := 4) d_Tr_notePaid_28 rfl rfl ?_
      refine Rn.if_lt (n := 33) (t := 61) d_Tr_notePaid_30 rfl (by decide) (fun cc => ?_) (fun cc => ?_)
      · have k := k.1 cc
        refine Rn.iinc (n := 64) (i := 5) (v := a5 + 1) (ls2 := [some (vR [6, 0]), some (vI a1), some (vI a2), some (vI a3), some (vI a4), some (vI (a5 + 1))]) d_Tr_notePaid_61 rfl rfl rfl (Nat.le_of_ble_eq_true rfl) rfl ?_
        refine Rn.goto (n := 8) d_Tr_notePaid_64 (by decide) ?_
        exact k
      · have k := k.2 cc
        refine Rn.iload (n := 35) (i := 4) d_Tr_notePaid_33 rfl rfl ?_
        refine Rn.aload_n (n := 36) (i := 0) d_Tr_notePaid_35 rfl rfl rfl ?_
        refine Rn.getf (n := 39) (v := vR [2, 6, 0]) d_Tr_notePaid_36 rfl fl_Tr_25 Lv_6_0 rfl ?_
        refine Rn.alen8 (n := 40) (v := 324) d_Tr_notePaid_39 rfl Lv_2_6_0 (by decide) ?_
        refine Rn.icmp_ge (n := 43) (t := 61) d_Tr_notePaid_40 rfl (by decide) (fun cc => ?_) (fun cc => ?_)
        · have k := k.1 cc
          refine Rn.iinc (n := 64) (i := 5) (v := a5 + 1) (ls2 := [some (vR [6, 0]), some (vI a1), some (vI a2), some (vI a3), some (vI a4), some (vI (a5 + 1))]) d_Tr_notePaid_61 rfl rfl rfl (Nat.le_of_ble_eq_true rfl) rfl ?_
          refine Rn.goto (n := 8) d_Tr_notePaid_64 (by decide) ?_
          exact k
        · have k := k.2 cc
          refine Rn.aload_n (n := 44) (i := 0) d_Tr_notePaid_43 rfl rfl rfl ?_
          refine Rn.getf (n := 47) (v := vR [2, 6, 0]) d_Tr_notePaid_44 rfl fl_Tr_25 Lv_6_0 rfl ?_
          refine Rn.iload (n := 49) (i := 4) d_Tr_notePaid_47 rfl rfl ?_
          refine Rn.aload_n (n := 50) (i := 0) d_Tr_notePaid_49 rfl rfl rfl ?_
          refine Rn.iload (n := 52) (i := 5) d_Tr_notePaid_50 rfl rfl ?_
          refine Rn.iload_n (n := 53) (i := 2) d_Tr_notePaid_52 rfl rfl rfl ?_
          refine Rn.iload_n (n := 54) (i := 3) d_Tr_notePaid_53 rfl rfl rfl ?_
          obtain ⟨Q'5, ev2, k⟩ := k
          refine Rn.callV (n := 57) (av := [vI a5, vI a2, vI a3]) d_Tr_notePaid_54 rfl ml_Tr_notePaid_84 mi_Tr_paidBy Lv_6_0 rfl rfl rfl rfl (Nat.le_of_ble_eq_true rfl) ev2 (fun v h4 hq => ?_)
          obtain ⟨r6, rfl, hq⟩ := hq
          have k := k r6 h4 hq
          show Rn X m_Tr_notePaid 57 [some (vR [6, 0]), some (vI a1), some (vI a2), some (vI a3), some (vI a4), some (vI a5)] [vI r6, vI a4, vR [2, 6, 0]] h4 Q
          obtain ⟨b7, k⟩ := k
          refine Rn.iast (n := 58) d_Tr_notePaid_57 rfl Lv_2_6_0 b7 ?_
          refine Rn.iinc (n := 61) (i := 4) (v := a4 + 1) (ls2 := [some (vR [6, 0]), some (vI a1), some (vI a2), some (vI a3), some (vI (a4 + 1)), some (vI a5)]) d_Tr_notePaid_58 rfl rfl rfl (Nat.le_of_ble_eq_true rfl) rfl ?_
          refine Rn.iinc (n := 64) (i := 5) (v := a5 + 1) (ls2 := [some (vR [6, 0]), some (vI a1), some (vI a2), some (vI a3), some (vI (a4 + 1)), some (vI (a5 + 1))]) d_Tr_notePaid_61 rfl rfl rfl (Nat.le_of_ble_eq_true rfl) rfl ?_
          refine Rn.goto (n := 8) d_Tr_notePaid_64 (by decide) ?_
          exact k
theorem e_Tr_notePaid {X : XS} (a1 : Int32) (a2 : Int32) (a3 : Int32) (h : Hp) (Q : Option AV → Hp → Prop) (k : Rn X m_Tr_notePaid 0 [some (vR [6, 0]), some (vI a1), some (vI a2), some (vI a3), none, none] [] h Q) : Ev X m_Tr_notePaid [vR [6, 0], vI a1, vI a2, vI a3] h Q := Ev.intro (plainFor_of_name (by decide +kernel)) (Nat.le_of_ble_eq_true rfl) (ls := [some (vR [6, 0]), some (vI a1), some (vI a2), some (vI a3), none, none]) rfl k
theorem d_Tr_isRest_0 : decode m_Tr_isRest.2.1 0 = .ok (.iload_n 1, 1) := by decide +kernel
theorem d_Tr_isRest_1 : decode m_Tr_isRest.2.1 1 = .ok (.istore_n 3, 1) := by decide +kernel
theorem d_Tr_isRest_2 : decode m_Tr_isRest.2.1 2 = .ok (.iconst 1, 1) := by decide +kernel
theorem d_Tr_isRest_3 : decode m_Tr_isRest.2.1 3 = .ok (.istore 4, 2) := by decide +kernel
theorem d_Tr_isRest_5 : decode m_Tr_isRest.2.1 5 = .ok (.iload_n 2, 1) := by decide +kernel
theorem d_Tr_isRest_6 : decode m_Tr_isRest.2.1 6 = .ok (.iconst 1, 1) := by decide +kernel
theorem d_Tr_isRest_7 : decode m_Tr_isRest.2.1 7 = .ok (.isub, 1) := by decide +kernel
theorem d_Tr_isRest_8 : decode m_Tr_isRest.2.1 8 = .ok (.istore 5, 2) := by decide +kernel
theorem d_Tr_isRest_10 : decode m_Tr_isRest.2.1 10 = .ok (.iload 5, 2) := by decide +kernel
theorem d_Tr_isRest_12 : decode m_Tr_isRest.2.1 12 = .ok (.ifCond .lt 70, 3) := by decide +kernel
theorem d_Tr_isRest_15 : decode m_Tr_isRest.2.1 15 = .ok (.iload_n 1, 1) := by decide +kernel
theorem d_Tr_isRest_16 : decode m_Tr_isRest.2.1 16 = .ok (.iload_n 3, 1) := by decide +kernel
theorem d_Tr_isRest_17 : decode m_Tr_isRest.2.1 17 = .ok (.iconst 3, 1) := by decide +kernel
theorem d_Tr_isRest_18 : decode m_Tr_isRest.2.1 18 = .ok (.irem, 1) := by decide +kernel
theorem d_Tr_isRest_19 : decode m_Tr_isRest.2.1 19 = .ok (.iload 4, 2) := by decide +kernel
theorem d_Tr_isRest_21 : decode m_Tr_isRest.2.1 21 = .ok (.imul, 1) := by decide +kernel
theorem d_Tr_isRest_22 : decode m_Tr_isRest.2.1 22 = .ok (.isub, 1) := by decide +kernel
theorem d_Tr_isRest_23 : decode m_Tr_isRest.2.1 23 = .ok (.istore 6, 2) := by decide +kernel
theorem d_Tr_isRest_25 : decode m_Tr_isRest.2.1 25 = .ok (.iconst 0, 1) := by decide +kernel
theorem d_Tr_isRest_26 : decode m_Tr_isRest.2.1 26 = .ok (.istore 7, 2) := by decide +kernel
theorem d_Tr_isRest_28 : decode m_Tr_isRest.2.1 28 = .ok (.iload 7, 2) := by decide +kernel
theorem d_Tr_isRest_30 : decode m_Tr_isRest.2.1 30 = .ok (.iconst 2, 1) := by decide +kernel
theorem d_Tr_isRest_31 : decode m_Tr_isRest.2.1 31 = .ok (.if_icmp .gt 35, 3) := by decide +kernel
theorem d_Tr_isRest_34 : decode m_Tr_isRest.2.1 34 = .ok (.aload_n 0, 1) := by decide +kernel
theorem d_Tr_isRest_35 : decode m_Tr_isRest.2.1 35 = .ok (.iload 6, 2) := by decide +kernel
theorem d_Tr_isRest_37 : decode m_Tr_isRest.2.1 37 = .ok (.iload 7, 2) := by decide +kernel
theorem d_Tr_isRest_39 : decode m_Tr_isRest.2.1 39 = .ok (.iload 4, 2) := by decide +kernel
theorem d_Tr_isRest_41 : decode m_Tr_isRest.2.1 41 = .ok (.imul, 1) := by decide +kernel
theorem d_Tr_isRest_42 : decode m_Tr_isRest.2.1 42 = .ok (.iadd, 1) := by decide +kernel
theorem d_Tr_isRest_43 : decode m_Tr_isRest.2.1 43 = .ok (.iload 5, 2) := by decide +kernel
theorem d_Tr_isRest_45 : decode m_Tr_isRest.2.1 45 = .ok (.invokevirtual 88, 3) := by decide +kernel
theorem d_Tr_isRest_48 : decode m_Tr_isRest.2.1 48 = .ok (.aload_n 0, 1) := by decide +kernel
theorem d_Tr_isRest_49 : decode m_Tr_isRest.2.1 49 = .ok (.iload_n 1, 1) := by decide +kernel
theorem d_Tr_isRest_50 : decode m_Tr_isRest.2.1 50 = .ok (.iload 5, 2) := by decide +kernel
theorem d_Tr_isRest_52 : decode m_Tr_isRest.2.1 52 = .ok (.invokevirtual 88, 3) := by decide +kernel
theorem d_Tr_isRest_55 : decode m_Tr_isRest.2.1 55 = .ok (.if_icmp .ge 5, 3) := by decide +kernel
theorem d_Tr_isRest_58 : decode m_Tr_isRest.2.1 58 = .ok (.iconst 0, 1) := by decide +kernel
theorem d_Tr_isRest_59 : decode m_Tr_isRest.2.1 59 = .ok (.ireturn, 1) := by decide +kernel
theorem d_Tr_isRest_60 : decode m_Tr_isRest.2.1 60 = .ok (.iinc 7 1, 3) := by decide +kernel
theorem d_Tr_isRest_63 : decode m_Tr_isRest.2.1 63 = .ok (.goto (-35), 3) := by decide +kernel
theorem d_Tr_isRest_66 : decode m_Tr_isRest.2.1 66 = .ok (.iload_n 3, 1) := by decide +kernel
theorem d_Tr_isRest_67 : decode m_Tr_isRest.2.1 67 = .ok (.iconst 3, 1) := by decide +kernel
theorem d_Tr_isRest_68 : decode m_Tr_isRest.2.1 68 = .ok (.idiv, 1) := by decide +kernel
theorem d_Tr_isRest_69 : decode m_Tr_isRest.2.1 69 = .ok (.istore_n 3, 1) := by decide +kernel
theorem d_Tr_isRest_70 : decode m_Tr_isRest.2.1 70 = .ok (.iload 4, 2) := by decide +kernel
theorem d_Tr_isRest_72 : decode m_Tr_isRest.2.1 72 = .ok (.iconst 3, 1) := by decide +kernel
theorem d_Tr_isRest_73 : decode m_Tr_isRest.2.1 73 = .ok (.imul, 1) := by decide +kernel
theorem d_Tr_isRest_74 : decode m_Tr_isRest.2.1 74 = .ok (.istore 4, 2) := by decide +kernel
theorem d_Tr_isRest_76 : decode m_Tr_isRest.2.1 76 = .ok (.iinc 5 (-1), 3) := by decide +kernel
theorem d_Tr_isRest_79 : decode m_Tr_isRest.2.1 79 = .ok (.goto (-69), 3) := by decide +kernel
theorem d_Tr_isRest_82 : decode m_Tr_isRest.2.1 82 = .ok (.iconst 1, 1) := by decide +kernel
theorem d_Tr_isRest_83 : decode m_Tr_isRest.2.1 83 = .ok (.ireturn, 1) := by decide +kernel
theorem g_Tr_isRest_0 {X : XS} (a1 : Int32) (a2 : Int32) (h : Hp) (Q : Option AV → Hp → Prop)  (k : Rn X m_Tr_isRest 10 [some (vR [6, 0]), some (vI a1), some (vI a2), some (vI a1), some (vI 1), some (vI (a2 - 1)), none, none] [] h Q) : Rn X m_Tr_isRest 0 [some (vR [6, 0]), some (vI a1), some (vI a2), none, none, none, none, none] [] h Q := by
  refine Rn.iload_n (n := 1) (i := 1) d_Tr_isRest_0 rfl rfl rfl ?_
  refine Rn.istore_n (n := 2) (i := 3) (ls2 := [some (vR [6, 0]), some (vI a1), some (vI a2), some (vI a1), none, none, none, none]) d_Tr_isRest_1 rfl rfl (Nat.le_of_ble_eq_true rfl) rfl ?_
  refine Rn.iconst (n := 3) (v := 1) d_Tr_isRest_2 rfl (by decide) ?_
  refine Rn.istore (n := 5) (i := 4) (ls2 := [some (vR [6, 0]), some (vI a1), some (vI a2), some (vI a1), some (vI 1), none, none, none]) d_Tr_isRest_3 rfl (Nat.le_of_ble_eq_true rfl) rfl ?_
  refine Rn.iload_n (n := 6) (i := 2) d_Tr_isRest_5 rfl rfl rfl ?_
  refine Rn.iconst (n := 7) (v := 1) d_Tr_isRest_6 rfl (by decide) ?_
  refine Rn.isub (n := 8) d_Tr_isRest_7 rfl ?_
  refine Rn.istore (n := 10) (i := 5) (ls2 := [some (vR [6, 0]), some (vI a1), some (vI a2), some (vI a1), some (vI 1), some (vI (a2 - 1)), none, none]) d_Tr_isRest_8 rfl (Nat.le_of_ble_eq_true rfl) rfl ?_
  exact k
theorem g_Tr_isRest_10 {X : XS} (a1 : Int32) (a2 : Int32) (a3 : Int32) (a4 : Int32) (a5 : Int32) (h : Hp) (Q : Option AV → Hp → Prop)  (k : ((a5 < 0 → Q (some (vI 1)) h) ∧ (¬ a5 < 0 → Rn X m_Tr_isRest 28 [some (vR [6, 0]), some (vI a1), some (vI a2), some (vI a3), some (vI a4), some (vI a5), some (vI (a1 - ((iR a3 3) * a4))), some (vI 0)] [] h Q))) : Rn X m_Tr_isRest 10 [some (vR [6, 0]), some (vI a1), some (vI a2), some (vI a3), some (vI a4), some (vI a5), none, none] [] h Q := by
  refine Rn.iload (n := 12) (i := 5) d_Tr_isRest_10 rfl rfl ?_
  refine Rn.if_lt (n := 15) (t := 82) d_Tr_isRest_12 rfl (by decide) (fun cc => ?_) (fun cc => ?_)
  · have k := k.1 cc
    refine Rn.iconst (n := 83) (v := 1) d_Tr_isRest_82 rfl (by decide) ?_
    exact Rn.iret d_Tr_isRest_83 rfl rfl k
  · have k := k.2 cc
    refine Rn.iload_n (n := 16) (i := 1) d_Tr_isRest_15 rfl rfl rfl ?_
    refine Rn.iload_n (n := 17) (i := 3) d_Tr_isRest_16 rfl rfl rfl ?_
    refine Rn.iconst (n := 18) (v := 3) d_Tr_isRest_17 rfl (by decide) ?_
    refine Rn.irem (n := 19) d_Tr_isRest_18 rfl (by decide) ?_
    refine Rn.iload (n := 21) (i := 4) d_Tr_isRest_19 rfl rfl ?_
    refine Rn.imul (n := 22) d_Tr_isRest_21 rfl ?_
    refine Rn.isub (n := 23) d_Tr_isRest_22 rfl ?_
    refine Rn.istore (n := 25) (i := 6) (ls2 := [some (vR [6, 0]), some (vI a1), some (vI a2), some (vI a3), some (vI a4), some (vI a5), some (vI (a1 - ((iR a3 3) * a4))), none]) d_Tr_isRest_23 rfl (Nat.le_of_ble_eq_true rfl) rfl ?_
    refine Rn.iconst (n := 26) (v := 0) d_Tr_isRest_25 rfl (by decide) ?_
    refine Rn.istore (n := 28) (i := 7) (ls2 := [some (vR [6, 0]), some (vI a1), some (vI a2), some (vI a3), some (vI a4), some (vI a5), some (vI (a1 - ((iR a3 3) * a4))), some (vI 0)]) d_Tr_isRest_26 rfl (Nat.le_of_ble_eq_true rfl) rfl ?_
    exact k
theorem g_Tr_isRest_28 {X : XS} (a1 : Int32) (a2 : Int32) (a3 : Int32) (a4 : Int32) (a5 : Int32) (a6 : Int32) (a7 : Int32) (h : Hp) (Q : Option AV → Hp → Prop)  (k : ((2 < a7 → Rn X m_Tr_isRest 10 [some (vR [6, 0]), some (vI a1), some (vI a2), some (vI (a3 / 3)), some (vI (a4 * 3)), some (vI (a5 + (-1))), none, none] [] h Q) ∧ (¬ 2 < a7 → (∃ Q'4, EvI X m_Tr_paidIn [vR [6, 0], vI (a6 + (a7 * a4)), vI a5] h Q'4 ∧ ∀ (r5 : Int32) (h3 : Hp), Q'4 r5 h3 → (∃ Q'9, EvI X m_Tr_paidIn [vR [6, 0], vI a1, vI a5] h3 Q'9 ∧ ∀ (r10 : Int32) (h8 : Hp), Q'9 r10 h8 → ((r10 ≤ r5 → Rn X m_Tr_isRest 28 [some (vR [6, 0]), some (vI a1), some (vI a2), some (vI a3), some (vI a4), some (vI a5), some (vI a6), some (vI (a7 + 1))] [] h8 Q) ∧ (¬ r10 ≤ r5 → Q (some (vI 0)) h8))))))) : Rn X m_Tr_isRest 28 [some (vR [6, 0]), some (vI a1), some (vI a2), some (vI a3), some (vI a4), some (vI a5), some (vI a6), some (vI a7)] [] h Q := by
  refine Rn.iload (n := 30) (i := 7) d_Tr_isRest_28 rfl rfl ?_
  refine Rn.iconst (n := 31) (v := 2) d_Tr_isRest_30 rfl (by decide) ?_
  refine Rn.icmp_gt (n := 34) (t := 66) d_Tr_isRest_31 rfl (by decide) (fun cc => ?_) (fun cc => ?_)
  · have k := k.1 cc
    refine Rn.iload_n (n := 67) (i := 3) d_Tr_isRest_66 rfl rfl rfl ?_
    refine Rn.iconst (n := 68) (v := 3) d_Tr_isRest_67 rfl (by decide) ?_
    refine Rn.idiv (n := 69) d_Tr_isRest_68 rfl (by decide) ?_
    refine Rn.istore_n (n := 70) (i := 3) (ls2 := [some (vR [6, 0]), some (vI a1), some (vI a2), some (vI (a3 / 3)), some (vI a4), some (vI a5), some (vI a6), some (vI a7)]) d_Tr_isRest_69 rfl rfl (Nat.le_of_ble_eq_true rfl) rfl ?_
    refine Rn.iload (n := 72) (i := 4) d_Tr_isRest_70 rfl rfl ?_
    refine Rn.iconst (n := 73) (v := 3) d_Tr_isRest_72 rfl (by decide) ?_
    refine Rn.imul (n := 74) d_Tr_isRest_73 rfl ?_
    refine Rn.istore (n := 76) (i := 4) (ls2 := [some (vR [6, 0]), some (vI a1), some (vI a2), some (vI (a3 / 3)), some (vI (a4 * 3)), some (vI a5), some (vI a6), some (vI a7)]) d_Tr_isRest_74 rfl (Nat.le_of_ble_eq_true rfl) rfl ?_
    refine Rn.iinc (n := 79) (i := 5) (v := a5 + (-1)) (ls2 := [some (vR [6, 0]), some (vI a1), some (vI a2), some (vI (a3 / 3)), some (vI (a4 * 3)), some (vI (a5 + (-1))), some (vI a6), some (vI a7)]) d_Tr_isRest_76 rfl rfl rfl (Nat.le_of_ble_eq_true rfl) rfl ?_
    refine Rn.goto (n := 10) d_Tr_isRest_79 (by decide) ?_
    exact Rn.loc [some (vR [6, 0]), some (vI a1), some (vI a2), some (vI (a3 / 3)), some (vI (a4 * 3)), some (vI (a5 + (-1))), none, none] (LLe_ok ⟨rfl, ⟨rfl, ⟨rfl, ⟨rfl, ⟨rfl, ⟨rfl, trivial⟩⟩⟩⟩⟩⟩) k
  · have k := k.2 cc
    refine Rn.aload_n (n := 35) (i := 0) d_Tr_isRest_34 rfl rfl rfl ?_
    refine Rn.iload (n := 37) (i := 6) d_Tr_isRest_35 rfl rfl ?_
    refine Rn.iload (n := 39) (i := 7) d_Tr_isRest_37 rfl rfl ?_
    refine Rn.iload (n := 41) (i := 4) d_Tr_isRest_39 rfl rfl ?_
    refine Rn.imul (n := 42) d_Tr_isRest_41 rfl ?_
    refine Rn.iadd (n := 43) d_Tr_isRest_42 rfl ?_
    refine Rn.iload (n := 45) (i := 5) d_Tr_isRest_43 rfl rfl ?_
    obtain ⟨Q'4, ev1, k⟩ := k
    refine Rn.callV (n := 48) (av := [vI (a6 + (a7 * a4)), vI a5]) d_Tr_isRest_45 rfl ml_Tr_isRest_88 mi_Tr_paidIn Lv_6_0 rfl rfl rfl rfl (Nat.le_of_ble_eq_true rfl) ev1 (fun v h3 hq => ?_)
    obtain ⟨r5, rfl, hq⟩ := hq
    have k := k r5 h3 hq
    show Rn X m_Tr_isRest 48 [some (vR [6, 0]), some (vI a1), some (vI a2), some (vI a3), some (vI a4), some (vI a5), some (vI a6), some (vI a7)] [vI r5] h3 Q
    refine Rn.aload_n (n := 49) (i := 0) d_Tr_isRest_48 rfl rfl rfl ?_
    refine Rn.iload_n (n := 50) (i := 1) d_Tr_isRest_49 rfl rfl rfl ?_
    refine Rn.iload (n := 52) (i := 5) d_Tr_isRest_50 rfl rfl ?_
    obtain ⟨Q'9, ev6, k⟩ := k
    refine Rn.callV (n := 55) (av := [vI a1, vI a5]) d_Tr_isRest_52 rfl ml_Tr_isRest_88 mi_Tr_paidIn Lv_6_0 rfl rfl rfl rfl (Nat.le_of_ble_eq_true rfl) ev6 (fun v h8 hq => ?_)
    obtain ⟨r10, rfl, hq⟩ := hq
    have k := k r10 h8 hq
    show Rn X m_Tr_isRest 55 [some (vR [6, 0]), some (vI a1), some (vI a2), some (vI a3), some (vI a4), some (vI a5), some (vI a6), some (vI a7)] [vI r10, vI r5] h8 Q
    refine Rn.icmp_ge (n := 58) (t := 60) d_Tr_isRest_55 rfl (by decide) (fun cc => ?_) (fun cc => ?_)
    · have k := k.1 cc
      refine Rn.iinc (n := 63) (i := 7) (v := a7 + 1) (ls2 := [some (vR [6, 0]), some (vI a1), some (vI a2), some (vI a3), some (vI a4), some (vI a5), some (vI a6), some (vI (a7 + 1))]) d_Tr_isRest_60 rfl rfl rfl (Nat.le_of_ble_eq_true rfl) rfl ?_
      refine Rn.goto (n := 28) d_Tr_isRest_63 (by decide) ?_
      exact k
    · have k := k.2 cc
      refine Rn.iconst (n := 59) (v := 0) d_Tr_isRest_58 rfl (by decide) ?_
      exact Rn.iret d_Tr_isRest_59 rfl rfl k
theorem e_Tr_isRest {X : XS} (a1 : Int32) (a2 : Int32) (h : Hp) (Q : Option AV → Hp → Prop) (k : Rn X m_Tr_isRest 0 [some (vR [6, 0]), some (vI a1), some (vI a2), none, none, none, none, none] [] h Q) : Ev X m_Tr_isRest [vR [6, 0], vI a1, vI a2] h Q := Ev.intro (plainFor_of_name (by decide +kernel)) (Nat.le_of_ble_eq_true rfl) (ls := [some (vR [6, 0]), some (vI a1), some (vI a2), none, none, none, none, none]) rfl k
theorem d_Tr_paidIn_0 : decode m_Tr_paidIn.2.1 0 = .ok (.iload_n 1, 1) := by decide +kernel
theorem d_Tr_paidIn_1 : decode m_Tr_paidIn.2.1 1 = .ok (.iconst 4, 1) := by decide +kernel
theorem d_Tr_paidIn_2 : decode m_Tr_paidIn.2.1 2 = .ok (.imul, 1) := by decide +kernel
theorem d_Tr_paidIn_3 : decode m_Tr_paidIn.2.1 3 = .ok (.iload_n 2, 1) := by decide +kernel
theorem d_Tr_paidIn_4 : decode m_Tr_paidIn.2.1 4 = .ok (.iadd, 1) := by decide +kernel
theorem d_Tr_paidIn_5 : decode m_Tr_paidIn.2.1 5 = .ok (.istore_n 3, 1) := by decide +kernel
theorem d_Tr_paidIn_6 : decode m_Tr_paidIn.2.1 6 = .ok (.iload_n 3, 1) := by decide +kernel
theorem d_Tr_paidIn_7 : decode m_Tr_paidIn.2.1 7 = .ok (.ifCond .lt 21, 3) := by decide +kernel
theorem d_Tr_paidIn_10 : decode m_Tr_paidIn.2.1 10 = .ok (.iload_n 3, 1) := by decide +kernel
theorem d_Tr_paidIn_11 : decode m_Tr_paidIn.2.1 11 = .ok (.aload_n 0, 1) := by decide +kernel
theorem d_Tr_paidIn_12 : decode m_Tr_paidIn.2.1 12 = .ok (.getfield 25, 3) := by decide +kernel
theorem d_Tr_paidIn_15 : decode m_Tr_paidIn.2.1 15 = .ok (.arraylength, 1) := by decide +kernel
theorem d_Tr_paidIn_16 : decode m_Tr_paidIn.2.1 16 = .ok (.if_icmp .ge 12, 3) := by decide +kernel
theorem d_Tr_paidIn_19 : decode m_Tr_paidIn.2.1 19 = .ok (.aload_n 0, 1) := by decide +kernel
theorem d_Tr_paidIn_20 : decode m_Tr_paidIn.2.1 20 = .ok (.getfield 25, 3) := by decide +kernel
theorem d_Tr_paidIn_23 : decode m_Tr_paidIn.2.1 23 = .ok (.iload_n 3, 1) := by decide +kernel
theorem d_Tr_paidIn_24 : decode m_Tr_paidIn.2.1 24 = .ok (.iaload, 1) := by decide +kernel
theorem d_Tr_paidIn_25 : decode m_Tr_paidIn.2.1 25 = .ok (.goto 4, 3) := by decide +kernel
theorem d_Tr_paidIn_28 : decode m_Tr_paidIn.2.1 28 = .ok (.iconst 0, 1) := by decide +kernel
theorem d_Tr_paidIn_29 : decode m_Tr_paidIn.2.1 29 = .ok (.ireturn, 1) := by decide +kernel
theorem g_Tr_paidIn_0 {X : XS} (a1 : Int32) (a2 : Int32) (h : Hp) (Q : Option AV → Hp → Prop)  (k : ((((a1 * 4) + a2) < 0 → Q (some (vI 0)) h) ∧ (¬ ((a1 * 4) + a2) < 0 → ((324 ≤ ((a1 * 4) + a2) → Q (some (vI 0)) h) ∧ (¬ 324 ≤ ((a1 * 4) + a2) → (vp_in ((a1 * 4) + a2) 324 ∧ Q (some (vI (h.1 [2, 6, 0] ((a1 * 4) + a2).toNatClampNeg))) h)))))) : Rn X m_Tr_paidIn 0 [some (vR [6, 0]), some (vI a1), some (vI a2), none] [] h Q := by
  refine Rn.iload_n (n := 1) (i := 1) d_Tr_paidIn_0 rfl rfl rfl ?_
  refine Rn.iconst (n := 2) (v := 4) d_Tr_paidIn_1 rfl (by decide) ?_
  refine Rn.imul (n := 3) d_Tr_paidIn_2 rfl ?_
  refine Rn.iload_n (n := 4) (i := 2) d_Tr_paidIn_3 rfl rfl rfl ?_
  refine Rn.iadd (n := 5) d_Tr_paidIn_4 rfl ?_
  refine Rn.istore_n (n := 6) (i := 3) (ls2 := [some (vR [6, 0]), some (vI a1), some (vI a2), some (vI ((a1 * 4) + a2))]) d_Tr_paidIn_5 rfl rfl (Nat.le_of_ble_eq_true rfl) rfl ?_
  refine Rn.iload_n (n := 7) (i := 3) d_Tr_paidIn_6 rfl rfl rfl ?_
  refine Rn.if_lt (n := 10) (t := 28) d_Tr_paidIn_7 rfl (by decide) (fun cc => ?_) (fun cc => ?_)
  · have k := k.1 cc
    refine Rn.iconst (n := 29) (v := 0) d_Tr_paidIn_28 rfl (by decide) ?_
    exact Rn.iret d_Tr_paidIn_29 rfl rfl k
  · have k := k.2 cc
    refine Rn.iload_n (n := 11) (i := 3) d_Tr_paidIn_10 rfl rfl rfl ?_
    refine Rn.aload_n (n := 12) (i := 0) d_Tr_paidIn_11 rfl rfl rfl ?_
    refine Rn.getf (n := 15) (v := vR [2, 6, 0]) d_Tr_paidIn_12 rfl fl_Tr_25 Lv_6_0 rfl ?_
    refine Rn.alen8 (n := 16) (v := 324) d_Tr_paidIn_15 rfl Lv_2_6_0 (by decide) ?_
    refine Rn.icmp_ge (n := 19) (t := 28) d_Tr_paidIn_16 rfl (by decide) (fun cc => ?_) (fun cc => ?_)
    · have k := k.1 cc
      refine Rn.iconst (n := 29) (v := 0) d_Tr_paidIn_28 rfl (by decide) ?_
      exact Rn.iret d_Tr_paidIn_29 rfl rfl k
    · have k := k.2 cc
      refine Rn.aload_n (n := 20) (i := 0) d_Tr_paidIn_19 rfl rfl rfl ?_
      refine Rn.getf (n := 23) (v := vR [2, 6, 0]) d_Tr_paidIn_20 rfl fl_Tr_25 Lv_6_0 rfl ?_
      refine Rn.iload_n (n := 24) (i := 3) d_Tr_paidIn_23 rfl rfl rfl ?_
      obtain ⟨b1, k⟩ := k
      refine Rn.iald (n := 25) (v := h.1 [2, 6, 0] ((a1 * 4) + a2).toNatClampNeg) d_Tr_paidIn_24 rfl Lv_2_6_0 b1 rfl ?_
      refine Rn.goto (n := 29) d_Tr_paidIn_25 (by decide) ?_
      exact Rn.iret d_Tr_paidIn_29 rfl rfl k
theorem e_Tr_paidIn {X : XS} (a1 : Int32) (a2 : Int32) (h : Hp) (Q : Option AV → Hp → Prop) (k : Rn X m_Tr_paidIn 0 [some (vR [6, 0]), some (vI a1), some (vI a2), none] [] h Q) : Ev X m_Tr_paidIn [vR [6, 0], vI a1, vI a2] h Q := Ev.intro (plainFor_of_name (by decide +kernel)) (Nat.le_of_ble_eq_true rfl) (ls := [some (vR [6, 0]), some (vI a1), some (vI a2), none]) rfl k
theorem d_Tr_seekCommon_0 : decode m_Tr_seekCommon.2.1 0 = .ok (.aload_n 0, 1) := by decide +kernel
theorem d_Tr_seekCommon_1 : decode m_Tr_seekCommon.2.1 1 = .ok (.iconst (-1), 1) := by decide +kernel
theorem d_Tr_seekCommon_2 : decode m_Tr_seekCommon.2.1 2 = .ok (.putfield 91, 3) := by decide +kernel
theorem d_Tr_seekCommon_5 : decode m_Tr_seekCommon.2.1 5 = .ok (.iconst 0, 1) := by decide +kernel
theorem d_Tr_seekCommon_6 : decode m_Tr_seekCommon.2.1 6 = .ok (.istore 4, 2) := by decide +kernel
theorem d_Tr_seekCommon_8 : decode m_Tr_seekCommon.2.1 8 = .ok (.iload 4, 2) := by decide +kernel
theorem d_Tr_seekCommon_10 : decode m_Tr_seekCommon.2.1 10 = .ok (.iconst 2, 1) := by decide +kernel
theorem d_Tr_seekCommon_11 : decode m_Tr_seekCommon.2.1 11 = .ok (.if_icmp .gt 98, 3) := by decide +kernel
theorem d_Tr_seekCommon_14 : decode m_Tr_seekCommon.2.1 14 = .ok (.aload_n 0, 1) := by decide +kernel
theorem d_Tr_seekCommon_15 : decode m_Tr_seekCommon.2.1 15 = .ok (.aload_n 1, 1) := by decide +kernel
theorem d_Tr_seekCommon_16 : decode m_Tr_seekCommon.2.1 16 = .ok (.iload 4, 2) := by decide +kernel
theorem d_Tr_seekCommon_18 : decode m_Tr_seekCommon.2.1 18 = .ok (.sipush 1365, 3) := by decide +kernel
theorem d_Tr_seekCommon_21 : decode m_Tr_seekCommon.2.1 21 = .ok (.imul, 1) := by decide +kernel
theorem d_Tr_seekCommon_22 : decode m_Tr_seekCommon.2.1 22 = .ok (.invokevirtual 65, 3) := by decide +kernel
theorem d_Tr_seekCommon_25 : decode m_Tr_seekCommon.2.1 25 = .ok (.iconst 0, 1) := by decide +kernel
theorem d_Tr_seekCommon_26 : decode m_Tr_seekCommon.2.1 26 = .ok (.istore 5, 2) := by decide +kernel
theorem d_Tr_seekCommon_28 : decode m_Tr_seekCommon.2.1 28 = .ok (.iconst 0, 1) := by decide +kernel
theorem d_Tr_seekCommon_29 : decode m_Tr_seekCommon.2.1 29 = .ok (.istore 6, 2) := by decide +kernel
theorem d_Tr_seekCommon_31 : decode m_Tr_seekCommon.2.1 31 = .ok (.iload 6, 2) := by decide +kernel
theorem d_Tr_seekCommon_33 : decode m_Tr_seekCommon.2.1 33 = .ok (.bipush 6, 2) := by decide +kernel
theorem d_Tr_seekCommon_35 : decode m_Tr_seekCommon.2.1 35 = .ok (.if_icmp .ge 39, 3) := by decide +kernel
theorem d_Tr_seekCommon_38 : decode m_Tr_seekCommon.2.1 38 = .ok (.iload 5, 2) := by decide +kernel
theorem d_Tr_seekCommon_40 : decode m_Tr_seekCommon.2.1 40 = .ok (.aload_n 0, 1) := by decide +kernel
theorem d_Tr_seekCommon_41 : decode m_Tr_seekCommon.2.1 41 = .ok (.getfield 12, 3) := by decide +kernel
theorem d_Tr_seekCommon_44 : decode m_Tr_seekCommon.2.1 44 = .ok (.getfield 33, 3) := by decide +kernel
theorem d_Tr_seekCommon_47 : decode m_Tr_seekCommon.2.1 47 = .ok (.iload 6, 2) := by decide +kernel
theorem d_Tr_seekCommon_49 : decode m_Tr_seekCommon.2.1 49 = .ok (.baload, 1) := by decide +kernel
theorem d_Tr_seekCommon_50 : decode m_Tr_seekCommon.2.1 50 = .ok (.ifCond .eq 14, 3) := by decide +kernel
theorem d_Tr_seekCommon_53 : decode m_Tr_seekCommon.2.1 53 = .ok (.aload_n 0, 1) := by decide +kernel
theorem d_Tr_seekCommon_54 : decode m_Tr_seekCommon.2.1 54 = .ok (.iload 6, 2) := by decide +kernel
theorem d_Tr_seekCommon_56 : decode m_Tr_seekCommon.2.1 56 = .ok (.iload_n 2, 1) := by decide +kernel
theorem d_Tr_seekCommon_57 : decode m_Tr_seekCommon.2.1 57 = .ok (.iload_n 3, 1) := by decide +kernel
theorem d_Tr_seekCommon_58 : decode m_Tr_seekCommon.2.1 58 = .ok (.invokevirtual 84, 3) := by decide +kernel
theorem d_Tr_seekCommon_61 : decode m_Tr_seekCommon.2.1 61 = .ok (.goto 4, 3) := by decide +kernel
theorem d_Tr_seekCommon_64 : decode m_Tr_seekCommon.2.1 64 = .ok (.iconst 0, 1) := by decide +kernel
theorem d_Tr_seekCommon_65 : decode m_Tr_seekCommon.2.1 65 = .ok (.iadd, 1) := by decide +kernel
theorem d_Tr_seekCommon_66 : decode m_Tr_seekCommon.2.1 66 = .ok (.istore 5, 2) := by decide +kernel
theorem d_Tr_seekCommon_68 : decode m_Tr_seekCommon.2.1 68 = .ok (.iinc 6 1, 3) := by decide +kernel
theorem d_Tr_seekCommon_71 : decode m_Tr_seekCommon.2.1 71 = .ok (.goto (-40), 3) := by decide +kernel
theorem d_Tr_seekCommon_74 : decode m_Tr_seekCommon.2.1 74 = .ok (.aload_n 0, 1) := by decide +kernel
theorem d_Tr_seekCommon_75 : decode m_Tr_seekCommon.2.1 75 = .ok (.getfield 91, 3) := by decide +kernel
theorem d_Tr_seekCommon_78 : decode m_Tr_seekCommon.2.1 78 = .ok (.iconst (-1), 1) := by decide +kernel
theorem d_Tr_seekCommon_79 : decode m_Tr_seekCommon.2.1 79 = .ok (.if_icmp .eq 12, 3) := by decide +kernel
theorem d_Tr_seekCommon_82 : decode m_Tr_seekCommon.2.1 82 = .ok (.iload 5, 2) := by decide +kernel
theorem d_Tr_seekCommon_84 : decode m_Tr_seekCommon.2.1 84 = .ok (.aload_n 0, 1) := by decide +kernel
theorem d_Tr_seekCommon_85 : decode m_Tr_seekCommon.2.1 85 = .ok (.getfield 94, 3) := by decide +kernel
theorem d_Tr_seekCommon_88 : decode m_Tr_seekCommon.2.1 88 = .ok (.if_icmp .ge 15, 3) := by decide +kernel
theorem d_Tr_seekCommon_91 : decode m_Tr_seekCommon.2.1 91 = .ok (.aload_n 0, 1) := by decide +kernel
theorem d_Tr_seekCommon_92 : decode m_Tr_seekCommon.2.1 92 = .ok (.iload 4, 2) := by decide +kernel
theorem d_Tr_seekCommon_94 : decode m_Tr_seekCommon.2.1 94 = .ok (.putfield 91, 3) := by decide +kernel
theorem d_Tr_seekCommon_97 : decode m_Tr_seekCommon.2.1 97 = .ok (.aload_n 0, 1) := by decide +kernel
theorem d_Tr_seekCommon_98 : decode m_Tr_seekCommon.2.1 98 = .ok (.iload 5, 2) := by decide +kernel
theorem d_Tr_seekCommon_100 : decode m_Tr_seekCommon.2.1 100 = .ok (.putfield 94, 3) := by decide +kernel
theorem d_Tr_seekCommon_103 : decode m_Tr_seekCommon.2.1 103 = .ok (.iinc 4 1, 3) := by decide +kernel
theorem d_Tr_seekCommon_106 : decode m_Tr_seekCommon.2.1 106 = .ok (.goto (-98), 3) := by decide +kernel
theorem d_Tr_seekCommon_109 : decode m_Tr_seekCommon.2.1 109 = .ok (.return_, 1) := by decide +kernel
theorem g_Tr_seekCommon_0 {X : XS} (a1 : List Nat) (a2 : Int32) (a3 : Int32) (h : Hp) (Q : Option AV → Hp → Prop) (w_a1 : IsPl a1) (k : Rn X m_Tr_seekCommon 8 [some (vR [6, 0]), some (vR a1), some (vI a2), some (vI a3), some (vI 0), none, none] [] (hsI h [6, 0] 5 (-1)) Q) : Rn X m_Tr_seekCommon 0 [some (vR [6, 0]), some (vR a1), some (vI a2), some (vI a3), none, none, none] [] h Q := by
  refine Rn.aload_n (n := 1) (i := 0) d_Tr_seekCommon_0 rfl rfl rfl ?_
  refine Rn.iconst (n := 2) (v := (-1)) d_Tr_seekCommon_1 rfl (by decide) ?_
  refine Rn.putI (n := 5) d_Tr_seekCommon_2 rfl fl_Tr_91 pl_Tr_5 Lv_6_0 rfl ?_
  refine Rn.iconst (n := 6) (v := 0) d_Tr_seekCommon_5 rfl (by decide) ?_
  refine Rn.istore (n := 8) (i := 4) (ls2 := [some (vR [6, 0]), some (vR a1), some (vI a2), some (vI a3), some (vI 0), none, none]) d_Tr_seekCommon_6 rfl (Nat.le_of_ble_eq_true rfl) rfl ?_
  exact k
theorem g_Tr_seekCommon_8 {X : XS} (a1 : List Nat) (a2 : Int32) (a3 : Int32) (a4 : Int32) (h : Hp) (Q : Option AV → Hp → Prop) (w_a1 : IsPl a1) (k : ((2 < a4 → Q none h) ∧ (¬ 2 < a4 → (∃ Q'4, EvV X m_Tr_walkWith [vR [6, 0], vR a1, vI (a4 * 1365)] h Q'4 ∧ ∀ (h3 : Hp), Q'4 h3 → Rn X m_Tr_seekCommon 31 [some (vR [6, 0]), some (vR a1), some (vI a2), some (vI a3), some (vI a4), some (vI 0), some (vI 0)] [] h3 Q)))) : Rn X m_Tr_seekCommon 8 [some (vR [6, 0]), some (vR a1), some (vI a2), some (vI a3), some (vI a4), none, none] [] h Q := by
  refine Rn.iload (n := 10) (i := 4) d_Tr_seekCommon_8 rfl rfl ?_
  refine Rn.iconst (n := 11) (v := 2) d_Tr_seekCommon_10 rfl (by decide) ?_
  refine Rn.icmp_gt (n := 14) (t := 109) d_Tr_seekCommon_11 rfl (by decide) (fun cc => ?_) (fun cc => ?_)
  · have k := k.1 cc
    exact Rn.vret d_Tr_seekCommon_109 rfl k
  · have k := k.2 cc
    refine Rn.aload_n (n := 15) (i := 0) d_Tr_seekCommon_14 rfl rfl rfl ?_
    refine Rn.aload_n (n := 16) (i := 1) d_Tr_seekCommon_15 rfl rfl rfl ?_
    refine Rn.iload (n := 18) (i := 4) d_Tr_seekCommon_16 rfl rfl ?_
    refine Rn.sipush (n := 21) (v := 1365) d_Tr_seekCommon_18 rfl (by decide) ?_
    refine Rn.imul (n := 22) d_Tr_seekCommon_21 rfl ?_
    obtain ⟨Q'4, ev1, k⟩ := k
    refine Rn.callV (n := 25) (av := [vR a1, vI (a4 * 1365)]) d_Tr_seekCommon_22 rfl ml_Tr_seekCommon_65 mi_Tr_walkWith Lv_6_0 rfl rfl rfl rfl (Nat.le_of_ble_eq_true rfl) ev1 (fun v h3 hq => ?_)
    obtain ⟨rfl, hq⟩ := hq
    have k := k h3 hq
    show Rn X m_Tr_seekCommon 25 [some (vR [6, 0]), some (vR a1), some (vI a2), some (vI a3), some (vI a4), none, none] [] h3 Q
    refine Rn.iconst (n := 26) (v := 0) d_Tr_seekCommon_25 rfl (by decide) ?_
    refine Rn.istore (n := 28) (i := 5) (ls2 := [some (vR [6, 0]), some (vR a1), some (vI a2), some (vI a3), some (vI a4), some (vI 0), none]) d_Tr_seekCommon_26 rfl (Nat.le_of_ble_eq_true rfl) rfl ?_
    refine Rn.iconst (n := 29) (v := 0) d_Tr_seekCommon_28 rfl (by decide) ?_
    refine Rn.istore (n := 31) (i := 6) (ls2 := [some (vR [6, 0]), some (vR a1), some (vI a2), some (vI a3), some (vI a4), some (vI 0), some (vI 0)]) d_Tr_seekCommon_29 rfl (Nat.le_of_ble_eq_true rfl) rfl ?_
    exact k
theorem g_Tr_seekCommon_31 {X : XS} (a1 : List Nat) (a2 : Int32) (a3 : Int32) (a4 : Int32) (a5 : Int32) (a6 : Int32) (h : Hp) (Q : Option AV → Hp → Prop) (w_a1 : IsPl a1) (k : ((6 ≤ a6 → (((h.1 [6, 0] 5) = (-1) → Rn X m_Tr_seekCommon 8 [some (vR [6, 0]), some (vR a1), some (vI a2), some (vI a3), some (vI (a4 + 1)), none, none] [] (hsI (hsI h [6, 0] 5 a4) [6, 0] 6 a5) Q) ∧ (¬ (h.1 [6, 0] 5) = (-1) → (((h.1 [6, 0] 6) ≤ a5 → Rn X m_Tr_seekCommon 8 [some (vR [6, 0]), some (vR a1), some (vI a2), some (vI a3), some (vI (a4 + 1)), none, none] [] h Q) ∧ (¬ (h.1 [6, 0] 6) ≤ a5 → Rn X m_Tr_seekCommon 8 [some (vR [6, 0]), some (vR a1), some (vI a2), some (vI a3), some (vI (a4 + 1)), none, none] [] (hsI (hsI h [6, 0] 5 a4) [6, 0] 6 a5) Q))))) ∧ (¬ 6 ≤ a6 → (vp_in a6 6 ∧ (((h.1 [3, 0, 6, 0] a6.toNatClampNeg) = 0 → Rn X m_Tr_seekCommon 31 [some (vR [6, 0]), some (vR a1), some (vI a2), some (vI a3), some (vI a4), some (vI (a5 + 0)), some (vI (a6 + 1))] [] h Q) ∧ (¬ (h.1 [3, 0, 6, 0] a6.toNatClampNeg) = 0 → (∃ Q'5, EvI X m_Tr_paidBy [vR [6, 0], vI a6, vI a2, vI a3] h Q'5 ∧ ∀ (r6 : Int32) (h4 : Hp), Q'5 r6 h4 → Rn X m_Tr_seekCommon 31 [some (vR [6, 0]), some (vR a1), some (vI a2), some (vI a3), some (vI a4), some (vI (a5 + r6)), some (vI (a6 + 1))] [] h4 Q))))))) : Rn X m_Tr_seekCommon 31 [some (vR [6, 0]), some (vR a1), some (vI a2), some (vI a3), some (vI a4), some (vI a5), some (vI a6)] [] h Q := by
  refine Rn.iload (n := 33) (i := 6) d_Tr_seekCommon_31 rfl rfl ?_
  refine Rn.bipush (n := 35) (v := 6) d_Tr_seekCommon_33 rfl (by decide) ?_
  refine Rn.icmp_ge (n := 38) (t := 74) d_Tr_seekCommon_35 rfl (by decide) (fun cc => ?_) (fun cc => ?_)
  · have k := k.1 cc
    refine Rn.aload_n (n := 75) (i := 0) d_Tr_seekCommon_74 rfl rfl rfl ?_
    refine Rn.getf (n := 78) (v := vI (h.1 [6, 0] 5)) d_Tr_seekCommon_75 rfl fl_Tr_91 Lv_6_0 rfl ?_
    refine Rn.iconst (n := 79) (v := (-1)) d_Tr_seekCommon_78 rfl (by decide) ?_
    refine Rn.icmp_eq (n := 82) (t := 91) d_Tr_seekCommon_79 rfl (by decide) (fun cc => ?_) (fun cc => ?_)
    · have k := k.1 cc
      refine Rn.aload_n (n := 92) (i := 0) d_Tr_seekCommon_91 rfl rfl rfl ?_
      refine Rn.iload (n := 94) (i := 4) d_Tr_seekCommon_92 rfl rfl ?_
      refine Rn.putI (n := 97) d_Tr_seekCommon_94 rfl fl_Tr_91 pl_Tr_5 Lv_6_0 rfl ?_
      refine Rn.aload_n (n := 98) (i := 0) d_Tr_seekCommon_97 rfl rfl rfl ?_
      refine Rn.iload (n := 100) (i := 5) d_Tr_seekCommon_98 rfl rfl ?_
      refine Rn.putI (n := 103) d_Tr_seekCommon_100 rfl fl_Tr_94 pl_Tr_6 Lv_6_0 rfl ?_
      refine Rn.iinc (n := 106) (i := 4) (v := a4 + 1) (ls2 := [some (vR [6, 0]), some (vR a1), some (vI a2), some (vI a3), some (vI (a4 + 1)), some (vI a5), some (vI a6)]) d_Tr_seekCommon_103 rfl rfl rfl (Nat.le_of_ble_eq_true rfl) rfl ?_
      refine Rn.goto (n := 8) d_Tr_seekCommon_106 (by decide) ?_
      exact Rn.loc [some (vR [6, 0]), some (vR a1), some (vI a2), some (vI a3), some (vI (a4 + 1)), none, none] (LLe_ok ⟨rfl, ⟨rfl, ⟨rfl, ⟨rfl, ⟨rfl, trivial⟩⟩⟩⟩⟩) k
    · have k := k.2 cc
      refine Rn.iload (n := 84) (i := 5) d_Tr_seekCommon_82 rfl rfl ?_
      refine Rn.aload_n (n := 85) (i := 0) d_Tr_seekCommon_84 rfl rfl rfl ?_
      refine Rn.getf (n := 88) (v := vI (h.1 [6, 0] 6)) d_Tr_seekCommon_85 rfl fl_Tr_94 Lv_6_0 rfl ?_
      refine Rn.icmp_ge (n := 91) (t := 103) d_Tr_seekCommon_88 rfl (by decide) (fun cc => ?_) (fun cc => ?_)
      · have k := k.1 cc
        refine Rn.iinc (n := 106) (i := 4) (v := a4 + 1) (ls2 := [some (vR [6, 0]), some (vR a1), some (vI a2), some (vI a3), some (vI (a4 + 1)), some (vI a5), some (vI a6)]) d_Tr_seekCommon_103 rfl rfl rfl (Nat.le_of_ble_eq_true rfl) rfl ?_
        refine Rn.goto (n := 8) d_Tr_seekCommon_106 (by decide) ?_
        exact Rn.loc [some (vR [6, 0]), some (vR a1), some (vI a2), some (vI a3), some (vI (a4 + 1)), none, none] (LLe_ok ⟨rfl, ⟨rfl, ⟨rfl, ⟨rfl, ⟨rfl, trivial⟩⟩⟩⟩⟩) k
      · have k := k.2 cc
        refine Rn.aload_n (n := 92) (i := 0) d_Tr_seekCommon_91 rfl rfl rfl ?_
        refine Rn.iload (n := 94) (i := 4) d_Tr_seekCommon_92 rfl rfl ?_
        refine Rn.putI (n := 97) d_Tr_seekCommon_94 rfl fl_Tr_91 pl_Tr_5 Lv_6_0 rfl ?_
        refine Rn.aload_n (n := 98) (i := 0) d_Tr_seekCommon_97 rfl rfl rfl ?_
        refine Rn.iload (n := 100) (i := 5) d_Tr_seekCommon_98 rfl rfl ?_
        refine Rn.putI (n := 103) d_Tr_seekCommon_100 rfl fl_Tr_94 pl_Tr_6 Lv_6_0 rfl ?_
        refine Rn.iinc (n := 106) (i := 4) (v := a4 + 1) (ls2 := [some (vR [6, 0]), some (vR a1), some (vI a2), some (vI a3), some (vI (a4 + 1)), some (vI a5), some (vI a6)]) d_Tr_seekCommon_103 rfl rfl rfl (Nat.le_of_ble_eq_true rfl) rfl ?_
        refine Rn.goto (n := 8) d_Tr_seekCommon_106 (by decide) ?_
        exact Rn.loc [some (vR [6, 0]), some (vR a1), some (vI a2), some (vI a3), some (vI (a4 + 1)), none, none] (LLe_ok ⟨rfl, ⟨rfl, ⟨rfl, ⟨rfl, ⟨rfl, trivial⟩⟩⟩⟩⟩) k
  · have k := k.2 cc
    refine Rn.iload (n := 40) (i := 5) d_Tr_seekCommon_38 rfl rfl ?_
    refine Rn.aload_n (n := 41) (i := 0) d_Tr_seekCommon_40 rfl rfl rfl ?_
    refine Rn.getf (n := 44) (v := vR [0, 6, 0]) d_Tr_seekCommon_41 rfl fl_Tr_12 Lv_6_0 rfl ?_
    refine Rn.getf (n := 47) (v := vR [3, 0, 6, 0]) d_Tr_seekCommon_44 rfl fl_Tr_33 Lv_0_6_0 rfl ?_
    refine Rn.iload (n := 49) (i := 6) d_Tr_seekCommon_47 rfl rfl ?_
    obtain ⟨b1, k⟩ := k
    refine Rn.zald (n := 50) (v := h.1 [3, 0, 6, 0] a6.toNatClampNeg) d_Tr_seekCommon_49 rfl Lv_3_0_6_0 b1 rfl ?_
    refine Rn.if_eq (n := 53) (t := 64) d_Tr_seekCommon_50 rfl (by decide) (fun cc => ?_) (fun cc => ?_)
    · have k := k.1 cc
      refine Rn.iconst (n := 65) (v := 0) d_Tr_seekCommon_64 rfl (by decide) ?_
      refine Rn.iadd (n := 66) d_Tr_seekCommon_65 rfl ?_
      refine Rn.istore (n := 68) (i := 5) (ls2 := [some (vR [6, 0]), some (vR a1), some (vI a2), some (vI a3), some (vI a4), some (vI (a5 + 0)), some (vI a6)]) d_Tr_seekCommon_66 rfl (Nat.le_of_ble_eq_true rfl) rfl ?_
      refine Rn.iinc (n := 71) (i := 6) (v := a6 + 1) (ls2 := [some (vR [6, 0]), some (vR a1), some (vI a2), some (vI a3), some (vI a4), some (vI (a5 + 0)), some (vI (a6 + 1))]) d_Tr_seekCommon_68 rfl rfl rfl (Nat.le_of_ble_eq_true rfl) rfl ?_
      refine Rn.goto (n := 31) d_Tr_seekCommon_71 (by decide) ?_
      exact k
    · have k := k.2 cc
      refine Rn.aload_n (n := 54) (i := 0) d_Tr_seekCommon_53 rfl rfl rfl ?_
      refine Rn.iload (n := 56) (i := 6) d_Tr_seekCommon_54 rfl rfl ?_
      refine Rn.iload_n (n := 57) (i := 2) d_Tr_seekCommon_56 rfl rfl rfl ?_
      refine Rn.iload_n (n := 58) (i := 3) d_Tr_seekCommon_57 rfl rfl rfl ?_
      obtain ⟨Q'5, ev2, k⟩ := k
      refine Rn.callV (n := 61) (av := [vI a6, vI a2, vI a3]) d_Tr_seekCommon_58 rfl ml_Tr_seekCommon_84 mi_Tr_paidBy Lv_6_0 rfl rfl rfl rfl (Nat.le_of_ble_eq_true rfl) ev2 (fun v h4 hq => ?_)
      obtain ⟨r6, rfl, hq⟩ := hq
      have k := k r6 h4 hq
      show Rn X m_Tr_seekCommon 61 [some (vR [6, 0]), some (vR a1), some (vI a2), some (vI a3), some (vI a4), some (vI a5), some (vI a6)] [vI r6, vI a5] h4 Q
      refine Rn.goto (n := 65) d_Tr_seekCommon_61 (by decide) ?_
      refine Rn.iadd (n := 66) d_Tr_seekCommon_65 rfl ?_
      refine Rn.istore (n := 68) (i := 5) (ls2 := [some (vR [6, 0]), some (vR a1), some (vI a2), some (vI a3), some (vI a4), some (vI (a5 + r6)), some (vI a6)]) d_Tr_seekCommon_66 rfl (Nat.le_of_ble_eq_true rfl) rfl ?_
      refine Rn.iinc (n := 71) (i := 6) (v := a6 + 1) (ls2 := [some (vR [6, 0]), some (vR a1), some (vI a2), some (vI a3), some (vI a4), some (vI (a5 + r6)), some (vI (a6 + 1))]) d_Tr_seekCommon_68 rfl rfl rfl (Nat.le_of_ble_eq_true rfl) rfl ?_
      refine Rn.goto (n := 31) d_Tr_seekCommon_71 (by decide) ?_
      exact k
theorem e_Tr_seekCommon {X : XS} (a1 : List Nat) (a2 : Int32) (a3 : Int32) (h : Hp) (Q : Option AV → Hp → Prop) (k : Rn X m_Tr_seekCommon 0 [some (vR [6, 0]), some (vR a1), some (vI a2), some (vI a3), none, none, none] [] h Q) : Ev X m_Tr_seekCommon [vR [6, 0], vR a1, vI a2, vI a3] h Q := Ev.intro (plainFor_of_name (by decide +kernel)) (Nat.le_of_ble_eq_true rfl) (ls := [some (vR [6, 0]), some (vR a1), some (vI a2), some (vI a3), none, none, none]) rfl k
