theorem d_Ro_isTaken_0 : decode m_Ro_isTaken.2.1 0 = .ok (.iconst 0, 1) := by decide +kernel
theorem d_Ro_isTaken_1 : decode m_Ro_isTaken.2.1 1 = .ok (.istore_n 2, 1) := by decide +kernel
theorem d_Ro_isTaken_2 : decode m_Ro_isTaken.2.1 2 = .ok (.iload_n 2, 1) := by decide +kernel
theorem d_Ro_isTaken_3 : decode m_Ro_isTaken.2.1 3 = .ok (.aload_n 0, 1) := by decide +kernel
theorem d_Ro_isTaken_4 : decode m_Ro_isTaken.2.1 4 = .ok (.getfield 27, 3) := by decide +kernel
theorem d_Ro_isTaken_7 : decode m_Ro_isTaken.2.1 7 = .ok (.if_icmp .ge 27, 3) := by decide +kernel
theorem d_Ro_isTaken_10 : decode m_Ro_isTaken.2.1 10 = .ok (.iload_n 2, 1) := by decide +kernel
theorem d_Ro_isTaken_11 : decode m_Ro_isTaken.2.1 11 = .ok (.bipush 8, 2) := by decide +kernel
theorem d_Ro_isTaken_13 : decode m_Ro_isTaken.2.1 13 = .ok (.if_icmp .ge 21, 3) := by decide +kernel
theorem d_Ro_isTaken_16 : decode m_Ro_isTaken.2.1 16 = .ok (.aload_n 0, 1) := by decide +kernel
theorem d_Ro_isTaken_17 : decode m_Ro_isTaken.2.1 17 = .ok (.getfield 11, 3) := by decide +kernel
theorem d_Ro_isTaken_20 : decode m_Ro_isTaken.2.1 20 = .ok (.iload_n 2, 1) := by decide +kernel
theorem d_Ro_isTaken_21 : decode m_Ro_isTaken.2.1 21 = .ok (.iaload, 1) := by decide +kernel
theorem d_Ro_isTaken_22 : decode m_Ro_isTaken.2.1 22 = .ok (.iload_n 1, 1) := by decide +kernel
theorem d_Ro_isTaken_23 : decode m_Ro_isTaken.2.1 23 = .ok (.if_icmp .ne 5, 3) := by decide +kernel
theorem d_Ro_isTaken_26 : decode m_Ro_isTaken.2.1 26 = .ok (.iconst 1, 1) := by decide +kernel
theorem d_Ro_isTaken_27 : decode m_Ro_isTaken.2.1 27 = .ok (.ireturn, 1) := by decide +kernel
theorem d_Ro_isTaken_28 : decode m_Ro_isTaken.2.1 28 = .ok (.iinc 2 1, 3) := by decide +kernel
theorem d_Ro_isTaken_31 : decode m_Ro_isTaken.2.1 31 = .ok (.goto (-29), 3) := by decide +kernel
theorem d_Ro_isTaken_34 : decode m_Ro_isTaken.2.1 34 = .ok (.iconst 0, 1) := by decide +kernel
theorem d_Ro_isTaken_35 : decode m_Ro_isTaken.2.1 35 = .ok (.ireturn, 1) := by decide +kernel
theorem g_Ro_isTaken_0 {X : XS} (a1 : Int32) (h : Hp) (Q : Option AV → Hp → Prop)  (k : Rn X m_Ro_isTaken 2 [some (vR [7, 0]), some (vI a1), some (vI 0)] [] h Q) : Rn X m_Ro_isTaken 0 [some (vR [7, 0]), some (vI a1), none] [] h Q := by
  refine Rn.iconst (n := 1) (v := 0) d_Ro_isTaken_0 rfl (by decide) ?_
  refine Rn.istore_n (n := 2) (i := 2) (ls2 := [some (vR [7, 0]), some (vI a1), some (vI 0)]) d_Ro_isTaken_1 rfl rfl (Nat.le_of_ble_eq_true rfl) rfl ?_
  exact k
theorem g_Ro_isTaken_2 {X : XS} (a1 : Int32) (a2 : Int32) (h : Hp) (Q : Option AV → Hp → Prop)  (k : (((h.1 [7, 0] 0) ≤ a2 → Q (some (vI 0)) h) ∧ (¬ (h.1 [7, 0] 0) ≤ a2 → ((8 ≤ a2 → Q (some (vI 0)) h) ∧ (¬ 8 ≤ a2 → (vp_in a2 8 ∧ ((¬ (h.1 [1, 7, 0] a2.toNatClampNeg) = a1 → Rn X m_Ro_isTaken 2 [some (vR [7, 0]), some (vI a1), some (vI (a2 + 1))] [] h Q) ∧ ((h.1 [1, 7, 0] a2.toNatClampNeg) = a1 → Q (some (vI 1)) h)))))))) : Rn X m_Ro_isTaken 2 [some (vR [7, 0]), some (vI a1), some (vI a2)] [] h Q := by
  refine Rn.iload_n (n := 3) (i := 2) d_Ro_isTaken_2 rfl rfl rfl ?_
  refine Rn.aload_n (n := 4) (i := 0) d_Ro_isTaken_3 rfl rfl rfl ?_
  refine Rn.getf (n := 7) (v := vI (h.1 [7, 0] 0)) d_Ro_isTaken_4 rfl fl_Ro_27 Lv_7_0 rfl ?_
  refine Rn.icmp_ge (n := 10) (t := 34) d_Ro_isTaken_7 rfl (by decide) (fun cc => ?_) (fun cc => ?_)
  · have k := k.1 cc
    refine Rn.iconst (n := 35) (v := 0) d_Ro_isTaken_34 rfl (by decide) ?_
    exact Rn.iret d_Ro_isTaken_35 rfl rfl k
  · have k := k.2 cc
    refine Rn.iload_n (n := 11) (i := 2) d_Ro_isTaken_10 rfl rfl rfl ?_
    refine Rn.bipush (n := 13) (v := 8) d_Ro_isTaken_11 rfl (by decide) ?_
    refine Rn.icmp_ge (n := 16) (t := 34) d_Ro_isTaken_13 rfl (by decide) (fun cc => ?_) (fun cc => ?_)
    · have k := k.1 cc
      refine Rn.iconst (n := 35) (v := 0) d_Ro_isTaken_34 rfl (by decide) ?_
      exact Rn.iret d_Ro_isTaken_35 rfl rfl k
    · have k := k.2 cc
      refine Rn.aload_n (n := 17) (i := 0) d_Ro_isTaken_16 rfl rfl rfl ?_
      refine Rn.getf (n := 20) (v := vR [1, 7, 0]) d_Ro_isTaken_17 rfl fl_Ro_11 Lv_7_0 rfl ?_
      refine Rn.iload_n (n := 21) (i := 2) d_Ro_isTaken_20 rfl rfl rfl ?_
      obtain ⟨b1, k⟩ := k
      refine Rn.iald (n := 22) (v := h.1 [1, 7, 0] a2.toNatClampNeg) d_Ro_isTaken_21 rfl Lv_1_7_0 b1 rfl ?_
      refine Rn.iload_n (n := 23) (i := 1) d_Ro_isTaken_22 rfl rfl rfl ?_
      refine Rn.icmp_ne (n := 26) (t := 28) d_Ro_isTaken_23 rfl (by decide) (fun cc => ?_) (fun cc => ?_)
      · have k := k.1 cc
        refine Rn.iinc (n := 31) (i := 2) (v := a2 + 1) (ls2 := [some (vR [7, 0]), some (vI a1), some (vI (a2 + 1))]) d_Ro_isTaken_28 rfl rfl rfl (Nat.le_of_ble_eq_true rfl) rfl ?_
        refine Rn.goto (n := 2) d_Ro_isTaken_31 (by decide) ?_
        exact k
      · have k := k.2 cc
        refine Rn.iconst (n := 27) (v := 1) d_Ro_isTaken_26 rfl (by decide) ?_
        exact Rn.iret d_Ro_isTaken_27 rfl rfl k
theorem e_Ro_isTaken {X : XS} (a1 : Int32) (h : Hp) (Q : Option AV → Hp → Prop) (k : Rn X m_Ro_isTaken 0 [some (vR [7, 0]), some (vI a1), none] [] h Q) : Ev X m_Ro_isTaken [vR [7, 0], vI a1] h Q := Ev.intro (plainFor_of_name (by decide +kernel)) (Nat.le_of_ble_eq_true rfl) (ls := [some (vR [7, 0]), some (vI a1), none]) rfl k
theorem d_Ro_add_0 : decode m_Ro_add.2.1 0 = .ok (.aload_n 0, 1) := by decide +kernel
theorem d_Ro_add_1 : decode m_Ro_add.2.1 1 = .ok (.getfield 27, 3) := by decide +kernel
theorem d_Ro_add_4 : decode m_Ro_add.2.1 4 = .ok (.ifCond .lt 12, 3) := by decide +kernel
theorem d_Ro_add_7 : decode m_Ro_add.2.1 7 = .ok (.aload_n 0, 1) := by decide +kernel
theorem d_Ro_add_8 : decode m_Ro_add.2.1 8 = .ok (.getfield 27, 3) := by decide +kernel
theorem d_Ro_add_11 : decode m_Ro_add.2.1 11 = .ok (.bipush 8, 2) := by decide +kernel
theorem d_Ro_add_13 : decode m_Ro_add.2.1 13 = .ok (.if_icmp .lt 5, 3) := by decide +kernel
theorem d_Ro_add_16 : decode m_Ro_add.2.1 16 = .ok (.iconst 0, 1) := by decide +kernel
theorem d_Ro_add_17 : decode m_Ro_add.2.1 17 = .ok (.ireturn, 1) := by decide +kernel
theorem d_Ro_add_18 : decode m_Ro_add.2.1 18 = .ok (.aload_n 0, 1) := by decide +kernel
theorem d_Ro_add_19 : decode m_Ro_add.2.1 19 = .ok (.getfield 11, 3) := by decide +kernel
theorem d_Ro_add_22 : decode m_Ro_add.2.1 22 = .ok (.aload_n 0, 1) := by decide +kernel
theorem d_Ro_add_23 : decode m_Ro_add.2.1 23 = .ok (.getfield 27, 3) := by decide +kernel
theorem d_Ro_add_26 : decode m_Ro_add.2.1 26 = .ok (.iload_n 1, 1) := by decide +kernel
theorem d_Ro_add_27 : decode m_Ro_add.2.1 27 = .ok (.iastore, 1) := by decide +kernel
theorem d_Ro_add_28 : decode m_Ro_add.2.1 28 = .ok (.aload_n 0, 1) := by decide +kernel
theorem d_Ro_add_29 : decode m_Ro_add.2.1 29 = .ok (.getfield 15, 3) := by decide +kernel
theorem d_Ro_add_32 : decode m_Ro_add.2.1 32 = .ok (.aload_n 0, 1) := by decide +kernel
theorem d_Ro_add_33 : decode m_Ro_add.2.1 33 = .ok (.getfield 27, 3) := by decide +kernel
theorem d_Ro_add_36 : decode m_Ro_add.2.1 36 = .ok (.iload_n 2, 1) := by decide +kernel
theorem d_Ro_add_37 : decode m_Ro_add.2.1 37 = .ok (.iastore, 1) := by decide +kernel
theorem d_Ro_add_38 : decode m_Ro_add.2.1 38 = .ok (.aload_n 0, 1) := by decide +kernel
theorem d_Ro_add_39 : decode m_Ro_add.2.1 39 = .ok (.getfield 18, 3) := by decide +kernel
theorem d_Ro_add_42 : decode m_Ro_add.2.1 42 = .ok (.aload_n 0, 1) := by decide +kernel
theorem d_Ro_add_43 : decode m_Ro_add.2.1 43 = .ok (.getfield 27, 3) := by decide +kernel
theorem d_Ro_add_46 : decode m_Ro_add.2.1 46 = .ok (.iload_n 3, 1) := by decide +kernel
theorem d_Ro_add_47 : decode m_Ro_add.2.1 47 = .ok (.iastore, 1) := by decide +kernel
theorem d_Ro_add_48 : decode m_Ro_add.2.1 48 = .ok (.aload_n 0, 1) := by decide +kernel
theorem d_Ro_add_49 : decode m_Ro_add.2.1 49 = .ok (.dup, 1) := by decide +kernel
theorem d_Ro_add_50 : decode m_Ro_add.2.1 50 = .ok (.getfield 27, 3) := by decide +kernel
theorem d_Ro_add_53 : decode m_Ro_add.2.1 53 = .ok (.iconst 1, 1) := by decide +kernel
theorem d_Ro_add_54 : decode m_Ro_add.2.1 54 = .ok (.iadd, 1) := by decide +kernel
theorem d_Ro_add_55 : decode m_Ro_add.2.1 55 = .ok (.putfield 27, 3) := by decide +kernel
theorem d_Ro_add_58 : decode m_Ro_add.2.1 58 = .ok (.iconst 1, 1) := by decide +kernel
theorem d_Ro_add_59 : decode m_Ro_add.2.1 59 = .ok (.ireturn, 1) := by decide +kernel
theorem g_Ro_add_0 {X : XS} (a1 : Int32) (a2 : Int32) (a3 : Int32) (h : Hp) (Q : Option AV → Hp → Prop)  (k : (((h.1 [7, 0] 0) < 0 → Q (some (vI 0)) h) ∧ (¬ (h.1 [7, 0] 0) < 0 → (((h.1 [7, 0] 0) < 8 → (vp_in (h.1 [7, 0] 0) 8 ∧ (vp_in ((hsI h [1, 7, 0] ((h.1 [7, 0] 0).toNatClampNeg) a1).1 [7, 0] 0) 8 ∧ (vp_in ((hsI (hsI h [1, 7, 0] ((h.1 [7, 0] 0).toNatClampNeg) a1) [2, 7, 0] (((hsI h [1, 7, 0] ((h.1 [7, 0] 0).toNatClampNeg) a1).1 [7, 0] 0).toNatClampNeg) a2).1 [7, 0] 0) 8 ∧ Q (some (vI 1)) (hsI (hsI (hsI (hsI h [1, 7, 0] ((h.1 [7, 0] 0).toNatClampNeg) a1) [2, 7, 0] (((hsI h [1, 7, 0] ((h.1 [7, 0] 0).toNatClampNeg) a1).1 [7, 0] 0).toNatClampNeg) a2) [3, 7, 0] (((hsI (hsI h [1, 7, 0] ((h.1 [7, 0] 0).toNatClampNeg) a1) [2, 7, 0] (((hsI h [1, 7, 0] ((h.1 [7, 0] 0).toNatClampNeg) a1).1 [7, 0] 0).toNatClampNeg) a2).1 [7, 0] 0).toNatClampNeg) a3) [7, 0] 0 (((hsI (hsI (hsI h [1, 7, 0] ((h.1 [7, 0] 0).toNatClampNeg) a1) [2, 7, 0] (((hsI h [1, 7, 0] ((h.1 [7, 0] 0).toNatClampNeg) a1).1 [7, 0] 0).toNatClampNeg) a2) [3, 7, 0] (((hsI (hsI h [1, 7, 0] ((h.1 [7, 0] 0).toNatClampNeg) a1) [2, 7, 0] (((hsI h [1, 7, 0] ((h.1 [7, 0] 0).toNatClampNeg) a1).1 [7, 0] 0).toNatClampNeg) a2).1 [7, 0] 0).toNatClampNeg) a3).1 [7, 0] 0) + 1)))))) ∧ (¬ (h.1 [7, 0] 0) < 8 → Q (some (vI 0)) h))))) : Rn X m_Ro_add 0 [some (vR [7, 0]), some (vI a1), some (vI a2), some (vI a3)] [] h Q := by
  refine Rn.aload_n (n := 1) (i := 0) d_Ro_add_0 rfl rfl rfl ?_
  refine Rn.getf (n := 4) (v := vI (h.1 [7, 0] 0)) d_Ro_add_1 rfl fl_Ro_27 Lv_7_0 rfl ?_
  refine Rn.if_lt (n := 7) (t := 16) d_Ro_add_4 rfl (by decide) (fun cc => ?_) (fun cc => ?_)
  · have k := k.1 cc
    refine Rn.iconst (n := 17) (v := 0) d_Ro_add_16 rfl (by decide) ?_
    exact Rn.iret d_Ro_add_17 rfl rfl k
  · have k := k.2 cc
    refine Rn.aload_n (n := 8) (i := 0) d_Ro_add_7 rfl rfl rfl ?_
    refine Rn.getf (n := 11) (v := vI (h.1 [7, 0] 0)) d_Ro_add_8 rfl fl_Ro_27 Lv_7_0 rfl ?_
    refine Rn.bipush (n := 13) (v := 8) d_Ro_add_11 rfl (by decide) ?_
    refine Rn.icmp_lt (n := 16) (t := 18) d_Ro_add_13 rfl (by decide) (fun cc => ?_) (fun cc => ?_)
    · have k := k.1 cc
      refine Rn.aload_n (n := 19) (i := 0) d_Ro_add_18 rfl rfl rfl ?_
      refine Rn.getf (n := 22) (v := vR [1, 7, 0]) d_Ro_add_19 rfl fl_Ro_11 Lv_7_0 rfl ?_
      refine Rn.aload_n (n := 23) (i := 0) d_Ro_add_22 rfl rfl rfl ?_
      refine Rn.getf (n := 26) (v := vI (h.1 [7, 0] 0)) d_Ro_add_23 rfl fl_Ro_27 Lv_7_0 rfl ?_
      refine Rn.iload_n (n := 27) (i := 1) d_Ro_add_26 rfl rfl rfl ?_
      obtain ⟨b1, k⟩ := k
      refine Rn.iast (n := 28) d_Ro_add_27 rfl Lv_1_7_0 b1 ?_
      refine Rn.aload_n (n := 29) (i := 0) d_Ro_add_28 rfl rfl rfl ?_
      refine Rn.getf (n := 32) (v := vR [2, 7, 0]) d_Ro_add_29 rfl fl_Ro_15 Lv_7_0 rfl ?_
      refine Rn.aload_n (n := 33) (i := 0) d_Ro_add_32 rfl rfl rfl ?_
      refine Rn.getf (n := 36) (v := vI ((hsI h [1, 7, 0] ((h.1 [7, 0] 0).toNatClampNeg) a1).1 [7, 0] 0)) d_Ro_add_33 rfl fl_Ro_27 Lv_7_0 rfl ?_
      refine Rn.iload_n (n := 37) (i := 2) d_Ro_add_36 rfl rfl rfl ?_
      obtain ⟨b2, k⟩ := k
      refine Rn.iast (n := 38) d_Ro_add_37 rfl Lv_2_7_0 b2 ?_
      refine Rn.aload_n (n := 39) (i := 0) d_Ro_add_38 rfl rfl rfl ?_
      refine Rn.getf (n := 42) (v := vR [3, 7, 0]) d_Ro_add_39 rfl fl_Ro_18 Lv_7_0 rfl ?_
      refine Rn.aload_n (n := 43) (i := 0) d_Ro_add_42 rfl rfl rfl ?_
      refine Rn.getf (n := 46) (v := vI ((hsI (hsI h [1, 7, 0] ((h.1 [7, 0] 0).toNatClampNeg) a1) [2, 7, 0] (((hsI h [1, 7, 0] ((h.1 [7, 0] 0).toNatClampNeg) a1).1 [7, 0] 0).toNatClampNeg) a2).1 [7, 0] 0)) d_Ro_add_43 rfl fl_Ro_27 Lv_7_0 rfl ?_
      refine Rn.iload_n (n := 47) (i := 3) d_Ro_add_46 rfl rfl rfl ?_
      obtain ⟨b3, k⟩ := k
      refine Rn.iast (n := 48) d_Ro_add_47 rfl Lv_3_7_0 b3 ?_
      refine Rn.aload_n (n := 49) (i := 0) d_Ro_add_48 rfl rfl rfl ?_
      refine Rn.dup (n := 50) d_Ro_add_49 rfl rfl ?_
      refine Rn.getf (n := 53) (v := vI ((hsI (hsI (hsI h [1, 7, 0] ((h.1 [7, 0] 0).toNatClampNeg) a1) [2, 7, 0] (((hsI h [1, 7, 0] ((h.1 [7, 0] 0).toNatClampNeg) a1).1 [7, 0] 0).toNatClampNeg) a2) [3, 7, 0] (((hsI (hsI h [1, 7, 0] ((h.1 [7, 0] 0).toNatClampNeg) a1) [2, 7, 0] (((hsI h [1, 7, 0] ((h.1 [7, 0] 0).toNatClampNeg) a1).1 [7, 0] 0).toNatClampNeg) a2).1 [7, 0] 0).toNatClampNeg) a3).1 [7, 0] 0)) d_Ro_add_50 rfl fl_Ro_27 Lv_7_0 rfl ?_
      refine Rn.iconst (n := 54) (v := 1) d_Ro_add_53 rfl (by decide) ?_
      refine Rn.iadd (n := 55) d_Ro_add_54 rfl ?_
      refine Rn.putI (n := 58) d_Ro_add_55 rfl fl_Ro_27 pl_Ro_0 Lv_7_0 rfl ?_
      refine Rn.iconst (n := 59) (v := 1) d_Ro_add_58 rfl (by decide) ?_
      exact Rn.iret d_Ro_add_59 rfl rfl k
    · have k := k.2 cc
      refine Rn.iconst (n := 17) (v := 0) d_Ro_add_16 rfl (by decide) ?_
      exact Rn.iret d_Ro_add_17 rfl rfl k
theorem e_Ro_add {X : XS} (a1 : Int32) (a2 : Int32) (a3 : Int32) (h : Hp) (Q : Option AV → Hp → Prop) (k : Rn X m_Ro_add 0 [some (vR [7, 0]), some (vI a1), some (vI a2), some (vI a3)] [] h Q) : Ev X m_Ro_add [vR [7, 0], vI a1, vI a2, vI a3] h Q := Ev.intro (plainFor_of_name (by decide +kernel)) (Nat.le_of_ble_eq_true rfl) (ls := [some (vR [7, 0]), some (vI a1), some (vI a2), some (vI a3)]) rfl k
theorem d_Ro_letItRain_0 : decode m_Ro_letItRain.2.1 0 = .ok (.aload_n 0, 1) := by decide +kernel
theorem d_Ro_letItRain_1 : decode m_Ro_letItRain.2.1 1 = .ok (.getfield 21, 3) := by decide +kernel
theorem d_Ro_letItRain_4 : decode m_Ro_letItRain.2.1 4 = .ok (.iconst 0, 1) := by decide +kernel
theorem d_Ro_letItRain_5 : decode m_Ro_letItRain.2.1 5 = .ok (.invokestatic 31, 3) := by decide +kernel
theorem d_Ro_letItRain_8 : decode m_Ro_letItRain.2.1 8 = .ok (.aload_n 0, 1) := by decide +kernel
theorem d_Ro_letItRain_9 : decode m_Ro_letItRain.2.1 9 = .ok (.getfield 24, 3) := by decide +kernel
theorem d_Ro_letItRain_12 : decode m_Ro_letItRain.2.1 12 = .ok (.iconst 0, 1) := by decide +kernel
theorem d_Ro_letItRain_13 : decode m_Ro_letItRain.2.1 13 = .ok (.invokestatic 31, 3) := by decide +kernel
theorem d_Ro_letItRain_16 : decode m_Ro_letItRain.2.1 16 = .ok (.iconst 0, 1) := by decide +kernel
theorem d_Ro_letItRain_17 : decode m_Ro_letItRain.2.1 17 = .ok (.istore_n 1, 1) := by decide +kernel
theorem d_Ro_letItRain_18 : decode m_Ro_letItRain.2.1 18 = .ok (.iload_n 1, 1) := by decide +kernel
theorem d_Ro_letItRain_19 : decode m_Ro_letItRain.2.1 19 = .ok (.bipush 20, 2) := by decide +kernel
theorem d_Ro_letItRain_21 : decode m_Ro_letItRain.2.1 21 = .ok (.if_icmp .ge 18, 3) := by decide +kernel
theorem d_Ro_letItRain_24 : decode m_Ro_letItRain.2.1 24 = .ok (.aload_n 0, 1) := by decide +kernel
theorem d_Ro_letItRain_25 : decode m_Ro_letItRain.2.1 25 = .ok (.iload_n 1, 1) := by decide +kernel
theorem d_Ro_letItRain_26 : decode m_Ro_letItRain.2.1 26 = .ok (.sipush 1024, 3) := by decide +kernel
theorem d_Ro_letItRain_29 : decode m_Ro_letItRain.2.1 29 = .ok (.iconst (-1), 1) := by decide +kernel
theorem d_Ro_letItRain_30 : decode m_Ro_letItRain.2.1 30 = .ok (.invokevirtual 37, 3) := by decide +kernel
theorem d_Ro_letItRain_33 : decode m_Ro_letItRain.2.1 33 = .ok (.iinc 1 1, 3) := by decide +kernel
theorem d_Ro_letItRain_36 : decode m_Ro_letItRain.2.1 36 = .ok (.goto (-18), 3) := by decide +kernel
theorem d_Ro_letItRain_39 : decode m_Ro_letItRain.2.1 39 = .ok (.aload_n 0, 1) := by decide +kernel
theorem d_Ro_letItRain_40 : decode m_Ro_letItRain.2.1 40 = .ok (.iconst (-1), 1) := by decide +kernel
theorem d_Ro_letItRain_41 : decode m_Ro_letItRain.2.1 41 = .ok (.invokevirtual 41, 3) := by decide +kernel
theorem d_Ro_letItRain_44 : decode m_Ro_letItRain.2.1 44 = .ok (.istore_n 1, 1) := by decide +kernel
theorem d_Ro_letItRain_45 : decode m_Ro_letItRain.2.1 45 = .ok (.iconst 0, 1) := by decide +kernel
theorem d_Ro_letItRain_46 : decode m_Ro_letItRain.2.1 46 = .ok (.istore_n 2, 1) := by decide +kernel
theorem d_Ro_letItRain_47 : decode m_Ro_letItRain.2.1 47 = .ok (.iload_n 2, 1) := by decide +kernel
theorem d_Ro_letItRain_48 : decode m_Ro_letItRain.2.1 48 = .ok (.bipush 8, 2) := by decide +kernel
theorem d_Ro_letItRain_50 : decode m_Ro_letItRain.2.1 50 = .ok (.if_icmp .ge 30, 3) := by decide +kernel
theorem d_Ro_letItRain_53 : decode m_Ro_letItRain.2.1 53 = .ok (.iload_n 1, 1) := by decide +kernel
theorem d_Ro_letItRain_54 : decode m_Ro_letItRain.2.1 54 = .ok (.ifCond .lt 26, 3) := by decide +kernel
theorem d_Ro_letItRain_57 : decode m_Ro_letItRain.2.1 57 = .ok (.iload_n 1, 1) := by decide +kernel
theorem d_Ro_letItRain_58 : decode m_Ro_letItRain.2.1 58 = .ok (.bipush 8, 2) := by decide +kernel
theorem d_Ro_letItRain_60 : decode m_Ro_letItRain.2.1 60 = .ok (.if_icmp .ge 20, 3) := by decide +kernel
theorem d_Ro_letItRain_63 : decode m_Ro_letItRain.2.1 63 = .ok (.aload_n 0, 1) := by decide +kernel
theorem d_Ro_letItRain_64 : decode m_Ro_letItRain.2.1 64 = .ok (.iload_n 1, 1) := by decide +kernel
theorem d_Ro_letItRain_65 : decode m_Ro_letItRain.2.1 65 = .ok (.invokevirtual 45, 3) := by decide +kernel
theorem d_Ro_letItRain_68 : decode m_Ro_letItRain.2.1 68 = .ok (.aload_n 0, 1) := by decide +kernel
theorem d_Ro_letItRain_69 : decode m_Ro_letItRain.2.1 69 = .ok (.iload_n 1, 1) := by decide +kernel
theorem d_Ro_letItRain_70 : decode m_Ro_letItRain.2.1 70 = .ok (.invokevirtual 41, 3) := by decide +kernel
theorem d_Ro_letItRain_73 : decode m_Ro_letItRain.2.1 73 = .ok (.istore_n 1, 1) := by decide +kernel
theorem d_Ro_letItRain_74 : decode m_Ro_letItRain.2.1 74 = .ok (.iinc 2 1, 3) := by decide +kernel
theorem d_Ro_letItRain_77 : decode m_Ro_letItRain.2.1 77 = .ok (.goto (-30), 3) := by decide +kernel
theorem d_Ro_letItRain_80 : decode m_Ro_letItRain.2.1 80 = .ok (.return_, 1) := by decide +kernel
theorem g_Ro_letItRain_0 {X : XS}  (h : Hp) (Q : Option AV → Hp → Prop)  (k : (∃ Q'4, EvV X m_Ar_fill [vR [4, 7, 0], vI 0] h Q'4 ∧ ∀ (h3 : Hp), Q'4 h3 → (∃ Q'8, EvV X m_Ar_fill [vR [5, 7, 0], vI 0] h3 Q'8 ∧ ∀ (h7 : Hp), Q'8 h7 → Rn X m_Ro_letItRain 18 [some (vR [7, 0]), some (vI 0), none] [] h7 Q))) : Rn X m_Ro_letItRain 0 [some (vR [7, 0]), none, none] [] h Q := by
  refine Rn.aload_n (n := 1) (i := 0) d_Ro_letItRain_0 rfl rfl rfl ?_
  refine Rn.getf (n := 4) (v := vR [4, 7, 0]) d_Ro_letItRain_1 rfl fl_Ro_21 Lv_7_0 rfl ?_
  refine Rn.iconst (n := 5) (v := 0) d_Ro_letItRain_4 rfl (by decide) ?_
  obtain ⟨Q'4, ev1, k⟩ := k
  refine Rn.callS (n := 8) (av := [vR [4, 7, 0], vI 0]) d_Ro_letItRain_5 rfl ml_Ro_letItRain_31 ms_Ar_fill rfl rfl (Nat.le_of_ble_eq_true rfl) ev1 (fun v h3 hq => ?_)
  obtain ⟨rfl, hq⟩ := hq
  have k := k h3 hq
  show Rn X m_Ro_letItRain 8 [some (vR [7, 0]), none, none] [] h3 Q
  refine Rn.aload_n (n := 9) (i := 0) d_Ro_letItRain_8 rfl rfl rfl ?_
  refine Rn.getf (n := 12) (v := vR [5, 7, 0]) d_Ro_letItRain_9 rfl fl_Ro_24 Lv_7_0 rfl ?_
  refine Rn.iconst (n := 13) (v := 0) d_Ro_letItRain_12 rfl (by decide) ?_
  obtain ⟨Q'8, ev5, k⟩ := k
  refine Rn.callS (n := 16) (av := [vR [5, 7, 0], vI 0]) d_Ro_letItRain_13 rfl ml_Ro_letItRain_31 ms_Ar_fill rfl rfl (Nat.le_of_ble_eq_true rfl) ev5 (fun v h7 hq => ?_)
  obtain ⟨rfl, hq⟩ := hq
  have k := k h7 hq
  show Rn X m_Ro_letItRain 16 [some (vR [7, 0]), none, none] [] h7 Q
  refine Rn.iconst (n := 17) (v := 0) d_Ro_letItRain_16 rfl (by decide) ?_
  refine Rn.istore_n (n := 18) (i := 1) (ls2 := [some (vR [7, 0]), some (vI 0), none]) d_Ro_letItRain_17 rfl rfl (Nat.le_of_ble_eq_true rfl) rfl ?_
  exact k
theorem g_Ro_letItRain_18 {X : XS} (a1 : Int32) (h : Hp) (Q : Option AV → Hp → Prop)  (k : ((20 ≤ a1 → (∃ Q'4, EvI X m_Ro_highestBelow [vR [7, 0], vI (-1)] h Q'4 ∧ ∀ (r5 : Int32) (h3 : Hp), Q'4 r5 h3 → Rn X m_Ro_letItRain 47 [some (vR [7, 0]), some (vI r5), some (vI 0)] [] h3 Q)) ∧ (¬ 20 ≤ a1 → (∃ Q'9, EvV X m_Ro_drop [vR [7, 0], vI a1, vI 1024, vI (-1)] h Q'9 ∧ ∀ (h8 : Hp), Q'9 h8 → Rn X m_Ro_letItRain 18 [some (vR [7, 0]), some (vI (a1 + 1)), none] [] h8 Q)))) : Rn X m_Ro_letItRain 18 [some (vR [7, 0]), some (vI a1), none] [] h Q := by
  refine Rn.iload_n (n := 19) (i := 1) d_Ro_letItRain_18 rfl rfl rfl ?_
  refine Rn.bipush (n := 21) (v := 20) d_Ro_letItRain_19 rfl (by decide) ?_
  refine Rn.icmp_ge (n := 24) (t := 39) d_Ro_letItRain_21 rfl (by decide) (fun cc => ?_) (fun cc => ?_)
  · have k := k.1 cc
    refine Rn.aload_n (n := 40) (i := 0) d_Ro_letItRain_39 rfl rfl rfl ?_
    refine Rn.iconst (n := 41) (v := (-1)) d_Ro_letItRain_40 rfl (by decide) ?_
    obtain ⟨Q'4, ev1, k⟩ := k
    refine Rn.callV (n := 44) (av := [vI (-1)]) d_Ro_letItRain_41 rfl ml_Ro_letItRain_41 mi_Ro_highestBelow Lv_7_0 rfl rfl rfl rfl (Nat.le_of_ble_eq_true rfl) ev1 (fun v h3 hq => ?_)
    obtain ⟨r5, rfl, hq⟩ := hq
    have k := k r5 h3 hq
    show Rn X m_Ro_letItRain 44 [some (vR [7, 0]), some (vI a1), none] [vI r5] h3 Q
    refine Rn.istore_n (n := 45) (i := 1) (ls2 := [some (vR [7, 0]), some (vI r5), none]) d_Ro_letItRain_44 rfl rfl (Nat.le_of_ble_eq_true rfl) rfl ?_
    refine Rn.iconst (n := 46) (v := 0) d_Ro_letItRain_45 rfl (by decide) ?_
    refine Rn.istore_n (n := 47) (i := 2) (ls2 := [some (vR [7, 0]), some (vI r5), some (vI 0)]) d_Ro_letItRain_46 rfl rfl (Nat.le_of_ble_eq_true rfl) rfl ?_
    exact k
  · have k := k.2 cc
    refine Rn.aload_n (n := 25) (i := 0) d_Ro_letItRain_24 rfl rfl rfl ?_
    refine Rn.iload_n (n := 26) (i := 1) d_Ro_letItRain_25 rfl rfl rfl ?_
    refine Rn.sipush (n := 29) (v := 1024) d_Ro_letItRain_26 rfl (by decide) ?_
    refine Rn.iconst (n := 30) (v := (-1)) d_Ro_letItRain_29 rfl (by decide) ?_
    obtain ⟨Q'9, ev6, k⟩ := k
    refine Rn.callV (n := 33) (av := [vI a1, vI 1024, vI (-1)]) d_Ro_letItRain_30 rfl ml_Ro_letItRain_37 mi_Ro_drop Lv_7_0 rfl rfl rfl rfl (Nat.le_of_ble_eq_true rfl) ev6 (fun v h8 hq => ?_)
    obtain ⟨rfl, hq⟩ := hq
    have k := k h8 hq
    show Rn X m_Ro_letItRain 33 [some (vR [7, 0]), some (vI a1), none] [] h8 Q
    refine Rn.iinc (n := 36) (i := 1) (v := a1 + 1) (ls2 := [some (vR [7, 0]), some (vI (a1 + 1)), none]) d_Ro_letItRain_33 rfl rfl rfl (Nat.le_of_ble_eq_true rfl) rfl ?_
    refine Rn.goto (n := 18) d_Ro_letItRain_36 (by decide) ?_
    exact k
theorem g_Ro_letItRain_47 {X : XS} (a1 : Int32) (a2 : Int32) (h : Hp) (Q : Option AV → Hp → Prop)  (k : ((8 ≤ a2 → Q none h) ∧ (¬ 8 ≤ a2 → ((a1 < 0 → Q none h) ∧ (¬ a1 < 0 → ((8 ≤ a1 → Q none h) ∧ (¬ 8 ≤ a1 → (∃ Q'4, EvV X m_Ro_runOff [vR [7, 0], vI a1] h Q'4 ∧ ∀ (h3 : Hp), Q'4 h3 → (∃ Q'8, EvI X m_Ro_highestBelow [vR [7, 0], vI a1] h3 Q'8 ∧ ∀ (r9 : Int32) (h7 : Hp), Q'8 r9 h7 → Rn X m_Ro_letItRain 47 [some (vR [7, 0]), some (vI r9), some (vI (a2 + 1))] [] h7 Q))))))))) : Rn X m_Ro_letItRain 47 [some (vR [7, 0]), some (vI a1), some (vI a2)] [] h Q := by
  refine Rn.iload_n (n := 48) (i := 2) d_Ro_letItRain_47 rfl rfl rfl ?_
  refine Rn.bipush (n := 50) (v := 8) d_Ro_letItRain_48 rfl (by decide) ?_
  refine Rn.icmp_ge (n := 53) (t := 80) d_Ro_letItRain_50 rfl (by decide) (fun cc => ?_) (fun cc => ?_)
  · have k := k.1 cc
    exact Rn.vret d_Ro_letItRain_80 rfl k
  · have k := k.2 cc
    refine Rn.iload_n (n := 54) (i := 1) d_Ro_letItRain_53 rfl rfl rfl ?_
    refine Rn.if_lt (n := 57) (t := 80) d_Ro_letItRain_54 rfl (by decide) (fun cc => ?_) (fun cc => ?_)
    · have k := k.1 cc
      exact Rn.vret d_Ro_letItRain_80 rfl k
    · have k := k.2 cc
      refine Rn.iload_n (n := 58) (i := 1) d_Ro_letItRain_57 rfl rfl rfl ?_
      refine Rn.bipush (n := 60) (v := 8) d_Ro_letItRain_58 rfl (by decide) ?_
      refine Rn.icmp_ge (n := 63) (t := 80) d_Ro_letItRain_60 rfl (by decide) (fun cc => ?_) (fun cc => ?_)
      · have k := k.1 cc
        exact Rn.vret d_Ro_letItRain_80 rfl k
      · have k := k.2 cc
        refine Rn.aload_n (n := 64) (i := 0) d_Ro_letItRain_63 rfl rfl rfl ?_
        refine Rn.iload_n (n := 65) (i := 1) d_Ro_letItRain_64 rfl rfl rfl ?_
        obtain ⟨Q'4, ev1, k⟩ := k
        refine Rn.callV (n := 68) (av := [vI a1]) d_Ro_letItRain_65 rfl ml_Ro_letItRain_45 mi_Ro_runOff Lv_7_0 rfl rfl rfl rfl (Nat.le_of_ble_eq_true rfl) ev1 (fun v h3 hq => ?_)
        obtain ⟨rfl, hq⟩ := hq
        have k := k h3 hq
        show Rn X m_Ro_letItRain 68 [some (vR [7, 0]), some (vI a1), some (vI a2)] [] h3 Q
        refine Rn.aload_n (n := 69) (i := 0) d_Ro_letItRain_68 rfl rfl rfl ?_
        refine Rn.iload_n (n := 70) (i := 1) d_Ro_letItRain_69 rfl rfl rfl ?_
        obtain ⟨Q'8, ev5, k⟩ := k
        refine Rn.callV (n := 73) (av := [vI a1]) d_Ro_letItRain_70 rfl ml_Ro_letItRain_41 mi_Ro_highestBelow Lv_7_0 rfl rfl rfl rfl (Nat.le_of_ble_eq_true rfl) ev5 (fun v h7 hq => ?_)
        obtain ⟨r9, rfl, hq⟩ := hq
        have k := k r9 h7 hq
        show Rn X m_Ro_letItRain 73 [some (vR [7, 0]), some (vI a1), some (vI a2)] [vI r9] h7 Q
        refine Rn.istore_n (n := 74) (i := 1) (ls2 := [some (vR [7, 0]), some (vI r9), some (vI a2)]) d_Ro_letItRain_73 rfl rfl (Nat.le_of_ble_eq_true rfl) rfl ?_
        refine Rn.iinc (n := 77) (i := 2) (v := a2 + 1) (ls2 := [some (vR [7, 0]), some (vI r9), some (vI (a2 + 1))]) d_Ro_letItRain_74 rfl rfl rfl (Nat.le_of_ble_eq_true rfl) rfl ?_
        refine Rn.goto (n := 47) d_Ro_letItRain_77 (by decide) ?_
        exact k
theorem e_Ro_letItRain {X : XS}  (h : Hp) (Q : Option AV → Hp → Prop) (k : Rn X m_Ro_letItRain 0 [some (vR [7, 0]), none, none] [] h Q) : Ev X m_Ro_letItRain [vR [7, 0]] h Q := Ev.intro (plainFor_of_name (by decide +kernel)) (Nat.le_of_ble_eq_true rfl) (ls := [some (vR [7, 0]), none, none]) rfl k
theorem d_Ro_runOff_0 : decode m_Ro_runOff.2.1 0 = .ok (.iload_n 1, 1) := by decide +kernel
theorem d_Ro_runOff_1 : decode m_Ro_runOff.2.1 1 = .ok (.ifCond .lt 9, 3) := by decide +kernel
theorem d_Ro_runOff_4 : decode m_Ro_runOff.2.1 4 = .ok (.iload_n 1, 1) := by decide +kernel
theorem d_Ro_runOff_5 : decode m_Ro_runOff.2.1 5 = .ok (.bipush 8, 2) := by decide +kernel
theorem d_Ro_runOff_7 : decode m_Ro_runOff.2.1 7 = .ok (.if_icmp .lt 4, 3) := by decide +kernel
theorem d_Ro_runOff_10 : decode m_Ro_runOff.2.1 10 = .ok (.return_, 1) := by decide +kernel
theorem d_Ro_runOff_11 : decode m_Ro_runOff.2.1 11 = .ok (.aload_n 0, 1) := by decide +kernel
theorem d_Ro_runOff_12 : decode m_Ro_runOff.2.1 12 = .ok (.getfield 21, 3) := by decide +kernel
theorem d_Ro_runOff_15 : decode m_Ro_runOff.2.1 15 = .ok (.iload_n 1, 1) := by decide +kernel
theorem d_Ro_runOff_16 : decode m_Ro_runOff.2.1 16 = .ok (.iaload, 1) := by decide +kernel
theorem d_Ro_runOff_17 : decode m_Ro_runOff.2.1 17 = .ok (.iconst 2, 1) := by decide +kernel
theorem d_Ro_runOff_18 : decode m_Ro_runOff.2.1 18 = .ok (.idiv, 1) := by decide +kernel
theorem d_Ro_runOff_19 : decode m_Ro_runOff.2.1 19 = .ok (.istore_n 2, 1) := by decide +kernel
theorem d_Ro_runOff_20 : decode m_Ro_runOff.2.1 20 = .ok (.aload_n 0, 1) := by decide +kernel
theorem d_Ro_runOff_21 : decode m_Ro_runOff.2.1 21 = .ok (.aload_n 0, 1) := by decide +kernel
theorem d_Ro_runOff_22 : decode m_Ro_runOff.2.1 22 = .ok (.getfield 11, 3) := by decide +kernel
theorem d_Ro_runOff_25 : decode m_Ro_runOff.2.1 25 = .ok (.iload_n 1, 1) := by decide +kernel
theorem d_Ro_runOff_26 : decode m_Ro_runOff.2.1 26 = .ok (.iaload, 1) := by decide +kernel
theorem d_Ro_runOff_27 : decode m_Ro_runOff.2.1 27 = .ok (.aload_n 0, 1) := by decide +kernel
theorem d_Ro_runOff_28 : decode m_Ro_runOff.2.1 28 = .ok (.getfield 15, 3) := by decide +kernel
theorem d_Ro_runOff_31 : decode m_Ro_runOff.2.1 31 = .ok (.iload_n 1, 1) := by decide +kernel
theorem d_Ro_runOff_32 : decode m_Ro_runOff.2.1 32 = .ok (.iaload, 1) := by decide +kernel
theorem d_Ro_runOff_33 : decode m_Ro_runOff.2.1 33 = .ok (.isub, 1) := by decide +kernel
theorem d_Ro_runOff_34 : decode m_Ro_runOff.2.1 34 = .ok (.aload_n 0, 1) := by decide +kernel
theorem d_Ro_runOff_35 : decode m_Ro_runOff.2.1 35 = .ok (.getfield 21, 3) := by decide +kernel
theorem d_Ro_runOff_38 : decode m_Ro_runOff.2.1 38 = .ok (.iload_n 1, 1) := by decide +kernel
theorem d_Ro_runOff_39 : decode m_Ro_runOff.2.1 39 = .ok (.iaload, 1) := by decide +kernel
theorem d_Ro_runOff_40 : decode m_Ro_runOff.2.1 40 = .ok (.iload_n 2, 1) := by decide +kernel
theorem d_Ro_runOff_41 : decode m_Ro_runOff.2.1 41 = .ok (.isub, 1) := by decide +kernel
theorem d_Ro_runOff_42 : decode m_Ro_runOff.2.1 42 = .ok (.iload_n 1, 1) := by decide +kernel
theorem d_Ro_runOff_43 : decode m_Ro_runOff.2.1 43 = .ok (.invokevirtual 37, 3) := by decide +kernel
theorem d_Ro_runOff_46 : decode m_Ro_runOff.2.1 46 = .ok (.aload_n 0, 1) := by decide +kernel
theorem d_Ro_runOff_47 : decode m_Ro_runOff.2.1 47 = .ok (.aload_n 0, 1) := by decide +kernel
theorem d_Ro_runOff_48 : decode m_Ro_runOff.2.1 48 = .ok (.getfield 11, 3) := by decide +kernel
theorem d_Ro_runOff_51 : decode m_Ro_runOff.2.1 51 = .ok (.iload_n 1, 1) := by decide +kernel
theorem d_Ro_runOff_52 : decode m_Ro_runOff.2.1 52 = .ok (.iaload, 1) := by decide +kernel
theorem d_Ro_runOff_53 : decode m_Ro_runOff.2.1 53 = .ok (.aload_n 0, 1) := by decide +kernel
theorem d_Ro_runOff_54 : decode m_Ro_runOff.2.1 54 = .ok (.getfield 15, 3) := by decide +kernel
theorem d_Ro_runOff_57 : decode m_Ro_runOff.2.1 57 = .ok (.iload_n 1, 1) := by decide +kernel
theorem d_Ro_runOff_58 : decode m_Ro_runOff.2.1 58 = .ok (.iaload, 1) := by decide +kernel
theorem d_Ro_runOff_59 : decode m_Ro_runOff.2.1 59 = .ok (.iadd, 1) := by decide +kernel
theorem d_Ro_runOff_60 : decode m_Ro_runOff.2.1 60 = .ok (.iload_n 2, 1) := by decide +kernel
theorem d_Ro_runOff_61 : decode m_Ro_runOff.2.1 61 = .ok (.iload_n 1, 1) := by decide +kernel
theorem d_Ro_runOff_62 : decode m_Ro_runOff.2.1 62 = .ok (.invokevirtual 37, 3) := by decide +kernel
theorem d_Ro_runOff_65 : decode m_Ro_runOff.2.1 65 = .ok (.return_, 1) := by decide +kernel
theorem g_Ro_runOff_0 {X : XS} (a1 : Int32) (h : Hp) (Q : Option AV → Hp → Prop)  (k : ((a1 < 0 → Q none h) ∧ (¬ a1 < 0 → ((a1 < 8 → (vp_in a1 8 ∧ (vp_in a1 8 ∧ (vp_in a1 8 ∧ (vp_in a1 8 ∧ (∃ Q'8, EvV X m_Ro_drop [vR [7, 0], vI ((h.1 [1, 7, 0] a1.toNatClampNeg) - (h.1 [2, 7, 0] a1.toNatClampNeg)), vI ((h.1 [4, 7, 0] a1.toNatClampNeg) - ((h.1 [4, 7, 0] a1.toNatClampNeg) / 2)), vI a1] h Q'8 ∧ ∀ (h7 : Hp), Q'8 h7 → (vp_in a1 8 ∧ (vp_in a1 8 ∧ (∃ Q'14, EvV X m_Ro_drop [vR [7, 0], vI ((h7.1 [1, 7, 0] a1.toNatClampNeg) + (h7.1 [2, 7, 0] a1.toNatClampNeg)), vI ((h.1 [4, 7, 0] a1.toNatClampNeg) / 2), vI a1] h7 Q'14 ∧ ∀ (h13 : Hp), Q'14 h13 → Q none h13))))))))) ∧ (¬ a1 < 8 → Q none h))))) : Rn X m_Ro_runOff 0 [some (vR [7, 0]), some (vI a1), none] [] h Q := by
  refine Rn.iload_n (n := 1) (i := 1) d_Ro_runOff_0 rfl rfl rfl ?_
  refine Rn.if_lt (n := 4) (t := 10) d_Ro_runOff_1 rfl (by decide) (fun cc => ?_) (fun cc => ?_)
  · have k := k.1 cc
    exact Rn.vret d_Ro_runOff_10 rfl k
  · have k := k.2 cc
    refine Rn.iload_n (n := 5) (i := 1) d_Ro_runOff_4 rfl rfl rfl ?_
    refine Rn.bipush (n := 7) (v := 8) d_Ro_runOff_5 rfl (by decide) ?_
    refine Rn.icmp_lt (n := 10) (t := 11) d_Ro_runOff_7 rfl (by decide) (fun cc => ?_) (fun cc => ?_)
    · have k := k.1 cc
      refine Rn.aload_n (n := 12) (i := 0) d_Ro_runOff_11 rfl rfl rfl ?_
      refine Rn.getf (n := 15) (v := vR [4, 7, 0]) d_Ro_runOff_12 rfl fl_Ro_21 Lv_7_0 rfl ?_
      refine Rn.iload_n (n := 16) (i := 1) d_Ro_runOff_15 rfl rfl rfl ?_
      obtain ⟨b1, k⟩ := k
      refine Rn.iald (n := 17) (v := h.1 [4, 7, 0] a1.toNatClampNeg) d_Ro_runOff_16 rfl Lv_4_7_0 b1 rfl ?_
      refine Rn.iconst (n := 18) (v := 2) d_Ro_runOff_17 rfl (by decide) ?_
      refine Rn.idiv (n := 19) d_Ro_runOff_18 rfl (by decide) ?_
      refine Rn.istore_n (n := 20) (i := 2) (ls2 := [some (vR [7, 0]), some (vI a1), some (vI ((h.1 [4, 7, 0] a1.toNatClampNeg) / 2))]) d_Ro_runOff_19 rfl rfl (Nat.le_of_ble_eq_true rfl) rfl ?_
      refine Rn.aload_n (n := 21) (i := 0) d_Ro_runOff_20 rfl rfl rfl ?_
      refine Rn.aload_n (n := 22) (i := 0) d_Ro_runOff_21 rfl rfl rfl ?_
      refine Rn.getf (n := 25) (v := vR [1, 7, 0]) d_Ro_runOff_22 rfl fl_Ro_11 Lv_7_0 rfl ?_
      refine Rn.iload_n (n := 26) (i := 1) d_Ro_runOff_25 rfl rfl rfl ?_
      obtain ⟨b2, k⟩ := k
      refine Rn.iald (n := 27) (v := h.1 [1, 7, 0] a1.toNatClampNeg) d_Ro_runOff_26 rfl Lv_1_7_0 b2 rfl ?_
      refine Rn.aload_n (n := 28) (i := 0) d_Ro_runOff_27 rfl rfl rfl ?_
      refine Rn.getf (n := 31) (v := vR [2, 7, 0]) d_Ro_runOff_28 rfl fl_Ro_15 Lv_7_0 rfl ?_
      refine Rn.iload_n (n := 32) (i := 1) d_Ro_runOff_31 rfl rfl rfl ?_
      obtain ⟨b3, k⟩ := k
      refine Rn.iald (n := 33) (v := h.1 [2, 7, 0] a1.toNatClampNeg) d_Ro_runOff_32 rfl Lv_2_7_0 b3 rfl ?_
      refine Rn.isub (n := 34) d_Ro_runOff_33 rfl ?_
      refine Rn.aload_n (n := 35) (i := 0) d_Ro_runOff_34 rfl rfl rfl ?_
      refine Rn.getf (n := 38) (v := vR [4, 7, 0]) d_Ro_runOff_35 rfl fl_Ro_21 Lv_7_0 rfl ?_
      refine Rn.iload_n (n := 39) (i := 1) d_Ro_runOff_38 rfl rfl rfl ?_
      obtain ⟨b4, k⟩ := k
      refine Rn.iald (n := 40) (v := h.1 [4, 7, 0] a1.toNatClampNeg) d_Ro_runOff_39 rfl Lv_4_7_0 b4 rfl ?_
      refine Rn.iload_n (n := 41) (i := 2) d_Ro_runOff_40 rfl rfl rfl ?_
      refine Rn.isub (n := 42) d_Ro_runOff_41 rfl ?_
      refine Rn.iload_n (n := 43) (i := 1) d_Ro_runOff_42 rfl rfl rfl ?_
      obtain ⟨Q'8, ev5, k⟩ := k
      refine Rn.callV (n := 46) (av := [vI ((h.1 [1, 7, 0] a1.toNatClampNeg) - (h.1 [2, 7, 0] a1.toNatClampNeg)), vI ((h.1 [4, 7, 0] a1.toNatClampNeg) - ((h.1 [4, 7, 0] a1.toNatClampNeg) / 2)), vI a1]) d_Ro_runOff_43 rfl ml_Ro_runOff_37 mi_Ro_drop Lv_7_0 rfl rfl rfl rfl (Nat.le_of_ble_eq_true rfl) ev5 (fun v h7 hq => ?_)
      obtain ⟨rfl, hq⟩ := hq
      have k := k h7 hq
      show Rn X m_Ro_runOff 46 [some (vR [7, 0]), some (vI a1), some (vI ((h.1 [4, 7, 0] a1.toNatClampNeg) / 2))] [] h7 Q
      refine Rn.aload_n (n := 47) (i := 0) d_Ro_runOff_46 rfl rfl rfl ?_
      refine Rn.aload_n (n := 48) (i := 0) d_Ro_runOff_47 rfl rfl rfl ?_
      refine Rn.getf (n := 51) (v := vR [1, 7, 0]) d_Ro_runOff_48 rfl fl_Ro_11 Lv_7_0 rfl ?_
      refine Rn.iload_n (n := 52) (i := 1) d_Ro_runOff_51 rfl rfl rfl ?_
      obtain ⟨b9, k⟩ := k
      refine Rn.iald (n := 53) (v := h7.1 [1, 7, 0] a1.toNatClampNeg) d_Ro_runOff_52 rfl Lv_1_7_0 b9 rfl ?_
      refine Rn.aload_n (n := 54) (i := 0) d_Ro_runOff_53 rfl rfl rfl ?_
      refine Rn.getf (n := 57) (v := vR [2, 7, 0]) d_Ro_runOff_54 rfl fl_Ro_15 Lv_7_0 rfl ?_
      refine Rn.iload_n (n := 58) (i := 1) d_Ro_runOff_57 rfl rfl rfl ?_
      obtain ⟨b10, k⟩ := k
      refine Rn.iald (n := 59) (v := h7.1 [2, 7, 0] a1.toNatClampNeg) d_Ro_runOff_58 rfl Lv_2_7_0 b10 rfl ?_
      refine Rn.iadd (n := 60) d_Ro_runOff_59 rfl ?_
      refine Rn.iload_n (n := 61) (i := 2) d_Ro_runOff_60 rfl rfl rfl ?_
      refine Rn.iload_n (n := 62) (i := 1) d_Ro_runOff_61 rfl rfl rfl ?_
      obtain ⟨Q'14, ev11, k⟩ := k
      refine Rn.callV (n := 65) (av := [vI ((h7.1 [1, 7, 0] a1.toNatClampNeg) + (h7.1 [2, 7, 0] a1.toNatClampNeg)), vI ((h.1 [4, 7, 0] a1.toNatClampNeg) / 2), vI a1]) d_Ro_runOff_62 rfl ml_Ro_runOff_37 mi_Ro_drop Lv_7_0 rfl rfl rfl rfl (Nat.le_of_ble_eq_true rfl) ev11 (fun v h13 hq => ?_)
      obtain ⟨rfl, hq⟩ := hq
      have k := k h13 hq
      show Rn X m_Ro_runOff 65 [some (vR [7, 0]), some (vI a1), some (vI ((h.1 [4, 7, 0] a1.toNatClampNeg) / 2))] [] h13 Q
      exact Rn.vret d_Ro_runOff_65 rfl k
    · have k := k.2 cc
      exact Rn.vret d_Ro_runOff_10 rfl k
theorem e_Ro_runOff {X : XS} (a1 : Int32) (h : Hp) (Q : Option AV → Hp → Prop) (k : Rn X m_Ro_runOff 0 [some (vR [7, 0]), some (vI a1), none] [] h Q) : Ev X m_Ro_runOff [vR [7, 0], vI a1] h Q := Ev.intro (plainFor_of_name (by decide +kernel)) (Nat.le_of_ble_eq_true rfl) (ls := [some (vR [7, 0]), some (vI a1), none]) rfl k
theorem d_Ro_drop_0 : decode m_Ro_drop.2.1 0 = .ok (.iload_n 1, 1) := by decide +kernel
theorem d_Ro_drop_1 : decode m_Ro_drop.2.1 1 = .ok (.ifCond .lt 9, 3) := by decide +kernel
theorem d_Ro_drop_4 : decode m_Ro_drop.2.1 4 = .ok (.iload_n 1, 1) := by decide +kernel
theorem d_Ro_drop_5 : decode m_Ro_drop.2.1 5 = .ok (.bipush 20, 2) := by decide +kernel
theorem d_Ro_drop_7 : decode m_Ro_drop.2.1 7 = .ok (.if_icmp .lt 4, 3) := by decide +kernel
theorem d_Ro_drop_10 : decode m_Ro_drop.2.1 10 = .ok (.return_, 1) := by decide +kernel
theorem d_Ro_drop_11 : decode m_Ro_drop.2.1 11 = .ok (.iconst (-1), 1) := by decide +kernel
theorem d_Ro_drop_12 : decode m_Ro_drop.2.1 12 = .ok (.istore 4, 2) := by decide +kernel
theorem d_Ro_drop_14 : decode m_Ro_drop.2.1 14 = .ok (.iconst 0, 1) := by decide +kernel
theorem d_Ro_drop_15 : decode m_Ro_drop.2.1 15 = .ok (.istore 5, 2) := by decide +kernel
theorem d_Ro_drop_17 : decode m_Ro_drop.2.1 17 = .ok (.iload 5, 2) := by decide +kernel
theorem d_Ro_drop_19 : decode m_Ro_drop.2.1 19 = .ok (.aload_n 0, 1) := by decide +kernel
theorem d_Ro_drop_20 : decode m_Ro_drop.2.1 20 = .ok (.getfield 27, 3) := by decide +kernel
theorem d_Ro_drop_23 : decode m_Ro_drop.2.1 23 = .ok (.if_icmp .ge 57, 3) := by decide +kernel
theorem d_Ro_drop_26 : decode m_Ro_drop.2.1 26 = .ok (.iload 5, 2) := by decide +kernel
theorem d_Ro_drop_28 : decode m_Ro_drop.2.1 28 = .ok (.bipush 8, 2) := by decide +kernel
theorem d_Ro_drop_30 : decode m_Ro_drop.2.1 30 = .ok (.if_icmp .ge 50, 3) := by decide +kernel
theorem d_Ro_drop_33 : decode m_Ro_drop.2.1 33 = .ok (.aload_n 0, 1) := by decide +kernel
theorem d_Ro_drop_34 : decode m_Ro_drop.2.1 34 = .ok (.iload 5, 2) := by decide +kernel
theorem d_Ro_drop_36 : decode m_Ro_drop.2.1 36 = .ok (.iload_n 1, 1) := by decide +kernel
theorem d_Ro_drop_37 : decode m_Ro_drop.2.1 37 = .ok (.invokevirtual 49, 3) := by decide +kernel
theorem d_Ro_drop_40 : decode m_Ro_drop.2.1 40 = .ok (.ifCond .eq 34, 3) := by decide +kernel
theorem d_Ro_drop_43 : decode m_Ro_drop.2.1 43 = .ok (.aload_n 0, 1) := by decide +kernel
theorem d_Ro_drop_44 : decode m_Ro_drop.2.1 44 = .ok (.iload 5, 2) := by decide +kernel
theorem d_Ro_drop_46 : decode m_Ro_drop.2.1 46 = .ok (.iload_n 3, 1) := by decide +kernel
theorem d_Ro_drop_47 : decode m_Ro_drop.2.1 47 = .ok (.invokevirtual 53, 3) := by decide +kernel
theorem d_Ro_drop_50 : decode m_Ro_drop.2.1 50 = .ok (.ifCond .eq 24, 3) := by decide +kernel
theorem d_Ro_drop_53 : decode m_Ro_drop.2.1 53 = .ok (.iload 4, 2) := by decide +kernel
theorem d_Ro_drop_55 : decode m_Ro_drop.2.1 55 = .ok (.iconst (-1), 1) := by decide +kernel
theorem d_Ro_drop_56 : decode m_Ro_drop.2.1 56 = .ok (.if_icmp .eq 14, 3) := by decide +kernel
theorem d_Ro_drop_59 : decode m_Ro_drop.2.1 59 = .ok (.aload_n 0, 1) := by decide +kernel
theorem d_Ro_drop_60 : decode m_Ro_drop.2.1 60 = .ok (.iload 4, 2) := by decide +kernel
theorem d_Ro_drop_62 : decode m_Ro_drop.2.1 62 = .ok (.iload 5, 2) := by decide +kernel
theorem d_Ro_drop_64 : decode m_Ro_drop.2.1 64 = .ok (.invokevirtual 53, 3) := by decide +kernel
theorem d_Ro_drop_67 : decode m_Ro_drop.2.1 67 = .ok (.ifCond .eq 7, 3) := by decide +kernel
theorem d_Ro_drop_70 : decode m_Ro_drop.2.1 70 = .ok (.iload 5, 2) := by decide +kernel
theorem d_Ro_drop_72 : decode m_Ro_drop.2.1 72 = .ok (.istore 4, 2) := by decide +kernel
theorem d_Ro_drop_74 : decode m_Ro_drop.2.1 74 = .ok (.iinc 5 1, 3) := by decide +kernel
theorem d_Ro_drop_77 : decode m_Ro_drop.2.1 77 = .ok (.goto (-60), 3) := by decide +kernel
theorem d_Ro_drop_80 : decode m_Ro_drop.2.1 80 = .ok (.iload 4, 2) := by decide +kernel
theorem d_Ro_drop_82 : decode m_Ro_drop.2.1 82 = .ok (.ifCond .lt 24, 3) := by decide +kernel
theorem d_Ro_drop_85 : decode m_Ro_drop.2.1 85 = .ok (.iload 4, 2) := by decide +kernel
theorem d_Ro_drop_87 : decode m_Ro_drop.2.1 87 = .ok (.bipush 8, 2) := by decide +kernel
theorem d_Ro_drop_89 : decode m_Ro_drop.2.1 89 = .ok (.if_icmp .ge 17, 3) := by decide +kernel
theorem d_Ro_drop_92 : decode m_Ro_drop.2.1 92 = .ok (.aload_n 0, 1) := by decide +kernel
theorem d_Ro_drop_93 : decode m_Ro_drop.2.1 93 = .ok (.getfield 21, 3) := by decide +kernel
theorem d_Ro_drop_96 : decode m_Ro_drop.2.1 96 = .ok (.iload 4, 2) := by decide +kernel
theorem d_Ro_drop_98 : decode m_Ro_drop.2.1 98 = .ok (.dup2, 1) := by decide +kernel
theorem d_Ro_drop_99 : decode m_Ro_drop.2.1 99 = .ok (.iaload, 1) := by decide +kernel
theorem d_Ro_drop_100 : decode m_Ro_drop.2.1 100 = .ok (.iload_n 2, 1) := by decide +kernel
theorem d_Ro_drop_101 : decode m_Ro_drop.2.1 101 = .ok (.iadd, 1) := by decide +kernel
theorem d_Ro_drop_102 : decode m_Ro_drop.2.1 102 = .ok (.iastore, 1) := by decide +kernel
theorem d_Ro_drop_103 : decode m_Ro_drop.2.1 103 = .ok (.goto 13, 3) := by decide +kernel
theorem d_Ro_drop_106 : decode m_Ro_drop.2.1 106 = .ok (.aload_n 0, 1) := by decide +kernel
theorem d_Ro_drop_107 : decode m_Ro_drop.2.1 107 = .ok (.getfield 24, 3) := by decide +kernel
theorem d_Ro_drop_110 : decode m_Ro_drop.2.1 110 = .ok (.iload_n 1, 1) := by decide +kernel
theorem d_Ro_drop_111 : decode m_Ro_drop.2.1 111 = .ok (.dup2, 1) := by decide +kernel
theorem d_Ro_drop_112 : decode m_Ro_drop.2.1 112 = .ok (.iaload, 1) := by decide +kernel
theorem d_Ro_drop_113 : decode m_Ro_drop.2.1 113 = .ok (.iload_n 2, 1) := by decide +kernel
theorem d_Ro_drop_114 : decode m_Ro_drop.2.1 114 = .ok (.iadd, 1) := by decide +kernel
theorem d_Ro_drop_115 : decode m_Ro_drop.2.1 115 = .ok (.iastore, 1) := by decide +kernel
theorem d_Ro_drop_116 : decode m_Ro_drop.2.1 116 = .ok (.return_, 1) := by decide +kernel
theorem g_Ro_drop_0 {X : XS} (a1 : Int32) (a2 : Int32) (a3 : Int32) (h : Hp) (Q : Option AV → Hp → Prop)  (k : ((a1 < 0 → Q none h) ∧ (¬ a1 < 0 → ((a1 < 20 → Rn X m_Ro_drop 17 [some (vR [7, 0]), some (vI a1), some (vI a2), some (vI a3), some (vI (-1)), some (vI 0)] [] h Q) ∧ (¬ a1 < 20 → Q none h))))) : Rn X m_Ro_drop 0 [some (vR [7, 0]), some (vI a1), some (vI a2), some (vI a3), none, none] [] h Q := by
  refine Rn.iload_n (n := 1) (i := 1) d_Ro_drop_0 rfl rfl rfl ?_
  refine Rn.if_lt (n := 4) (t := 10) d_Ro_drop_1 rfl (by decide) (fun cc => ?_) (fun cc => ?_)
  · have k := k.1 cc
    exact Rn.vret d_Ro_drop_10 rfl k
  · have k := k.2 cc
    refine Rn.iload_n (n := 5) (i := 1) d_Ro_drop_4 rfl rfl rfl ?_
    refine Rn.bipush (n := 7) (v := 20) d_Ro_drop_5 rfl (by decide) ?_
    refine Rn.icmp_lt (n := 10) (t := 11) d_Ro_drop_7 rfl (by decide) (fun cc => ?_) (fun cc => ?_)
    · have k := k.1 cc
      refine Rn.iconst (n := 12) (v := (-1)) d_Ro_drop_11 rfl (by decide) ?_
      refine Rn.istore (n := 14) (i := 4) (ls2 := [some (vR [7, 0]), some (vI a1), some (vI a2), some (vI a3), some (vI (-1)), none]) d_Ro_drop_12 rfl (Nat.le_of_ble_eq_true rfl) rfl ?_
      refine Rn.iconst (n := 15) (v := 0) d_Ro_drop_14 rfl (by decide) ?_
      refine Rn.istore (n := 17) (i := 5) (ls2 := [some (vR [7, 0]), some (vI a1), some (vI a2), some (vI a3), some (vI (-1)), some (vI 0)]) d_Ro_drop_15 rfl (Nat.le_of_ble_eq_true rfl) rfl ?_
      exact k
    · have k := k.2 cc
      exact Rn.vret d_Ro_drop_10 rfl k
theorem g_Ro_drop_17 {X : XS} (a1 : Int32) (a2 : Int32) (a3 : Int32) (a4 : Int32) (a5 : Int32) (h : Hp) (Q : Option AV → Hp → Prop)  (k : (((h.1 [7, 0] 0) ≤ a5 → Rn X m_Ro_drop 80 [some (vR [7, 0]), some (vI a1), some (vI a2), some (vI a3), some (vI a4), some (vI a5)] [] h Q) ∧ (¬ (h.1 [7, 0] 0) ≤ a5 → ((8 ≤ a5 → Rn X m_Ro_drop 80 [some (vR [7, 0]), some (vI a1), some (vI a2), some (vI a3), some (vI a4), some (vI a5)] [] h Q) ∧ (¬ 8 ≤ a5 → (∃ Q'4, EvI X m_Ro_isOver [vR [7, 0], vI a5, vI a1] h Q'4 ∧ ∀ (r5 : Int32) (h3 : Hp), Q'4 r5 h3 → ((r5 = 0 → Rn X m_Ro_drop 17 [some (vR [7, 0]), some (vI a1), some (vI a2), some (vI a3), some (vI a4), some (vI (a5 + 1))] [] h3 Q) ∧ (¬ r5 = 0 → (∃ Q'9, EvI X m_Ro_isLower [vR [7, 0], vI a5, vI a3] h3 Q'9 ∧ ∀ (r10 : Int32) (h8 : Hp), Q'9 r10 h8 → ((r10 = 0 → Rn X m_Ro_drop 17 [some (vR [7, 0]), some (vI a1), some (vI a2), some (vI a3), some (vI a4), some (vI (a5 + 1))] [] h8 Q) ∧ (¬ r10 = 0 → ((a4 = (-1) → Rn X m_Ro_drop 17 [some (vR [7, 0]), some (vI a1), some (vI a2), some (vI a3), some (vI a5), some (vI (a5 + 1))] [] h8 Q) ∧ (¬ a4 = (-1) → (∃ Q'14, EvI X m_Ro_isLower [vR [7, 0], vI a4, vI a5] h8 Q'14 ∧ ∀ (r15 : Int32) (h13 : Hp), Q'14 r15 h13 → ((r15 = 0 → Rn X m_Ro_drop 17 [some (vR [7, 0]), some (vI a1), some (vI a2), some (vI a3), some (vI a4), some (vI (a5 + 1))] [] h13 Q) ∧ (¬ r15 = 0 → Rn X m_Ro_drop 17 [some (vR [7, 0]), some (vI a1), some (vI a2), some (vI a3), some (vI a5), some (vI (a5 + 1))] [] h13 Q)))))))))))))))) : Rn X m_Ro_drop 17 [some (vR [7, 0]), some (vI a1), some (vI a2), some (vI a3), some (vI a4), some (vI a5)] [] h Q := by
  refine Rn.iload (n := 19) (i := 5) d_Ro_drop_17 rfl rfl ?_
  refine Rn.aload_n (n := 20) (i := 0) d_Ro_drop_19 rfl rfl rfl ?_
  refine Rn.getf (n := 23) (v := vI (h.1 [7, 0] 0)) d_Ro_drop_20 rfl fl_Ro_27 Lv_7_0 rfl ?_
  refine Rn.icmp_ge (n := 26) (t := 80) d_Ro_drop_23 rfl (by decide) (fun cc => ?_) (fun cc => ?_)
  · have k := k.1 cc
    exact k
  · have k := k.2 cc
    refine Rn.iload (n := 28) (i := 5) d_Ro_drop_26 rfl rfl ?_
    refine Rn.bipush (n := 30) (v := 8) d_Ro_drop_28 rfl (by decide) ?_
    refine Rn.icmp_ge (n := 33) (t := 80) d_Ro_drop_30 rfl (by decide) (fun cc => ?_) (fun cc => ?_)
    · have k := k.1 cc
      exact k
    · have k := k.2 cc
      refine Rn.aload_n (n := 34) (i := 0) d_Ro_drop_33 rfl rfl rfl ?_
      refine Rn.iload (n := 36) (i := 5) d_Ro_drop_34 rfl rfl ?_
      refine Rn.iload_n (n := 37) (i := 1) d_Ro_drop_36 rfl rfl rfl ?_
      obtain ⟨Q'4, ev1, k⟩ := k
      refine Rn.callV (n := 40) (av := [vI a5, vI a1]) d_Ro_drop_37 rfl ml_Ro_drop_49 mi_Ro_isOver Lv_7_0 rfl rfl rfl rfl (Nat.le_of_ble_eq_true rfl) ev1 (fun v h3 hq => ?_)
      obtain ⟨r5, rfl, hq⟩ := hq
      have k := k r5 h3 hq
      show Rn X m_Ro_drop 40 [some (vR [7, 0]), some (vI a1), some (vI a2), some (vI a3), some (vI a4), some (vI a5)] [vI r5] h3 Q
      refine Rn.if_eq (n := 43) (t := 74) d_Ro_drop_40 rfl (by decide) (fun cc => ?_) (fun cc => ?_)
      · have k := k.1 cc
        refine Rn.iinc (n := 77) (i := 5) (v := a5 + 1) (ls2 := [some (vR [7, 0]), some (vI a1), some (vI a2), some (vI a3), some (vI a4), some (vI (a5 + 1))]) d_Ro_drop_74 rfl rfl rfl (Nat.le_of_ble_eq_true rfl) rfl ?_
        refine Rn.goto (n := 17) d_Ro_drop_77 (by decide) ?_
        exact k
      · have k := k.2 cc
        refine Rn.aload_n (n := 44) (i := 0) d_Ro_drop_43 rfl rfl rfl ?_
        refine Rn.iload (n := 46) (i := 5) d_Ro_drop_44 rfl rfl ?_
        refine Rn.iload_n (n := 47) (i := 3) d_Ro_drop_46 rfl rfl rfl ?_
        obtain ⟨Q'9, ev6, k⟩ := k
        refine Rn.callV (n := 50) (av := [vI a5, vI a3]) d_Ro_drop_47 rfl ml_Ro_drop_53 mi_Ro_isLower Lv_7_0 rfl rfl rfl rfl (Nat.le_of_ble_eq_true rfl) ev6 (fun v h8 hq => ?_)
        obtain ⟨r10, rfl, hq⟩ := hq
        have k := k r10 h8 hq
        show Rn X m_Ro_drop 50 [some (vR [7, 0]), some (vI a1), some (vI a2), some (vI a3), some (vI a4), some (vI a5)] [vI r10] h8 Q
        refine Rn.if_eq (n := 53) (t := 74) d_Ro_drop_50 rfl (by decide) (fun cc => ?_) (fun cc => ?_)
        · have k := k.1 cc
          refine Rn.iinc (n := 77) (i := 5) (v := a5 + 1) (ls2 := [some (vR [7, 0]), some (vI a1), some (vI a2), some (vI a3), some (vI a4), some (vI (a5 + 1))]) d_Ro_drop_74 rfl rfl rfl (Nat.le_of_ble_eq_true rfl) rfl ?_
          refine Rn.goto (n := 17) d_Ro_drop_77 (by decide) ?_
          exact k
        · have k := k.2 cc
          refine Rn.iload (n := 55) (i := 4) d_Ro_drop_53 rfl rfl ?_
          refine Rn.iconst (n := 56) (v := (-1)) d_Ro_drop_55 rfl (by decide) ?_
          refine Rn.icmp_eq (n := 59) (t := 70) d_Ro_drop_56 rfl (by decide) (fun cc => ?_) (fun cc => ?_)
          · have k := k.1 cc
            refine Rn.iload (n := 72) (i := 5) d_Ro_drop_70 rfl rfl ?_
            refine Rn.istore (n := 74) (i := 4) (ls2 := [some (vR [7, 0]), some (vI a1), some (vI a2), some (vI a3), some (vI a5), some (vI a5)]) d_Ro_drop_72 rfl (Nat.le_of_ble_eq_true rfl) rfl ?_
            refine Rn.iinc (n := 77) (i := 5) (v := a5 + 1) (ls2 := [some (vR [7, 0]), some (vI a1), some (vI a2), some (vI a3), some (vI a5), some (vI (a5 + 1))]) d_Ro_drop_74 rfl rfl rfl (Nat.le_of_ble_eq_true rfl) rfl ?_
            refine Rn.goto (n := 17) d_Ro_drop_77 (by decide) ?_
            exact k
          · have k := k.2 cc
            refine Rn.aload_n (n := 60) (i := 0) d_Ro_drop_59 rfl rfl rfl ?_
            refine Rn.iload (n := 62) (i := 4) d_Ro_drop_60 rfl rfl ?_
            refine Rn.iload (n := 64) (i := 5) d_Ro_drop_62 rfl rfl ?_
            obtain ⟨Q'14, ev11, k⟩ := k
            refine Rn.callV (n := 67) (av := [vI a4, vI a5]) d_Ro_drop_64 rfl ml_Ro_drop_53 mi_Ro_isLower Lv_7_0 rfl rfl rfl rfl (Nat.le_of_ble_eq_true rfl) ev11 (fun v h13 hq => ?_)
            obtain ⟨r15, rfl, hq⟩ := hq
            have k := k r15 h13 hq
            show Rn X m_Ro_drop 67 [some (vR [7, 0]), some (vI a1), some (vI a2), some (vI a3), some (vI a4), some (vI a5)] [vI r15] h13 Q
            refine Rn.if_eq (n := 70) (t := 74) d_Ro_drop_67 rfl (by decide) (fun cc => ?_) (fun cc => ?_)
            · have k := k.1 cc
              refine Rn.iinc (n := 77) (i := 5) (v := a5 + 1) (ls2 := [some (vR [7, 0]), some (vI a1), some (vI a2), some (vI a3), some (vI a4), some (vI (a5 + 1))]) d_Ro_drop_74 rfl rfl rfl (Nat.le_of_ble_eq_true rfl) rfl ?_
              refine Rn.goto (n := 17) d_Ro_drop_77 (by decide) ?_
              exact k
            · have k := k.2 cc
              refine Rn.iload (n := 72) (i := 5) d_Ro_drop_70 rfl rfl ?_
              refine Rn.istore (n := 74) (i := 4) (ls2 := [some (vR [7, 0]), some (vI a1), some (vI a2), some (vI a3), some (vI a5), some (vI a5)]) d_Ro_drop_72 rfl (Nat.le_of_ble_eq_true rfl) rfl ?_
              refine Rn.iinc (n := 77) (i := 5) (v := a5 + 1) (ls2 := [some (vR [7, 0]), some (vI a1), some (vI a2), some (vI a3), some (vI a5), some (vI (a5 + 1))]) d_Ro_drop_74 rfl rfl rfl (Nat.le_of_ble_eq_true rfl) rfl ?_
              refine Rn.goto (n := 17) d_Ro_drop_77 (by decide) ?_
              exact k
theorem g_Ro_drop_80 {X : XS} (a1 : Int32) (a2 : Int32) (a3 : Int32) (a4 : Int32) (a5 : Int32) (h : Hp) (Q : Option AV → Hp → Prop)  (k : ((a4 < 0 → (vp_in a1 20 ∧ (vp_in a1 20 ∧ Q none (hsI h [5, 7, 0] a1.toNatClampNeg ((h.1 [5, 7, 0] a1.toNatClampNeg) + a2))))) ∧ (¬ a4 < 0 → ((8 ≤ a4 → (vp_in a1 20 ∧ (vp_in a1 20 ∧ Q none (hsI h [5, 7, 0] a1.toNatClampNeg ((h.1 [5, 7, 0] a1.toNatClampNeg) + a2))))) ∧ (¬ 8 ≤ a4 → (vp_in a4 8 ∧ (vp_in a4 8 ∧ Q none (hsI h [4, 7, 0] a4.toNatClampNeg ((h.1 [4, 7, 0] a4.toNatClampNeg) + a2))))))))) : Rn X m_Ro_drop 80 [some (vR [7, 0]), some (vI a1), some (vI a2), some (vI a3), some (vI a4), some (vI a5)] [] h Q := by
  refine Rn.iload (n := 82) (i := 4) d_Ro_drop_80 rfl rfl ?_
  refine Rn.if_lt (n := 85) (t := 106) d_Ro_drop_82 rfl (by decide) (fun cc => ?_) (fun cc => ?_)
  · have k := k.1 cc
    refine Rn.aload_n (n := 107) (i := 0) d_Ro_drop_106 rfl rfl rfl ?_
    refine Rn.getf (n := 110) (v := vR [5, 7, 0]) d_Ro_drop_107 rfl fl_Ro_24 Lv_7_0 rfl ?_
    refine Rn.iload_n (n := 111) (i := 1) d_Ro_drop_110 rfl rfl rfl ?_
    refine Rn.dup2 (n := 112) d_Ro_drop_111 rfl rfl rfl ?_
    obtain ⟨b1, k⟩ := k
    refine Rn.iald (n := 113) (v := h.1 [5, 7, 0] a1.toNatClampNeg) d_Ro_drop_112 rfl Lv_5_7_0 b1 rfl ?_
    refine Rn.iload_n (n := 114) (i := 2) d_Ro_drop_113 rfl rfl rfl ?_
    refine Rn.iadd (n := 115) d_Ro_drop_114 rfl ?_
    obtain ⟨b2, k⟩ := k
    refine Rn.iast (n := 116) d_Ro_drop_115 rfl Lv_5_7_0 b2 ?_
    exact Rn.vret d_Ro_drop_116 rfl k
  · have k := k.2 cc
    refine Rn.iload (n := 87) (i := 4) d_Ro_drop_85 rfl rfl ?_
    refine Rn.bipush (n := 89) (v := 8) d_Ro_drop_87 rfl (by decide) ?_
    refine Rn.icmp_ge (n := 92) (t := 106) d_Ro_drop_89 rfl (by decide) (fun cc => ?_) (fun cc => ?_)
    · have k := k.1 cc
      refine Rn.aload_n (n := 107) (i := 0) d_Ro_drop_106 rfl rfl rfl ?_
      refine Rn.getf (n := 110) (v := vR [5, 7, 0]) d_Ro_drop_107 rfl fl_Ro_24 Lv_7_0 rfl ?_
      refine Rn.iload_n (n := 111) (i := 1) d_Ro_drop_110 rfl rfl rfl ?_
      refine Rn.dup2 (n := 112) d_Ro_drop_111 rfl rfl rfl ?_
      obtain ⟨b3, k⟩ := k
      refine Rn.iald (n := 113) (v := h.1 [5, 7, 0] a1.toNatClampNeg) d_Ro_drop_112 rfl Lv_5_7_0 b3 rfl ?_
      refine Rn.iload_n (n := 114) (i := 2) d_Ro_drop_113 rfl rfl rfl ?_
      refine Rn.iadd (n := 115) d_Ro_drop_114 rfl ?_
      obtain ⟨b4, k⟩ := k
      refine Rn.iast (n := 116) d_Ro_drop_115 rfl Lv_5_7_0 b4 ?_
      exact Rn.vret d_Ro_drop_116 rfl k
    · have k := k.2 cc
      refine Rn.aload_n (n := 93) (i := 0) d_Ro_drop_92 rfl rfl rfl ?_
      refine Rn.getf (n := 96) (v := vR [4, 7, 0]) d_Ro_drop_93 rfl fl_Ro_21 Lv_7_0 rfl ?_
      refine Rn.iload (n := 98) (i := 4) d_Ro_drop_96 rfl rfl ?_
      refine Rn.dup2 (n := 99) d_Ro_drop_98 rfl rfl rfl ?_
      obtain ⟨b5, k⟩ := k
      refine Rn.iald (n := 100) (v := h.1 [4, 7, 0] a4.toNatClampNeg) d_Ro_drop_99 rfl Lv_4_7_0 b5 rfl ?_
      refine Rn.iload_n (n := 101) (i := 2) d_Ro_drop_100 rfl rfl rfl ?_
      refine Rn.iadd (n := 102) d_Ro_drop_101 rfl ?_
      obtain ⟨b6, k⟩ := k
      refine Rn.iast (n := 103) d_Ro_drop_102 rfl Lv_4_7_0 b6 ?_
      refine Rn.goto (n := 116) d_Ro_drop_103 (by decide) ?_
      exact Rn.vret d_Ro_drop_116 rfl k
theorem e_Ro_drop {X : XS} (a1 : Int32) (a2 : Int32) (a3 : Int32) (h : Hp) (Q : Option AV → Hp → Prop) (k : Rn X m_Ro_drop 0 [some (vR [7, 0]), some (vI a1), some (vI a2), some (vI a3), none, none] [] h Q) : Ev X m_Ro_drop [vR [7, 0], vI a1, vI a2, vI a3] h Q := Ev.intro (plainFor_of_name (by decide +kernel)) (Nat.le_of_ble_eq_true rfl) (ls := [some (vR [7, 0]), some (vI a1), some (vI a2), some (vI a3), none, none]) rfl k
theorem d_Ro_highestBelow_0 : decode m_Ro_highestBelow.2.1 0 = .ok (.iconst (-1), 1) := by decide +kernel
theorem d_Ro_highestBelow_1 : decode m_Ro_highestBelow.2.1 1 = .ok (.istore_n 2, 1) := by decide +kernel
theorem d_Ro_highestBelow_2 : decode m_Ro_highestBelow.2.1 2 = .ok (.iconst 0, 1) := by decide +kernel
theorem d_Ro_highestBelow_3 : decode m_Ro_highestBelow.2.1 3 = .ok (.istore_n 3, 1) := by decide +kernel
theorem d_Ro_highestBelow_4 : decode m_Ro_highestBelow.2.1 4 = .ok (.iload_n 3, 1) := by decide +kernel
theorem d_Ro_highestBelow_5 : decode m_Ro_highestBelow.2.1 5 = .ok (.aload_n 0, 1) := by decide +kernel
theorem d_Ro_highestBelow_6 : decode m_Ro_highestBelow.2.1 6 = .ok (.getfield 27, 3) := by decide +kernel
theorem d_Ro_highestBelow_9 : decode m_Ro_highestBelow.2.1 9 = .ok (.if_icmp .ge 49, 3) := by decide +kernel
theorem d_Ro_highestBelow_12 : decode m_Ro_highestBelow.2.1 12 = .ok (.iload_n 3, 1) := by decide +kernel
theorem d_Ro_highestBelow_13 : decode m_Ro_highestBelow.2.1 13 = .ok (.bipush 8, 2) := by decide +kernel
theorem d_Ro_highestBelow_15 : decode m_Ro_highestBelow.2.1 15 = .ok (.if_icmp .ge 43, 3) := by decide +kernel
theorem d_Ro_highestBelow_18 : decode m_Ro_highestBelow.2.1 18 = .ok (.aload_n 0, 1) := by decide +kernel
theorem d_Ro_highestBelow_19 : decode m_Ro_highestBelow.2.1 19 = .ok (.getfield 15, 3) := by decide +kernel
theorem d_Ro_highestBelow_22 : decode m_Ro_highestBelow.2.1 22 = .ok (.iload_n 3, 1) := by decide +kernel
theorem d_Ro_highestBelow_23 : decode m_Ro_highestBelow.2.1 23 = .ok (.iaload, 1) := by decide +kernel
theorem d_Ro_highestBelow_24 : decode m_Ro_highestBelow.2.1 24 = .ok (.ifCond .le 28, 3) := by decide +kernel
theorem d_Ro_highestBelow_27 : decode m_Ro_highestBelow.2.1 27 = .ok (.aload_n 0, 1) := by decide +kernel
theorem d_Ro_highestBelow_28 : decode m_Ro_highestBelow.2.1 28 = .ok (.iload_n 3, 1) := by decide +kernel
theorem d_Ro_highestBelow_29 : decode m_Ro_highestBelow.2.1 29 = .ok (.iload_n 1, 1) := by decide +kernel
theorem d_Ro_highestBelow_30 : decode m_Ro_highestBelow.2.1 30 = .ok (.invokevirtual 53, 3) := by decide +kernel
theorem d_Ro_highestBelow_33 : decode m_Ro_highestBelow.2.1 33 = .ok (.ifCond .eq 19, 3) := by decide +kernel
theorem d_Ro_highestBelow_36 : decode m_Ro_highestBelow.2.1 36 = .ok (.iload_n 2, 1) := by decide +kernel
theorem d_Ro_highestBelow_37 : decode m_Ro_highestBelow.2.1 37 = .ok (.iconst (-1), 1) := by decide +kernel
theorem d_Ro_highestBelow_38 : decode m_Ro_highestBelow.2.1 38 = .ok (.if_icmp .eq 12, 3) := by decide +kernel
theorem d_Ro_highestBelow_41 : decode m_Ro_highestBelow.2.1 41 = .ok (.aload_n 0, 1) := by decide +kernel
theorem d_Ro_highestBelow_42 : decode m_Ro_highestBelow.2.1 42 = .ok (.iload_n 2, 1) := by decide +kernel
theorem d_Ro_highestBelow_43 : decode m_Ro_highestBelow.2.1 43 = .ok (.iload_n 3, 1) := by decide +kernel
theorem d_Ro_highestBelow_44 : decode m_Ro_highestBelow.2.1 44 = .ok (.invokevirtual 53, 3) := by decide +kernel
theorem d_Ro_highestBelow_47 : decode m_Ro_highestBelow.2.1 47 = .ok (.ifCond .eq 5, 3) := by decide +kernel
theorem d_Ro_highestBelow_50 : decode m_Ro_highestBelow.2.1 50 = .ok (.iload_n 3, 1) := by decide +kernel
theorem d_Ro_highestBelow_51 : decode m_Ro_highestBelow.2.1 51 = .ok (.istore_n 2, 1) := by decide +kernel
theorem d_Ro_highestBelow_52 : decode m_Ro_highestBelow.2.1 52 = .ok (.iinc 3 1, 3) := by decide +kernel
theorem d_Ro_highestBelow_55 : decode m_Ro_highestBelow.2.1 55 = .ok (.goto (-51), 3) := by decide +kernel
theorem d_Ro_highestBelow_58 : decode m_Ro_highestBelow.2.1 58 = .ok (.iload_n 2, 1) := by decide +kernel
theorem d_Ro_highestBelow_59 : decode m_Ro_highestBelow.2.1 59 = .ok (.ireturn, 1) := by decide +kernel
theorem g_Ro_highestBelow_0 {X : XS} (a1 : Int32) (h : Hp) (Q : Option AV → Hp → Prop)  (k : Rn X m_Ro_highestBelow 4 [some (vR [7, 0]), some (vI a1), some (vI (-1)), some (vI 0)] [] h Q) : Rn X m_Ro_highestBelow 0 [some (vR [7, 0]), some (vI a1), none, none] [] h Q := by
  refine Rn.iconst (n := 1) (v := (-1)) d_Ro_highestBelow_0 rfl (by decide) ?_
  refine Rn.istore_n (n := 2) (i := 2) (ls2 := [some (vR [7, 0]), some (vI a1), some (vI (-1)), none]) d_Ro_highestBelow_1 rfl rfl (Nat.le_of_ble_eq_true rfl) rfl ?_
  refine Rn.iconst (n := 3) (v := 0) d_Ro_highestBelow_2 rfl (by decide) ?_
  refine Rn.istore_n (n := 4) (i := 3) (ls2 := [some (vR [7, 0]), some (vI a1), some (vI (-1)), some (vI 0)]) d_Ro_highestBelow_3 rfl rfl (Nat.le_of_ble_eq_true rfl) rfl ?_
  exact k
theorem g_Ro_highestBelow_4 {X : XS} (a1 : Int32) (a2 : Int32) (a3 : Int32) (h : Hp) (Q : Option AV → Hp → Prop)  (k : (((h.1 [7, 0] 0) ≤ a3 → Q (some (vI a2)) h) ∧ (¬ (h.1 [7, 0] 0) ≤ a3 → ((8 ≤ a3 → Q (some (vI a2)) h) ∧ (¬ 8 ≤ a3 → (vp_in a3 8 ∧ (((h.1 [2, 7, 0] a3.toNatClampNeg) ≤ 0 → Rn X m_Ro_highestBelow 4 [some (vR [7, 0]), some (vI a1), some (vI a2), some (vI (a3 + 1))] [] h Q) ∧ (¬ (h.1 [2, 7, 0] a3.toNatClampNeg) ≤ 0 → (∃ Q'5, EvI X m_Ro_isLower [vR [7, 0], vI a3, vI a1] h Q'5 ∧ ∀ (r6 : Int32) (h4 : Hp), Q'5 r6 h4 → ((r6 = 0 → Rn X m_Ro_highestBelow 4 [some (vR [7, 0]), some (vI a1), some (vI a2), some (vI (a3 + 1))] [] h4 Q) ∧ (¬ r6 = 0 → ((a2 = (-1) → Rn X m_Ro_highestBelow 4 [some (vR [7, 0]), some (vI a1), some (vI a3), some (vI (a3 + 1))] [] h4 Q) ∧ (¬ a2 = (-1) → (∃ Q'10, EvI X m_Ro_isLower [vR [7, 0], vI a2, vI a3] h4 Q'10 ∧ ∀ (r11 : Int32) (h9 : Hp), Q'10 r11 h9 → ((r11 = 0 → Rn X m_Ro_highestBelow 4 [some (vR [7, 0]), some (vI a1), some (vI a2), some (vI (a3 + 1))] [] h9 Q) ∧ (¬ r11 = 0 → Rn X m_Ro_highestBelow 4 [some (vR [7, 0]), some (vI a1), some (vI a3), some (vI (a3 + 1))] [] h9 Q)))))))))))))))) : Rn X m_Ro_highestBelow 4 [some (vR [7, 0]), some (vI a1), some (vI a2), some (vI a3)] [] h Q := by
  refine Rn.iload_n (n := 5) (i := 3) d_Ro_highestBelow_4 rfl rfl rfl ?_
  refine Rn.aload_n (n := 6) (i := 0) d_Ro_highestBelow_5 rfl rfl rfl ?_
  refine Rn.getf (n := 9) (v := vI (h.1 [7, 0] 0)) d_Ro_highestBelow_6 rfl fl_Ro_27 Lv_7_0 rfl ?_
  refine Rn.icmp_ge (n := 12) (t := 58) d_Ro_highestBelow_9 rfl (by decide) (fun cc => ?_) (fun cc => ?_)
  · have k := k.1 cc
    refine Rn.iload_n (n := 59) (i := 2) d_Ro_highestBelow_58 rfl rfl rfl ?_
    exact Rn.iret d_Ro_highestBelow_59 rfl rfl k
  · have k := k.2 cc
    refine Rn.iload_n (n := 13) (i := 3) d_Ro_highestBelow_12 rfl rfl rfl ?_
    refine Rn.bipush (n := 15) (v := 8) d_Ro_highestBelow_13 rfl (by decide) ?_
    refine Rn.icmp_ge (n := 18) (t := 58) d_Ro_highestBelow_15 rfl (by decide) (fun cc => ?_) (fun cc => ?_)
    · have k := k.1 cc
      refine Rn.iload_n (n := 59) (i := 2) d_Ro_highestBelow_58 rfl rfl rfl ?_
      exact Rn.iret d_Ro_highestBelow_59 rfl rfl k
    · have k := k.2 cc
      refine Rn.aload_n (n := 19) (i := 0) d_Ro_highestBelow_18 rfl rfl rfl ?_
      refine Rn.getf (n := 22) (v := vR [2, 7, 0]) d_Ro_highestBelow_19 rfl fl_Ro_15 Lv_7_0 rfl ?_
      refine Rn.iload_n (n := 23) (i := 3) d_Ro_highestBelow_22 rfl rfl rfl ?_
      obtain ⟨b1, k⟩ := k
      refine Rn.iald (n := 24) (v := h.1 [2, 7, 0] a3.toNatClampNeg) d_Ro_highestBelow_23 rfl Lv_2_7_0 b1 rfl ?_
      refine Rn.if_le (n := 27) (t := 52) d_Ro_highestBelow_24 rfl (by decide) (fun cc => ?_) (fun cc => ?_)
      · have k := k.1 cc
        refine Rn.iinc (n := 55) (i := 3) (v := a3 + 1) (ls2 := [some (vR [7, 0]), some (vI a1), some (vI a2), some (vI (a3 + 1))]) d_Ro_highestBelow_52 rfl rfl rfl (Nat.le_of_ble_eq_true rfl) rfl ?_
        refine Rn.goto (n := 4) d_Ro_highestBelow_55 (by decide) ?_
        exact k
      · have k := k.2 cc
        refine Rn.aload_n (n := 28) (i := 0) d_Ro_highestBelow_27 rfl rfl rfl ?_
        refine Rn.iload_n (n := 29) (i := 3) d_Ro_highestBelow_28 rfl rfl rfl ?_
        refine Rn.iload_n (n := 30) (i := 1) d_Ro_highestBelow_29 rfl rfl rfl ?_
        obtain ⟨Q'5, ev2, k⟩ := k
        refine Rn.callV (n := 33) (av := [vI a3, vI a1]) d_Ro_highestBelow_30 rfl ml_Ro_highestBelow_53 mi_Ro_isLower Lv_7_0 rfl rfl rfl rfl (Nat.le_of_ble_eq_true rfl) ev2 (fun v h4 hq => ?_)
        obtain ⟨r6, rfl, hq⟩ := hq
        have k := k r6 h4 hq
        show Rn X m_Ro_highestBelow 33 [some (vR [7, 0]), some (vI a1), some (vI a2), some (vI a3)] [vI r6] h4 Q
        refine Rn.if_eq (n := 36) (t := 52) d_Ro_highestBelow_33 rfl (by decide) (fun cc => ?_) (fun cc => ?_)
        · have k := k.1 cc
          refine Rn.iinc (n := 55) (i := 3) (v := a3 + 1) (ls2 := [some (vR [7, 0]), some (vI a1), some (vI a2), some (vI (a3 + 1))]) d_Ro_highestBelow_52 rfl rfl rfl (Nat.le_of_ble_eq_true rfl) rfl ?_
          refine Rn.goto (n := 4) d_Ro_highestBelow_55 (by decide) ?_
          exact k
        · have k := k.2 cc
          refine Rn.iload_n (n := 37) (i := 2) d_Ro_highestBelow_36 rfl rfl rfl ?_
          refine Rn.iconst (n := 38) (v := (-1)) d_Ro_highestBelow_37 rfl (by decide) ?_
          refine Rn.icmp_eq (n := 41) (t := 50) d_Ro_highestBelow_38 rfl (by decide) (fun cc => ?_) (fun cc => ?_)
          · have k := k.1 cc
            refine Rn.iload_n (n := 51) (i := 3) d_Ro_highestBelow_50 rfl rfl rfl ?_
            refine Rn.istore_n (n := 52) (i := 2) (ls2 := [some (vR [7, 0]), some (vI a1), some (vI a3), some (vI a3)]) d_Ro_highestBelow_51 rfl rfl (Nat.le_of_ble_eq_true rfl) rfl ?_
            refine Rn.iinc (n := 55) (i := 3) (v := a3 + 1) (ls2 := [some (vR [7, 0]), some (vI a1), some (vI a3), some (vI (a3 + 1))]) d_Ro_highestBelow_52 rfl rfl rfl (Nat.le_of_ble_eq_true rfl) rfl ?_
            refine Rn.goto (n := 4) d_Ro_highestBelow_55 (by decide) ?_
            exact k
          · have k := k.2 cc
            refine Rn.aload_n (n := 42) (i := 0) d_Ro_highestBelow_41 rfl rfl rfl ?_
            refine Rn.iload_n (n := 43) (i := 2) d_Ro_highestBelow_42 rfl rfl rfl ?_
            refine Rn.iload_n (n := 44) (i := 3) d_Ro_highestBelow_43 rfl rfl rfl ?_
            obtain ⟨Q'10, ev7, k⟩ := k
            refine Rn.callV (n := 47) (av := [vI a2, vI a3]) d_Ro_highestBelow_44 rfl ml_Ro_highestBelow_53 mi_Ro_isLower Lv_7_0 rfl rfl rfl rfl (Nat.le_of_ble_eq_true rfl) ev7 (fun v h9 hq => ?_)
            obtain ⟨r11, rfl, hq⟩ := hq
            have k := k r11 h9 hq
            show Rn X m_Ro_highestBelow 47 [some (vR [7, 0]), some (vI a1), some (vI a2), some (vI a3)] [vI r11] h9 Q
            refine Rn.if_eq (n := 50) (t := 52) d_Ro_highestBelow_47 rfl (by decide) (fun cc => ?_) (fun cc => ?_)
            · have k := k.1 cc
              refine Rn.iinc (n := 55) (i := 3) (v := a3 + 1) (ls2 := [some (vR [7, 0]), some (vI a1), some (vI a2), some (vI (a3 + 1))]) d_Ro_highestBelow_52 rfl rfl rfl (Nat.le_of_ble_eq_true rfl) rfl ?_
              refine Rn.goto (n := 4) d_Ro_highestBelow_55 (by decide) ?_
              exact k
            · have k := k.2 cc
              refine Rn.iload_n (n := 51) (i := 3) d_Ro_highestBelow_50 rfl rfl rfl ?_
              refine Rn.istore_n (n := 52) (i := 2) (ls2 := [some (vR [7, 0]), some (vI a1), some (vI a3), some (vI a3)]) d_Ro_highestBelow_51 rfl rfl (Nat.le_of_ble_eq_true rfl) rfl ?_
              refine Rn.iinc (n := 55) (i := 3) (v := a3 + 1) (ls2 := [some (vR [7, 0]), some (vI a1), some (vI a3), some (vI (a3 + 1))]) d_Ro_highestBelow_52 rfl rfl rfl (Nat.le_of_ble_eq_true rfl) rfl ?_
              refine Rn.goto (n := 4) d_Ro_highestBelow_55 (by decide) ?_
              exact k
theorem e_Ro_highestBelow {X : XS} (a1 : Int32) (h : Hp) (Q : Option AV → Hp → Prop) (k : Rn X m_Ro_highestBelow 0 [some (vR [7, 0]), some (vI a1), none, none] [] h Q) : Ev X m_Ro_highestBelow [vR [7, 0], vI a1] h Q := Ev.intro (plainFor_of_name (by decide +kernel)) (Nat.le_of_ble_eq_true rfl) (ls := [some (vR [7, 0]), some (vI a1), none, none]) rfl k
theorem d_Ro_isOver_0 : decode m_Ro_isOver.2.1 0 = .ok (.iload_n 1, 1) := by decide +kernel
theorem d_Ro_isOver_1 : decode m_Ro_isOver.2.1 1 = .ok (.ifCond .lt 33, 3) := by decide +kernel
theorem d_Ro_isOver_4 : decode m_Ro_isOver.2.1 4 = .ok (.iload_n 1, 1) := by decide +kernel
theorem d_Ro_isOver_5 : decode m_Ro_isOver.2.1 5 = .ok (.bipush 8, 2) := by decide +kernel
theorem d_Ro_isOver_7 : decode m_Ro_isOver.2.1 7 = .ok (.if_icmp .ge 27, 3) := by decide +kernel
theorem d_Ro_isOver_10 : decode m_Ro_isOver.2.1 10 = .ok (.aload_n 0, 1) := by decide +kernel
theorem d_Ro_isOver_11 : decode m_Ro_isOver.2.1 11 = .ok (.getfield 11, 3) := by decide +kernel
theorem d_Ro_isOver_14 : decode m_Ro_isOver.2.1 14 = .ok (.iload_n 1, 1) := by decide +kernel
theorem d_Ro_isOver_15 : decode m_Ro_isOver.2.1 15 = .ok (.iaload, 1) := by decide +kernel
theorem d_Ro_isOver_16 : decode m_Ro_isOver.2.1 16 = .ok (.iload_n 2, 1) := by decide +kernel
theorem d_Ro_isOver_17 : decode m_Ro_isOver.2.1 17 = .ok (.isub, 1) := by decide +kernel
theorem d_Ro_isOver_18 : decode m_Ro_isOver.2.1 18 = .ok (.invokestatic 56, 3) := by decide +kernel
theorem d_Ro_isOver_21 : decode m_Ro_isOver.2.1 21 = .ok (.aload_n 0, 1) := by decide +kernel
theorem d_Ro_isOver_22 : decode m_Ro_isOver.2.1 22 = .ok (.getfield 15, 3) := by decide +kernel
theorem d_Ro_isOver_25 : decode m_Ro_isOver.2.1 25 = .ok (.iload_n 1, 1) := by decide +kernel
theorem d_Ro_isOver_26 : decode m_Ro_isOver.2.1 26 = .ok (.iaload, 1) := by decide +kernel
theorem d_Ro_isOver_27 : decode m_Ro_isOver.2.1 27 = .ok (.if_icmp .ge 7, 3) := by decide +kernel
theorem d_Ro_isOver_30 : decode m_Ro_isOver.2.1 30 = .ok (.iconst 1, 1) := by decide +kernel
theorem d_Ro_isOver_31 : decode m_Ro_isOver.2.1 31 = .ok (.goto 4, 3) := by decide +kernel
theorem d_Ro_isOver_34 : decode m_Ro_isOver.2.1 34 = .ok (.iconst 0, 1) := by decide +kernel
theorem d_Ro_isOver_35 : decode m_Ro_isOver.2.1 35 = .ok (.ireturn, 1) := by decide +kernel
theorem g_Ro_isOver_0 {X : XS} (a1 : Int32) (a2 : Int32) (h : Hp) (Q : Option AV → Hp → Prop)  (k : ((a1 < 0 → Q (some (vI 0)) h) ∧ (¬ a1 < 0 → ((8 ≤ a1 → Q (some (vI 0)) h) ∧ (¬ 8 ≤ a1 → (vp_in a1 8 ∧ (vp_in a1 8 ∧ (((h.1 [2, 7, 0] a1.toNatClampNeg) ≤ (iAbs ((h.1 [1, 7, 0] a1.toNatClampNeg) - a2)) → Q (some (vI 0)) h) ∧ (¬ (h.1 [2, 7, 0] a1.toNatClampNeg) ≤ (iAbs ((h.1 [1, 7, 0] a1.toNatClampNeg) - a2)) → Q (some (vI 1)) h))))))))) : Rn X m_Ro_isOver 0 [some (vR [7, 0]), some (vI a1), some (vI a2)] [] h Q := by
  refine Rn.iload_n (n := 1) (i := 1) d_Ro_isOver_0 rfl rfl rfl ?_
  refine Rn.if_lt (n := 4) (t := 34) d_Ro_isOver_1 rfl (by decide) (fun cc => ?_) (fun cc => ?_)
  · have k := k.1 cc
    refine Rn.iconst (n := 35) (v := 0) d_Ro_isOver_34 rfl (by decide) ?_
    exact Rn.iret d_Ro_isOver_35 rfl rfl k
  · have k := k.2 cc
    refine Rn.iload_n (n := 5) (i := 1) d_Ro_isOver_4 rfl rfl rfl ?_
    refine Rn.bipush (n := 7) (v := 8) d_Ro_isOver_5 rfl (by decide) ?_
    refine Rn.icmp_ge (n := 10) (t := 34) d_Ro_isOver_7 rfl (by decide) (fun cc => ?_) (fun cc => ?_)
    · have k := k.1 cc
      refine Rn.iconst (n := 35) (v := 0) d_Ro_isOver_34 rfl (by decide) ?_
      exact Rn.iret d_Ro_isOver_35 rfl rfl k
    · have k := k.2 cc
      refine Rn.aload_n (n := 11) (i := 0) d_Ro_isOver_10 rfl rfl rfl ?_
      refine Rn.getf (n := 14) (v := vR [1, 7, 0]) d_Ro_isOver_11 rfl fl_Ro_11 Lv_7_0 rfl ?_
      refine Rn.iload_n (n := 15) (i := 1) d_Ro_isOver_14 rfl rfl rfl ?_
      obtain ⟨b1, k⟩ := k
      refine Rn.iald (n := 16) (v := h.1 [1, 7, 0] a1.toNatClampNeg) d_Ro_isOver_15 rfl Lv_1_7_0 b1 rfl ?_
      refine Rn.iload_n (n := 17) (i := 2) d_Ro_isOver_16 rfl rfl rfl ?_
      refine Rn.isub (n := 18) d_Ro_isOver_17 rfl ?_
      refine Rn.mabs (n := 21) d_Ro_isOver_18 rfl ml_Ro_isOver_56 (Nat.le_of_ble_eq_true rfl) ?_
      refine Rn.aload_n (n := 22) (i := 0) d_Ro_isOver_21 rfl rfl rfl ?_
      refine Rn.getf (n := 25) (v := vR [2, 7, 0]) d_Ro_isOver_22 rfl fl_Ro_15 Lv_7_0 rfl ?_
      refine Rn.iload_n (n := 26) (i := 1) d_Ro_isOver_25 rfl rfl rfl ?_
      obtain ⟨b2, k⟩ := k
      refine Rn.iald (n := 27) (v := h.1 [2, 7, 0] a1.toNatClampNeg) d_Ro_isOver_26 rfl Lv_2_7_0 b2 rfl ?_
      refine Rn.icmp_ge (n := 30) (t := 34) d_Ro_isOver_27 rfl (by decide) (fun cc => ?_) (fun cc => ?_)
      · have k := k.1 cc
        refine Rn.iconst (n := 35) (v := 0) d_Ro_isOver_34 rfl (by decide) ?_
        exact Rn.iret d_Ro_isOver_35 rfl rfl k
      · have k := k.2 cc
        refine Rn.iconst (n := 31) (v := 1) d_Ro_isOver_30 rfl (by decide) ?_
        refine Rn.goto (n := 35) d_Ro_isOver_31 (by decide) ?_
        exact Rn.iret d_Ro_isOver_35 rfl rfl k
theorem e_Ro_isOver {X : XS} (a1 : Int32) (a2 : Int32) (h : Hp) (Q : Option AV → Hp → Prop) (k : Rn X m_Ro_isOver 0 [some (vR [7, 0]), some (vI a1), some (vI a2)] [] h Q) : Ev X m_Ro_isOver [vR [7, 0], vI a1, vI a2] h Q := Ev.intro (plainFor_of_name (by decide +kernel)) (Nat.le_of_ble_eq_true rfl) (ls := [some (vR [7, 0]), some (vI a1), some (vI a2)]) rfl k
theorem d_Ro_isLower_0 : decode m_Ro_isLower.2.1 0 = .ok (.iload_n 1, 1) := by decide +kernel
theorem d_Ro_isLower_1 : decode m_Ro_isLower.2.1 1 = .ok (.ifCond .lt 19, 3) := by decide +kernel
theorem d_Ro_isLower_4 : decode m_Ro_isLower.2.1 4 = .ok (.iload_n 1, 1) := by decide +kernel
theorem d_Ro_isLower_5 : decode m_Ro_isLower.2.1 5 = .ok (.bipush 8, 2) := by decide +kernel
theorem d_Ro_isLower_7 : decode m_Ro_isLower.2.1 7 = .ok (.if_icmp .ge 13, 3) := by decide +kernel
theorem d_Ro_isLower_10 : decode m_Ro_isLower.2.1 10 = .ok (.iload_n 2, 1) := by decide +kernel
theorem d_Ro_isLower_11 : decode m_Ro_isLower.2.1 11 = .ok (.ifCond .lt 9, 3) := by decide +kernel
theorem d_Ro_isLower_14 : decode m_Ro_isLower.2.1 14 = .ok (.iload_n 2, 1) := by decide +kernel
theorem d_Ro_isLower_15 : decode m_Ro_isLower.2.1 15 = .ok (.bipush 8, 2) := by decide +kernel
theorem d_Ro_isLower_17 : decode m_Ro_isLower.2.1 17 = .ok (.if_icmp .lt 14, 3) := by decide +kernel
theorem d_Ro_isLower_20 : decode m_Ro_isLower.2.1 20 = .ok (.iload_n 2, 1) := by decide +kernel
theorem d_Ro_isLower_21 : decode m_Ro_isLower.2.1 21 = .ok (.iconst (-1), 1) := by decide +kernel
theorem d_Ro_isLower_22 : decode m_Ro_isLower.2.1 22 = .ok (.if_icmp .ne 7, 3) := by decide +kernel
theorem d_Ro_isLower_25 : decode m_Ro_isLower.2.1 25 = .ok (.iconst 1, 1) := by decide +kernel
theorem d_Ro_isLower_26 : decode m_Ro_isLower.2.1 26 = .ok (.goto 4, 3) := by decide +kernel
theorem d_Ro_isLower_29 : decode m_Ro_isLower.2.1 29 = .ok (.iconst 0, 1) := by decide +kernel
theorem d_Ro_isLower_30 : decode m_Ro_isLower.2.1 30 = .ok (.ireturn, 1) := by decide +kernel
theorem d_Ro_isLower_31 : decode m_Ro_isLower.2.1 31 = .ok (.aload_n 0, 1) := by decide +kernel
theorem d_Ro_isLower_32 : decode m_Ro_isLower.2.1 32 = .ok (.getfield 18, 3) := by decide +kernel
theorem d_Ro_isLower_35 : decode m_Ro_isLower.2.1 35 = .ok (.iload_n 1, 1) := by decide +kernel
theorem d_Ro_isLower_36 : decode m_Ro_isLower.2.1 36 = .ok (.iaload, 1) := by decide +kernel
theorem d_Ro_isLower_37 : decode m_Ro_isLower.2.1 37 = .ok (.aload_n 0, 1) := by decide +kernel
theorem d_Ro_isLower_38 : decode m_Ro_isLower.2.1 38 = .ok (.getfield 18, 3) := by decide +kernel
theorem d_Ro_isLower_41 : decode m_Ro_isLower.2.1 41 = .ok (.iload_n 2, 1) := by decide +kernel
theorem d_Ro_isLower_42 : decode m_Ro_isLower.2.1 42 = .ok (.iaload, 1) := by decide +kernel
theorem d_Ro_isLower_43 : decode m_Ro_isLower.2.1 43 = .ok (.if_icmp .lt 23, 3) := by decide +kernel
theorem d_Ro_isLower_46 : decode m_Ro_isLower.2.1 46 = .ok (.aload_n 0, 1) := by decide +kernel
theorem d_Ro_isLower_47 : decode m_Ro_isLower.2.1 47 = .ok (.getfield 18, 3) := by decide +kernel
theorem d_Ro_isLower_50 : decode m_Ro_isLower.2.1 50 = .ok (.iload_n 1, 1) := by decide +kernel
theorem d_Ro_isLower_51 : decode m_Ro_isLower.2.1 51 = .ok (.iaload, 1) := by decide +kernel
theorem d_Ro_isLower_52 : decode m_Ro_isLower.2.1 52 = .ok (.aload_n 0, 1) := by decide +kernel
theorem d_Ro_isLower_53 : decode m_Ro_isLower.2.1 53 = .ok (.getfield 18, 3) := by decide +kernel
theorem d_Ro_isLower_56 : decode m_Ro_isLower.2.1 56 = .ok (.iload_n 2, 1) := by decide +kernel
theorem d_Ro_isLower_57 : decode m_Ro_isLower.2.1 57 = .ok (.iaload, 1) := by decide +kernel
theorem d_Ro_isLower_58 : decode m_Ro_isLower.2.1 58 = .ok (.if_icmp .ne 12, 3) := by decide +kernel
theorem d_Ro_isLower_61 : decode m_Ro_isLower.2.1 61 = .ok (.iload_n 1, 1) := by decide +kernel
theorem d_Ro_isLower_62 : decode m_Ro_isLower.2.1 62 = .ok (.iload_n 2, 1) := by decide +kernel
theorem d_Ro_isLower_63 : decode m_Ro_isLower.2.1 63 = .ok (.if_icmp .ge 7, 3) := by decide +kernel
theorem d_Ro_isLower_66 : decode m_Ro_isLower.2.1 66 = .ok (.iconst 1, 1) := by decide +kernel
theorem d_Ro_isLower_67 : decode m_Ro_isLower.2.1 67 = .ok (.goto 4, 3) := by decide +kernel
theorem d_Ro_isLower_70 : decode m_Ro_isLower.2.1 70 = .ok (.iconst 0, 1) := by decide +kernel
theorem d_Ro_isLower_71 : decode m_Ro_isLower.2.1 71 = .ok (.ireturn, 1) := by decide +kernel
theorem g_Ro_isLower_0 {X : XS} (a1 : Int32) (a2 : Int32) (h : Hp) (Q : Option AV → Hp → Prop)  (k : ((a1 < 0 → Rn X m_Ro_isLower 20 [some (vR [7, 0]), some (vI a1), some (vI a2)] [] h Q) ∧ (¬ a1 < 0 → ((8 ≤ a1 → Rn X m_Ro_isLower 20 [some (vR [7, 0]), some (vI a1), some (vI a2)] [] h Q) ∧ (¬ 8 ≤ a1 → ((a2 < 0 → Rn X m_Ro_isLower 20 [some (vR [7, 0]), some (vI a1), some (vI a2)] [] h Q) ∧ (¬ a2 < 0 → ((a2 < 8 → (vp_in a1 8 ∧ (vp_in a2 8 ∧ (((h.1 [3, 7, 0] a1.toNatClampNeg) < (h.1 [3, 7, 0] a2.toNatClampNeg) → Q (some (vI 1)) h) ∧ (¬ (h.1 [3, 7, 0] a1.toNatClampNeg) < (h.1 [3, 7, 0] a2.toNatClampNeg) → (vp_in a1 8 ∧ (vp_in a2 8 ∧ ((¬ (h.1 [3, 7, 0] a1.toNatClampNeg) = (h.1 [3, 7, 0] a2.toNatClampNeg) → Q (some (vI 0)) h) ∧ ((h.1 [3, 7, 0] a1.toNatClampNeg) = (h.1 [3, 7, 0] a2.toNatClampNeg) → ((a2 ≤ a1 → Q (some (vI 0)) h) ∧ (¬ a2 ≤ a1 → Q (some (vI 1)) h))))))))))) ∧ (¬ a2 < 8 → Rn X m_Ro_isLower 20 [some (vR [7, 0]), some (vI a1), some (vI a2)] [] h Q))))))))) : Rn X m_Ro_isLower 0 [some (vR [7, 0]), some (vI a1), some (vI a2)] [] h Q := by
  refine Rn.iload_n (n := 1) (i := 1) d_Ro_isLower_0 rfl rfl rfl ?_
  refine Rn.if_lt (n := 4) (t := 20) d_Ro_isLower_1 rfl (by decide) (fun cc => ?_) (fun cc => ?_)
  · have k := k.1 cc
    exact k
  · have k := k.2 cc
    refine Rn.iload_n (n := 5) (i := 1) d_Ro_isLower_4 rfl rfl rfl ?_
    refine Rn.bipush (n := 7) (v := 8) d_Ro_isLower_5 rfl (by decide) ?_
    refine Rn.icmp_ge (n := 10) (t := 20) d_Ro_isLower_7 rfl (by decide) (fun cc => ?_) (fun cc => ?_)
    · have k := k.1 cc
      exact k
    · have k := k.2 cc
      refine Rn.iload_n (n := 11) (i := 2) d_Ro_isLower_10 rfl rfl rfl ?_
      refine Rn.if_lt (n := 14) (t := 20) d_Ro_isLower_11 rfl (by decide) (fun cc => ?_) (fun cc => ?_)
      · have k := k.1 cc
        exact k
      · have k := k.2 cc
        refine Rn.iload_n (n := 15) (i := 2) d_Ro_isLower_14 rfl rfl rfl ?_
        refine Rn.bipush (n := 17) (v := 8) d_Ro_isLower_15 rfl (by decide) ?_
        refine Rn.icmp_lt (n := 20) (t := 31) d_Ro_isLower_17 rfl (by decide) (fun cc => ?_) (fun cc => ?_)
        · have k := k.1 cc
          refine Rn.aload_n (n := 32) (i := 0) d_Ro_isLower_31 rfl rfl rfl ?_
          refine Rn.getf (n := 35) (v := vR [3, 7, 0]) d_Ro_isLower_32 rfl fl_Ro_18 Lv_7_0 rfl ?_
          refine Rn.iload_n (n := 36) (i := 1) d_Ro_isLower_35 rfl rfl rfl ?_
          obtain ⟨b1, k⟩ := k
          refine Rn.iald (n := 37) (v := h.1 [3, 7, 0] a1.toNatClampNeg) d_Ro_isLower_36 rfl Lv_3_7_0 b1 rfl ?_
          refine Rn.aload_n (n := 38) (i := 0) d_Ro_isLower_37 rfl rfl rfl ?_
          refine Rn.getf (n := 41) (v := vR [3, 7, 0]) d_Ro_isLower_38 rfl fl_Ro_18 Lv_7_0 rfl ?_
          refine Rn.iload_n (n := 42) (i := 2) d_Ro_isLower_41 rfl rfl rfl ?_
          obtain ⟨b2, k⟩ := k
          refine Rn.iald (n := 43) (v := h.1 [3, 7, 0] a2.toNatClampNeg) d_Ro_isLower_42 rfl Lv_3_7_0 b2 rfl ?_
          refine Rn.icmp_lt (n := 46) (t := 66) d_Ro_isLower_43 rfl (by decide) (fun cc => ?_) (fun cc => ?_)
          · have k := k.1 cc
            refine Rn.iconst (n := 67) (v := 1) d_Ro_isLower_66 rfl (by decide) ?_
            refine Rn.goto (n := 71) d_Ro_isLower_67 (by decide) ?_
            exact Rn.iret d_Ro_isLower_71 rfl rfl k
          · have k := k.2 cc
            refine Rn.aload_n (n := 47) (i := 0) d_Ro_isLower_46 rfl rfl rfl ?_
            refine Rn.getf (n := 50) (v := vR [3, 7, 0]) d_Ro_isLower_47 rfl fl_Ro_18 Lv_7_0 rfl ?_
            refine Rn.iload_n (n := 51) (i := 1) d_Ro_isLower_50 rfl rfl rfl ?_
            obtain ⟨b3, k⟩ := k
            refine Rn.iald (n := 52) (v := h.1 [3, 7, 0] a1.toNatClampNeg) d_Ro_isLower_51 rfl Lv_3_7_0 b3 rfl ?_
            refine Rn.aload_n (n := 53) (i := 0) d_Ro_isLower_52 rfl rfl rfl ?_
            refine Rn.getf (n := 56) (v := vR [3, 7, 0]) d_Ro_isLower_53 rfl fl_Ro_18 Lv_7_0 rfl ?_
            refine Rn.iload_n (n := 57) (i := 2) d_Ro_isLower_56 rfl rfl rfl ?_
            obtain ⟨b4, k⟩ := k
            refine Rn.iald (n := 58) (v := h.1 [3, 7, 0] a2.toNatClampNeg) d_Ro_isLower_57 rfl Lv_3_7_0 b4 rfl ?_
            refine Rn.icmp_ne (n := 61) (t := 70) d_Ro_isLower_58 rfl (by decide) (fun cc => ?_) (fun cc => ?_)
            · have k := k.1 cc
              refine Rn.iconst (n := 71) (v := 0) d_Ro_isLower_70 rfl (by decide) ?_
              exact Rn.iret d_Ro_isLower_71 rfl rfl k
            · have k := k.2 cc
              refine Rn.iload_n (n := 62) (i := 1) d_Ro_isLower_61 rfl rfl rfl ?_
              refine Rn.iload_n (n := 63) (i := 2) d_Ro_isLower_62 rfl rfl rfl ?_
              refine Rn.icmp_ge (n := 66) (t := 70) d_Ro_isLower_63 rfl (by decide) (fun cc => ?_) (fun cc => ?_)
              · have k := k.1 cc
                refine Rn.iconst (n := 71) (v := 0) d_Ro_isLower_70 rfl (by decide) ?_
                exact Rn.iret d_Ro_isLower_71 rfl rfl k
              · have k := k.2 cc
                refine Rn.iconst (n := 67) (v := 1) d_Ro_isLower_66 rfl (by decide) ?_
                refine Rn.goto (n := 71) d_Ro_isLower_67 (by decide) ?_
                exact Rn.iret d_Ro_isLower_71 rfl rfl k
        · have k := k.2 cc
          exact k
theorem g_Ro_isLower_20 {X : XS} (a1 : Int32) (a2 : Int32) (h : Hp) (Q : Option AV → Hp → Prop)  (k : ((¬ a2 = (-1) → Q (some (vI 0)) h) ∧ (a2 = (-1) → Q (some (vI 1)) h))) : Rn X m_Ro_isLower 20 [some (vR [7, 0]), some (vI a1), some (vI a2)] [] h Q := by
  refine Rn.iload_n (n := 21) (i := 2) d_Ro_isLower_20 rfl rfl rfl ?_
  refine Rn.iconst (n := 22) (v := (-1)) d_Ro_isLower_21 rfl (by decide) ?_
  refine Rn.icmp_ne (n := 25) (t := 29) d_Ro_isLower_22 rfl (by decide) (fun cc => ?_) (fun cc => ?_)
  · have k := k.1 cc
    refine Rn.iconst (n := 30) (v := 0) d_Ro_isLower_29 rfl (by decide) ?_
    exact Rn.iret d_Ro_isLower_30 rfl rfl k
  · have k := k.2 cc
    refine Rn.iconst (n := 26) (v := 1) d_Ro_isLower_25 rfl (by decide) ?_
    refine Rn.goto (n := 30) d_Ro_isLower_26 (by decide) ?_
    exact Rn.iret d_Ro_isLower_30 rfl rfl k
theorem e_Ro_isLower {X : XS} (a1 : Int32) (a2 : Int32) (h : Hp) (Q : Option AV → Hp → Prop) (k : Rn X m_Ro_isLower 0 [some (vR [7, 0]), some (vI a1), some (vI a2)] [] h Q) : Ev X m_Ro_isLower [vR [7, 0], vI a1, vI a2] h Q := Ev.intro (plainFor_of_name (by decide +kernel)) (Nat.le_of_ble_eq_true rfl) (ls := [some (vR [7, 0]), some (vI a1), some (vI a2)]) rfl k
theorem d_Ro_reaching_0 : decode m_Ro_reaching.2.1 0 = .ok (.iload_n 1, 1) := by decide +kernel
theorem d_Ro_reaching_1 : decode m_Ro_reaching.2.1 1 = .ok (.ifCond .lt 18, 3) := by decide +kernel
theorem d_Ro_reaching_4 : decode m_Ro_reaching.2.1 4 = .ok (.iload_n 1, 1) := by decide +kernel
theorem d_Ro_reaching_5 : decode m_Ro_reaching.2.1 5 = .ok (.bipush 20, 2) := by decide +kernel
theorem d_Ro_reaching_7 : decode m_Ro_reaching.2.1 7 = .ok (.if_icmp .ge 12, 3) := by decide +kernel
theorem d_Ro_reaching_10 : decode m_Ro_reaching.2.1 10 = .ok (.aload_n 0, 1) := by decide +kernel
theorem d_Ro_reaching_11 : decode m_Ro_reaching.2.1 11 = .ok (.getfield 24, 3) := by decide +kernel
theorem d_Ro_reaching_14 : decode m_Ro_reaching.2.1 14 = .ok (.iload_n 1, 1) := by decide +kernel
theorem d_Ro_reaching_15 : decode m_Ro_reaching.2.1 15 = .ok (.iaload, 1) := by decide +kernel
theorem d_Ro_reaching_16 : decode m_Ro_reaching.2.1 16 = .ok (.goto 4, 3) := by decide +kernel
theorem d_Ro_reaching_19 : decode m_Ro_reaching.2.1 19 = .ok (.iconst 0, 1) := by decide +kernel
theorem d_Ro_reaching_20 : decode m_Ro_reaching.2.1 20 = .ok (.ireturn, 1) := by decide +kernel
theorem g_Ro_reaching_0 {X : XS} (a1 : Int32) (h : Hp) (Q : Option AV → Hp → Prop)  (k : ((a1 < 0 → Q (some (vI 0)) h) ∧ (¬ a1 < 0 → ((20 ≤ a1 → Q (some (vI 0)) h) ∧ (¬ 20 ≤ a1 → (vp_in a1 20 ∧ Q (some (vI (h.1 [5, 7, 0] a1.toNatClampNeg))) h)))))) : Rn X m_Ro_reaching 0 [some (vR [7, 0]), some (vI a1)] [] h Q := by
  refine Rn.iload_n (n := 1) (i := 1) d_Ro_reaching_0 rfl rfl rfl ?_
  refine Rn.if_lt (n := 4) (t := 19) d_Ro_reaching_1 rfl (by decide) (fun cc => ?_) (fun cc => ?_)
  · have k := k.1 cc
    refine Rn.iconst (n := 20) (v := 0) d_Ro_reaching_19 rfl (by decide) ?_
    exact Rn.iret d_Ro_reaching_20 rfl rfl k
  · have k := k.2 cc
    refine Rn.iload_n (n := 5) (i := 1) d_Ro_reaching_4 rfl rfl rfl ?_
    refine Rn.bipush (n := 7) (v := 20) d_Ro_reaching_5 rfl (by decide) ?_
    refine Rn.icmp_ge (n := 10) (t := 19) d_Ro_reaching_7 rfl (by decide) (fun cc => ?_) (fun cc => ?_)
    · have k := k.1 cc
      refine Rn.iconst (n := 20) (v := 0) d_Ro_reaching_19 rfl (by decide) ?_
      exact Rn.iret d_Ro_reaching_20 rfl rfl k
    · have k := k.2 cc
      refine Rn.aload_n (n := 11) (i := 0) d_Ro_reaching_10 rfl rfl rfl ?_
      refine Rn.getf (n := 14) (v := vR [5, 7, 0]) d_Ro_reaching_11 rfl fl_Ro_24 Lv_7_0 rfl ?_
      refine Rn.iload_n (n := 15) (i := 1) d_Ro_reaching_14 rfl rfl rfl ?_
      obtain ⟨b1, k⟩ := k
      refine Rn.iald (n := 16) (v := h.1 [5, 7, 0] a1.toNatClampNeg) d_Ro_reaching_15 rfl Lv_5_7_0 b1 rfl ?_
      refine Rn.goto (n := 20) d_Ro_reaching_16 (by decide) ?_
      exact Rn.iret d_Ro_reaching_20 rfl rfl k
theorem e_Ro_reaching {X : XS} (a1 : Int32) (h : Hp) (Q : Option AV → Hp → Prop) (k : Rn X m_Ro_reaching 0 [some (vR [7, 0]), some (vI a1)] [] h Q) : Ev X m_Ro_reaching [vR [7, 0], vI a1] h Q := Ev.intro (plainFor_of_name (by decide +kernel)) (Nat.le_of_ble_eq_true rfl) (ls := [some (vR [7, 0]), some (vI a1)]) rfl k
theorem d_Ro_driestFree_0 : decode m_Ro_driestFree.2.1 0 = .ok (.iconst (-1), 1) := by decide +kernel
theorem d_Ro_driestFree_1 : decode m_Ro_driestFree.2.1 1 = .ok (.istore_n 1, 1) := by decide +kernel
theorem d_Ro_driestFree_2 : decode m_Ro_driestFree.2.1 2 = .ok (.iconst 0, 1) := by decide +kernel
theorem d_Ro_driestFree_3 : decode m_Ro_driestFree.2.1 3 = .ok (.istore_n 2, 1) := by decide +kernel
theorem d_Ro_driestFree_4 : decode m_Ro_driestFree.2.1 4 = .ok (.iload_n 2, 1) := by decide +kernel
theorem d_Ro_driestFree_5 : decode m_Ro_driestFree.2.1 5 = .ok (.bipush 20, 2) := by decide +kernel
theorem d_Ro_driestFree_7 : decode m_Ro_driestFree.2.1 7 = .ok (.if_icmp .ge 38, 3) := by decide +kernel
theorem d_Ro_driestFree_10 : decode m_Ro_driestFree.2.1 10 = .ok (.aload_n 0, 1) := by decide +kernel
theorem d_Ro_driestFree_11 : decode m_Ro_driestFree.2.1 11 = .ok (.iload_n 2, 1) := by decide +kernel
theorem d_Ro_driestFree_12 : decode m_Ro_driestFree.2.1 12 = .ok (.invokevirtual 61, 3) := by decide +kernel
theorem d_Ro_driestFree_15 : decode m_Ro_driestFree.2.1 15 = .ok (.ifCond .ne 24, 3) := by decide +kernel
theorem d_Ro_driestFree_18 : decode m_Ro_driestFree.2.1 18 = .ok (.iload_n 1, 1) := by decide +kernel
theorem d_Ro_driestFree_19 : decode m_Ro_driestFree.2.1 19 = .ok (.iconst (-1), 1) := by decide +kernel
theorem d_Ro_driestFree_20 : decode m_Ro_driestFree.2.1 20 = .ok (.if_icmp .eq 17, 3) := by decide +kernel
theorem d_Ro_driestFree_23 : decode m_Ro_driestFree.2.1 23 = .ok (.aload_n 0, 1) := by decide +kernel
theorem d_Ro_driestFree_24 : decode m_Ro_driestFree.2.1 24 = .ok (.getfield 24, 3) := by decide +kernel
theorem d_Ro_driestFree_27 : decode m_Ro_driestFree.2.1 27 = .ok (.iload_n 2, 1) := by decide +kernel
theorem d_Ro_driestFree_28 : decode m_Ro_driestFree.2.1 28 = .ok (.iaload, 1) := by decide +kernel
theorem d_Ro_driestFree_29 : decode m_Ro_driestFree.2.1 29 = .ok (.aload_n 0, 1) := by decide +kernel
theorem d_Ro_driestFree_30 : decode m_Ro_driestFree.2.1 30 = .ok (.iload_n 1, 1) := by decide +kernel
theorem d_Ro_driestFree_31 : decode m_Ro_driestFree.2.1 31 = .ok (.invokevirtual 65, 3) := by decide +kernel
theorem d_Ro_driestFree_34 : decode m_Ro_driestFree.2.1 34 = .ok (.if_icmp .ge 5, 3) := by decide +kernel
theorem d_Ro_driestFree_37 : decode m_Ro_driestFree.2.1 37 = .ok (.iload_n 2, 1) := by decide +kernel
theorem d_Ro_driestFree_38 : decode m_Ro_driestFree.2.1 38 = .ok (.istore_n 1, 1) := by decide +kernel
theorem d_Ro_driestFree_39 : decode m_Ro_driestFree.2.1 39 = .ok (.iinc 2 1, 3) := by decide +kernel
theorem d_Ro_driestFree_42 : decode m_Ro_driestFree.2.1 42 = .ok (.goto (-38), 3) := by decide +kernel
theorem d_Ro_driestFree_45 : decode m_Ro_driestFree.2.1 45 = .ok (.iload_n 1, 1) := by decide +kernel
theorem d_Ro_driestFree_46 : decode m_Ro_driestFree.2.1 46 = .ok (.ireturn, 1) := by decide +kernel
theorem g_Ro_driestFree_0 {X : XS}  (h : Hp) (Q : Option AV → Hp → Prop)  (k : Rn X m_Ro_driestFree 4 [some (vR [7, 0]), some (vI (-1)), some (vI 0)] [] h Q) : Rn X m_Ro_driestFree 0 [some (vR [7, 0]), none, none] [] h Q := by
  refine Rn.iconst (n := 1) (v := (-1)) d_Ro_driestFree_0 rfl (by decide) ?_
  refine Rn.istore_n (n := 2) (i := 1) (ls2 := [some (vR [7, 0]), some (vI (-1)), none]) d_Ro_driestFree_1 rfl rfl (Nat.le_of_ble_eq_true rfl) rfl ?_
  refine Rn.iconst (n := 3) (v := 0) d_Ro_driestFree_2 rfl (by decide) ?_
  refine Rn.istore_n (n := 4) (i := 2) (ls2 := [some (vR [7, 0]), some (vI (-1)), some (vI 0)]) d_Ro_driestFree_3 rfl rfl (Nat.le_of_ble_eq_true rfl) rfl ?_
  exact k
theorem g_Ro_driestFree_4 {X : XS} (a1 : Int32) (a2 : Int32) (h : Hp) (Q : Option AV → Hp → Prop)  (k : ((20 ≤ a2 → Q (some (vI a1)) h) ∧ (¬ 20 ≤ a2 → (∃ Q'4, EvI X m_Ro_isTaken [vR [7, 0], vI a2] h Q'4 ∧ ∀ (r5 : Int32) (h3 : Hp), Q'4 r5 h3 → ((¬ r5 = 0 → Rn X m_Ro_driestFree 4 [some (vR [7, 0]), some (vI a1), some (vI (a2 + 1))] [] h3 Q) ∧ (r5 = 0 → ((a1 = (-1) → Rn X m_Ro_driestFree 4 [some (vR [7, 0]), some (vI a2), some (vI (a2 + 1))] [] h3 Q) ∧ (¬ a1 = (-1) → (vp_in a2 20 ∧ (∃ Q'10, EvI X m_Ro_reaching [vR [7, 0], vI a1] h3 Q'10 ∧ ∀ (r11 : Int32) (h9 : Hp), Q'10 r11 h9 → ((r11 ≤ (h3.1 [5, 7, 0] a2.toNatClampNeg) → Rn X m_Ro_driestFree 4 [some (vR [7, 0]), some (vI a1), some (vI (a2 + 1))] [] h9 Q) ∧ (¬ r11 ≤ (h3.1 [5, 7, 0] a2.toNatClampNeg) → Rn X m_Ro_driestFree 4 [some (vR [7, 0]), some (vI a2), some (vI (a2 + 1))] [] h9 Q)))))))))))) : Rn X m_Ro_driestFree 4 [some (vR [7, 0]), some (vI a1), some (vI a2)] [] h Q := by
  refine Rn.iload_n (n := 5) (i := 2) d_Ro_driestFree_4 rfl rfl rfl ?_
  refine Rn.bipush (n := 7) (v := 20) d_Ro_driestFree_5 rfl (by decide) ?_
  refine Rn.icmp_ge (n := 10) (t := 45) d_Ro_driestFree_7 rfl (by decide) (fun cc => ?_) (fun cc => ?_)
  · have k := k.1 cc
    refine Rn.iload_n (n := 46) (i := 1) d_Ro_driestFree_45 rfl rfl rfl ?_
    exact Rn.iret d_Ro_driestFree_46 rfl rfl k
  · have k := k.2 cc
    refine Rn.aload_n (n := 11) (i := 0) d_Ro_driestFree_10 rfl rfl rfl ?_
    refine Rn.iload_n (n := 12) (i := 2) d_Ro_driestFree_11 rfl rfl rfl ?_
    obtain ⟨Q'4, ev1, k⟩ := k
    refine Rn.callV (n := 15) (av := [vI a2]) d_Ro_driestFree_12 rfl ml_Ro_driestFree_61 mi_Ro_isTaken Lv_7_0 rfl rfl rfl rfl (Nat.le_of_ble_eq_true rfl) ev1 (fun v h3 hq => ?_)
    obtain ⟨r5, rfl, hq⟩ := hq
    have k := k r5 h3 hq
    show Rn X m_Ro_driestFree 15 [some (vR [7, 0]), some (vI a1), some (vI a2)] [vI r5] h3 Q
    refine Rn.if_ne (n := 18) (t := 39) d_Ro_driestFree_15 rfl (by decide) (fun cc => ?_) (fun cc => ?_)
    · have k := k.1 cc
      refine Rn.iinc (n := 42) (i := 2) (v := a2 + 1) (ls2 := [some (vR [7, 0]), some (vI a1), some (vI (a2 + 1))]) d_Ro_driestFree_39 rfl rfl rfl (Nat.le_of_ble_eq_true rfl) rfl ?_
      refine Rn.goto (n := 4) d_Ro_driestFree_42 (by decide) ?_
      exact k
    · have k := k.2 cc
      refine Rn.iload_n (n := 19) (i := 1) d_Ro_driestFree_18 rfl rfl rfl ?_
      refine Rn.iconst (n := 20) (v := (-1)) d_Ro_driestFree_19 rfl (by decide) ?_
      refine Rn.icmp_eq (n := 23) (t := 37) d_Ro_driestFree_20 rfl (by decide) (fun cc => ?_) (fun cc => ?_)
      · have k := k.1 cc
        refine Rn.iload_n (n := 38) (i := 2) d_Ro_driestFree_37 rfl rfl rfl ?_
        refine Rn.istore_n (n := 39) (i := 1) (ls2 := [some (vR [7, 0]), some (vI a2), some (vI a2)]) d_Ro_driestFree_38 rfl rfl (Nat.le_of_ble_eq_true rfl) rfl ?_
        refine Rn.iinc (n := 42) (i := 2) (v := a2 + 1) (ls2 := [some (vR [7, 0]), some (vI a2), some (vI (a2 + 1))]) d_Ro_driestFree_39 rfl rfl rfl (Nat.le_of_ble_eq_true rfl) rfl ?_
        refine Rn.goto (n := 4) d_Ro_driestFree_42 (by decide) ?_
        exact k
      · have k := k.2 cc
        refine Rn.aload_n (n := 24) (i := 0) d_Ro_driestFree_23 rfl rfl rfl ?_
        refine Rn.getf (n := 27) (v := vR [5, 7, 0]) d_Ro_driestFree_24 rfl fl_Ro_24 Lv_7_0 rfl ?_
        refine Rn.iload_n (n := 28) (i := 2) d_Ro_driestFree_27 rfl rfl rfl ?_
        obtain ⟨b6, k⟩ := k
        refine Rn.iald (n := 29) (v := h3.1 [5, 7, 0] a2.toNatClampNeg) d_Ro_driestFree_28 rfl Lv_5_7_0 b6 rfl ?_
        refine Rn.aload_n (n := 30) (i := 0) d_Ro_driestFree_29 rfl rfl rfl ?_
        refine Rn.iload_n (n := 31) (i := 1) d_Ro_driestFree_30 rfl rfl rfl ?_
        obtain ⟨Q'10, ev7, k⟩ := k
        refine Rn.callV (n := 34) (av := [vI a1]) d_Ro_driestFree_31 rfl ml_Ro_driestFree_65 mi_Ro_reaching Lv_7_0 rfl rfl rfl rfl (Nat.le_of_ble_eq_true rfl) ev7 (fun v h9 hq => ?_)
        obtain ⟨r11, rfl, hq⟩ := hq
        have k := k r11 h9 hq
        show Rn X m_Ro_driestFree 34 [some (vR [7, 0]), some (vI a1), some (vI a2)] [vI r11, vI (h3.1 [5, 7, 0] a2.toNatClampNeg)] h9 Q
        refine Rn.icmp_ge (n := 37) (t := 39) d_Ro_driestFree_34 rfl (by decide) (fun cc => ?_) (fun cc => ?_)
        · have k := k.1 cc
          refine Rn.iinc (n := 42) (i := 2) (v := a2 + 1) (ls2 := [some (vR [7, 0]), some (vI a1), some (vI (a2 + 1))]) d_Ro_driestFree_39 rfl rfl rfl (Nat.le_of_ble_eq_true rfl) rfl ?_
          refine Rn.goto (n := 4) d_Ro_driestFree_42 (by decide) ?_
          exact k
        · have k := k.2 cc
          refine Rn.iload_n (n := 38) (i := 2) d_Ro_driestFree_37 rfl rfl rfl ?_
          refine Rn.istore_n (n := 39) (i := 1) (ls2 := [some (vR [7, 0]), some (vI a2), some (vI a2)]) d_Ro_driestFree_38 rfl rfl (Nat.le_of_ble_eq_true rfl) rfl ?_
          refine Rn.iinc (n := 42) (i := 2) (v := a2 + 1) (ls2 := [some (vR [7, 0]), some (vI a2), some (vI (a2 + 1))]) d_Ro_driestFree_39 rfl rfl rfl (Nat.le_of_ble_eq_true rfl) rfl ?_
          refine Rn.goto (n := 4) d_Ro_driestFree_42 (by decide) ?_
          exact k
theorem e_Ro_driestFree {X : XS}  (h : Hp) (Q : Option AV → Hp → Prop) (k : Rn X m_Ro_driestFree 0 [some (vR [7, 0]), none, none] [] h Q) : Ev X m_Ro_driestFree [vR [7, 0]] h Q := Ev.intro (plainFor_of_name (by decide +kernel)) (Nat.le_of_ble_eq_true rfl) (ls := [some (vR [7, 0]), none, none]) rfl k
