theorem d_Tx_append_0 : decode m_Tx_append.2.1 0 = .ok (.aload_n 0, 1) := by decide +kernel
theorem d_Tx_append_1 : decode m_Tx_append.2.1 1 = .ok (.getfield 20, 3) := by decide +kernel
theorem d_Tx_append_4 : decode m_Tx_append.2.1 4 = .ok (.iload_n 3, 1) := by decide +kernel
theorem d_Tx_append_5 : decode m_Tx_append.2.1 5 = .ok (.iadd, 1) := by decide +kernel
theorem d_Tx_append_6 : decode m_Tx_append.2.1 6 = .ok (.sipush 200, 3) := by decide +kernel
theorem d_Tx_append_9 : decode m_Tx_append.2.1 9 = .ok (.if_icmp .le 5, 3) := by decide +kernel
theorem d_Tx_append_12 : decode m_Tx_append.2.1 12 = .ok (.iconst 0, 1) := by decide +kernel
theorem d_Tx_append_13 : decode m_Tx_append.2.1 13 = .ok (.ireturn, 1) := by decide +kernel
theorem d_Tx_append_14 : decode m_Tx_append.2.1 14 = .ok (.iconst 0, 1) := by decide +kernel
theorem d_Tx_append_15 : decode m_Tx_append.2.1 15 = .ok (.istore 4, 2) := by decide +kernel
theorem d_Tx_append_17 : decode m_Tx_append.2.1 17 = .ok (.iload 4, 2) := by decide +kernel
theorem d_Tx_append_19 : decode m_Tx_append.2.1 19 = .ok (.iload_n 3, 1) := by decide +kernel
theorem d_Tx_append_20 : decode m_Tx_append.2.1 20 = .ok (.if_icmp .ge 50, 3) := by decide +kernel
theorem d_Tx_append_23 : decode m_Tx_append.2.1 23 = .ok (.aload_n 0, 1) := by decide +kernel
theorem d_Tx_append_24 : decode m_Tx_append.2.1 24 = .ok (.getfield 20, 3) := by decide +kernel
theorem d_Tx_append_27 : decode m_Tx_append.2.1 27 = .ok (.sipush 200, 3) := by decide +kernel
theorem d_Tx_append_30 : decode m_Tx_append.2.1 30 = .ok (.if_icmp .ge 40, 3) := by decide +kernel
theorem d_Tx_append_33 : decode m_Tx_append.2.1 33 = .ok (.aload_n 0, 1) := by decide +kernel
theorem d_Tx_append_34 : decode m_Tx_append.2.1 34 = .ok (.getfield 11, 3) := by decide +kernel
theorem d_Tx_append_37 : decode m_Tx_append.2.1 37 = .ok (.aload_n 0, 1) := by decide +kernel
theorem d_Tx_append_38 : decode m_Tx_append.2.1 38 = .ok (.getfield 20, 3) := by decide +kernel
theorem d_Tx_append_41 : decode m_Tx_append.2.1 41 = .ok (.lload_n 1, 1) := by decide +kernel
theorem d_Tx_append_42 : decode m_Tx_append.2.1 42 = .ok (.bipush 8, 2) := by decide +kernel
theorem d_Tx_append_44 : decode m_Tx_append.2.1 44 = .ok (.iload 4, 2) := by decide +kernel
theorem d_Tx_append_46 : decode m_Tx_append.2.1 46 = .ok (.imul, 1) := by decide +kernel
theorem d_Tx_append_47 : decode m_Tx_append.2.1 47 = .ok (.lshr, 1) := by decide +kernel
theorem d_Tx_append_48 : decode m_Tx_append.2.1 48 = .ok (.ldc2_w 24, 3) := by decide +kernel
theorem d_Tx_append_51 : decode m_Tx_append.2.1 51 = .ok (.land, 1) := by decide +kernel
theorem d_Tx_append_52 : decode m_Tx_append.2.1 52 = .ok (.l2i, 1) := by decide +kernel
theorem d_Tx_append_53 : decode m_Tx_append.2.1 53 = .ok (.iastore, 1) := by decide +kernel
theorem d_Tx_append_54 : decode m_Tx_append.2.1 54 = .ok (.aload_n 0, 1) := by decide +kernel
theorem d_Tx_append_55 : decode m_Tx_append.2.1 55 = .ok (.dup, 1) := by decide +kernel
theorem d_Tx_append_56 : decode m_Tx_append.2.1 56 = .ok (.getfield 20, 3) := by decide +kernel
theorem d_Tx_append_59 : decode m_Tx_append.2.1 59 = .ok (.iconst 1, 1) := by decide +kernel
theorem d_Tx_append_60 : decode m_Tx_append.2.1 60 = .ok (.iadd, 1) := by decide +kernel
theorem d_Tx_append_61 : decode m_Tx_append.2.1 61 = .ok (.putfield 20, 3) := by decide +kernel
theorem d_Tx_append_64 : decode m_Tx_append.2.1 64 = .ok (.iinc 4 1, 3) := by decide +kernel
theorem d_Tx_append_67 : decode m_Tx_append.2.1 67 = .ok (.goto (-50), 3) := by decide +kernel
theorem d_Tx_append_70 : decode m_Tx_append.2.1 70 = .ok (.iconst 1, 1) := by decide +kernel
theorem d_Tx_append_71 : decode m_Tx_append.2.1 71 = .ok (.ireturn, 1) := by decide +kernel
theorem g_Tx_append_0 {X : XS} (a1 : Int64) (a3 : Int32) (h : Hp) (Q : Option AV → Hp → Prop)  (k : ((((h.1 [2, 0] 2) + a3) ≤ 200 → Rn X m_Tx_append 17 [some (vR [2, 0]), some (vL a1), none, some (vI a3), some (vI 0)] [] h Q) ∧ (¬ ((h.1 [2, 0] 2) + a3) ≤ 200 → Q (some (vI 0)) h))) : Rn X m_Tx_append 0 [some (vR [2, 0]), some (vL a1), none, some (vI a3), none] [] h Q := by
  refine Rn.aload_n (n := 1) (i := 0) d_Tx_append_0 rfl rfl rfl ?_
  refine Rn.getf (n := 4) (v := vI (h.1 [2, 0] 2)) d_Tx_append_1 rfl fl_Tx_20 Lv_2_0 rfl ?_
  refine Rn.iload_n (n := 5) (i := 3) d_Tx_append_4 rfl rfl rfl ?_
  refine Rn.iadd (n := 6) d_Tx_append_5 rfl ?_
  refine Rn.sipush (n := 9) (v := 200) d_Tx_append_6 rfl (by decide) ?_
  refine Rn.icmp_le (n := 12) (t := 14) d_Tx_append_9 rfl (by decide) (fun cc => ?_) (fun cc => ?_)
  · have k := k.1 cc
    refine Rn.iconst (n := 15) (v := 0) d_Tx_append_14 rfl (by decide) ?_
    refine Rn.istore (n := 17) (i := 4) (ls2 := [some (vR [2, 0]), some (vL a1), none, some (vI a3), some (vI 0)]) d_Tx_append_15 rfl (Nat.le_of_ble_eq_true rfl) rfl ?_
    exact k
  · have k := k.2 cc
    refine Rn.iconst (n := 13) (v := 0) d_Tx_append_12 rfl (by decide) ?_
    exact Rn.iret d_Tx_append_13 rfl rfl k
theorem g_Tx_append_17 {X : XS} (a1 : Int64) (a3 : Int32) (a4 : Int32) (h : Hp) (Q : Option AV → Hp → Prop)  (k : ((a3 ≤ a4 → Q (some (vI 1)) h) ∧ (¬ a3 ≤ a4 → ((200 ≤ (h.1 [2, 0] 2) → Q (some (vI 1)) h) ∧ (¬ 200 ≤ (h.1 [2, 0] 2) → (vp_in (h.1 [2, 0] 2) 200 ∧ Rn X m_Tx_append 17 [some (vR [2, 0]), some (vL a1), none, some (vI a3), some (vI (a4 + 1))] [] (hsI (hsI h [0, 2, 0] ((h.1 [2, 0] 2).toNatClampNeg) (((lShr a1 (8 * a4)) &&& 255).toInt32)) [2, 0] 2 (((hsI h [0, 2, 0] ((h.1 [2, 0] 2).toNatClampNeg) (((lShr a1 (8 * a4)) &&& 255).toInt32)).1 [2, 0] 2) + 1)) Q)))))) : Rn X m_Tx_append 17 [some (vR [2, 0]), some (vL a1), none, some (vI a3), some (vI a4)] [] h Q := by
  refine Rn.iload (n := 19) (i := 4) d_Tx_append_17 rfl rfl ?_
  refine Rn.iload_n (n := 20) (i := 3) d_Tx_append_19 rfl rfl rfl ?_
  refine Rn.icmp_ge (n := 23) (t := 70) d_Tx_append_20 rfl (by decide) (fun cc => ?_) (fun cc => ?_)
  · have k := k.1 cc
    refine Rn.iconst (n := 71) (v := 1) d_Tx_append_70 rfl (by decide) ?_
    exact Rn.iret d_Tx_append_71 rfl rfl k
  · have k := k.2 cc
    refine Rn.aload_n (n := 24) (i := 0) d_Tx_append_23 rfl rfl rfl ?_
    refine Rn.getf (n := 27) (v := vI (h.1 [2, 0] 2)) d_Tx_append_24 rfl fl_Tx_20 Lv_2_0 rfl ?_
    refine Rn.sipush (n := 30) (v := 200) d_Tx_append_27 rfl (by decide) ?_
    refine Rn.icmp_ge (n := 33) (t := 70) d_Tx_append_30 rfl (by decide) (fun cc => ?_) (fun cc => ?_)
    · have k := k.1 cc
      refine Rn.iconst (n := 71) (v := 1) d_Tx_append_70 rfl (by decide) ?_
      exact Rn.iret d_Tx_append_71 rfl rfl k
    · have k := k.2 cc
      refine Rn.aload_n (n := 34) (i := 0) d_Tx_append_33 rfl rfl rfl ?_
      refine Rn.getf (n := 37) (v := vR [0, 2, 0]) d_Tx_append_34 rfl fl_Tx_11 Lv_2_0 rfl ?_
      refine Rn.aload_n (n := 38) (i := 0) d_Tx_append_37 rfl rfl rfl ?_
      refine Rn.getf (n := 41) (v := vI (h.1 [2, 0] 2)) d_Tx_append_38 rfl fl_Tx_20 Lv_2_0 rfl ?_
      refine Rn.lload_n (n := 42) (i := 1) d_Tx_append_41 rfl rfl rfl ?_
      refine Rn.bipush (n := 44) (v := 8) d_Tx_append_42 rfl (by decide) ?_
      refine Rn.iload (n := 46) (i := 4) d_Tx_append_44 rfl rfl ?_
      refine Rn.imul (n := 47) d_Tx_append_46 rfl ?_
      refine Rn.lshr (n := 48) d_Tx_append_47 rfl ?_
      refine Rn.ldc2 (n := 51) (v := 255) d_Tx_append_48 rfl cl_Tx_24 ?_
      refine Rn.land (n := 52) d_Tx_append_51 rfl ?_
      refine Rn.l2i (n := 53) d_Tx_append_52 rfl ?_
      obtain ⟨b1, k⟩ := k
      refine Rn.iast (n := 54) d_Tx_append_53 rfl Lv_0_2_0 b1 ?_
      refine Rn.aload_n (n := 55) (i := 0) d_Tx_append_54 rfl rfl rfl ?_
      refine Rn.dup (n := 56) d_Tx_append_55 rfl rfl ?_
      refine Rn.getf (n := 59) (v := vI ((hsI h [0, 2, 0] ((h.1 [2, 0] 2).toNatClampNeg) (((lShr a1 (8 * a4)) &&& 255).toInt32)).1 [2, 0] 2)) d_Tx_append_56 rfl fl_Tx_20 Lv_2_0 rfl ?_
      refine Rn.iconst (n := 60) (v := 1) d_Tx_append_59 rfl (by decide) ?_
      refine Rn.iadd (n := 61) d_Tx_append_60 rfl ?_
      refine Rn.putI (n := 64) d_Tx_append_61 rfl fl_Tx_20 pl_Tx_2 Lv_2_0 rfl ?_
      refine Rn.iinc (n := 67) (i := 4) (v := a4 + 1) (ls2 := [some (vR [2, 0]), some (vL a1), none, some (vI a3), some (vI (a4 + 1))]) d_Tx_append_64 rfl rfl rfl (Nat.le_of_ble_eq_true rfl) rfl ?_
      refine Rn.goto (n := 17) d_Tx_append_67 (by decide) ?_
      exact k
theorem e_Tx_append {X : XS} (a1 : Int64) (a3 : Int32) (h : Hp) (Q : Option AV → Hp → Prop) (k : Rn X m_Tx_append 0 [some (vR [2, 0]), some (vL a1), none, some (vI a3), none] [] h Q) : Ev X m_Tx_append [vR [2, 0], vL a1, vI a3] h Q := Ev.intro (plainFor_of_name (by decide +kernel)) (Nat.le_of_ble_eq_true rfl) (ls := [some (vR [2, 0]), some (vL a1), none, some (vI a3), none]) rfl k
theorem d_Tx_empty_0 : decode m_Tx_empty.2.1 0 = .ok (.aload_n 0, 1) := by decide +kernel
theorem d_Tx_empty_1 : decode m_Tx_empty.2.1 1 = .ok (.getfield 20, 3) := by decide +kernel
theorem d_Tx_empty_4 : decode m_Tx_empty.2.1 4 = .ok (.istore_n 1, 1) := by decide +kernel
theorem d_Tx_empty_5 : decode m_Tx_empty.2.1 5 = .ok (.aload_n 0, 1) := by decide +kernel
theorem d_Tx_empty_6 : decode m_Tx_empty.2.1 6 = .ok (.iconst 0, 1) := by decide +kernel
theorem d_Tx_empty_7 : decode m_Tx_empty.2.1 7 = .ok (.putfield 20, 3) := by decide +kernel
theorem d_Tx_empty_10 : decode m_Tx_empty.2.1 10 = .ok (.iload_n 1, 1) := by decide +kernel
theorem d_Tx_empty_11 : decode m_Tx_empty.2.1 11 = .ok (.ireturn, 1) := by decide +kernel
theorem g_Tx_empty_0 {X : XS}  (h : Hp) (Q : Option AV → Hp → Prop)  (k : Q (some (vI (h.1 [2, 0] 2))) (hsI h [2, 0] 2 0)) : Rn X m_Tx_empty 0 [some (vR [2, 0]), none] [] h Q := by
  refine Rn.aload_n (n := 1) (i := 0) d_Tx_empty_0 rfl rfl rfl ?_
  refine Rn.getf (n := 4) (v := vI (h.1 [2, 0] 2)) d_Tx_empty_1 rfl fl_Tx_20 Lv_2_0 rfl ?_
  refine Rn.istore_n (n := 5) (i := 1) (ls2 := [some (vR [2, 0]), some (vI (h.1 [2, 0] 2))]) d_Tx_empty_4 rfl rfl (Nat.le_of_ble_eq_true rfl) rfl ?_
  refine Rn.aload_n (n := 6) (i := 0) d_Tx_empty_5 rfl rfl rfl ?_
  refine Rn.iconst (n := 7) (v := 0) d_Tx_empty_6 rfl (by decide) ?_
  refine Rn.putI (n := 10) d_Tx_empty_7 rfl fl_Tx_20 pl_Tx_2 Lv_2_0 rfl ?_
  refine Rn.iload_n (n := 11) (i := 1) d_Tx_empty_10 rfl rfl rfl ?_
  exact Rn.iret d_Tx_empty_11 rfl rfl k
theorem e_Tx_empty {X : XS}  (h : Hp) (Q : Option AV → Hp → Prop) (k : Rn X m_Tx_empty 0 [some (vR [2, 0]), none] [] h Q) : Ev X m_Tx_empty [vR [2, 0]] h Q := Ev.intro (plainFor_of_name (by decide +kernel)) (Nat.le_of_ble_eq_true rfl) (ls := [some (vR [2, 0]), none]) rfl k
theorem d_Tx_readInto_0 : decode m_Tx_readInto.2.1 0 = .ok (.aload_n 0, 1) := by decide +kernel
theorem d_Tx_readInto_1 : decode m_Tx_readInto.2.1 1 = .ok (.iconst 0, 1) := by decide +kernel
theorem d_Tx_readInto_2 : decode m_Tx_readInto.2.1 2 = .ok (.putfield 26, 3) := by decide +kernel
theorem d_Tx_readInto_5 : decode m_Tx_readInto.2.1 5 = .ok (.iconst 1, 1) := by decide +kernel
theorem d_Tx_readInto_6 : decode m_Tx_readInto.2.1 6 = .ok (.istore_n 2, 1) := by decide +kernel
theorem d_Tx_readInto_7 : decode m_Tx_readInto.2.1 7 = .ok (.iload_n 2, 1) := by decide +kernel
theorem d_Tx_readInto_8 : decode m_Tx_readInto.2.1 8 = .ok (.bipush 8, 2) := by decide +kernel
theorem d_Tx_readInto_10 : decode m_Tx_readInto.2.1 10 = .ok (.if_icmp .gt 66, 3) := by decide +kernel
theorem d_Tx_readInto_13 : decode m_Tx_readInto.2.1 13 = .ok (.aload_n 0, 1) := by decide +kernel
theorem d_Tx_readInto_14 : decode m_Tx_readInto.2.1 14 = .ok (.iload_n 2, 1) := by decide +kernel
theorem d_Tx_readInto_15 : decode m_Tx_readInto.2.1 15 = .ok (.putfield 29, 3) := by decide +kernel
theorem d_Tx_readInto_18 : decode m_Tx_readInto.2.1 18 = .ok (.aload_n 0, 1) := by decide +kernel
theorem d_Tx_readInto_19 : decode m_Tx_readInto.2.1 19 = .ok (.aload_n 1, 1) := by decide +kernel
theorem d_Tx_readInto_20 : decode m_Tx_readInto.2.1 20 = .ok (.invokevirtual 32, 3) := by decide +kernel
theorem d_Tx_readInto_23 : decode m_Tx_readInto.2.1 23 = .ok (.ifCond .ne 8, 3) := by decide +kernel
theorem d_Tx_readInto_26 : decode m_Tx_readInto.2.1 26 = .ok (.aload_n 0, 1) := by decide +kernel
theorem d_Tx_readInto_27 : decode m_Tx_readInto.2.1 27 = .ok (.getfield 36, 3) := by decide +kernel
theorem d_Tx_readInto_30 : decode m_Tx_readInto.2.1 30 = .ok (.ireturn, 1) := by decide +kernel
theorem d_Tx_readInto_31 : decode m_Tx_readInto.2.1 31 = .ok (.aload_n 0, 1) := by decide +kernel
theorem d_Tx_readInto_32 : decode m_Tx_readInto.2.1 32 = .ok (.invokevirtual 39, 3) := by decide +kernel
theorem d_Tx_readInto_35 : decode m_Tx_readInto.2.1 35 = .ok (.aload_n 0, 1) := by decide +kernel
theorem d_Tx_readInto_36 : decode m_Tx_readInto.2.1 36 = .ok (.getfield 42, 3) := by decide +kernel
theorem d_Tx_readInto_39 : decode m_Tx_readInto.2.1 39 = .ok (.ifCond .ne 5, 3) := by decide +kernel
theorem d_Tx_readInto_42 : decode m_Tx_readInto.2.1 42 = .ok (.iconst (-1), 1) := by decide +kernel
theorem d_Tx_readInto_43 : decode m_Tx_readInto.2.1 43 = .ok (.ireturn, 1) := by decide +kernel
theorem d_Tx_readInto_44 : decode m_Tx_readInto.2.1 44 = .ok (.aload_n 0, 1) := by decide +kernel
theorem d_Tx_readInto_45 : decode m_Tx_readInto.2.1 45 = .ok (.getfield 42, 3) := by decide +kernel
theorem d_Tx_readInto_48 : decode m_Tx_readInto.2.1 48 = .ok (.iconst 3, 1) := by decide +kernel
theorem d_Tx_readInto_49 : decode m_Tx_readInto.2.1 49 = .ok (.if_icmp .ne 16, 3) := by decide +kernel
theorem d_Tx_readInto_52 : decode m_Tx_readInto.2.1 52 = .ok (.aload_n 0, 1) := by decide +kernel
theorem d_Tx_readInto_53 : decode m_Tx_readInto.2.1 53 = .ok (.aload_n 0, 1) := by decide +kernel
theorem d_Tx_readInto_54 : decode m_Tx_readInto.2.1 54 = .ok (.getfield 36, 3) := by decide +kernel
theorem d_Tx_readInto_57 : decode m_Tx_readInto.2.1 57 = .ok (.invokevirtual 45, 3) := by decide +kernel
theorem d_Tx_readInto_60 : decode m_Tx_readInto.2.1 60 = .ok (.bipush 59, 2) := by decide +kernel
theorem d_Tx_readInto_62 : decode m_Tx_readInto.2.1 62 = .ok (.if_icmp .eq 8, 3) := by decide +kernel
theorem d_Tx_readInto_65 : decode m_Tx_readInto.2.1 65 = .ok (.aload_n 0, 1) := by decide +kernel
theorem d_Tx_readInto_66 : decode m_Tx_readInto.2.1 66 = .ok (.getfield 36, 3) := by decide +kernel
theorem d_Tx_readInto_69 : decode m_Tx_readInto.2.1 69 = .ok (.ireturn, 1) := by decide +kernel
theorem d_Tx_readInto_70 : decode m_Tx_readInto.2.1 70 = .ok (.iinc 2 1, 3) := by decide +kernel
theorem d_Tx_readInto_73 : decode m_Tx_readInto.2.1 73 = .ok (.goto (-66), 3) := by decide +kernel
theorem d_Tx_readInto_76 : decode m_Tx_readInto.2.1 76 = .ok (.aload_n 0, 1) := by decide +kernel
theorem d_Tx_readInto_77 : decode m_Tx_readInto.2.1 77 = .ok (.getfield 36, 3) := by decide +kernel
theorem d_Tx_readInto_80 : decode m_Tx_readInto.2.1 80 = .ok (.ireturn, 1) := by decide +kernel
theorem g_Tx_readInto_0 {X : XS} (a1 : List Nat) (h : Hp) (Q : Option AV → Hp → Prop) (w_a1 : IsPl a1) (k : Rn X m_Tx_readInto 7 [some (vR [2, 0]), some (vR a1), some (vI 1)] [] (hsI h [2, 0] 5 0) Q) : Rn X m_Tx_readInto 0 [some (vR [2, 0]), some (vR a1), none] [] h Q := by
  refine Rn.aload_n (n := 1) (i := 0) d_Tx_readInto_0 rfl rfl rfl ?_
  refine Rn.iconst (n := 2) (v := 0) d_Tx_readInto_1 rfl (by decide) ?_
  refine Rn.putI (n := 5) d_Tx_readInto_2 rfl fl_Tx_26 pl_Tx_5 Lv_2_0 rfl ?_
  refine Rn.iconst (n := 6) (v := 1) d_Tx_readInto_5 rfl (by decide) ?_
  refine Rn.istore_n (n := 7) (i := 2) (ls2 := [some (vR [2, 0]), some (vR a1), some (vI 1)]) d_Tx_readInto_6 rfl rfl (Nat.le_of_ble_eq_true rfl) rfl ?_
  exact k
theorem g_Tx_readInto_7 {X : XS} (a1 : List Nat) (a2 : Int32) (h : Hp) (Q : Option AV → Hp → Prop) (w_a1 : IsPl a1) (k : ((8 < a2 → Q (some (vI (h.1 [2, 0] 4))) h) ∧ (¬ 8 < a2 → (∃ Q'4, EvI X m_Tx_readLine [vR [2, 0], vR a1] (hsI h [2, 0] 3 a2) Q'4 ∧ ∀ (r5 : Int32) (h3 : Hp), Q'4 r5 h3 → ((¬ r5 = 0 → (∃ Q'9, EvV X m_Tx_readToken [vR [2, 0]] h3 Q'9 ∧ ∀ (h8 : Hp), Q'9 h8 → ((¬ (h8.1 [2, 0] 6) = 0 → ((¬ (h8.1 [2, 0] 6) = 3 → Q (some (vI (h8.1 [2, 0] 4))) h8) ∧ ((h8.1 [2, 0] 6) = 3 → (∃ Q'13, EvI X m_Tx_byteAt [vR [2, 0], vI (h8.1 [2, 0] 4)] h8 Q'13 ∧ ∀ (r14 : Int32) (h12 : Hp), Q'13 r14 h12 → ((r14 = 59 → Rn X m_Tx_readInto 7 [some (vR [2, 0]), some (vR a1), some (vI (a2 + 1))] [] h12 Q) ∧ (¬ r14 = 59 → Q (some (vI (h12.1 [2, 0] 4))) h12)))))) ∧ ((h8.1 [2, 0] 6) = 0 → Q (some (vI (-1))) h8)))) ∧ (r5 = 0 → Q (some (vI (h3.1 [2, 0] 4))) h3)))))) : Rn X m_Tx_readInto 7 [some (vR [2, 0]), some (vR a1), some (vI a2)] [] h Q := by
  refine Rn.iload_n (n := 8) (i := 2) d_Tx_readInto_7 rfl rfl rfl ?_
  refine Rn.bipush (n := 10) (v := 8) d_Tx_readInto_8 rfl (by decide) ?_
  refine Rn.icmp_gt (n := 13) (t := 76) d_Tx_readInto_10 rfl (by decide) (fun cc => ?_) (fun cc => ?_)
  · have k := k.1 cc
    refine Rn.aload_n (n := 77) (i := 0) d_Tx_readInto_76 rfl rfl rfl ?_
    refine Rn.getf (n := 80) (v := vI (h.1 [2, 0] 4)) d_Tx_readInto_77 rfl fl_Tx_36 Lv_2_0 rfl ?_
    exact Rn.iret d_Tx_readInto_80 rfl rfl k
  · have k := k.2 cc
    refine Rn.aload_n (n := 14) (i := 0) d_Tx_readInto_13 rfl rfl rfl ?_
    refine Rn.iload_n (n := 15) (i := 2) d_Tx_readInto_14 rfl rfl rfl ?_
    refine Rn.putI (n := 18) d_Tx_readInto_15 rfl fl_Tx_29 pl_Tx_3 Lv_2_0 rfl ?_
    refine Rn.aload_n (n := 19) (i := 0) d_Tx_readInto_18 rfl rfl rfl ?_
    refine Rn.aload_n (n := 20) (i := 1) d_Tx_readInto_19 rfl rfl rfl ?_
    obtain ⟨Q'4, ev1, k⟩ := k
    refine Rn.callV (n := 23) (av := [vR a1]) d_Tx_readInto_20 rfl ml_Tx_readInto_32 mi_Tx_readLine Lv_2_0 rfl rfl rfl rfl (Nat.le_of_ble_eq_true rfl) ev1 (fun v h3 hq => ?_)
    obtain ⟨r5, rfl, hq⟩ := hq
    have k := k r5 h3 hq
    show Rn X m_Tx_readInto 23 [some (vR [2, 0]), some (vR a1), some (vI a2)] [vI r5] h3 Q
    refine Rn.if_ne (n := 26) (t := 31) d_Tx_readInto_23 rfl (by decide) (fun cc => ?_) (fun cc => ?_)
    · have k := k.1 cc
      refine Rn.aload_n (n := 32) (i := 0) d_Tx_readInto_31 rfl rfl rfl ?_
      obtain ⟨Q'9, ev6, k⟩ := k
      refine Rn.callV (n := 35) (av := []) d_Tx_readInto_32 rfl ml_Tx_readInto_39 mi_Tx_readToken Lv_2_0 rfl rfl rfl rfl (Nat.le_of_ble_eq_true rfl) ev6 (fun v h8 hq => ?_)
      obtain ⟨rfl, hq⟩ := hq
      have k := k h8 hq
      show Rn X m_Tx_readInto 35 [some (vR [2, 0]), some (vR a1), some (vI a2)] [] h8 Q
      refine Rn.aload_n (n := 36) (i := 0) d_Tx_readInto_35 rfl rfl rfl ?_
      refine Rn.getf (n := 39) (v := vI (h8.1 [2, 0] 6)) d_Tx_readInto_36 rfl fl_Tx_42 Lv_2_0 rfl ?_
      refine Rn.if_ne (n := 42) (t := 44) d_Tx_readInto_39 rfl (by decide) (fun cc => ?_) (fun cc => ?_)
      · have k := k.1 cc
        refine Rn.aload_n (n := 45) (i := 0) d_Tx_readInto_44 rfl rfl rfl ?_
        refine Rn.getf (n := 48) (v := vI (h8.1 [2, 0] 6)) d_Tx_readInto_45 rfl fl_Tx_42 Lv_2_0 rfl ?_
        refine Rn.iconst (n := 49) (v := 3) d_Tx_readInto_48 rfl (by decide) ?_
        refine Rn.icmp_ne (n := 52) (t := 65) d_Tx_readInto_49 rfl (by decide) (fun cc => ?_) (fun cc => ?_)
        · have k := k.1 cc
          refine Rn.aload_n (n := 66) (i := 0) d_Tx_readInto_65 rfl rfl rfl ?_
          refine Rn.getf (n := 69) (v := vI (h8.1 [2, 0] 4)) d_Tx_readInto_66 rfl fl_Tx_36 Lv_2_0 rfl ?_
          exact Rn.iret d_Tx_readInto_69 rfl rfl k
        · have k := k.2 cc
          refine Rn.aload_n (n := 53) (i := 0) d_Tx_readInto_52 rfl rfl rfl ?_
          refine Rn.aload_n (n := 54) (i := 0) d_Tx_readInto_53 rfl rfl rfl ?_
          refine Rn.getf (n := 57) (v := vI (h8.1 [2, 0] 4)) d_Tx_readInto_54 rfl fl_Tx_36 Lv_2_0 rfl ?_
          obtain ⟨Q'13, ev10, k⟩ := k
          refine Rn.callV (n := 60) (av := [vI (h8.1 [2, 0] 4)]) d_Tx_readInto_57 rfl ml_Tx_readInto_45 mi_Tx_byteAt Lv_2_0 rfl rfl rfl rfl (Nat.le_of_ble_eq_true rfl) ev10 (fun v h12 hq => ?_)
          obtain ⟨r14, rfl, hq⟩ := hq
          have k := k r14 h12 hq
          show Rn X m_Tx_readInto 60 [some (vR [2, 0]), some (vR a1), some (vI a2)] [vI r14] h12 Q
          refine Rn.bipush (n := 62) (v := 59) d_Tx_readInto_60 rfl (by decide) ?_
          refine Rn.icmp_eq (n := 65) (t := 70) d_Tx_readInto_62 rfl (by decide) (fun cc => ?_) (fun cc => ?_)
          · have k := k.1 cc
            refine Rn.iinc (n := 73) (i := 2) (v := a2 + 1) (ls2 := [some (vR [2, 0]), some (vR a1), some (vI (a2 + 1))]) d_Tx_readInto_70 rfl rfl rfl (Nat.le_of_ble_eq_true rfl) rfl ?_
            refine Rn.goto (n := 7) d_Tx_readInto_73 (by decide) ?_
            exact k
          · have k := k.2 cc
            refine Rn.aload_n (n := 66) (i := 0) d_Tx_readInto_65 rfl rfl rfl ?_
            refine Rn.getf (n := 69) (v := vI (h12.1 [2, 0] 4)) d_Tx_readInto_66 rfl fl_Tx_36 Lv_2_0 rfl ?_
            exact Rn.iret d_Tx_readInto_69 rfl rfl k
      · have k := k.2 cc
        refine Rn.iconst (n := 43) (v := (-1)) d_Tx_readInto_42 rfl (by decide) ?_
        exact Rn.iret d_Tx_readInto_43 rfl rfl k
    · have k := k.2 cc
      refine Rn.aload_n (n := 27) (i := 0) d_Tx_readInto_26 rfl rfl rfl ?_
      refine Rn.getf (n := 30) (v := vI (h3.1 [2, 0] 4)) d_Tx_readInto_27 rfl fl_Tx_36 Lv_2_0 rfl ?_
      exact Rn.iret d_Tx_readInto_30 rfl rfl k
theorem e_Tx_readInto {X : XS} (a1 : List Nat) (h : Hp) (Q : Option AV → Hp → Prop) (k : Rn X m_Tx_readInto 0 [some (vR [2, 0]), some (vR a1), none] [] h Q) : Ev X m_Tx_readInto [vR [2, 0], vR a1] h Q := Ev.intro (plainFor_of_name (by decide +kernel)) (Nat.le_of_ble_eq_true rfl) (ls := [some (vR [2, 0]), some (vR a1), none]) rfl k
theorem d_Tx_readLine_0 : decode m_Tx_readLine.2.1 0 = .ok (.aload_n 0, 1) := by decide +kernel
theorem d_Tx_readLine_1 : decode m_Tx_readLine.2.1 1 = .ok (.invokevirtual 39, 3) := by decide +kernel
theorem d_Tx_readLine_4 : decode m_Tx_readLine.2.1 4 = .ok (.aload_n 0, 1) := by decide +kernel
theorem d_Tx_readLine_5 : decode m_Tx_readLine.2.1 5 = .ok (.ldc 49, 2) := by decide +kernel
theorem d_Tx_readLine_7 : decode m_Tx_readLine.2.1 7 = .ok (.invokevirtual 51, 3) := by decide +kernel
theorem d_Tx_readLine_10 : decode m_Tx_readLine.2.1 10 = .ok (.ifCond .eq 9, 3) := by decide +kernel
theorem d_Tx_readLine_13 : decode m_Tx_readLine.2.1 13 = .ok (.aload_n 0, 1) := by decide +kernel
theorem d_Tx_readLine_14 : decode m_Tx_readLine.2.1 14 = .ok (.aload_n 1, 1) := by decide +kernel
theorem d_Tx_readLine_15 : decode m_Tx_readLine.2.1 15 = .ok (.invokevirtual 55, 3) := by decide +kernel
theorem d_Tx_readLine_18 : decode m_Tx_readLine.2.1 18 = .ok (.ireturn, 1) := by decide +kernel
theorem d_Tx_readLine_19 : decode m_Tx_readLine.2.1 19 = .ok (.aload_n 0, 1) := by decide +kernel
theorem d_Tx_readLine_20 : decode m_Tx_readLine.2.1 20 = .ok (.ldc 58, 2) := by decide +kernel
theorem d_Tx_readLine_22 : decode m_Tx_readLine.2.1 22 = .ok (.invokevirtual 51, 3) := by decide +kernel
theorem d_Tx_readLine_25 : decode m_Tx_readLine.2.1 25 = .ok (.ifCond .eq 9, 3) := by decide +kernel
theorem d_Tx_readLine_28 : decode m_Tx_readLine.2.1 28 = .ok (.aload_n 0, 1) := by decide +kernel
theorem d_Tx_readLine_29 : decode m_Tx_readLine.2.1 29 = .ok (.aload_n 1, 1) := by decide +kernel
theorem d_Tx_readLine_30 : decode m_Tx_readLine.2.1 30 = .ok (.invokevirtual 60, 3) := by decide +kernel
theorem d_Tx_readLine_33 : decode m_Tx_readLine.2.1 33 = .ok (.ireturn, 1) := by decide +kernel
theorem d_Tx_readLine_34 : decode m_Tx_readLine.2.1 34 = .ok (.aload_n 0, 1) := by decide +kernel
theorem d_Tx_readLine_35 : decode m_Tx_readLine.2.1 35 = .ok (.ldc 63, 2) := by decide +kernel
theorem d_Tx_readLine_37 : decode m_Tx_readLine.2.1 37 = .ok (.invokevirtual 51, 3) := by decide +kernel
theorem d_Tx_readLine_40 : decode m_Tx_readLine.2.1 40 = .ok (.ifCond .eq 9, 3) := by decide +kernel
theorem d_Tx_readLine_43 : decode m_Tx_readLine.2.1 43 = .ok (.aload_n 0, 1) := by decide +kernel
theorem d_Tx_readLine_44 : decode m_Tx_readLine.2.1 44 = .ok (.aload_n 1, 1) := by decide +kernel
theorem d_Tx_readLine_45 : decode m_Tx_readLine.2.1 45 = .ok (.invokevirtual 65, 3) := by decide +kernel
theorem d_Tx_readLine_48 : decode m_Tx_readLine.2.1 48 = .ok (.ireturn, 1) := by decide +kernel
theorem d_Tx_readLine_49 : decode m_Tx_readLine.2.1 49 = .ok (.aload_n 0, 1) := by decide +kernel
theorem d_Tx_readLine_50 : decode m_Tx_readLine.2.1 50 = .ok (.ldc 68, 2) := by decide +kernel
theorem d_Tx_readLine_52 : decode m_Tx_readLine.2.1 52 = .ok (.invokevirtual 51, 3) := by decide +kernel
theorem d_Tx_readLine_55 : decode m_Tx_readLine.2.1 55 = .ok (.ifCond .eq 9, 3) := by decide +kernel
theorem d_Tx_readLine_58 : decode m_Tx_readLine.2.1 58 = .ok (.aload_n 0, 1) := by decide +kernel
theorem d_Tx_readLine_59 : decode m_Tx_readLine.2.1 59 = .ok (.aload_n 1, 1) := by decide +kernel
theorem d_Tx_readLine_60 : decode m_Tx_readLine.2.1 60 = .ok (.invokevirtual 70, 3) := by decide +kernel
theorem d_Tx_readLine_63 : decode m_Tx_readLine.2.1 63 = .ok (.ireturn, 1) := by decide +kernel
theorem d_Tx_readLine_64 : decode m_Tx_readLine.2.1 64 = .ok (.aload_n 0, 1) := by decide +kernel
theorem d_Tx_readLine_65 : decode m_Tx_readLine.2.1 65 = .ok (.ldc 73, 2) := by decide +kernel
theorem d_Tx_readLine_67 : decode m_Tx_readLine.2.1 67 = .ok (.invokevirtual 51, 3) := by decide +kernel
theorem d_Tx_readLine_70 : decode m_Tx_readLine.2.1 70 = .ok (.ifCond .eq 15, 3) := by decide +kernel
theorem d_Tx_readLine_73 : decode m_Tx_readLine.2.1 73 = .ok (.aload_n 0, 1) := by decide +kernel
theorem d_Tx_readLine_74 : decode m_Tx_readLine.2.1 74 = .ok (.aload_n 1, 1) := by decide +kernel
theorem d_Tx_readLine_75 : decode m_Tx_readLine.2.1 75 = .ok (.invokevirtual 75, 3) := by decide +kernel
theorem d_Tx_readLine_78 : decode m_Tx_readLine.2.1 78 = .ok (.ifCond .eq 7, 3) := by decide +kernel
theorem d_Tx_readLine_81 : decode m_Tx_readLine.2.1 81 = .ok (.iconst 1, 1) := by decide +kernel
theorem d_Tx_readLine_82 : decode m_Tx_readLine.2.1 82 = .ok (.goto 4, 3) := by decide +kernel
theorem d_Tx_readLine_85 : decode m_Tx_readLine.2.1 85 = .ok (.iconst 0, 1) := by decide +kernel
theorem d_Tx_readLine_86 : decode m_Tx_readLine.2.1 86 = .ok (.ireturn, 1) := by decide +kernel
theorem g_Tx_readLine_0 {X : XS} (a1 : List Nat) (h : Hp) (Q : Option AV → Hp → Prop) (w_a1 : IsPl a1) (k : (∃ Q'4, EvV X m_Tx_readToken [vR [2, 0]] h Q'4 ∧ ∀ (h3 : Hp), Q'4 h3 → (∃ Q'8, EvI X m_Tx_isWord [vR [2, 0], vR [0, 3]] h3 Q'8 ∧ ∀ (r9 : Int32) (h7 : Hp), Q'8 r9 h7 → ((r9 = 0 → (∃ Q'13, EvI X m_Tx_isWord [vR [2, 0], vR [1, 3]] h7 Q'13 ∧ ∀ (r14 : Int32) (h12 : Hp), Q'13 r14 h12 → ((r14 = 0 → (∃ Q'18, EvI X m_Tx_isWord [vR [2, 0], vR [2, 3]] h12 Q'18 ∧ ∀ (r19 : Int32) (h17 : Hp), Q'18 r19 h17 → ((r19 = 0 → (∃ Q'23, EvI X m_Tx_isWord [vR [2, 0], vR [3, 3]] h17 Q'23 ∧ ∀ (r24 : Int32) (h22 : Hp), Q'23 r24 h22 → ((r24 = 0 → (∃ Q'28, EvI X m_Tx_isWord [vR [2, 0], vR [4, 3]] h22 Q'28 ∧ ∀ (r29 : Int32) (h27 : Hp), Q'28 r29 h27 → ((r29 = 0 → Q (some (vI 0)) h27) ∧ (¬ r29 = 0 → (∃ Q'33, EvI X m_Tx_readRain [vR [2, 0], vR a1] h27 Q'33 ∧ ∀ (r34 : Int32) (h32 : Hp), Q'33 r34 h32 → ((r34 = 0 → Q (some (vI 0)) h32) ∧ (¬ r34 = 0 → Q (some (vI 1)) h32))))))) ∧ (¬ r24 = 0 → (∃ Q'38, EvI X m_Tx_readGone [vR [2, 0], vR a1] h22 Q'38 ∧ ∀ (r39 : Int32) (h37 : Hp), Q'38 r39 h37 → ((r39 = 0 ∨ r39 = 1) ∧ Q (some (vI r39)) h37)))))) ∧ (¬ r19 = 0 → (∃ Q'43, EvI X m_Tx_readWalker [vR [2, 0], vR a1] h17 Q'43 ∧ ∀ (r44 : Int32) (h42 : Hp), Q'43 r44 h42 → ((r44 = 0 ∨ r44 = 1) ∧ Q (some (vI r44)) h42)))))) ∧ (¬ r14 = 0 → (∃ Q'48, EvI X m_Tx_readAwning [vR [2, 0], vR a1] h12 Q'48 ∧ ∀ (r49 : Int32) (h47 : Hp), Q'48 r49 h47 → ((r49 = 0 ∨ r49 = 1) ∧ Q (some (vI r49)) h47)))))) ∧ (¬ r9 = 0 → (∃ Q'53, EvI X m_Tx_readStreet [vR [2, 0], vR a1] h7 Q'53 ∧ ∀ (r54 : Int32) (h52 : Hp), Q'53 r54 h52 → ((r54 = 0 ∨ r54 = 1) ∧ Q (some (vI r54)) h52))))))) : Rn X m_Tx_readLine 0 [some (vR [2, 0]), some (vR a1)] [] h Q := by
  refine Rn.aload_n (n := 1) (i := 0) d_Tx_readLine_0 rfl rfl rfl ?_
  obtain ⟨Q'4, ev1, k⟩ := k
  refine Rn.callV (n := 4) (av := []) d_Tx_readLine_1 rfl ml_Tx_readLine_39 mi_Tx_readToken Lv_2_0 rfl rfl rfl rfl (Nat.le_of_ble_eq_true rfl) ev1 (fun v h3 hq => ?_)
  obtain ⟨rfl, hq⟩ := hq
  have k := k h3 hq
  show Rn X m_Tx_readLine 4 [some (vR [2, 0]), some (vR a1)] [] h3 Q
  refine Rn.aload_n (n := 5) (i := 0) d_Tx_readLine_4 rfl rfl rfl ?_
  refine Rn.ldcS (n := 7) (i := 0) d_Tx_readLine_5 rfl (by decide) rfl rfl ?_
  obtain ⟨Q'8, ev5, k⟩ := k
  refine Rn.callV (n := 10) (av := [vR [0, 3]]) d_Tx_readLine_7 rfl ml_Tx_readLine_51 mi_Tx_isWord Lv_2_0 rfl rfl rfl rfl (Nat.le_of_ble_eq_true rfl) ev5 (fun v h7 hq => ?_)
  obtain ⟨r9, rfl, hq⟩ := hq
  have k := k r9 h7 hq
  show Rn X m_Tx_readLine 10 [some (vR [2, 0]), some (vR a1)] [vI r9] h7 Q
  refine Rn.if_eq (n := 13) (t := 19) d_Tx_readLine_10 rfl (by decide) (fun cc => ?_) (fun cc => ?_)
  · have k := k.1 cc
    refine Rn.aload_n (n := 20) (i := 0) d_Tx_readLine_19 rfl rfl rfl ?_
    refine Rn.ldcS (n := 22) (i := 1) d_Tx_readLine_20 rfl (by decide) rfl rfl ?_
    obtain ⟨Q'13, ev10, k⟩ := k
    refine Rn.callV (n := 25) (av := [vR [1, 3]]) d_Tx_readLine_22 rfl ml_Tx_readLine_51 mi_Tx_isWord Lv_2_0 rfl rfl rfl rfl (Nat.le_of_ble_eq_true rfl) ev10 (fun v h12 hq => ?_)
    obtain ⟨r14, rfl, hq⟩ := hq
    have k := k r14 h12 hq
    show Rn X m_Tx_readLine 25 [some (vR [2, 0]), some (vR a1)] [vI r14] h12 Q
    refine Rn.if_eq (n := 28) (t := 34) d_Tx_readLine_25 rfl (by decide) (fun cc => ?_) (fun cc => ?_)
    · have k := k.1 cc
      refine Rn.aload_n (n := 35) (i := 0) d_Tx_readLine_34 rfl rfl rfl ?_
      refine Rn.ldcS (n := 37) (i := 2) d_Tx_readLine_35 rfl (by decide) rfl rfl ?_
      obtain ⟨Q'18, ev15, k⟩ := k
      refine Rn.callV (n := 40) (av := [vR [2, 3]]) d_Tx_readLine_37 rfl ml_Tx_readLine_51 mi_Tx_isWord Lv_2_0 rfl rfl rfl rfl (Nat.le_of_ble_eq_true rfl) ev15 (fun v h17 hq => ?_)
      obtain ⟨r19, rfl, hq⟩ := hq
      have k := k r19 h17 hq
      show Rn X m_Tx_readLine 40 [some (vR [2, 0]), some (vR a1)] [vI r19] h17 Q
      refine Rn.if_eq (n := 43) (t := 49) d_Tx_readLine_40 rfl (by decide) (fun cc => ?_) (fun cc => ?_)
      · have k := k.1 cc
        refine Rn.aload_n (n := 50) (i := 0) d_Tx_readLine_49 rfl rfl rfl ?_
        refine Rn.ldcS (n := 52) (i := 3) d_Tx_readLine_50 rfl (by decide) rfl rfl ?_
        obtain ⟨Q'23, ev20, k⟩ := k
        refine Rn.callV (n := 55) (av := [vR [3, 3]]) d_Tx_readLine_52 rfl ml_Tx_readLine_51 mi_Tx_isWord Lv_2_0 rfl rfl rfl rfl (Nat.le_of_ble_eq_true rfl) ev20 (fun v h22 hq => ?_)
        obtain ⟨r24, rfl, hq⟩ := hq
        have k := k r24 h22 hq
        show Rn X m_Tx_readLine 55 [some (vR [2, 0]), some (vR a1)] [vI r24] h22 Q
        refine Rn.if_eq (n := 58) (t := 64) d_Tx_readLine_55 rfl (by decide) (fun cc => ?_) (fun cc => ?_)
        · have k := k.1 cc
          refine Rn.aload_n (n := 65) (i := 0) d_Tx_readLine_64 rfl rfl rfl ?_
          refine Rn.ldcS (n := 67) (i := 4) d_Tx_readLine_65 rfl (by decide) rfl rfl ?_
          obtain ⟨Q'28, ev25, k⟩ := k
          refine Rn.callV (n := 70) (av := [vR [4, 3]]) d_Tx_readLine_67 rfl ml_Tx_readLine_51 mi_Tx_isWord Lv_2_0 rfl rfl rfl rfl (Nat.le_of_ble_eq_true rfl) ev25 (fun v h27 hq => ?_)
          obtain ⟨r29, rfl, hq⟩ := hq
          have k := k r29 h27 hq
          show Rn X m_Tx_readLine 70 [some (vR [2, 0]), some (vR a1)] [vI r29] h27 Q
          refine Rn.if_eq (n := 73) (t := 85) d_Tx_readLine_70 rfl (by decide) (fun cc => ?_) (fun cc => ?_)
          · have k := k.1 cc
            refine Rn.iconst (n := 86) (v := 0) d_Tx_readLine_85 rfl (by decide) ?_
            exact Rn.iret d_Tx_readLine_86 rfl rfl k
          · have k := k.2 cc
            refine Rn.aload_n (n := 74) (i := 0) d_Tx_readLine_73 rfl rfl rfl ?_
            refine Rn.aload_n (n := 75) (i := 1) d_Tx_readLine_74 rfl rfl rfl ?_
            obtain ⟨Q'33, ev30, k⟩ := k
            refine Rn.callV (n := 78) (av := [vR a1]) d_Tx_readLine_75 rfl ml_Tx_readLine_75 mi_Tx_readRain Lv_2_0 rfl rfl rfl rfl (Nat.le_of_ble_eq_true rfl) ev30 (fun v h32 hq => ?_)
            obtain ⟨r34, rfl, hq⟩ := hq
            have k := k r34 h32 hq
            show Rn X m_Tx_readLine 78 [some (vR [2, 0]), some (vR a1)] [vI r34] h32 Q
            refine Rn.if_eq (n := 81) (t := 85) d_Tx_readLine_78 rfl (by decide) (fun cc => ?_) (fun cc => ?_)
            · have k := k.1 cc
              refine Rn.iconst (n := 86) (v := 0) d_Tx_readLine_85 rfl (by decide) ?_
              exact Rn.iret d_Tx_readLine_86 rfl rfl k
            · have k := k.2 cc
              refine Rn.iconst (n := 82) (v := 1) d_Tx_readLine_81 rfl (by decide) ?_
              refine Rn.goto (n := 86) d_Tx_readLine_82 (by decide) ?_
              exact Rn.iret d_Tx_readLine_86 rfl rfl k
        · have k := k.2 cc
          refine Rn.aload_n (n := 59) (i := 0) d_Tx_readLine_58 rfl rfl rfl ?_
          refine Rn.aload_n (n := 60) (i := 1) d_Tx_readLine_59 rfl rfl rfl ?_
          obtain ⟨Q'38, ev35, k⟩ := k
          refine Rn.callV (n := 63) (av := [vR a1]) d_Tx_readLine_60 rfl ml_Tx_readLine_70 mi_Tx_readGone Lv_2_0 rfl rfl rfl rfl (Nat.le_of_ble_eq_true rfl) ev35 (fun v h37 hq => ?_)
          obtain ⟨r39, rfl, hq⟩ := hq
          have k := k r39 h37 hq
          show Rn X m_Tx_readLine 63 [some (vR [2, 0]), some (vR a1)] [vI r39] h37 Q
          obtain ⟨hz, k⟩ := k
          exact Rn.iret d_Tx_readLine_63 rfl (nar_z hz) k
      · have k := k.2 cc
        refine Rn.aload_n (n := 44) (i := 0) d_Tx_readLine_43 rfl rfl rfl ?_
        refine Rn.aload_n (n := 45) (i := 1) d_Tx_readLine_44 rfl rfl rfl ?_
        obtain ⟨Q'43, ev40, k⟩ := k
        refine Rn.callV (n := 48) (av := [vR a1]) d_Tx_readLine_45 rfl ml_Tx_readLine_65 mi_Tx_readWalker Lv_2_0 rfl rfl rfl rfl (Nat.le_of_ble_eq_true rfl) ev40 (fun v h42 hq => ?_)
        obtain ⟨r44, rfl, hq⟩ := hq
        have k := k r44 h42 hq
        show Rn X m_Tx_readLine 48 [some (vR [2, 0]), some (vR a1)] [vI r44] h42 Q
        obtain ⟨hz, k⟩ := k
        exact Rn.iret d_Tx_readLine_48 rfl (nar_z hz) k
    · have k := k.2 cc
      refine Rn.aload_n (n := 29) (i := 0) d_Tx_readLine_28 rfl rfl rfl ?_
      refine Rn.aload_n (n := 30) (i := 1) d_Tx_readLine_29 rfl rfl rfl ?_
      obtain ⟨Q'48, ev45, k⟩ := k
      refine Rn.callV (n := 33) (av := [vR a1]) d_Tx_readLine_30 rfl ml_Tx_readLine_60 mi_Tx_readAwning Lv_2_0 rfl rfl rfl rfl (Nat.le_of_ble_eq_true rfl) ev45 (fun v h47 hq => ?_)
      obtain ⟨r49, rfl, hq⟩ := hq
      have k := k r49 h47 hq
      show Rn X m_Tx_readLine 33 [some (vR [2, 0]), some (vR a1)] [vI r49] h47 Q
      obtain ⟨hz, k⟩ := k
      exact Rn.iret d_Tx_readLine_33 rfl (nar_z hz) k
  · have k := k.2 cc
    refine Rn.aload_n (n := 14) (i := 0) d_Tx_readLine_13 rfl rfl rfl ?_
    refine Rn.aload_n (n := 15) (i := 1) d_Tx_readLine_14 rfl rfl rfl ?_
    obtain ⟨Q'53, ev50, k⟩ := k
    refine Rn.callV (n := 18) (av := [vR a1]) d_Tx_readLine_15 rfl ml_Tx_readLine_55 mi_Tx_readStreet Lv_2_0 rfl rfl rfl rfl (Nat.le_of_ble_eq_true rfl) ev50 (fun v h52 hq => ?_)
    obtain ⟨r54, rfl, hq⟩ := hq
    have k := k r54 h52 hq
    show Rn X m_Tx_readLine 18 [some (vR [2, 0]), some (vR a1)] [vI r54] h52 Q
    obtain ⟨hz, k⟩ := k
    exact Rn.iret d_Tx_readLine_18 rfl (nar_z hz) k
theorem e_Tx_readLine {X : XS} (a1 : List Nat) (h : Hp) (Q : Option AV → Hp → Prop) (k : Rn X m_Tx_readLine 0 [some (vR [2, 0]), some (vR a1)] [] h Q) : Ev X m_Tx_readLine [vR [2, 0], vR a1] h Q := Ev.intro (plainFor_of_name (by decide +kernel)) (Nat.le_of_ble_eq_true rfl) (ls := [some (vR [2, 0]), some (vR a1)]) rfl k
theorem d_Tx_readStreet_0 : decode m_Tx_readStreet.2.1 0 = .ok (.aload_n 0, 1) := by decide +kernel
theorem d_Tx_readStreet_1 : decode m_Tx_readStreet.2.1 1 = .ok (.iconst 0, 1) := by decide +kernel
theorem d_Tx_readStreet_2 : decode m_Tx_readStreet.2.1 2 = .ok (.iconst 1, 1) := by decide +kernel
theorem d_Tx_readStreet_3 : decode m_Tx_readStreet.2.1 3 = .ok (.iconst 4, 1) := by decide +kernel
theorem d_Tx_readStreet_4 : decode m_Tx_readStreet.2.1 4 = .ok (.invokevirtual 78, 3) := by decide +kernel
theorem d_Tx_readStreet_7 : decode m_Tx_readStreet.2.1 7 = .ok (.ifCond .eq 14, 3) := by decide +kernel
theorem d_Tx_readStreet_10 : decode m_Tx_readStreet.2.1 10 = .ok (.aload_n 0, 1) := by decide +kernel
theorem d_Tx_readStreet_11 : decode m_Tx_readStreet.2.1 11 = .ok (.iconst 1, 1) := by decide +kernel
theorem d_Tx_readStreet_12 : decode m_Tx_readStreet.2.1 12 = .ok (.iconst 1, 1) := by decide +kernel
theorem d_Tx_readStreet_13 : decode m_Tx_readStreet.2.1 13 = .ok (.bipush 12, 2) := by decide +kernel
theorem d_Tx_readStreet_15 : decode m_Tx_readStreet.2.1 15 = .ok (.invokevirtual 78, 3) := by decide +kernel
theorem d_Tx_readStreet_18 : decode m_Tx_readStreet.2.1 18 = .ok (.ifCond .ne 5, 3) := by decide +kernel
theorem d_Tx_readStreet_21 : decode m_Tx_readStreet.2.1 21 = .ok (.iconst 0, 1) := by decide +kernel
theorem d_Tx_readStreet_22 : decode m_Tx_readStreet.2.1 22 = .ok (.ireturn, 1) := by decide +kernel
theorem d_Tx_readStreet_23 : decode m_Tx_readStreet.2.1 23 = .ok (.aload_n 1, 1) := by decide +kernel
theorem d_Tx_readStreet_24 : decode m_Tx_readStreet.2.1 24 = .ok (.aload_n 0, 1) := by decide +kernel
theorem d_Tx_readStreet_25 : decode m_Tx_readStreet.2.1 25 = .ok (.getfield 17, 3) := by decide +kernel
theorem d_Tx_readStreet_28 : decode m_Tx_readStreet.2.1 28 = .ok (.iconst 0, 1) := by decide +kernel
theorem d_Tx_readStreet_29 : decode m_Tx_readStreet.2.1 29 = .ok (.iaload, 1) := by decide +kernel
theorem d_Tx_readStreet_30 : decode m_Tx_readStreet.2.1 30 = .ok (.aload_n 0, 1) := by decide +kernel
theorem d_Tx_readStreet_31 : decode m_Tx_readStreet.2.1 31 = .ok (.getfield 17, 3) := by decide +kernel
theorem d_Tx_readStreet_34 : decode m_Tx_readStreet.2.1 34 = .ok (.iconst 1, 1) := by decide +kernel
theorem d_Tx_readStreet_35 : decode m_Tx_readStreet.2.1 35 = .ok (.iaload, 1) := by decide +kernel
theorem d_Tx_readStreet_36 : decode m_Tx_readStreet.2.1 36 = .ok (.invokevirtual 82, 3) := by decide +kernel
theorem d_Tx_readStreet_39 : decode m_Tx_readStreet.2.1 39 = .ok (.iconst 1, 1) := by decide +kernel
theorem d_Tx_readStreet_40 : decode m_Tx_readStreet.2.1 40 = .ok (.ireturn, 1) := by decide +kernel
theorem g_Tx_readStreet_0 {X : XS} (a1 : List Nat) (h : Hp) (Q : Option AV → Hp → Prop) (w_a1 : IsPl a1) (k : (∃ Q'4, EvI X m_Tx_reads [vR [2, 0], vI 0, vI 1, vI 4] h Q'4 ∧ ∀ (r5 : Int32) (h3 : Hp), Q'4 r5 h3 → ((r5 = 0 → Q (some (vI 0)) h3) ∧ (¬ r5 = 0 → (∃ Q'9, EvI X m_Tx_reads [vR [2, 0], vI 1, vI 1, vI 12] h3 Q'9 ∧ ∀ (r10 : Int32) (h8 : Hp), Q'9 r10 h8 → ((¬ r10 = 0 → (∃ Q'14, EvV X m_Pl_lay [vR a1, vI (h8.1 [1, 2, 0] 0), vI (h8.1 [1, 2, 0] 1)] h8 Q'14 ∧ ∀ (h13 : Hp), Q'14 h13 → Q (some (vI 1)) h13)) ∧ (r10 = 0 → Q (some (vI 0)) h8))))))) : Rn X m_Tx_readStreet 0 [some (vR [2, 0]), some (vR a1)] [] h Q := by
  refine Rn.aload_n (n := 1) (i := 0) d_Tx_readStreet_0 rfl rfl rfl ?_
  refine Rn.iconst (n := 2) (v := 0) d_Tx_readStreet_1 rfl (by decide) ?_
  refine Rn.iconst (n := 3) (v := 1) d_Tx_readStreet_2 rfl (by decide) ?_
  refine Rn.iconst (n := 4) (v := 4) d_Tx_readStreet_3 rfl (by decide) ?_
  obtain ⟨Q'4, ev1, k⟩ := k
  refine Rn.callV (n := 7) (av := [vI 0, vI 1, vI 4]) d_Tx_readStreet_4 rfl ml_Tx_readStreet_78 mi_Tx_reads Lv_2_0 rfl rfl rfl rfl (Nat.le_of_ble_eq_true rfl) ev1 (fun v h3 hq => ?_)
  obtain ⟨r5, rfl, hq⟩ := hq
  have k := k r5 h3 hq
  show Rn X m_Tx_readStreet 7 [some (vR [2, 0]), some (vR a1)] [vI r5] h3 Q
  refine Rn.if_eq (n := 10) (t := 21) d_Tx_readStreet_7 rfl (by decide) (fun cc => ?_) (fun cc => ?_)
  · have k := k.1 cc
    refine Rn.iconst (n := 22) (v := 0) d_Tx_readStreet_21 rfl (by decide) ?_
    exact Rn.iret d_Tx_readStreet_22 rfl rfl k
  · have k := k.2 cc
    refine Rn.aload_n (n := 11) (i := 0) d_Tx_readStreet_10 rfl rfl rfl ?_
    refine Rn.iconst (n := 12) (v := 1) d_Tx_readStreet_11 rfl (by decide) ?_
    refine Rn.iconst (n := 13) (v := 1) d_Tx_readStreet_12 rfl (by decide) ?_
    refine Rn.bipush (n := 15) (v := 12) d_Tx_readStreet_13 rfl (by decide) ?_
    obtain ⟨Q'9, ev6, k⟩ := k
    refine Rn.callV (n := 18) (av := [vI 1, vI 1, vI 12]) d_Tx_readStreet_15 rfl ml_Tx_readStreet_78 mi_Tx_reads Lv_2_0 rfl rfl rfl rfl (Nat.le_of_ble_eq_true rfl) ev6 (fun v h8 hq => ?_)
    obtain ⟨r10, rfl, hq⟩ := hq
    have k := k r10 h8 hq
    show Rn X m_Tx_readStreet 18 [some (vR [2, 0]), some (vR a1)] [vI r10] h8 Q
    refine Rn.if_ne (n := 21) (t := 23) d_Tx_readStreet_18 rfl (by decide) (fun cc => ?_) (fun cc => ?_)
    · have k := k.1 cc
      refine Rn.aload_n (n := 24) (i := 1) d_Tx_readStreet_23 rfl rfl rfl ?_
      refine Rn.aload_n (n := 25) (i := 0) d_Tx_readStreet_24 rfl rfl rfl ?_
      refine Rn.getf (n := 28) (v := vR [1, 2, 0]) d_Tx_readStreet_25 rfl fl_Tx_17 Lv_2_0 rfl ?_
      refine Rn.iconst (n := 29) (v := 0) d_Tx_readStreet_28 rfl (by decide) ?_
      refine Rn.iald (n := 30) (v := h8.1 [1, 2, 0] 0) d_Tx_readStreet_29 rfl Lv_1_2_0 (by unfold vp_in; decide) rfl ?_
      refine Rn.aload_n (n := 31) (i := 0) d_Tx_readStreet_30 rfl rfl rfl ?_
      refine Rn.getf (n := 34) (v := vR [1, 2, 0]) d_Tx_readStreet_31 rfl fl_Tx_17 Lv_2_0 rfl ?_
      refine Rn.iconst (n := 35) (v := 1) d_Tx_readStreet_34 rfl (by decide) ?_
      refine Rn.iald (n := 36) (v := h8.1 [1, 2, 0] 1) d_Tx_readStreet_35 rfl Lv_1_2_0 (by unfold vp_in; decide) rfl ?_
      obtain ⟨Q'14, ev11, k⟩ := k
      refine Rn.callV (n := 39) (av := [vI (h8.1 [1, 2, 0] 0), vI (h8.1 [1, 2, 0] 1)]) d_Tx_readStreet_36 rfl ml_Tx_readStreet_82 mi_Pl_lay w_a1.s rfl rfl rfl rfl (Nat.le_of_ble_eq_true rfl) ev11 (fun v h13 hq => ?_)
      obtain ⟨rfl, hq⟩ := hq
      have k := k h13 hq
      show Rn X m_Tx_readStreet 39 [some (vR [2, 0]), some (vR a1)] [] h13 Q
      refine Rn.iconst (n := 40) (v := 1) d_Tx_readStreet_39 rfl (by decide) ?_
      exact Rn.iret d_Tx_readStreet_40 rfl rfl k
    · have k := k.2 cc
      refine Rn.iconst (n := 22) (v := 0) d_Tx_readStreet_21 rfl (by decide) ?_
      exact Rn.iret d_Tx_readStreet_22 rfl rfl k
theorem e_Tx_readStreet {X : XS} (a1 : List Nat) (h : Hp) (Q : Option AV → Hp → Prop) (k : Rn X m_Tx_readStreet 0 [some (vR [2, 0]), some (vR a1)] [] h Q) : Ev X m_Tx_readStreet [vR [2, 0], vR a1] h Q := Ev.intro (plainFor_of_name (by decide +kernel)) (Nat.le_of_ble_eq_true rfl) (ls := [some (vR [2, 0]), some (vR a1)]) rfl k
theorem d_Tx_readAwning_0 : decode m_Tx_readAwning.2.1 0 = .ok (.aload_n 0, 1) := by decide +kernel
theorem d_Tx_readAwning_1 : decode m_Tx_readAwning.2.1 1 = .ok (.iconst 0, 1) := by decide +kernel
theorem d_Tx_readAwning_2 : decode m_Tx_readAwning.2.1 2 = .ok (.iconst 0, 1) := by decide +kernel
theorem d_Tx_readAwning_3 : decode m_Tx_readAwning.2.1 3 = .ok (.aload_n 1, 1) := by decide +kernel
theorem d_Tx_readAwning_4 : decode m_Tx_readAwning.2.1 4 = .ok (.getfield 86, 3) := by decide +kernel
theorem d_Tx_readAwning_7 : decode m_Tx_readAwning.2.1 7 = .ok (.iconst 1, 1) := by decide +kernel
theorem d_Tx_readAwning_8 : decode m_Tx_readAwning.2.1 8 = .ok (.isub, 1) := by decide +kernel
theorem d_Tx_readAwning_9 : decode m_Tx_readAwning.2.1 9 = .ok (.invokevirtual 78, 3) := by decide +kernel
theorem d_Tx_readAwning_12 : decode m_Tx_readAwning.2.1 12 = .ok (.ifCond .eq 18, 3) := by decide +kernel
theorem d_Tx_readAwning_15 : decode m_Tx_readAwning.2.1 15 = .ok (.aload_n 0, 1) := by decide +kernel
theorem d_Tx_readAwning_16 : decode m_Tx_readAwning.2.1 16 = .ok (.iconst 1, 1) := by decide +kernel
theorem d_Tx_readAwning_17 : decode m_Tx_readAwning.2.1 17 = .ok (.iconst 0, 1) := by decide +kernel
theorem d_Tx_readAwning_18 : decode m_Tx_readAwning.2.1 18 = .ok (.aload_n 1, 1) := by decide +kernel
theorem d_Tx_readAwning_19 : decode m_Tx_readAwning.2.1 19 = .ok (.getfield 89, 3) := by decide +kernel
theorem d_Tx_readAwning_22 : decode m_Tx_readAwning.2.1 22 = .ok (.iconst 1, 1) := by decide +kernel
theorem d_Tx_readAwning_23 : decode m_Tx_readAwning.2.1 23 = .ok (.isub, 1) := by decide +kernel
theorem d_Tx_readAwning_24 : decode m_Tx_readAwning.2.1 24 = .ok (.invokevirtual 78, 3) := by decide +kernel
theorem d_Tx_readAwning_27 : decode m_Tx_readAwning.2.1 27 = .ok (.ifCond .ne 5, 3) := by decide +kernel
theorem d_Tx_readAwning_30 : decode m_Tx_readAwning.2.1 30 = .ok (.iconst 0, 1) := by decide +kernel
theorem d_Tx_readAwning_31 : decode m_Tx_readAwning.2.1 31 = .ok (.ireturn, 1) := by decide +kernel
theorem d_Tx_readAwning_32 : decode m_Tx_readAwning.2.1 32 = .ok (.aload_n 1, 1) := by decide +kernel
theorem d_Tx_readAwning_33 : decode m_Tx_readAwning.2.1 33 = .ok (.iconst 4, 1) := by decide +kernel
theorem d_Tx_readAwning_34 : decode m_Tx_readAwning.2.1 34 = .ok (.aload_n 0, 1) := by decide +kernel
theorem d_Tx_readAwning_35 : decode m_Tx_readAwning.2.1 35 = .ok (.getfield 17, 3) := by decide +kernel
theorem d_Tx_readAwning_38 : decode m_Tx_readAwning.2.1 38 = .ok (.iconst 0, 1) := by decide +kernel
theorem d_Tx_readAwning_39 : decode m_Tx_readAwning.2.1 39 = .ok (.iaload, 1) := by decide +kernel
theorem d_Tx_readAwning_40 : decode m_Tx_readAwning.2.1 40 = .ok (.imul, 1) := by decide +kernel
theorem d_Tx_readAwning_41 : decode m_Tx_readAwning.2.1 41 = .ok (.aload_n 0, 1) := by decide +kernel
theorem d_Tx_readAwning_42 : decode m_Tx_readAwning.2.1 42 = .ok (.getfield 17, 3) := by decide +kernel
theorem d_Tx_readAwning_45 : decode m_Tx_readAwning.2.1 45 = .ok (.iconst 1, 1) := by decide +kernel
theorem d_Tx_readAwning_46 : decode m_Tx_readAwning.2.1 46 = .ok (.iaload, 1) := by decide +kernel
theorem d_Tx_readAwning_47 : decode m_Tx_readAwning.2.1 47 = .ok (.iadd, 1) := by decide +kernel
theorem d_Tx_readAwning_48 : decode m_Tx_readAwning.2.1 48 = .ok (.invokevirtual 92, 3) := by decide +kernel
theorem d_Tx_readAwning_51 : decode m_Tx_readAwning.2.1 51 = .ok (.iconst 1, 1) := by decide +kernel
theorem d_Tx_readAwning_52 : decode m_Tx_readAwning.2.1 52 = .ok (.ireturn, 1) := by decide +kernel
theorem g_Tx_readAwning_0 {X : XS} (a1 : List Nat) (h : Hp) (Q : Option AV → Hp → Prop) (w_a1 : IsPl a1) (k : (∃ Q'4, EvI X m_Tx_reads [vR [2, 0], vI 0, vI 0, vI ((h.1 a1 1) - 1)] h Q'4 ∧ ∀ (r5 : Int32) (h3 : Hp), Q'4 r5 h3 → ((r5 = 0 → Q (some (vI 0)) h3) ∧ (¬ r5 = 0 → (∃ Q'9, EvI X m_Tx_reads [vR [2, 0], vI 1, vI 0, vI ((h3.1 a1 0) - 1)] h3 Q'9 ∧ ∀ (r10 : Int32) (h8 : Hp), Q'9 r10 h8 → ((¬ r10 = 0 → (∃ Q'14, EvV X m_Pl_cover [vR a1, vI ((4 * (h8.1 [1, 2, 0] 0)) + (h8.1 [1, 2, 0] 1))] h8 Q'14 ∧ ∀ (h13 : Hp), Q'14 h13 → Q (some (vI 1)) h13)) ∧ (r10 = 0 → Q (some (vI 0)) h8))))))) : Rn X m_Tx_readAwning 0 [some (vR [2, 0]), some (vR a1)] [] h Q := by
  refine Rn.aload_n (n := 1) (i := 0) d_Tx_readAwning_0 rfl rfl rfl ?_
  refine Rn.iconst (n := 2) (v := 0) d_Tx_readAwning_1 rfl (by decide) ?_
  refine Rn.iconst (n := 3) (v := 0) d_Tx_readAwning_2 rfl (by decide) ?_
  refine Rn.aload_n (n := 4) (i := 1) d_Tx_readAwning_3 rfl rfl rfl ?_
  refine Rn.getf (n := 7) (v := vI (h.1 a1 1)) d_Tx_readAwning_4 rfl fl_Tx_86 w_a1.s rfl ?_
  refine Rn.iconst (n := 8) (v := 1) d_Tx_readAwning_7 rfl (by decide) ?_
  refine Rn.isub (n := 9) d_Tx_readAwning_8 rfl ?_
  obtain ⟨Q'4, ev1, k⟩ := k
  refine Rn.callV (n := 12) (av := [vI 0, vI 0, vI ((h.1 a1 1) - 1)]) d_Tx_readAwning_9 rfl ml_Tx_readAwning_78 mi_Tx_reads Lv_2_0 rfl rfl rfl rfl (Nat.le_of_ble_eq_true rfl) ev1 (fun v h3 hq => ?_)
  obtain ⟨r5, rfl, hq⟩ := hq
  have k := k r5 h3 hq
  show Rn X m_Tx_readAwning 12 [some (vR [2, 0]), some (vR a1)] [vI r5] h3 Q
  refine Rn.if_eq (n := 15) (t := 30) d_Tx_readAwning_12 rfl (by decide) (fun cc => ?_) (fun cc => ?_)
  · have k := k.1 cc
    refine Rn.iconst (n := 31) (v := 0) d_Tx_readAwning_30 rfl (by decide) ?_
    exact Rn.iret d_Tx_readAwning_31 rfl rfl k
  · have k := k.2 cc
    refine Rn.aload_n (n := 16) (i := 0) d_Tx_readAwning_15 rfl rfl rfl ?_
    refine Rn.iconst (n := 17) (v := 1) d_Tx_readAwning_16 rfl (by decide) ?_
    refine Rn.iconst (n := 18) (v := 0) d_Tx_readAwning_17 rfl (by decide) ?_
    refine Rn.aload_n (n := 19) (i := 1) d_Tx_readAwning_18 rfl rfl rfl ?_
    refine Rn.getf (n := 22) (v := vI (h3.1 a1 0)) d_Tx_readAwning_19 rfl fl_Tx_89 w_a1.s rfl ?_
    refine Rn.iconst (n := 23) (v := 1) d_Tx_readAwning_22 rfl (by decide) ?_
    refine Rn.isub (n := 24) d_Tx_readAwning_23 rfl ?_
    obtain ⟨Q'9, ev6, k⟩ := k
    refine Rn.callV (n := 27) (av := [vI 1, vI 0, vI ((h3.1 a1 0) - 1)]) d_Tx_readAwning_24 rfl ml_Tx_readAwning_78 mi_Tx_reads Lv_2_0 rfl rfl rfl rfl (Nat.le_of_ble_eq_true rfl) ev6 (fun v h8 hq => ?_)
    obtain ⟨r10, rfl, hq⟩ := hq
    have k := k r10 h8 hq
    show Rn X m_Tx_readAwning 27 [some (vR [2, 0]), some (vR a1)] [vI r10] h8 Q
    refine Rn.if_ne (n := 30) (t := 32) d_Tx_readAwning_27 rfl (by decide) (fun cc => ?_) (fun cc => ?_)
    · have k := k.1 cc
      refine Rn.aload_n (n := 33) (i := 1) d_Tx_readAwning_32 rfl rfl rfl ?_
      refine Rn.iconst (n := 34) (v := 4) d_Tx_readAwning_33 rfl (by decide) ?_
      refine Rn.aload_n (n := 35) (i := 0) d_Tx_readAwning_34 rfl rfl rfl ?_
      refine Rn.getf (n := 38) (v := vR [1, 2, 0]) d_Tx_readAwning_35 rfl fl_Tx_17 Lv_2_0 rfl ?_
      refine Rn.iconst (n := 39) (v := 0) d_Tx_readAwning_38 rfl (by decide) ?_
      refine Rn.iald (n := 40) (v := h8.1 [1, 2, 0] 0) d_Tx_readAwning_39 rfl Lv_1_2_0 (by unfold vp_in; decide) rfl ?_
      refine Rn.imul (n := 41) d_Tx_readAwning_40 rfl ?_
      refine Rn.aload_n (n := 42) (i := 0) d_Tx_readAwning_41 rfl rfl rfl ?_
      refine Rn.getf (n := 45) (v := vR [1, 2, 0]) d_Tx_readAwning_42 rfl fl_Tx_17 Lv_2_0 rfl ?_
      refine Rn.iconst (n := 46) (v := 1) d_Tx_readAwning_45 rfl (by decide) ?_
      refine Rn.iald (n := 47) (v := h8.1 [1, 2, 0] 1) d_Tx_readAwning_46 rfl Lv_1_2_0 (by unfold vp_in; decide) rfl ?_
      refine Rn.iadd (n := 48) d_Tx_readAwning_47 rfl ?_
      obtain ⟨Q'14, ev11, k⟩ := k
      refine Rn.callV (n := 51) (av := [vI ((4 * (h8.1 [1, 2, 0] 0)) + (h8.1 [1, 2, 0] 1))]) d_Tx_readAwning_48 rfl ml_Tx_readAwning_92 mi_Pl_cover w_a1.s rfl rfl rfl rfl (Nat.le_of_ble_eq_true rfl) ev11 (fun v h13 hq => ?_)
      obtain ⟨rfl, hq⟩ := hq
      have k := k h13 hq
      show Rn X m_Tx_readAwning 51 [some (vR [2, 0]), some (vR a1)] [] h13 Q
      refine Rn.iconst (n := 52) (v := 1) d_Tx_readAwning_51 rfl (by decide) ?_
      exact Rn.iret d_Tx_readAwning_52 rfl rfl k
    · have k := k.2 cc
      refine Rn.iconst (n := 31) (v := 0) d_Tx_readAwning_30 rfl (by decide) ?_
      exact Rn.iret d_Tx_readAwning_31 rfl rfl k
theorem e_Tx_readAwning {X : XS} (a1 : List Nat) (h : Hp) (Q : Option AV → Hp → Prop) (k : Rn X m_Tx_readAwning 0 [some (vR [2, 0]), some (vR a1)] [] h Q) : Ev X m_Tx_readAwning [vR [2, 0], vR a1] h Q := Ev.intro (plainFor_of_name (by decide +kernel)) (Nat.le_of_ble_eq_true rfl) (ls := [some (vR [2, 0]), some (vR a1)]) rfl k
theorem d_Tx_readWalker_0 : decode m_Tx_readWalker.2.1 0 = .ok (.aload_n 0, 1) := by decide +kernel
theorem d_Tx_readWalker_1 : decode m_Tx_readWalker.2.1 1 = .ok (.iconst 0, 1) := by decide +kernel
theorem d_Tx_readWalker_2 : decode m_Tx_readWalker.2.1 2 = .ok (.iconst 0, 1) := by decide +kernel
theorem d_Tx_readWalker_3 : decode m_Tx_readWalker.2.1 3 = .ok (.iconst 5, 1) := by decide +kernel
theorem d_Tx_readWalker_4 : decode m_Tx_readWalker.2.1 4 = .ok (.invokevirtual 78, 3) := by decide +kernel
theorem d_Tx_readWalker_7 : decode m_Tx_readWalker.2.1 7 = .ok (.ifCond .eq 28, 3) := by decide +kernel
theorem d_Tx_readWalker_10 : decode m_Tx_readWalker.2.1 10 = .ok (.aload_n 0, 1) := by decide +kernel
theorem d_Tx_readWalker_11 : decode m_Tx_readWalker.2.1 11 = .ok (.iconst 1, 1) := by decide +kernel
theorem d_Tx_readWalker_12 : decode m_Tx_readWalker.2.1 12 = .ok (.iconst 0, 1) := by decide +kernel
theorem d_Tx_readWalker_13 : decode m_Tx_readWalker.2.1 13 = .ok (.aload_n 1, 1) := by decide +kernel
theorem d_Tx_readWalker_14 : decode m_Tx_readWalker.2.1 14 = .ok (.getfield 89, 3) := by decide +kernel
theorem d_Tx_readWalker_17 : decode m_Tx_readWalker.2.1 17 = .ok (.iconst 1, 1) := by decide +kernel
theorem d_Tx_readWalker_18 : decode m_Tx_readWalker.2.1 18 = .ok (.isub, 1) := by decide +kernel
theorem d_Tx_readWalker_19 : decode m_Tx_readWalker.2.1 19 = .ok (.invokevirtual 78, 3) := by decide +kernel
theorem d_Tx_readWalker_22 : decode m_Tx_readWalker.2.1 22 = .ok (.ifCond .eq 13, 3) := by decide +kernel
theorem d_Tx_readWalker_25 : decode m_Tx_readWalker.2.1 25 = .ok (.aload_n 0, 1) := by decide +kernel
theorem d_Tx_readWalker_26 : decode m_Tx_readWalker.2.1 26 = .ok (.iconst 2, 1) := by decide +kernel
theorem d_Tx_readWalker_27 : decode m_Tx_readWalker.2.1 27 = .ok (.iconst 0, 1) := by decide +kernel
theorem d_Tx_readWalker_28 : decode m_Tx_readWalker.2.1 28 = .ok (.iconst 1, 1) := by decide +kernel
theorem d_Tx_readWalker_29 : decode m_Tx_readWalker.2.1 29 = .ok (.invokevirtual 78, 3) := by decide +kernel
theorem d_Tx_readWalker_32 : decode m_Tx_readWalker.2.1 32 = .ok (.ifCond .ne 5, 3) := by decide +kernel
theorem d_Tx_readWalker_35 : decode m_Tx_readWalker.2.1 35 = .ok (.iconst 0, 1) := by decide +kernel
theorem d_Tx_readWalker_36 : decode m_Tx_readWalker.2.1 36 = .ok (.ireturn, 1) := by decide +kernel
theorem d_Tx_readWalker_37 : decode m_Tx_readWalker.2.1 37 = .ok (.aload_n 0, 1) := by decide +kernel
theorem d_Tx_readWalker_38 : decode m_Tx_readWalker.2.1 38 = .ok (.iconst 3, 1) := by decide +kernel
theorem d_Tx_readWalker_39 : decode m_Tx_readWalker.2.1 39 = .ok (.iconst 0, 1) := by decide +kernel
theorem d_Tx_readWalker_40 : decode m_Tx_readWalker.2.1 40 = .ok (.bipush 20, 2) := by decide +kernel
theorem d_Tx_readWalker_42 : decode m_Tx_readWalker.2.1 42 = .ok (.invokevirtual 78, 3) := by decide +kernel
theorem d_Tx_readWalker_45 : decode m_Tx_readWalker.2.1 45 = .ok (.ifCond .eq 14, 3) := by decide +kernel
theorem d_Tx_readWalker_48 : decode m_Tx_readWalker.2.1 48 = .ok (.aload_n 0, 1) := by decide +kernel
theorem d_Tx_readWalker_49 : decode m_Tx_readWalker.2.1 49 = .ok (.iconst 4, 1) := by decide +kernel
theorem d_Tx_readWalker_50 : decode m_Tx_readWalker.2.1 50 = .ok (.iconst 1, 1) := by decide +kernel
theorem d_Tx_readWalker_51 : decode m_Tx_readWalker.2.1 51 = .ok (.bipush 9, 2) := by decide +kernel
theorem d_Tx_readWalker_53 : decode m_Tx_readWalker.2.1 53 = .ok (.invokevirtual 78, 3) := by decide +kernel
theorem d_Tx_readWalker_56 : decode m_Tx_readWalker.2.1 56 = .ok (.ifCond .ne 5, 3) := by decide +kernel
theorem d_Tx_readWalker_59 : decode m_Tx_readWalker.2.1 59 = .ok (.iconst 0, 1) := by decide +kernel
theorem d_Tx_readWalker_60 : decode m_Tx_readWalker.2.1 60 = .ok (.ireturn, 1) := by decide +kernel
theorem d_Tx_readWalker_61 : decode m_Tx_readWalker.2.1 61 = .ok (.aload_n 0, 1) := by decide +kernel
theorem d_Tx_readWalker_62 : decode m_Tx_readWalker.2.1 62 = .ok (.iconst 5, 1) := by decide +kernel
theorem d_Tx_readWalker_63 : decode m_Tx_readWalker.2.1 63 = .ok (.iconst 0, 1) := by decide +kernel
theorem d_Tx_readWalker_64 : decode m_Tx_readWalker.2.1 64 = .ok (.iconst 2, 1) := by decide +kernel
theorem d_Tx_readWalker_65 : decode m_Tx_readWalker.2.1 65 = .ok (.invokevirtual 78, 3) := by decide +kernel
theorem d_Tx_readWalker_68 : decode m_Tx_readWalker.2.1 68 = .ok (.ifCond .eq 14, 3) := by decide +kernel
theorem d_Tx_readWalker_71 : decode m_Tx_readWalker.2.1 71 = .ok (.aload_n 0, 1) := by decide +kernel
theorem d_Tx_readWalker_72 : decode m_Tx_readWalker.2.1 72 = .ok (.bipush 6, 2) := by decide +kernel
theorem d_Tx_readWalker_74 : decode m_Tx_readWalker.2.1 74 = .ok (.iconst 0, 1) := by decide +kernel
theorem d_Tx_readWalker_75 : decode m_Tx_readWalker.2.1 75 = .ok (.iconst 2, 1) := by decide +kernel
theorem d_Tx_readWalker_76 : decode m_Tx_readWalker.2.1 76 = .ok (.invokevirtual 78, 3) := by decide +kernel
theorem d_Tx_readWalker_79 : decode m_Tx_readWalker.2.1 79 = .ok (.ifCond .ne 5, 3) := by decide +kernel
theorem d_Tx_readWalker_82 : decode m_Tx_readWalker.2.1 82 = .ok (.iconst 0, 1) := by decide +kernel
theorem d_Tx_readWalker_83 : decode m_Tx_readWalker.2.1 83 = .ok (.ireturn, 1) := by decide +kernel
theorem d_Tx_readWalker_84 : decode m_Tx_readWalker.2.1 84 = .ok (.aload_n 1, 1) := by decide +kernel
theorem d_Tx_readWalker_85 : decode m_Tx_readWalker.2.1 85 = .ok (.aload_n 0, 1) := by decide +kernel
theorem d_Tx_readWalker_86 : decode m_Tx_readWalker.2.1 86 = .ok (.getfield 17, 3) := by decide +kernel
theorem d_Tx_readWalker_89 : decode m_Tx_readWalker.2.1 89 = .ok (.invokevirtual 96, 3) := by decide +kernel
theorem d_Tx_readWalker_92 : decode m_Tx_readWalker.2.1 92 = .ok (.iconst 1, 1) := by decide +kernel
theorem d_Tx_readWalker_93 : decode m_Tx_readWalker.2.1 93 = .ok (.ireturn, 1) := by decide +kernel
theorem g_Tx_readWalker_0 {X : XS} (a1 : List Nat) (h : Hp) (Q : Option AV → Hp → Prop) (w_a1 : IsPl a1) (k : (∃ Q'4, EvI X m_Tx_reads [vR [2, 0], vI 0, vI 0, vI 5] h Q'4 ∧ ∀ (r5 : Int32) (h3 : Hp), Q'4 r5 h3 → ((r5 = 0 → Q (some (vI 0)) h3) ∧ (¬ r5 = 0 → (∃ Q'9, EvI X m_Tx_reads [vR [2, 0], vI 1, vI 0, vI ((h3.1 a1 0) - 1)] h3 Q'9 ∧ ∀ (r10 : Int32) (h8 : Hp), Q'9 r10 h8 → ((r10 = 0 → Q (some (vI 0)) h8) ∧ (¬ r10 = 0 → (∃ Q'14, EvI X m_Tx_reads [vR [2, 0], vI 2, vI 0, vI 1] h8 Q'14 ∧ ∀ (r15 : Int32) (h13 : Hp), Q'14 r15 h13 → ((¬ r15 = 0 → (∃ Q'19, EvI X m_Tx_reads [vR [2, 0], vI 3, vI 0, vI 20] h13 Q'19 ∧ ∀ (r20 : Int32) (h18 : Hp), Q'19 r20 h18 → ((r20 = 0 → Q (some (vI 0)) h18) ∧ (¬ r20 = 0 → (∃ Q'24, EvI X m_Tx_reads [vR [2, 0], vI 4, vI 1, vI 9] h18 Q'24 ∧ ∀ (r25 : Int32) (h23 : Hp), Q'24 r25 h23 → ((¬ r25 = 0 → (∃ Q'29, EvI X m_Tx_reads [vR [2, 0], vI 5, vI 0, vI 2] h23 Q'29 ∧ ∀ (r30 : Int32) (h28 : Hp), Q'29 r30 h28 → ((r30 = 0 → Q (some (vI 0)) h28) ∧ (¬ r30 = 0 → (∃ Q'34, EvI X m_Tx_reads [vR [2, 0], vI 6, vI 0, vI 2] h28 Q'34 ∧ ∀ (r35 : Int32) (h33 : Hp), Q'34 r35 h33 → ((¬ r35 = 0 → (∃ Q'39, EvV X m_Pl_welcome [vR a1, vR [1, 2, 0]] h33 Q'39 ∧ ∀ (h38 : Hp), Q'39 h38 → Q (some (vI 1)) h38)) ∧ (r35 = 0 → Q (some (vI 0)) h33))))))) ∧ (r25 = 0 → Q (some (vI 0)) h23))))))) ∧ (r15 = 0 → Q (some (vI 0)) h13)))))))))) : Rn X m_Tx_readWalker 0 [some (vR [2, 0]), some (vR a1)] [] h Q := by
  refine Rn.aload_n (n := 1) (i := 0) d_Tx_readWalker_0 rfl rfl rfl ?_
  refine Rn.iconst (n := 2) (v := 0) d_Tx_readWalker_1 rfl (by decide) ?_
  refine Rn.iconst (n := 3) (v := 0) d_Tx_readWalker_2 rfl (by decide) ?_
  refine Rn.iconst (n := 4) (v := 5) d_Tx_readWalker_3 rfl (by decide) ?_
  obtain ⟨Q'4, ev1, k⟩ := k
  refine Rn.callV (n := 7) (av := [vI 0, vI 0, vI 5]) d_Tx_readWalker_4 rfl ml_Tx_readWalker_78 mi_Tx_reads Lv_2_0 rfl rfl rfl rfl (Nat.le_of_ble_eq_true rfl) ev1 (fun v h3 hq => ?_)
  obtain ⟨r5, rfl, hq⟩ := hq
  have k := k r5 h3 hq
  show Rn X m_Tx_readWalker 7 [some (vR [2, 0]), some (vR a1)] [vI r5] h3 Q
  refine Rn.if_eq (n := 10) (t := 35) d_Tx_readWalker_7 rfl (by decide) (fun cc => ?_) (fun cc => ?_)
  · have k := k.1 cc
    refine Rn.iconst (n := 36) (v := 0) d_Tx_readWalker_35 rfl (by decide) ?_
    exact Rn.iret d_Tx_readWalker_36 rfl rfl k
  · have k := k.2 cc
    refine Rn.aload_n (n := 11) (i := 0) d_Tx_readWalker_10 rfl rfl rfl ?_
    refine Rn.iconst (n := 12) (v := 1) d_Tx_readWalker_11 rfl (by decide) ?_
    refine Rn.iconst (n := 13) (v := 0) d_Tx_readWalker_12 rfl (by decide) ?_
    refine Rn.aload_n (n := 14) (i := 1) d_Tx_readWalker_13 rfl rfl rfl ?_
    refine Rn.getf (n := 17) (v := vI (h3.1 a1 0)) d_Tx_readWalker_14 rfl fl_Tx_89 w_a1.s rfl ?_
    refine Rn.iconst (n := 18) (v := 1) d_Tx_readWalker_17 rfl (by decide) ?_
    refine Rn.isub (n := 19) d_Tx_readWalker_18 rfl ?_
    obtain ⟨Q'9, ev6, k⟩ := k
    refine Rn.callV (n := 22) (av := [vI 1, vI 0, vI ((h3.1 a1 0) - 1)]) d_Tx_readWalker_19 rfl ml_Tx_readWalker_78 mi_Tx_reads Lv_2_0 rfl rfl rfl rfl (Nat.le_of_ble_eq_true rfl) ev6 (fun v h8 hq => ?_)
    obtain ⟨r10, rfl, hq⟩ := hq
    have k := k r10 h8 hq
    show Rn X m_Tx_readWalker 22 [some (vR [2, 0]), some (vR a1)] [vI r10] h8 Q
    refine Rn.if_eq (n := 25) (t := 35) d_Tx_readWalker_22 rfl (by decide) (fun cc => ?_) (fun cc => ?_)
    · have k := k.1 cc
      refine Rn.iconst (n := 36) (v := 0) d_Tx_readWalker_35 rfl (by decide) ?_
      exact Rn.iret d_Tx_readWalker_36 rfl rfl k
    · have k := k.2 cc
      refine Rn.aload_n (n := 26) (i := 0) d_Tx_readWalker_25 rfl rfl rfl ?_
      refine Rn.iconst (n := 27) (v := 2) d_Tx_readWalker_26 rfl (by decide) ?_
      refine Rn.iconst (n := 28) (v := 0) d_Tx_readWalker_27 rfl (by decide) ?_
      refine Rn.iconst (n := 29) (v := 1) d_Tx_readWalker_28 rfl (by decide) ?_
      obtain ⟨Q'14, ev11, k⟩ := k
      refine Rn.callV (n := 32) (av := [vI 2, vI 0, vI 1]) d_Tx_readWalker_29 rfl ml_Tx_readWalker_78 mi_Tx_reads Lv_2_0 rfl rfl rfl rfl (Nat.le_of_ble_eq_true rfl) ev11 (fun v h13 hq => ?_)
      obtain ⟨r15, rfl, hq⟩ := hq
      have k := k r15 h13 hq
      show Rn X m_Tx_readWalker 32 [some (vR [2, 0]), some (vR a1)] [vI r15] h13 Q
      refine Rn.if_ne (n := 35) (t := 37) d_Tx_readWalker_32 rfl (by decide) (fun cc => ?_) (fun cc => ?_)
      · have k := k.1 cc
        refine Rn.aload_n (n := 38) (i := 0) d_Tx_readWalker_37 rfl rfl rfl ?_
        refine Rn.iconst (n := 39) (v := 3) d_Tx_readWalker_38 rfl (by decide) ?_
        refine Rn.iconst (n := 40) (v := 0) d_Tx_readWalker_39 rfl (by decide) ?_
        refine Rn.bipush (n := 42) (v := 20) d_Tx_readWalker_40 rfl (by decide) ?_
        obtain ⟨Q'19, ev16, k⟩ := k
        refine Rn.callV (n := 45) (av := [vI 3, vI 0, vI 20]) d_Tx_readWalker_42 rfl ml_Tx_readWalker_78 mi_Tx_reads Lv_2_0 rfl rfl rfl rfl (Nat.le_of_ble_eq_true rfl) ev16 (fun v h18 hq => ?_)
        obtain ⟨r20, rfl, hq⟩ := hq
        have k := k r20 h18 hq
        show Rn X m_Tx_readWalker 45 [some (vR [2, 0]), some (vR a1)] [vI r20] h18 Q
        refine Rn.if_eq (n := 48) (t := 59) d_Tx_readWalker_45 rfl (by decide) (fun cc => ?_) (fun cc => ?_)
        · have k := k.1 cc
          refine Rn.iconst (n := 60) (v := 0) d_Tx_readWalker_59 rfl (by decide) ?_
          exact Rn.iret d_Tx_readWalker_60 rfl rfl k
        · have k := k.2 cc
          refine Rn.aload_n (n := 49) (i := 0) d_Tx_readWalker_48 rfl rfl rfl ?_
          refine Rn.iconst (n := 50) (v := 4) d_Tx_readWalker_49 rfl (by decide) ?_
          refine Rn.iconst (n := 51) (v := 1) d_Tx_readWalker_50 rfl (by decide) ?_
          refine Rn.bipush (n := 53) (v := 9) d_Tx_readWalker_51 rfl (by decide) ?_
          obtain ⟨Q'24, ev21, k⟩ := k
          refine Rn.callV (n := 56) (av := [vI 4, vI 1, vI 9]) d_Tx_readWalker_53 rfl ml_Tx_readWalker_78 mi_Tx_reads Lv_2_0 rfl rfl rfl rfl (Nat.le_of_ble_eq_true rfl) ev21 (fun v h23 hq => ?_)
          obtain ⟨r25, rfl, hq⟩ := hq
          have k := k r25 h23 hq
          show Rn X m_Tx_readWalker 56 [some (vR [2, 0]), some (vR a1)] [vI r25] h23 Q
          refine Rn.if_ne (n := 59) (t := 61) d_Tx_readWalker_56 rfl (by decide) (fun cc => ?_) (fun cc => ?_)
          · have k := k.1 cc
            refine Rn.aload_n (n := 62) (i := 0) d_Tx_readWalker_61 rfl rfl rfl ?_
            refine Rn.iconst (n := 63) (v := 5) d_Tx_readWalker_62 rfl (by decide) ?_
            refine Rn.iconst (n := 64) (v := 0) d_Tx_readWalker_63 rfl (by decide) ?_
            refine Rn.iconst (n := 65) (v := 2) d_Tx_readWalker_64 rfl (by decide) ?_
            obtain ⟨Q'29, ev26, k⟩ := k
            refine Rn.callV (n := 68) (av := [vI 5, vI 0, vI 2]) d_Tx_readWalker_65 rfl ml_Tx_readWalker_78 mi_Tx_reads Lv_2_0 rfl rfl rfl rfl (Nat.le_of_ble_eq_true rfl) ev26 (fun v h28 hq => ?_)
            obtain ⟨r30, rfl, hq⟩ := hq
            have k := k r30 h28 hq
            show Rn X m_Tx_readWalker 68 [some (vR [2, 0]), some (vR a1)] [vI r30] h28 Q
            refine Rn.if_eq (n := 71) (t := 82) d_Tx_readWalker_68 rfl (by decide) (fun cc => ?_) (fun cc => ?_)
            · have k := k.1 cc
              refine Rn.iconst (n := 83) (v := 0) d_Tx_readWalker_82 rfl (by decide) ?_
              exact Rn.iret d_Tx_readWalker_83 rfl rfl k
            · have k := k.2 cc
              refine Rn.aload_n (n := 72) (i := 0) d_Tx_readWalker_71 rfl rfl rfl ?_
              refine Rn.bipush (n := 74) (v := 6) d_Tx_readWalker_72 rfl (by decide) ?_
              refine Rn.iconst (n := 75) (v := 0) d_Tx_readWalker_74 rfl (by decide) ?_
              refine Rn.iconst (n := 76) (v := 2) d_Tx_readWalker_75 rfl (by decide) ?_
              obtain ⟨Q'34, ev31, k⟩ := k
              refine Rn.callV (n := 79) (av := [vI 6, vI 0, vI 2]) d_Tx_readWalker_76 rfl ml_Tx_readWalker_78 mi_Tx_reads Lv_2_0 rfl rfl rfl rfl (Nat.le_of_ble_eq_true rfl) ev31 (fun v h33 hq => ?_)
              obtain ⟨r35, rfl, hq⟩ := hq
              have k := k r35 h33 hq
              show Rn X m_Tx_readWalker 79 [some (vR [2, 0]), some (vR a1)] [vI r35] h33 Q
              refine Rn.if_ne (n := 82) (t := 84) d_Tx_readWalker_79 rfl (by decide) (fun cc => ?_) (fun cc => ?_)
              · have k := k.1 cc
                refine Rn.aload_n (n := 85) (i := 1) d_Tx_readWalker_84 rfl rfl rfl ?_
                refine Rn.aload_n (n := 86) (i := 0) d_Tx_readWalker_85 rfl rfl rfl ?_
                refine Rn.getf (n := 89) (v := vR [1, 2, 0]) d_Tx_readWalker_86 rfl fl_Tx_17 Lv_2_0 rfl ?_
                obtain ⟨Q'39, ev36, k⟩ := k
                refine Rn.callV (n := 92) (av := [vR [1, 2, 0]]) d_Tx_readWalker_89 rfl ml_Tx_readWalker_96 mi_Pl_welcome w_a1.s rfl rfl rfl rfl (Nat.le_of_ble_eq_true rfl) ev36 (fun v h38 hq => ?_)
                obtain ⟨rfl, hq⟩ := hq
                have k := k h38 hq
                show Rn X m_Tx_readWalker 92 [some (vR [2, 0]), some (vR a1)] [] h38 Q
                refine Rn.iconst (n := 93) (v := 1) d_Tx_readWalker_92 rfl (by decide) ?_
                exact Rn.iret d_Tx_readWalker_93 rfl rfl k
              · have k := k.2 cc
                refine Rn.iconst (n := 83) (v := 0) d_Tx_readWalker_82 rfl (by decide) ?_
                exact Rn.iret d_Tx_readWalker_83 rfl rfl k
          · have k := k.2 cc
            refine Rn.iconst (n := 60) (v := 0) d_Tx_readWalker_59 rfl (by decide) ?_
            exact Rn.iret d_Tx_readWalker_60 rfl rfl k
      · have k := k.2 cc
        refine Rn.iconst (n := 36) (v := 0) d_Tx_readWalker_35 rfl (by decide) ?_
        exact Rn.iret d_Tx_readWalker_36 rfl rfl k
theorem e_Tx_readWalker {X : XS} (a1 : List Nat) (h : Hp) (Q : Option AV → Hp → Prop) (k : Rn X m_Tx_readWalker 0 [some (vR [2, 0]), some (vR a1)] [] h Q) : Ev X m_Tx_readWalker [vR [2, 0], vR a1] h Q := Ev.intro (plainFor_of_name (by decide +kernel)) (Nat.le_of_ble_eq_true rfl) (ls := [some (vR [2, 0]), some (vR a1)]) rfl k
theorem d_Tx_readGone_0 : decode m_Tx_readGone.2.1 0 = .ok (.aload_n 0, 1) := by decide +kernel
theorem d_Tx_readGone_1 : decode m_Tx_readGone.2.1 1 = .ok (.iconst 0, 1) := by decide +kernel
theorem d_Tx_readGone_2 : decode m_Tx_readGone.2.1 2 = .ok (.iconst 0, 1) := by decide +kernel
theorem d_Tx_readGone_3 : decode m_Tx_readGone.2.1 3 = .ok (.iconst 5, 1) := by decide +kernel
theorem d_Tx_readGone_4 : decode m_Tx_readGone.2.1 4 = .ok (.invokevirtual 78, 3) := by decide +kernel
theorem d_Tx_readGone_7 : decode m_Tx_readGone.2.1 7 = .ok (.ifCond .ne 5, 3) := by decide +kernel
theorem d_Tx_readGone_10 : decode m_Tx_readGone.2.1 10 = .ok (.iconst 0, 1) := by decide +kernel
theorem d_Tx_readGone_11 : decode m_Tx_readGone.2.1 11 = .ok (.ireturn, 1) := by decide +kernel
theorem d_Tx_readGone_12 : decode m_Tx_readGone.2.1 12 = .ok (.aload_n 1, 1) := by decide +kernel
theorem d_Tx_readGone_13 : decode m_Tx_readGone.2.1 13 = .ok (.aload_n 0, 1) := by decide +kernel
theorem d_Tx_readGone_14 : decode m_Tx_readGone.2.1 14 = .ok (.getfield 17, 3) := by decide +kernel
theorem d_Tx_readGone_17 : decode m_Tx_readGone.2.1 17 = .ok (.iconst 0, 1) := by decide +kernel
theorem d_Tx_readGone_18 : decode m_Tx_readGone.2.1 18 = .ok (.iaload, 1) := by decide +kernel
theorem d_Tx_readGone_19 : decode m_Tx_readGone.2.1 19 = .ok (.invokevirtual 100, 3) := by decide +kernel
theorem d_Tx_readGone_22 : decode m_Tx_readGone.2.1 22 = .ok (.iconst 1, 1) := by decide +kernel
theorem d_Tx_readGone_23 : decode m_Tx_readGone.2.1 23 = .ok (.ireturn, 1) := by decide +kernel
theorem g_Tx_readGone_0 {X : XS} (a1 : List Nat) (h : Hp) (Q : Option AV → Hp → Prop) (w_a1 : IsPl a1) (k : (∃ Q'4, EvI X m_Tx_reads [vR [2, 0], vI 0, vI 0, vI 5] h Q'4 ∧ ∀ (r5 : Int32) (h3 : Hp), Q'4 r5 h3 → ((¬ r5 = 0 → (∃ Q'9, EvV X m_Pl_forget [vR a1, vI (h3.1 [1, 2, 0] 0)] h3 Q'9 ∧ ∀ (h8 : Hp), Q'9 h8 → Q (some (vI 1)) h8)) ∧ (r5 = 0 → Q (some (vI 0)) h3)))) : Rn X m_Tx_readGone 0 [some (vR [2, 0]), some (vR a1)] [] h Q := by
  refine Rn.aload_n (n := 1) (i := 0) d_Tx_readGone_0 rfl rfl rfl ?_
  refine Rn.iconst (n := 2) (v := 0) d_Tx_readGone_1 rfl (by decide) ?_
  refine Rn.iconst (n := 3) (v := 0) d_Tx_readGone_2 rfl (by decide) ?_
  refine Rn.iconst (n := 4) (v := 5) d_Tx_readGone_3 rfl (by decide) ?_
  obtain ⟨Q'4, ev1, k⟩ := k
  refine Rn.callV (n := 7) (av := [vI 0, vI 0, vI 5]) d_Tx_readGone_4 rfl ml_Tx_readGone_78 mi_Tx_reads Lv_2_0 rfl rfl rfl rfl (Nat.le_of_ble_eq_true rfl) ev1 (fun v h3 hq => ?_)
  obtain ⟨r5, rfl, hq⟩ := hq
  have k := k r5 h3 hq
  show Rn X m_Tx_readGone 7 [some (vR [2, 0]), some (vR a1)] [vI r5] h3 Q
  refine Rn.if_ne (n := 10) (t := 12) d_Tx_readGone_7 rfl (by decide) (fun cc => ?_) (fun cc => ?_)
  · have k := k.1 cc
    refine Rn.aload_n (n := 13) (i := 1) d_Tx_readGone_12 rfl rfl rfl ?_
    refine Rn.aload_n (n := 14) (i := 0) d_Tx_readGone_13 rfl rfl rfl ?_
    refine Rn.getf (n := 17) (v := vR [1, 2, 0]) d_Tx_readGone_14 rfl fl_Tx_17 Lv_2_0 rfl ?_
    refine Rn.iconst (n := 18) (v := 0) d_Tx_readGone_17 rfl (by decide) ?_
    refine Rn.iald (n := 19) (v := h3.1 [1, 2, 0] 0) d_Tx_readGone_18 rfl Lv_1_2_0 (by unfold vp_in; decide) rfl ?_
    obtain ⟨Q'9, ev6, k⟩ := k
    refine Rn.callV (n := 22) (av := [vI (h3.1 [1, 2, 0] 0)]) d_Tx_readGone_19 rfl ml_Tx_readGone_100 mi_Pl_forget w_a1.s rfl rfl rfl rfl (Nat.le_of_ble_eq_true rfl) ev6 (fun v h8 hq => ?_)
    obtain ⟨rfl, hq⟩ := hq
    have k := k h8 hq
    show Rn X m_Tx_readGone 22 [some (vR [2, 0]), some (vR a1)] [] h8 Q
    refine Rn.iconst (n := 23) (v := 1) d_Tx_readGone_22 rfl (by decide) ?_
    exact Rn.iret d_Tx_readGone_23 rfl rfl k
  · have k := k.2 cc
    refine Rn.iconst (n := 11) (v := 0) d_Tx_readGone_10 rfl (by decide) ?_
    exact Rn.iret d_Tx_readGone_11 rfl rfl k
theorem e_Tx_readGone {X : XS} (a1 : List Nat) (h : Hp) (Q : Option AV → Hp → Prop) (k : Rn X m_Tx_readGone 0 [some (vR [2, 0]), some (vR a1)] [] h Q) : Ev X m_Tx_readGone [vR [2, 0], vR a1] h Q := Ev.intro (plainFor_of_name (by decide +kernel)) (Nat.le_of_ble_eq_true rfl) (ls := [some (vR [2, 0]), some (vR a1)]) rfl k
theorem d_Tx_readRain_0 : decode m_Tx_readRain.2.1 0 = .ok (.aload_n 0, 1) := by decide +kernel
theorem d_Tx_readRain_1 : decode m_Tx_readRain.2.1 1 = .ok (.iconst 0, 1) := by decide +kernel
theorem d_Tx_readRain_2 : decode m_Tx_readRain.2.1 2 = .ok (.iconst 0, 1) := by decide +kernel
theorem d_Tx_readRain_3 : decode m_Tx_readRain.2.1 3 = .ok (.bipush 59, 2) := by decide +kernel
theorem d_Tx_readRain_5 : decode m_Tx_readRain.2.1 5 = .ok (.invokevirtual 78, 3) := by decide +kernel
theorem d_Tx_readRain_8 : decode m_Tx_readRain.2.1 8 = .ok (.ifCond .eq 30, 3) := by decide +kernel
theorem d_Tx_readRain_11 : decode m_Tx_readRain.2.1 11 = .ok (.aload_n 0, 1) := by decide +kernel
theorem d_Tx_readRain_12 : decode m_Tx_readRain.2.1 12 = .ok (.iconst 1, 1) := by decide +kernel
theorem d_Tx_readRain_13 : decode m_Tx_readRain.2.1 13 = .ok (.aload_n 0, 1) := by decide +kernel
theorem d_Tx_readRain_14 : decode m_Tx_readRain.2.1 14 = .ok (.getfield 17, 3) := by decide +kernel
theorem d_Tx_readRain_17 : decode m_Tx_readRain.2.1 17 = .ok (.iconst 0, 1) := by decide +kernel
theorem d_Tx_readRain_18 : decode m_Tx_readRain.2.1 18 = .ok (.iaload, 1) := by decide +kernel
theorem d_Tx_readRain_19 : decode m_Tx_readRain.2.1 19 = .ok (.bipush 59, 2) := by decide +kernel
theorem d_Tx_readRain_21 : decode m_Tx_readRain.2.1 21 = .ok (.invokevirtual 78, 3) := by decide +kernel
theorem d_Tx_readRain_24 : decode m_Tx_readRain.2.1 24 = .ok (.ifCond .eq 14, 3) := by decide +kernel
theorem d_Tx_readRain_27 : decode m_Tx_readRain.2.1 27 = .ok (.aload_n 0, 1) := by decide +kernel
theorem d_Tx_readRain_28 : decode m_Tx_readRain.2.1 28 = .ok (.iconst 2, 1) := by decide +kernel
theorem d_Tx_readRain_29 : decode m_Tx_readRain.2.1 29 = .ok (.iconst 0, 1) := by decide +kernel
theorem d_Tx_readRain_30 : decode m_Tx_readRain.2.1 30 = .ok (.bipush 99, 2) := by decide +kernel
theorem d_Tx_readRain_32 : decode m_Tx_readRain.2.1 32 = .ok (.invokevirtual 78, 3) := by decide +kernel
theorem d_Tx_readRain_35 : decode m_Tx_readRain.2.1 35 = .ok (.ifCond .ne 5, 3) := by decide +kernel
theorem d_Tx_readRain_38 : decode m_Tx_readRain.2.1 38 = .ok (.iconst 0, 1) := by decide +kernel
theorem d_Tx_readRain_39 : decode m_Tx_readRain.2.1 39 = .ok (.ireturn, 1) := by decide +kernel
theorem d_Tx_readRain_40 : decode m_Tx_readRain.2.1 40 = .ok (.aload_n 1, 1) := by decide +kernel
theorem d_Tx_readRain_41 : decode m_Tx_readRain.2.1 41 = .ok (.aload_n 0, 1) := by decide +kernel
theorem d_Tx_readRain_42 : decode m_Tx_readRain.2.1 42 = .ok (.getfield 17, 3) := by decide +kernel
theorem d_Tx_readRain_45 : decode m_Tx_readRain.2.1 45 = .ok (.iconst 0, 1) := by decide +kernel
theorem d_Tx_readRain_46 : decode m_Tx_readRain.2.1 46 = .ok (.iaload, 1) := by decide +kernel
theorem d_Tx_readRain_47 : decode m_Tx_readRain.2.1 47 = .ok (.aload_n 0, 1) := by decide +kernel
theorem d_Tx_readRain_48 : decode m_Tx_readRain.2.1 48 = .ok (.getfield 17, 3) := by decide +kernel
theorem d_Tx_readRain_51 : decode m_Tx_readRain.2.1 51 = .ok (.iconst 1, 1) := by decide +kernel
theorem d_Tx_readRain_52 : decode m_Tx_readRain.2.1 52 = .ok (.iaload, 1) := by decide +kernel
theorem d_Tx_readRain_53 : decode m_Tx_readRain.2.1 53 = .ok (.aload_n 0, 1) := by decide +kernel
theorem d_Tx_readRain_54 : decode m_Tx_readRain.2.1 54 = .ok (.getfield 17, 3) := by decide +kernel
theorem d_Tx_readRain_57 : decode m_Tx_readRain.2.1 57 = .ok (.iconst 2, 1) := by decide +kernel
theorem d_Tx_readRain_58 : decode m_Tx_readRain.2.1 58 = .ok (.iaload, 1) := by decide +kernel
theorem d_Tx_readRain_59 : decode m_Tx_readRain.2.1 59 = .ok (.invokevirtual 103, 3) := by decide +kernel
theorem d_Tx_readRain_62 : decode m_Tx_readRain.2.1 62 = .ok (.iconst 1, 1) := by decide +kernel
theorem d_Tx_readRain_63 : decode m_Tx_readRain.2.1 63 = .ok (.ireturn, 1) := by decide +kernel
theorem g_Tx_readRain_0 {X : XS} (a1 : List Nat) (h : Hp) (Q : Option AV → Hp → Prop) (w_a1 : IsPl a1) (k : (∃ Q'4, EvI X m_Tx_reads [vR [2, 0], vI 0, vI 0, vI 59] h Q'4 ∧ ∀ (r5 : Int32) (h3 : Hp), Q'4 r5 h3 → ((r5 = 0 → Q (some (vI 0)) h3) ∧ (¬ r5 = 0 → (∃ Q'9, EvI X m_Tx_reads [vR [2, 0], vI 1, vI (h3.1 [1, 2, 0] 0), vI 59] h3 Q'9 ∧ ∀ (r10 : Int32) (h8 : Hp), Q'9 r10 h8 → ((r10 = 0 → Q (some (vI 0)) h8) ∧ (¬ r10 = 0 → (∃ Q'14, EvI X m_Tx_reads [vR [2, 0], vI 2, vI 0, vI 99] h8 Q'14 ∧ ∀ (r15 : Int32) (h13 : Hp), Q'14 r15 h13 → ((¬ r15 = 0 → (∃ Q'19, EvV X m_Pl_pour [vR a1, vI (h13.1 [1, 2, 0] 0), vI (h13.1 [1, 2, 0] 1), vI (h13.1 [1, 2, 0] 2)] h13 Q'19 ∧ ∀ (h18 : Hp), Q'19 h18 → Q (some (vI 1)) h18)) ∧ (r15 = 0 → Q (some (vI 0)) h13)))))))))) : Rn X m_Tx_readRain 0 [some (vR [2, 0]), some (vR a1)] [] h Q := by
  refine Rn.aload_n (n := 1) (i := 0) d_Tx_readRain_0 rfl rfl rfl ?_
  refine Rn.iconst (n := 2) (v := 0) d_Tx_readRain_1 rfl (by decide) ?_
  refine Rn.iconst (n := 3) (v := 0) d_Tx_readRain_2 rfl (by decide) ?_
  refine Rn.bipush (n := 5) (v := 59) d_Tx_readRain_3 rfl (by decide) ?_
  obtain ⟨Q'4, ev1, k⟩ := k
  refine Rn.callV (n := 8) (av := [vI 0, vI 0, vI 59]) d_Tx_readRain_5 rfl ml_Tx_readRain_78 mi_Tx_reads Lv_2_0 rfl rfl rfl rfl (Nat.le_of_ble_eq_true rfl) ev1 (fun v h3 hq => ?_)
  obtain ⟨r5, rfl, hq⟩ := hq
  have k := k r5 h3 hq
  show Rn X m_Tx_readRain 8 [some (vR [2, 0]), some (vR a1)] [vI r5] h3 Q
  refine Rn.if_eq (n := 11) (t := 38) d_Tx_readRain_8 rfl (by decide) (fun cc => ?_) (fun cc => ?_)
  · have k := k.1 cc
    refine Rn.iconst (n := 39) (v := 0) d_Tx_readRain_38 rfl (by decide) ?_
    exact Rn.iret d_Tx_readRain_39 rfl rfl k
  · have k := k.2 cc
    refine Rn.aload_n (n := 12) (i := 0) d_Tx_readRain_11 rfl rfl rfl ?_
    refine Rn.iconst (n := 13) (v := 1) d_Tx_readRain_12 rfl (by decide) ?_
    refine Rn.aload_n (n := 14) (i := 0) d_Tx_readRain_13 rfl rfl rfl ?_
    refine Rn.getf (n := 17) (v := vR [1, 2, 0]) d_Tx_readRain_14 rfl fl_Tx_17 Lv_2_0 rfl ?_
    refine Rn.iconst (n := 18) (v := 0) d_Tx_readRain_17 rfl (by decide) ?_
    refine Rn.iald (n := 19) (v := h3.1 [1, 2, 0] 0) d_Tx_readRain_18 rfl Lv_1_2_0 (by unfold vp_in; decide) rfl ?_
    refine Rn.bipush (n := 21) (v := 59) d_Tx_readRain_19 rfl (by decide) ?_
    obtain ⟨Q'9, ev6, k⟩ := k
    refine Rn.callV (n := 24) (av := [vI 1, vI (h3.1 [1, 2, 0] 0), vI 59]) d_Tx_readRain_21 rfl ml_Tx_readRain_78 mi_Tx_reads Lv_2_0 rfl rfl rfl rfl (Nat.le_of_ble_eq_true rfl) ev6 (fun v h8 hq => ?_)
    obtain ⟨r10, rfl, hq⟩ := hq
    have k := k r10 h8 hq
    show Rn X m_Tx_readRain 24 [some (vR [2, 0]), some (vR a1)] [vI r10] h8 Q
    refine Rn.if_eq (n := 27) (t := 38) d_Tx_readRain_24 rfl (by decide) (fun cc => ?_) (fun cc => ?_)
    · have k := k.1 cc
      refine Rn.iconst (n := 39) (v := 0) d_Tx_readRain_38 rfl (by decide) ?_
      exact Rn.iret d_Tx_readRain_39 rfl rfl k
    · have k := k.2 cc
      refine Rn.aload_n (n := 28) (i := 0) d_Tx_readRain_27 rfl rfl rfl ?_
      refine Rn.iconst (n := 29) (v := 2) d_Tx_readRain_28 rfl (by decide) ?_
      refine Rn.iconst (n := 30) (v := 0) d_Tx_readRain_29 rfl (by decide) ?_
      refine Rn.bipush (n := 32) (v := 99) d_Tx_readRain_30 rfl (by decide) ?_
      obtain ⟨Q'14, ev11, k⟩ := k
      refine Rn.callV (n := 35) (av := [vI 2, vI 0, vI 99]) d_Tx_readRain_32 rfl ml_Tx_readRain_78 mi_Tx_reads Lv_2_0 rfl rfl rfl rfl (Nat.le_of_ble_eq_true rfl) ev11 (fun v h13 hq => ?_)
      obtain ⟨r15, rfl, hq⟩ := hq
      have k := k r15 h13 hq
      show Rn X m_Tx_readRain 35 [some (vR [2, 0]), some (vR a1)] [vI r15] h13 Q
      refine Rn.if_ne (n := 38) (t := 40) d_Tx_readRain_35 rfl (by decide) (fun cc => ?_) (fun cc => ?_)
      · have k := k.1 cc
        refine Rn.aload_n (n := 41) (i := 1) d_Tx_readRain_40 rfl rfl rfl ?_
        refine Rn.aload_n (n := 42) (i := 0) d_Tx_readRain_41 rfl rfl rfl ?_
        refine Rn.getf (n := 45) (v := vR [1, 2, 0]) d_Tx_readRain_42 rfl fl_Tx_17 Lv_2_0 rfl ?_
        refine Rn.iconst (n := 46) (v := 0) d_Tx_readRain_45 rfl (by decide) ?_
        refine Rn.iald (n := 47) (v := h13.1 [1, 2, 0] 0) d_Tx_readRain_46 rfl Lv_1_2_0 (by unfold vp_in; decide) rfl ?_
        refine Rn.aload_n (n := 48) (i := 0) d_Tx_readRain_47 rfl rfl rfl ?_
        refine Rn.getf (n := 51) (v := vR [1, 2, 0]) d_Tx_readRain_48 rfl fl_Tx_17 Lv_2_0 rfl ?_
        refine Rn.iconst (n := 52) (v := 1) d_Tx_readRain_51 rfl (by decide) ?_
        refine Rn.iald (n := 53) (v := h13.1 [1, 2, 0] 1) d_Tx_readRain_52 rfl Lv_1_2_0 (by unfold vp_in; decide) rfl ?_
        refine Rn.aload_n (n := 54) (i := 0) d_Tx_readRain_53 rfl rfl rfl ?_
        refine Rn.getf (n := 57) (v := vR [1, 2, 0]) d_Tx_readRain_54 rfl fl_Tx_17 Lv_2_0 rfl ?_
        refine Rn.iconst (n := 58) (v := 2) d_Tx_readRain_57 rfl (by decide) ?_
        refine Rn.iald (n := 59) (v := h13.1 [1, 2, 0] 2) d_Tx_readRain_58 rfl Lv_1_2_0 (by unfold vp_in; decide) rfl ?_
        obtain ⟨Q'19, ev16, k⟩ := k
        refine Rn.callV (n := 62) (av := [vI (h13.1 [1, 2, 0] 0), vI (h13.1 [1, 2, 0] 1), vI (h13.1 [1, 2, 0] 2)]) d_Tx_readRain_59 rfl ml_Tx_readRain_103 mi_Pl_pour w_a1.s rfl rfl rfl rfl (Nat.le_of_ble_eq_true rfl) ev16 (fun v h18 hq => ?_)
        obtain ⟨rfl, hq⟩ := hq
        have k := k h18 hq
        show Rn X m_Tx_readRain 62 [some (vR [2, 0]), some (vR a1)] [] h18 Q
        refine Rn.iconst (n := 63) (v := 1) d_Tx_readRain_62 rfl (by decide) ?_
        exact Rn.iret d_Tx_readRain_63 rfl rfl k
      · have k := k.2 cc
        refine Rn.iconst (n := 39) (v := 0) d_Tx_readRain_38 rfl (by decide) ?_
        exact Rn.iret d_Tx_readRain_39 rfl rfl k
theorem e_Tx_readRain {X : XS} (a1 : List Nat) (h : Hp) (Q : Option AV → Hp → Prop) (k : Rn X m_Tx_readRain 0 [some (vR [2, 0]), some (vR a1)] [] h Q) : Ev X m_Tx_readRain [vR [2, 0], vR a1] h Q := Ev.intro (plainFor_of_name (by decide +kernel)) (Nat.le_of_ble_eq_true rfl) (ls := [some (vR [2, 0]), some (vR a1)]) rfl k
theorem d_Tx_reads_0 : decode m_Tx_reads.2.1 0 = .ok (.aload_n 0, 1) := by decide +kernel
theorem d_Tx_reads_1 : decode m_Tx_reads.2.1 1 = .ok (.invokevirtual 39, 3) := by decide +kernel
theorem d_Tx_reads_4 : decode m_Tx_reads.2.1 4 = .ok (.aload_n 0, 1) := by decide +kernel
theorem d_Tx_reads_5 : decode m_Tx_reads.2.1 5 = .ok (.getfield 42, 3) := by decide +kernel
theorem d_Tx_reads_8 : decode m_Tx_reads.2.1 8 = .ok (.iconst 2, 1) := by decide +kernel
theorem d_Tx_reads_9 : decode m_Tx_reads.2.1 9 = .ok (.if_icmp .ne 29, 3) := by decide +kernel
theorem d_Tx_reads_12 : decode m_Tx_reads.2.1 12 = .ok (.aload_n 0, 1) := by decide +kernel
theorem d_Tx_reads_13 : decode m_Tx_reads.2.1 13 = .ok (.getfield 26, 3) := by decide +kernel
theorem d_Tx_reads_16 : decode m_Tx_reads.2.1 16 = .ok (.aload_n 0, 1) := by decide +kernel
theorem d_Tx_reads_17 : decode m_Tx_reads.2.1 17 = .ok (.getfield 36, 3) := by decide +kernel
theorem d_Tx_reads_20 : decode m_Tx_reads.2.1 20 = .ok (.isub, 1) := by decide +kernel
theorem d_Tx_reads_21 : decode m_Tx_reads.2.1 21 = .ok (.iconst 2, 1) := by decide +kernel
theorem d_Tx_reads_22 : decode m_Tx_reads.2.1 22 = .ok (.if_icmp .gt 16, 3) := by decide +kernel
theorem d_Tx_reads_25 : decode m_Tx_reads.2.1 25 = .ok (.iload_n 1, 1) := by decide +kernel
theorem d_Tx_reads_26 : decode m_Tx_reads.2.1 26 = .ok (.ifCond .lt 12, 3) := by decide +kernel
theorem d_Tx_reads_29 : decode m_Tx_reads.2.1 29 = .ok (.iload_n 1, 1) := by decide +kernel
theorem d_Tx_reads_30 : decode m_Tx_reads.2.1 30 = .ok (.aload_n 0, 1) := by decide +kernel
theorem d_Tx_reads_31 : decode m_Tx_reads.2.1 31 = .ok (.getfield 17, 3) := by decide +kernel
theorem d_Tx_reads_34 : decode m_Tx_reads.2.1 34 = .ok (.arraylength, 1) := by decide +kernel
theorem d_Tx_reads_35 : decode m_Tx_reads.2.1 35 = .ok (.if_icmp .lt 5, 3) := by decide +kernel
theorem d_Tx_reads_38 : decode m_Tx_reads.2.1 38 = .ok (.iconst 0, 1) := by decide +kernel
theorem d_Tx_reads_39 : decode m_Tx_reads.2.1 39 = .ok (.ireturn, 1) := by decide +kernel
theorem d_Tx_reads_40 : decode m_Tx_reads.2.1 40 = .ok (.iconst 0, 1) := by decide +kernel
theorem d_Tx_reads_41 : decode m_Tx_reads.2.1 41 = .ok (.istore 4, 2) := by decide +kernel
theorem d_Tx_reads_43 : decode m_Tx_reads.2.1 43 = .ok (.aload_n 0, 1) := by decide +kernel
theorem d_Tx_reads_44 : decode m_Tx_reads.2.1 44 = .ok (.getfield 36, 3) := by decide +kernel
theorem d_Tx_reads_47 : decode m_Tx_reads.2.1 47 = .ok (.istore 5, 2) := by decide +kernel
theorem d_Tx_reads_49 : decode m_Tx_reads.2.1 49 = .ok (.iload 5, 2) := by decide +kernel
theorem d_Tx_reads_51 : decode m_Tx_reads.2.1 51 = .ok (.aload_n 0, 1) := by decide +kernel
theorem d_Tx_reads_52 : decode m_Tx_reads.2.1 52 = .ok (.getfield 26, 3) := by decide +kernel
theorem d_Tx_reads_55 : decode m_Tx_reads.2.1 55 = .ok (.if_icmp .ge 26, 3) := by decide +kernel
theorem d_Tx_reads_58 : decode m_Tx_reads.2.1 58 = .ok (.bipush 10, 2) := by decide +kernel
theorem d_Tx_reads_60 : decode m_Tx_reads.2.1 60 = .ok (.iload 4, 2) := by decide +kernel
theorem d_Tx_reads_62 : decode m_Tx_reads.2.1 62 = .ok (.imul, 1) := by decide +kernel
theorem d_Tx_reads_63 : decode m_Tx_reads.2.1 63 = .ok (.aload_n 0, 1) := by decide +kernel
theorem d_Tx_reads_64 : decode m_Tx_reads.2.1 64 = .ok (.iload 5, 2) := by decide +kernel
theorem d_Tx_reads_66 : decode m_Tx_reads.2.1 66 = .ok (.invokevirtual 45, 3) := by decide +kernel
theorem d_Tx_reads_69 : decode m_Tx_reads.2.1 69 = .ok (.iadd, 1) := by decide +kernel
theorem d_Tx_reads_70 : decode m_Tx_reads.2.1 70 = .ok (.bipush 48, 2) := by decide +kernel
theorem d_Tx_reads_72 : decode m_Tx_reads.2.1 72 = .ok (.isub, 1) := by decide +kernel
theorem d_Tx_reads_73 : decode m_Tx_reads.2.1 73 = .ok (.istore 4, 2) := by decide +kernel
theorem d_Tx_reads_75 : decode m_Tx_reads.2.1 75 = .ok (.iinc 5 1, 3) := by decide +kernel
theorem d_Tx_reads_78 : decode m_Tx_reads.2.1 78 = .ok (.goto (-29), 3) := by decide +kernel
theorem d_Tx_reads_81 : decode m_Tx_reads.2.1 81 = .ok (.aload_n 0, 1) := by decide +kernel
theorem d_Tx_reads_82 : decode m_Tx_reads.2.1 82 = .ok (.getfield 17, 3) := by decide +kernel
theorem d_Tx_reads_85 : decode m_Tx_reads.2.1 85 = .ok (.iload_n 1, 1) := by decide +kernel
theorem d_Tx_reads_86 : decode m_Tx_reads.2.1 86 = .ok (.iload 4, 2) := by decide +kernel
theorem d_Tx_reads_88 : decode m_Tx_reads.2.1 88 = .ok (.iastore, 1) := by decide +kernel
theorem d_Tx_reads_89 : decode m_Tx_reads.2.1 89 = .ok (.iload 4, 2) := by decide +kernel
theorem d_Tx_reads_91 : decode m_Tx_reads.2.1 91 = .ok (.iload_n 2, 1) := by decide +kernel
theorem d_Tx_reads_92 : decode m_Tx_reads.2.1 92 = .ok (.iload_n 3, 1) := by decide +kernel
theorem d_Tx_reads_93 : decode m_Tx_reads.2.1 93 = .ok (.invokestatic 107, 3) := by decide +kernel
theorem d_Tx_reads_96 : decode m_Tx_reads.2.1 96 = .ok (.ifCond .ne 7, 3) := by decide +kernel
theorem d_Tx_reads_99 : decode m_Tx_reads.2.1 99 = .ok (.iconst 1, 1) := by decide +kernel
theorem d_Tx_reads_100 : decode m_Tx_reads.2.1 100 = .ok (.goto 4, 3) := by decide +kernel
theorem d_Tx_reads_103 : decode m_Tx_reads.2.1 103 = .ok (.iconst 0, 1) := by decide +kernel
theorem d_Tx_reads_104 : decode m_Tx_reads.2.1 104 = .ok (.ireturn, 1) := by decide +kernel
theorem g_Tx_reads_0 {X : XS} (a1 : Int32) (a2 : Int32) (a3 : Int32) (h : Hp) (Q : Option AV → Hp → Prop)  (k : (∃ Q'4, EvV X m_Tx_readToken [vR [2, 0]] h Q'4 ∧ ∀ (h3 : Hp), Q'4 h3 → ((¬ (h3.1 [2, 0] 6) = 2 → Q (some (vI 0)) h3) ∧ ((h3.1 [2, 0] 6) = 2 → ((2 < ((h3.1 [2, 0] 5) - (h3.1 [2, 0] 4)) → Q (some (vI 0)) h3) ∧ (¬ 2 < ((h3.1 [2, 0] 5) - (h3.1 [2, 0] 4)) → ((a1 < 0 → Q (some (vI 0)) h3) ∧ (¬ a1 < 0 → ((a1 < 7 → Rn X m_Tx_reads 49 [some (vR [2, 0]), some (vI a1), some (vI a2), some (vI a3), some (vI 0), some (vI (h3.1 [2, 0] 4))] [] h3 Q) ∧ (¬ a1 < 7 → Q (some (vI 0)) h3)))))))))) : Rn X m_Tx_reads 0 [some (vR [2, 0]), some (vI a1), some (vI a2), some (vI a3), none, none] [] h Q := by
  refine Rn.aload_n (n := 1) (i := 0) d_Tx_reads_0 rfl rfl rfl ?_
  obtain ⟨Q'4, ev1, k⟩ := k
  refine Rn.callV (n := 4) (av := []) d_Tx_reads_1 rfl ml_Tx_reads_39 mi_Tx_readToken Lv_2_0 rfl rfl rfl rfl (Nat.le_of_ble_eq_true rfl) ev1 (fun v h3 hq => ?_)
  obtain ⟨rfl, hq⟩ := hq
  have k := k h3 hq
  show Rn X m_Tx_reads 4 [some (vR [2, 0]), some (vI a1), some (vI a2), some (vI a3), none, none] [] h3 Q
  refine Rn.aload_n (n := 5) (i := 0) d_Tx_reads_4 rfl rfl rfl ?_
  refine Rn.getf (n := 8) (v := vI (h3.1 [2, 0] 6)) d_Tx_reads_5 rfl fl_Tx_42 Lv_2_0 rfl ?_
  refine Rn.iconst (n := 9) (v := 2) d_Tx_reads_8 rfl (by decide) ?_
  refine Rn.icmp_ne (n := 12) (t := 38) d_Tx_reads_9 rfl (by decide) (fun cc => ?_) (fun cc => ?_)
  · have k := k.1 cc
    refine Rn.iconst (n := 39) (v := 0) d_Tx_reads_38 rfl (by decide) ?_
    exact Rn.iret d_Tx_reads_39 rfl rfl k
  · have k := k.2 cc
    refine Rn.aload_n (n := 13) (i := 0) d_Tx_reads_12 rfl rfl rfl ?_
    refine Rn.getf (n := 16) (v := vI (h3.1 [2, 0] 5)) d_Tx_reads_13 rfl fl_Tx_26 Lv_2_0 rfl ?_
    refine Rn.aload_n (n := 17) (i := 0) d_Tx_reads_16 rfl rfl rfl ?_
    refine Rn.getf (n := 20) (v := vI (h3.1 [2, 0] 4)) d_Tx_reads_17 rfl fl_Tx_36 Lv_2_0 rfl ?_
    refine Rn.isub (n := 21) d_Tx_reads_20 rfl ?_
    refine Rn.iconst (n := 22) (v := 2) d_Tx_reads_21 rfl (by decide) ?_
    refine Rn.icmp_gt (n := 25) (t := 38) d_Tx_reads_22 rfl (by decide) (fun cc => ?_) (fun cc => ?_)
    · have k := k.1 cc
      refine Rn.iconst (n := 39) (v := 0) d_Tx_reads_38 rfl (by decide) ?_
      exact Rn.iret d_Tx_reads_39 rfl rfl k
    · have k := k.2 cc
      refine Rn.iload_n (n := 26) (i := 1) d_Tx_reads_25 rfl rfl rfl ?_
      refine Rn.if_lt (n := 29) (t := 38) d_Tx_reads_26 rfl (by decide) (fun cc => ?_) (fun cc => ?_)
      · have k := k.1 cc
        refine Rn.iconst (n := 39) (v := 0) d_Tx_reads_38 rfl (by decide) ?_
        exact Rn.iret d_Tx_reads_39 rfl rfl k
      · have k := k.2 cc
        refine Rn.iload_n (n := 30) (i := 1) d_Tx_reads_29 rfl rfl rfl ?_
        refine Rn.aload_n (n := 31) (i := 0) d_Tx_reads_30 rfl rfl rfl ?_
        refine Rn.getf (n := 34) (v := vR [1, 2, 0]) d_Tx_reads_31 rfl fl_Tx_17 Lv_2_0 rfl ?_
        refine Rn.alen8 (n := 35) (v := 7) d_Tx_reads_34 rfl Lv_1_2_0 (by decide) ?_
        refine Rn.icmp_lt (n := 38) (t := 40) d_Tx_reads_35 rfl (by decide) (fun cc => ?_) (fun cc => ?_)
        · have k := k.1 cc
          refine Rn.iconst (n := 41) (v := 0) d_Tx_reads_40 rfl (by decide) ?_
          refine Rn.istore (n := 43) (i := 4) (ls2 := [some (vR [2, 0]), some (vI a1), some (vI a2), some (vI a3), some (vI 0), none]) d_Tx_reads_41 rfl (Nat.le_of_ble_eq_true rfl) rfl ?_
          refine Rn.aload_n (n := 44) (i := 0) d_Tx_reads_43 rfl rfl rfl ?_
          refine Rn.getf (n := 47) (v := vI (h3.1 [2, 0] 4)) d_Tx_reads_44 rfl fl_Tx_36 Lv_2_0 rfl ?_
          refine Rn.istore (n := 49) (i := 5) (ls2 := [some (vR [2, 0]), some (vI a1), some (vI a2), some (vI a3), some (vI 0), some (vI (h3.1 [2, 0] 4))]) d_Tx_reads_47 rfl (Nat.le_of_ble_eq_true rfl) rfl ?_
          exact k
        · have k := k.2 cc
          refine Rn.iconst (n := 39) (v := 0) d_Tx_reads_38 rfl (by decide) ?_
          exact Rn.iret d_Tx_reads_39 rfl rfl k
theorem g_Tx_reads_49 {X : XS} (a1 : Int32) (a2 : Int32) (a3 : Int32) (a4 : Int32) (a5 : Int32) (h : Hp) (Q : Option AV → Hp → Prop)  (k : (((h.1 [2, 0] 5) ≤ a5 → (vp_in a1 7 ∧ (∃ Q'5, EvI X m_Us_isNotIn [vI a4, vI a2, vI a3] (hsI h [1, 2, 0] a1.toNatClampNeg a4) Q'5 ∧ ∀ (r6 : Int32) (h4 : Hp), Q'5 r6 h4 → ((¬ r6 = 0 → Q (some (vI 0)) h4) ∧ (r6 = 0 → Q (some (vI 1)) h4))))) ∧ (¬ (h.1 [2, 0] 5) ≤ a5 → (∃ Q'10, EvI X m_Tx_byteAt [vR [2, 0], vI a5] h Q'10 ∧ ∀ (r11 : Int32) (h9 : Hp), Q'10 r11 h9 → Rn X m_Tx_reads 49 [some (vR [2, 0]), some (vI a1), some (vI a2), some (vI a3), some (vI (((10 * a4) + r11) - 48)), some (vI (a5 + 1))] [] h9 Q)))) : Rn X m_Tx_reads 49 [some (vR [2, 0]), some (vI a1), some (vI a2), some (vI a3), some (vI a4), some (vI a5)] [] h Q := by
  refine Rn.iload (n := 51) (i := 5) d_Tx_reads_49 rfl rfl ?_
  refine Rn.aload_n (n := 52) (i := 0) d_Tx_reads_51 rfl rfl rfl ?_
  refine Rn.getf (n := 55) (v := vI (h.1 [2, 0] 5)) d_Tx_reads_52 rfl fl_Tx_26 Lv_2_0 rfl ?_
  refine Rn.icmp_ge (n := 58) (t := 81) d_Tx_reads_55 rfl (by decide) (fun cc => ?_) (fun cc => ?_)
  · have k := k.1 cc
    refine Rn.aload_n (n := 82) (i := 0) d_Tx_reads_81 rfl rfl rfl ?_
    refine Rn.getf (n := 85) (v := vR [1, 2, 0]) d_Tx_reads_82 rfl fl_Tx_17 Lv_2_0 rfl ?_
    refine Rn.iload_n (n := 86) (i := 1) d_Tx_reads_85 rfl rfl rfl ?_
    refine Rn.iload (n := 88) (i := 4) d_Tx_reads_86 rfl rfl ?_
    obtain ⟨b1, k⟩ := k
    refine Rn.iast (n := 89) d_Tx_reads_88 rfl Lv_1_2_0 b1 ?_
    refine Rn.iload (n := 91) (i := 4) d_Tx_reads_89 rfl rfl ?_
    refine Rn.iload_n (n := 92) (i := 2) d_Tx_reads_91 rfl rfl rfl ?_
    refine Rn.iload_n (n := 93) (i := 3) d_Tx_reads_92 rfl rfl rfl ?_
    obtain ⟨Q'5, ev2, k⟩ := k
    refine Rn.callN (n := 96) (av := [vI a4, vI a2, vI a3]) d_Tx_reads_93 rfl rfl mf_Tx_reads ms_Us_isNotIn rfl rfl (Nat.le_of_ble_eq_true rfl) ev2 (fun v h4 hq => ?_)
    obtain ⟨r6, rfl, hq⟩ := hq
    have k := k r6 h4 hq
    show Rn X m_Tx_reads 96 [some (vR [2, 0]), some (vI a1), some (vI a2), some (vI a3), some (vI a4), some (vI a5)] [vI r6] h4 Q
    refine Rn.if_ne (n := 99) (t := 103) d_Tx_reads_96 rfl (by decide) (fun cc => ?_) (fun cc => ?_)
    · have k := k.1 cc
      refine Rn.iconst (n := 104) (v := 0) d_Tx_reads_103 rfl (by decide) ?_
      exact Rn.iret d_Tx_reads_104 rfl rfl k
    · have k := k.2 cc
      refine Rn.iconst (n := 100) (v := 1) d_Tx_reads_99 rfl (by decide) ?_
      refine Rn.goto (n := 104) d_Tx_reads_100 (by decide) ?_
      exact Rn.iret d_Tx_reads_104 rfl rfl k
  · have k := k.2 cc
    refine Rn.bipush (n := 60) (v := 10) d_Tx_reads_58 rfl (by decide) ?_
    refine Rn.iload (n := 62) (i := 4) d_Tx_reads_60 rfl rfl ?_
    refine Rn.imul (n := 63) d_Tx_reads_62 rfl ?_
    refine Rn.aload_n (n := 64) (i := 0) d_Tx_reads_63 rfl rfl rfl ?_
    refine Rn.iload (n := 66) (i := 5) d_Tx_reads_64 rfl rfl ?_
    obtain ⟨Q'10, ev7, k⟩ := k
    refine Rn.callV (n := 69) (av := [vI a5]) d_Tx_reads_66 rfl ml_Tx_reads_45 mi_Tx_byteAt Lv_2_0 rfl rfl rfl rfl (Nat.le_of_ble_eq_true rfl) ev7 (fun v h9 hq => ?_)
    obtain ⟨r11, rfl, hq⟩ := hq
    have k := k r11 h9 hq
    show Rn X m_Tx_reads 69 [some (vR [2, 0]), some (vI a1), some (vI a2), some (vI a3), some (vI a4), some (vI a5)] [vI r11, vI (10 * a4)] h9 Q
    refine Rn.iadd (n := 70) d_Tx_reads_69 rfl ?_
    refine Rn.bipush (n := 72) (v := 48) d_Tx_reads_70 rfl (by decide) ?_
    refine Rn.isub (n := 73) d_Tx_reads_72 rfl ?_
    refine Rn.istore (n := 75) (i := 4) (ls2 := [some (vR [2, 0]), some (vI a1), some (vI a2), some (vI a3), some (vI (((10 * a4) + r11) - 48)), some (vI a5)]) d_Tx_reads_73 rfl (Nat.le_of_ble_eq_true rfl) rfl ?_
    refine Rn.iinc (n := 78) (i := 5) (v := a5 + 1) (ls2 := [some (vR [2, 0]), some (vI a1), some (vI a2), some (vI a3), some (vI (((10 * a4) + r11) - 48)), some (vI (a5 + 1))]) d_Tx_reads_75 rfl rfl rfl (Nat.le_of_ble_eq_true rfl) rfl ?_
    refine Rn.goto (n := 49) d_Tx_reads_78 (by decide) ?_
    exact k
theorem e_Tx_reads {X : XS} (a1 : Int32) (a2 : Int32) (a3 : Int32) (h : Hp) (Q : Option AV → Hp → Prop) (k : Rn X m_Tx_reads 0 [some (vR [2, 0]), some (vI a1), some (vI a2), some (vI a3), none, none] [] h Q) : Ev X m_Tx_reads [vR [2, 0], vI a1, vI a2, vI a3] h Q := Ev.intro (plainFor_of_name (by decide +kernel)) (Nat.le_of_ble_eq_true rfl) (ls := [some (vR [2, 0]), some (vI a1), some (vI a2), some (vI a3), none, none]) rfl k
theorem d_Tx_isWord_0 : decode m_Tx_isWord.2.1 0 = .ok (.aload_n 0, 1) := by decide +kernel
theorem d_Tx_isWord_1 : decode m_Tx_isWord.2.1 1 = .ok (.getfield 42, 3) := by decide +kernel
theorem d_Tx_isWord_4 : decode m_Tx_isWord.2.1 4 = .ok (.iconst 1, 1) := by decide +kernel
theorem d_Tx_isWord_5 : decode m_Tx_isWord.2.1 5 = .ok (.if_icmp .ne 19, 3) := by decide +kernel
theorem d_Tx_isWord_8 : decode m_Tx_isWord.2.1 8 = .ok (.aload_n 0, 1) := by decide +kernel
theorem d_Tx_isWord_9 : decode m_Tx_isWord.2.1 9 = .ok (.getfield 26, 3) := by decide +kernel
theorem d_Tx_isWord_12 : decode m_Tx_isWord.2.1 12 = .ok (.aload_n 0, 1) := by decide +kernel
theorem d_Tx_isWord_13 : decode m_Tx_isWord.2.1 13 = .ok (.getfield 36, 3) := by decide +kernel
theorem d_Tx_isWord_16 : decode m_Tx_isWord.2.1 16 = .ok (.isub, 1) := by decide +kernel
theorem d_Tx_isWord_17 : decode m_Tx_isWord.2.1 17 = .ok (.aload_n 1, 1) := by decide +kernel
theorem d_Tx_isWord_18 : decode m_Tx_isWord.2.1 18 = .ok (.invokevirtual 110, 3) := by decide +kernel
theorem d_Tx_isWord_21 : decode m_Tx_isWord.2.1 21 = .ok (.if_icmp .eq 5, 3) := by decide +kernel
theorem d_Tx_isWord_24 : decode m_Tx_isWord.2.1 24 = .ok (.iconst 0, 1) := by decide +kernel
theorem d_Tx_isWord_25 : decode m_Tx_isWord.2.1 25 = .ok (.ireturn, 1) := by decide +kernel
theorem d_Tx_isWord_26 : decode m_Tx_isWord.2.1 26 = .ok (.iconst 0, 1) := by decide +kernel
theorem d_Tx_isWord_27 : decode m_Tx_isWord.2.1 27 = .ok (.istore_n 2, 1) := by decide +kernel
theorem d_Tx_isWord_28 : decode m_Tx_isWord.2.1 28 = .ok (.iload_n 2, 1) := by decide +kernel
theorem d_Tx_isWord_29 : decode m_Tx_isWord.2.1 29 = .ok (.aload_n 1, 1) := by decide +kernel
theorem d_Tx_isWord_30 : decode m_Tx_isWord.2.1 30 = .ok (.invokevirtual 110, 3) := by decide +kernel
theorem d_Tx_isWord_33 : decode m_Tx_isWord.2.1 33 = .ok (.if_icmp .ge 29, 3) := by decide +kernel
theorem d_Tx_isWord_36 : decode m_Tx_isWord.2.1 36 = .ok (.aload_n 0, 1) := by decide +kernel
theorem d_Tx_isWord_37 : decode m_Tx_isWord.2.1 37 = .ok (.aload_n 0, 1) := by decide +kernel
theorem d_Tx_isWord_38 : decode m_Tx_isWord.2.1 38 = .ok (.getfield 36, 3) := by decide +kernel
theorem d_Tx_isWord_41 : decode m_Tx_isWord.2.1 41 = .ok (.iload_n 2, 1) := by decide +kernel
theorem d_Tx_isWord_42 : decode m_Tx_isWord.2.1 42 = .ok (.iadd, 1) := by decide +kernel
theorem d_Tx_isWord_43 : decode m_Tx_isWord.2.1 43 = .ok (.invokevirtual 45, 3) := by decide +kernel
theorem d_Tx_isWord_46 : decode m_Tx_isWord.2.1 46 = .ok (.aload_n 1, 1) := by decide +kernel
theorem d_Tx_isWord_47 : decode m_Tx_isWord.2.1 47 = .ok (.iload_n 2, 1) := by decide +kernel
theorem d_Tx_isWord_48 : decode m_Tx_isWord.2.1 48 = .ok (.invokevirtual 115, 3) := by decide +kernel
theorem d_Tx_isWord_51 : decode m_Tx_isWord.2.1 51 = .ok (.if_icmp .eq 5, 3) := by decide +kernel
theorem d_Tx_isWord_54 : decode m_Tx_isWord.2.1 54 = .ok (.iconst 0, 1) := by decide +kernel
theorem d_Tx_isWord_55 : decode m_Tx_isWord.2.1 55 = .ok (.ireturn, 1) := by decide +kernel
theorem d_Tx_isWord_56 : decode m_Tx_isWord.2.1 56 = .ok (.iinc 2 1, 3) := by decide +kernel
theorem d_Tx_isWord_59 : decode m_Tx_isWord.2.1 59 = .ok (.goto (-31), 3) := by decide +kernel
theorem d_Tx_isWord_62 : decode m_Tx_isWord.2.1 62 = .ok (.iconst 1, 1) := by decide +kernel
theorem d_Tx_isWord_63 : decode m_Tx_isWord.2.1 63 = .ok (.ireturn, 1) := by decide +kernel
theorem g_Tx_isWord_0 {X : XS} (i1 : Nat) (h : Hp) (Q : Option AV → Hp → Prop) (w_i1 : i1 < 5) (k : ((¬ (h.1 [2, 0] 6) = 1 → Q (some (vI 0)) h) ∧ ((h.1 [2, 0] 6) = 1 → (∃ Q'4, EvI X m_St_length [vR (i1 :: [3])] h Q'4 ∧ ∀ (r5 : Int32) (h3 : Hp), Q'4 r5 h3 → ((((h.1 [2, 0] 5) - (h.1 [2, 0] 4)) = r5 → Rn X m_Tx_isWord 28 [some (vR [2, 0]), some (vR (i1 :: [3])), some (vI 0)] [] h3 Q) ∧ (¬ ((h.1 [2, 0] 5) - (h.1 [2, 0] 4)) = r5 → Q (some (vI 0)) h3)))))) : Rn X m_Tx_isWord 0 [some (vR [2, 0]), some (vR (i1 :: [3])), none] [] h Q := by
  refine Rn.aload_n (n := 1) (i := 0) d_Tx_isWord_0 rfl rfl rfl ?_
  refine Rn.getf (n := 4) (v := vI (h.1 [2, 0] 6)) d_Tx_isWord_1 rfl fl_Tx_42 Lv_2_0 rfl ?_
  refine Rn.iconst (n := 5) (v := 1) d_Tx_isWord_4 rfl (by decide) ?_
  refine Rn.icmp_ne (n := 8) (t := 24) d_Tx_isWord_5 rfl (by decide) (fun cc => ?_) (fun cc => ?_)
  · have k := k.1 cc
    refine Rn.iconst (n := 25) (v := 0) d_Tx_isWord_24 rfl (by decide) ?_
    exact Rn.iret d_Tx_isWord_25 rfl rfl k
  · have k := k.2 cc
    refine Rn.aload_n (n := 9) (i := 0) d_Tx_isWord_8 rfl rfl rfl ?_
    refine Rn.getf (n := 12) (v := vI (h.1 [2, 0] 5)) d_Tx_isWord_9 rfl fl_Tx_26 Lv_2_0 rfl ?_
    refine Rn.aload_n (n := 13) (i := 0) d_Tx_isWord_12 rfl rfl rfl ?_
    refine Rn.getf (n := 16) (v := vI (h.1 [2, 0] 4)) d_Tx_isWord_13 rfl fl_Tx_36 Lv_2_0 rfl ?_
    refine Rn.isub (n := 17) d_Tx_isWord_16 rfl ?_
    refine Rn.aload_n (n := 18) (i := 1) d_Tx_isWord_17 rfl rfl rfl ?_
    obtain ⟨Q'4, ev1, k⟩ := k
    refine Rn.callStr (n := 21) (i := i1) (av := []) d_Tx_isWord_18 rfl ml_Tx_isWord_110 mi_St_length w_i1 rfl rfl rfl (Nat.le_of_ble_eq_true rfl) ev1 (fun v h3 hq => ?_)
    obtain ⟨r5, rfl, hq⟩ := hq
    have k := k r5 h3 hq
    show Rn X m_Tx_isWord 21 [some (vR [2, 0]), some (vR (i1 :: [3])), none] [vI r5, vI ((h.1 [2, 0] 5) - (h.1 [2, 0] 4))] h3 Q
    refine Rn.icmp_eq (n := 24) (t := 26) d_Tx_isWord_21 rfl (by decide) (fun cc => ?_) (fun cc => ?_)
    · have k := k.1 cc
      refine Rn.iconst (n := 27) (v := 0) d_Tx_isWord_26 rfl (by decide) ?_
      refine Rn.istore_n (n := 28) (i := 2) (ls2 := [some (vR [2, 0]), some (vR (i1 :: [3])), some (vI 0)]) d_Tx_isWord_27 rfl rfl (Nat.le_of_ble_eq_true rfl) rfl ?_
      exact k
    · have k := k.2 cc
      refine Rn.iconst (n := 25) (v := 0) d_Tx_isWord_24 rfl (by decide) ?_
      exact Rn.iret d_Tx_isWord_25 rfl rfl k
theorem g_Tx_isWord_28 {X : XS} (i1 : Nat) (a2 : Int32) (h : Hp) (Q : Option AV → Hp → Prop) (w_i1 : i1 < 5) (k : (∃ Q'4, EvI X m_St_length [vR (i1 :: [3])] h Q'4 ∧ ∀ (r5 : Int32) (h3 : Hp), Q'4 r5 h3 → ((r5 ≤ a2 → Q (some (vI 1)) h3) ∧ (¬ r5 ≤ a2 → (∃ Q'9, EvI X m_Tx_byteAt [vR [2, 0], vI ((h3.1 [2, 0] 4) + a2)] h3 Q'9 ∧ ∀ (r10 : Int32) (h8 : Hp), Q'9 r10 h8 → (∃ Q'14, EvI X m_St_charAt [vR (i1 :: [3]), vI a2] h8 Q'14 ∧ ∀ (r15 : Int32) (h13 : Hp), Q'14 r15 h13 → ((r10 = r15 → Rn X m_Tx_isWord 28 [some (vR [2, 0]), some (vR (i1 :: [3])), some (vI (a2 + 1))] [] h13 Q) ∧ (¬ r10 = r15 → Q (some (vI 0)) h13)))))))) : Rn X m_Tx_isWord 28 [some (vR [2, 0]), some (vR (i1 :: [3])), some (vI a2)] [] h Q := by
  refine Rn.iload_n (n := 29) (i := 2) d_Tx_isWord_28 rfl rfl rfl ?_
  refine Rn.aload_n (n := 30) (i := 1) d_Tx_isWord_29 rfl rfl rfl ?_
  obtain ⟨Q'4, ev1, k⟩ := k
  refine Rn.callStr (n := 33) (i := i1) (av := []) d_Tx_isWord_30 rfl ml_Tx_isWord_110 mi_St_length w_i1 rfl rfl rfl (Nat.le_of_ble_eq_true rfl) ev1 (fun v h3 hq => ?_)
  obtain ⟨r5, rfl, hq⟩ := hq
  have k := k r5 h3 hq
  show Rn X m_Tx_isWord 33 [some (vR [2, 0]), some (vR (i1 :: [3])), some (vI a2)] [vI r5, vI a2] h3 Q
  refine Rn.icmp_ge (n := 36) (t := 62) d_Tx_isWord_33 rfl (by decide) (fun cc => ?_) (fun cc => ?_)
  · have k := k.1 cc
    refine Rn.iconst (n := 63) (v := 1) d_Tx_isWord_62 rfl (by decide) ?_
    exact Rn.iret d_Tx_isWord_63 rfl rfl k
  · have k := k.2 cc
    refine Rn.aload_n (n := 37) (i := 0) d_Tx_isWord_36 rfl rfl rfl ?_
    refine Rn.aload_n (n := 38) (i := 0) d_Tx_isWord_37 rfl rfl rfl ?_
    refine Rn.getf (n := 41) (v := vI (h3.1 [2, 0] 4)) d_Tx_isWord_38 rfl fl_Tx_36 Lv_2_0 rfl ?_
    refine Rn.iload_n (n := 42) (i := 2) d_Tx_isWord_41 rfl rfl rfl ?_
    refine Rn.iadd (n := 43) d_Tx_isWord_42 rfl ?_
    obtain ⟨Q'9, ev6, k⟩ := k
    refine Rn.callV (n := 46) (av := [vI ((h3.1 [2, 0] 4) + a2)]) d_Tx_isWord_43 rfl ml_Tx_isWord_45 mi_Tx_byteAt Lv_2_0 rfl rfl rfl rfl (Nat.le_of_ble_eq_true rfl) ev6 (fun v h8 hq => ?_)
    obtain ⟨r10, rfl, hq⟩ := hq
    have k := k r10 h8 hq
    show Rn X m_Tx_isWord 46 [some (vR [2, 0]), some (vR (i1 :: [3])), some (vI a2)] [vI r10] h8 Q
    refine Rn.aload_n (n := 47) (i := 1) d_Tx_isWord_46 rfl rfl rfl ?_
    refine Rn.iload_n (n := 48) (i := 2) d_Tx_isWord_47 rfl rfl rfl ?_
    obtain ⟨Q'14, ev11, k⟩ := k
    refine Rn.callStr (n := 51) (i := i1) (av := [vI a2]) d_Tx_isWord_48 rfl ml_Tx_isWord_115 mi_St_charAt w_i1 rfl rfl rfl (Nat.le_of_ble_eq_true rfl) ev11 (fun v h13 hq => ?_)
    obtain ⟨r15, rfl, hq⟩ := hq
    have k := k r15 h13 hq
    show Rn X m_Tx_isWord 51 [some (vR [2, 0]), some (vR (i1 :: [3])), some (vI a2)] [vI r15, vI r10] h13 Q
    refine Rn.icmp_eq (n := 54) (t := 56) d_Tx_isWord_51 rfl (by decide) (fun cc => ?_) (fun cc => ?_)
    · have k := k.1 cc
      refine Rn.iinc (n := 59) (i := 2) (v := a2 + 1) (ls2 := [some (vR [2, 0]), some (vR (i1 :: [3])), some (vI (a2 + 1))]) d_Tx_isWord_56 rfl rfl rfl (Nat.le_of_ble_eq_true rfl) rfl ?_
      refine Rn.goto (n := 28) d_Tx_isWord_59 (by decide) ?_
      exact k
    · have k := k.2 cc
      refine Rn.iconst (n := 55) (v := 0) d_Tx_isWord_54 rfl (by decide) ?_
      exact Rn.iret d_Tx_isWord_55 rfl rfl k
theorem e_Tx_isWord {X : XS} (i1 : Nat) (h : Hp) (Q : Option AV → Hp → Prop) (k : Rn X m_Tx_isWord 0 [some (vR [2, 0]), some (vR (i1 :: [3])), none] [] h Q) : Ev X m_Tx_isWord [vR [2, 0], vR (i1 :: [3])] h Q := Ev.intro (plainFor_of_name (by decide +kernel)) (Nat.le_of_ble_eq_true rfl) (ls := [some (vR [2, 0]), some (vR (i1 :: [3])), none]) rfl k
theorem d_Tx_readToken_0 : decode m_Tx_readToken.2.1 0 = .ok (.aload_n 0, 1) := by decide +kernel
theorem d_Tx_readToken_1 : decode m_Tx_readToken.2.1 1 = .ok (.aload_n 0, 1) := by decide +kernel
theorem d_Tx_readToken_2 : decode m_Tx_readToken.2.1 2 = .ok (.getfield 26, 3) := by decide +kernel
theorem d_Tx_readToken_5 : decode m_Tx_readToken.2.1 5 = .ok (.putfield 36, 3) := by decide +kernel
theorem d_Tx_readToken_8 : decode m_Tx_readToken.2.1 8 = .ok (.aload_n 0, 1) := by decide +kernel
theorem d_Tx_readToken_9 : decode m_Tx_readToken.2.1 9 = .ok (.getfield 36, 3) := by decide +kernel
theorem d_Tx_readToken_12 : decode m_Tx_readToken.2.1 12 = .ok (.aload_n 0, 1) := by decide +kernel
theorem d_Tx_readToken_13 : decode m_Tx_readToken.2.1 13 = .ok (.getfield 20, 3) := by decide +kernel
theorem d_Tx_readToken_16 : decode m_Tx_readToken.2.1 16 = .ok (.if_icmp .ge 29, 3) := by decide +kernel
theorem d_Tx_readToken_19 : decode m_Tx_readToken.2.1 19 = .ok (.aload_n 0, 1) := by decide +kernel
theorem d_Tx_readToken_20 : decode m_Tx_readToken.2.1 20 = .ok (.aload_n 0, 1) := by decide +kernel
theorem d_Tx_readToken_21 : decode m_Tx_readToken.2.1 21 = .ok (.getfield 36, 3) := by decide +kernel
theorem d_Tx_readToken_24 : decode m_Tx_readToken.2.1 24 = .ok (.invokevirtual 45, 3) := by decide +kernel
theorem d_Tx_readToken_27 : decode m_Tx_readToken.2.1 27 = .ok (.bipush 32, 2) := by decide +kernel
theorem d_Tx_readToken_29 : decode m_Tx_readToken.2.1 29 = .ok (.if_icmp .ne 16, 3) := by decide +kernel
theorem d_Tx_readToken_32 : decode m_Tx_readToken.2.1 32 = .ok (.aload_n 0, 1) := by decide +kernel
theorem d_Tx_readToken_33 : decode m_Tx_readToken.2.1 33 = .ok (.dup, 1) := by decide +kernel
theorem d_Tx_readToken_34 : decode m_Tx_readToken.2.1 34 = .ok (.getfield 36, 3) := by decide +kernel
theorem d_Tx_readToken_37 : decode m_Tx_readToken.2.1 37 = .ok (.iconst 1, 1) := by decide +kernel
theorem d_Tx_readToken_38 : decode m_Tx_readToken.2.1 38 = .ok (.iadd, 1) := by decide +kernel
theorem d_Tx_readToken_39 : decode m_Tx_readToken.2.1 39 = .ok (.putfield 36, 3) := by decide +kernel
theorem d_Tx_readToken_42 : decode m_Tx_readToken.2.1 42 = .ok (.goto (-34), 3) := by decide +kernel
theorem d_Tx_readToken_45 : decode m_Tx_readToken.2.1 45 = .ok (.aload_n 0, 1) := by decide +kernel
theorem d_Tx_readToken_46 : decode m_Tx_readToken.2.1 46 = .ok (.aload_n 0, 1) := by decide +kernel
theorem d_Tx_readToken_47 : decode m_Tx_readToken.2.1 47 = .ok (.getfield 36, 3) := by decide +kernel
theorem d_Tx_readToken_50 : decode m_Tx_readToken.2.1 50 = .ok (.putfield 26, 3) := by decide +kernel
theorem d_Tx_readToken_53 : decode m_Tx_readToken.2.1 53 = .ok (.aload_n 0, 1) := by decide +kernel
theorem d_Tx_readToken_54 : decode m_Tx_readToken.2.1 54 = .ok (.getfield 36, 3) := by decide +kernel
theorem d_Tx_readToken_57 : decode m_Tx_readToken.2.1 57 = .ok (.aload_n 0, 1) := by decide +kernel
theorem d_Tx_readToken_58 : decode m_Tx_readToken.2.1 58 = .ok (.getfield 20, 3) := by decide +kernel
theorem d_Tx_readToken_61 : decode m_Tx_readToken.2.1 61 = .ok (.if_icmp .lt 9, 3) := by decide +kernel
theorem d_Tx_readToken_64 : decode m_Tx_readToken.2.1 64 = .ok (.aload_n 0, 1) := by decide +kernel
theorem d_Tx_readToken_65 : decode m_Tx_readToken.2.1 65 = .ok (.iconst 0, 1) := by decide +kernel
theorem d_Tx_readToken_66 : decode m_Tx_readToken.2.1 66 = .ok (.putfield 42, 3) := by decide +kernel
theorem d_Tx_readToken_69 : decode m_Tx_readToken.2.1 69 = .ok (.return_, 1) := by decide +kernel
theorem d_Tx_readToken_70 : decode m_Tx_readToken.2.1 70 = .ok (.aload_n 0, 1) := by decide +kernel
theorem d_Tx_readToken_71 : decode m_Tx_readToken.2.1 71 = .ok (.aload_n 0, 1) := by decide +kernel
theorem d_Tx_readToken_72 : decode m_Tx_readToken.2.1 72 = .ok (.aload_n 0, 1) := by decide +kernel
theorem d_Tx_readToken_73 : decode m_Tx_readToken.2.1 73 = .ok (.getfield 36, 3) := by decide +kernel
theorem d_Tx_readToken_76 : decode m_Tx_readToken.2.1 76 = .ok (.invokevirtual 45, 3) := by decide +kernel
theorem d_Tx_readToken_79 : decode m_Tx_readToken.2.1 79 = .ok (.invokestatic 119, 3) := by decide +kernel
theorem d_Tx_readToken_82 : decode m_Tx_readToken.2.1 82 = .ok (.putfield 42, 3) := by decide +kernel
theorem d_Tx_readToken_85 : decode m_Tx_readToken.2.1 85 = .ok (.aload_n 0, 1) := by decide +kernel
theorem d_Tx_readToken_86 : decode m_Tx_readToken.2.1 86 = .ok (.dup, 1) := by decide +kernel
theorem d_Tx_readToken_87 : decode m_Tx_readToken.2.1 87 = .ok (.getfield 26, 3) := by decide +kernel
theorem d_Tx_readToken_90 : decode m_Tx_readToken.2.1 90 = .ok (.iconst 1, 1) := by decide +kernel
theorem d_Tx_readToken_91 : decode m_Tx_readToken.2.1 91 = .ok (.iadd, 1) := by decide +kernel
theorem d_Tx_readToken_92 : decode m_Tx_readToken.2.1 92 = .ok (.putfield 26, 3) := by decide +kernel
theorem d_Tx_readToken_95 : decode m_Tx_readToken.2.1 95 = .ok (.aload_n 0, 1) := by decide +kernel
theorem d_Tx_readToken_96 : decode m_Tx_readToken.2.1 96 = .ok (.getfield 42, 3) := by decide +kernel
theorem d_Tx_readToken_99 : decode m_Tx_readToken.2.1 99 = .ok (.iconst 3, 1) := by decide +kernel
theorem d_Tx_readToken_100 : decode m_Tx_readToken.2.1 100 = .ok (.if_icmp .eq 45, 3) := by decide +kernel
theorem d_Tx_readToken_103 : decode m_Tx_readToken.2.1 103 = .ok (.aload_n 0, 1) := by decide +kernel
theorem d_Tx_readToken_104 : decode m_Tx_readToken.2.1 104 = .ok (.getfield 26, 3) := by decide +kernel
theorem d_Tx_readToken_107 : decode m_Tx_readToken.2.1 107 = .ok (.aload_n 0, 1) := by decide +kernel
theorem d_Tx_readToken_108 : decode m_Tx_readToken.2.1 108 = .ok (.getfield 20, 3) := by decide +kernel
theorem d_Tx_readToken_111 : decode m_Tx_readToken.2.1 111 = .ok (.if_icmp .ge 34, 3) := by decide +kernel
theorem d_Tx_readToken_114 : decode m_Tx_readToken.2.1 114 = .ok (.aload_n 0, 1) := by decide +kernel
theorem d_Tx_readToken_115 : decode m_Tx_readToken.2.1 115 = .ok (.aload_n 0, 1) := by decide +kernel
theorem d_Tx_readToken_116 : decode m_Tx_readToken.2.1 116 = .ok (.getfield 26, 3) := by decide +kernel
theorem d_Tx_readToken_119 : decode m_Tx_readToken.2.1 119 = .ok (.invokevirtual 45, 3) := by decide +kernel
theorem d_Tx_readToken_122 : decode m_Tx_readToken.2.1 122 = .ok (.invokestatic 119, 3) := by decide +kernel
theorem d_Tx_readToken_125 : decode m_Tx_readToken.2.1 125 = .ok (.aload_n 0, 1) := by decide +kernel
theorem d_Tx_readToken_126 : decode m_Tx_readToken.2.1 126 = .ok (.getfield 42, 3) := by decide +kernel
theorem d_Tx_readToken_129 : decode m_Tx_readToken.2.1 129 = .ok (.if_icmp .ne 16, 3) := by decide +kernel
theorem d_Tx_readToken_132 : decode m_Tx_readToken.2.1 132 = .ok (.aload_n 0, 1) := by decide +kernel
theorem d_Tx_readToken_133 : decode m_Tx_readToken.2.1 133 = .ok (.dup, 1) := by decide +kernel
theorem d_Tx_readToken_134 : decode m_Tx_readToken.2.1 134 = .ok (.getfield 26, 3) := by decide +kernel
theorem d_Tx_readToken_137 : decode m_Tx_readToken.2.1 137 = .ok (.iconst 1, 1) := by decide +kernel
theorem d_Tx_readToken_138 : decode m_Tx_readToken.2.1 138 = .ok (.iadd, 1) := by decide +kernel
theorem d_Tx_readToken_139 : decode m_Tx_readToken.2.1 139 = .ok (.putfield 26, 3) := by decide +kernel
theorem d_Tx_readToken_142 : decode m_Tx_readToken.2.1 142 = .ok (.goto (-47), 3) := by decide +kernel
theorem d_Tx_readToken_145 : decode m_Tx_readToken.2.1 145 = .ok (.return_, 1) := by decide +kernel
theorem g_Tx_readToken_0 {X : XS}  (h : Hp) (Q : Option AV → Hp → Prop)  (k : Rn X m_Tx_readToken 8 [some (vR [2, 0])] [] (hsI h [2, 0] 4 (h.1 [2, 0] 5)) Q) : Rn X m_Tx_readToken 0 [some (vR [2, 0])] [] h Q := by
  refine Rn.aload_n (n := 1) (i := 0) d_Tx_readToken_0 rfl rfl rfl ?_
  refine Rn.aload_n (n := 2) (i := 0) d_Tx_readToken_1 rfl rfl rfl ?_
  refine Rn.getf (n := 5) (v := vI (h.1 [2, 0] 5)) d_Tx_readToken_2 rfl fl_Tx_26 Lv_2_0 rfl ?_
  refine Rn.putI (n := 8) d_Tx_readToken_5 rfl fl_Tx_36 pl_Tx_4 Lv_2_0 rfl ?_
  exact k
theorem g_Tx_readToken_8 {X : XS}  (h : Hp) (Q : Option AV → Hp → Prop)  (k : (((h.1 [2, 0] 2) ≤ (h.1 [2, 0] 4) → Rn X m_Tx_readToken 45 [some (vR [2, 0])] [] h Q) ∧ (¬ (h.1 [2, 0] 2) ≤ (h.1 [2, 0] 4) → (∃ Q'4, EvI X m_Tx_byteAt [vR [2, 0], vI (h.1 [2, 0] 4)] h Q'4 ∧ ∀ (r5 : Int32) (h3 : Hp), Q'4 r5 h3 → ((¬ r5 = 32 → Rn X m_Tx_readToken 45 [some (vR [2, 0])] [] h3 Q) ∧ (r5 = 32 → Rn X m_Tx_readToken 8 [some (vR [2, 0])] [] (hsI h3 [2, 0] 4 ((h3.1 [2, 0] 4) + 1)) Q)))))) : Rn X m_Tx_readToken 8 [some (vR [2, 0])] [] h Q := by
  refine Rn.aload_n (n := 9) (i := 0) d_Tx_readToken_8 rfl rfl rfl ?_
  refine Rn.getf (n := 12) (v := vI (h.1 [2, 0] 4)) d_Tx_readToken_9 rfl fl_Tx_36 Lv_2_0 rfl ?_
  refine Rn.aload_n (n := 13) (i := 0) d_Tx_readToken_12 rfl rfl rfl ?_
  refine Rn.getf (n := 16) (v := vI (h.1 [2, 0] 2)) d_Tx_readToken_13 rfl fl_Tx_20 Lv_2_0 rfl ?_
  refine Rn.icmp_ge (n := 19) (t := 45) d_Tx_readToken_16 rfl (by decide) (fun cc => ?_) (fun cc => ?_)
  · have k := k.1 cc
    exact k
  · have k := k.2 cc
    refine Rn.aload_n (n := 20) (i := 0) d_Tx_readToken_19 rfl rfl rfl ?_
    refine Rn.aload_n (n := 21) (i := 0) d_Tx_readToken_20 rfl rfl rfl ?_
    refine Rn.getf (n := 24) (v := vI (h.1 [2, 0] 4)) d_Tx_readToken_21 rfl fl_Tx_36 Lv_2_0 rfl ?_
    obtain ⟨Q'4, ev1, k⟩ := k
    refine Rn.callV (n := 27) (av := [vI (h.1 [2, 0] 4)]) d_Tx_readToken_24 rfl ml_Tx_readToken_45 mi_Tx_byteAt Lv_2_0 rfl rfl rfl rfl (Nat.le_of_ble_eq_true rfl) ev1 (fun v h3 hq => ?_)
    obtain ⟨r5, rfl, hq⟩ := hq
    have k := k r5 h3 hq
    show Rn X m_Tx_readToken 27 [some (vR [2, 0])] [vI r5] h3 Q
    refine Rn.bipush (n := 29) (v := 32) d_Tx_readToken_27 rfl (by decide) ?_
    refine Rn.icmp_ne (n := 32) (t := 45) d_Tx_readToken_29 rfl (by decide) (fun cc => ?_) (fun cc => ?_)
    · have k := k.1 cc
      exact k
    · have k := k.2 cc
      refine Rn.aload_n (n := 33) (i := 0) d_Tx_readToken_32 rfl rfl rfl ?_
      refine Rn.dup (n := 34) d_Tx_readToken_33 rfl rfl ?_
      refine Rn.getf (n := 37) (v := vI (h3.1 [2, 0] 4)) d_Tx_readToken_34 rfl fl_Tx_36 Lv_2_0 rfl ?_
      refine Rn.iconst (n := 38) (v := 1) d_Tx_readToken_37 rfl (by decide) ?_
      refine Rn.iadd (n := 39) d_Tx_readToken_38 rfl ?_
      refine Rn.putI (n := 42) d_Tx_readToken_39 rfl fl_Tx_36 pl_Tx_4 Lv_2_0 rfl ?_
      refine Rn.goto (n := 8) d_Tx_readToken_42 (by decide) ?_
      exact k
theorem g_Tx_readToken_45 {X : XS}  (h : Hp) (Q : Option AV → Hp → Prop)  (k : ((((hsI h [2, 0] 5 (h.1 [2, 0] 4)).1 [2, 0] 4) < ((hsI h [2, 0] 5 (h.1 [2, 0] 4)).1 [2, 0] 2) → (∃ Q'4, EvI X m_Tx_byteAt [vR [2, 0], vI ((hsI h [2, 0] 5 (h.1 [2, 0] 4)).1 [2, 0] 4)] (hsI h [2, 0] 5 (h.1 [2, 0] 4)) Q'4 ∧ ∀ (r5 : Int32) (h3 : Hp), Q'4 r5 h3 → (∃ Q'9, EvI X m_Tx_kindOf [vI r5] h3 Q'9 ∧ ∀ (r10 : Int32) (h8 : Hp), Q'9 r10 h8 → Rn X m_Tx_readToken 95 [some (vR [2, 0])] [] (hsI (hsI h8 [2, 0] 6 r10) [2, 0] 5 (((hsI h8 [2, 0] 6 r10).1 [2, 0] 5) + 1)) Q))) ∧ (¬ ((hsI h [2, 0] 5 (h.1 [2, 0] 4)).1 [2, 0] 4) < ((hsI h [2, 0] 5 (h.1 [2, 0] 4)).1 [2, 0] 2) → Q none (hsI (hsI h [2, 0] 5 (h.1 [2, 0] 4)) [2, 0] 6 0)))) : Rn X m_Tx_readToken 45 [some (vR [2, 0])] [] h Q := by
  refine Rn.aload_n (n := 46) (i := 0) d_Tx_readToken_45 rfl rfl rfl ?_
  refine Rn.aload_n (n := 47) (i := 0) d_Tx_readToken_46 rfl rfl rfl ?_
  refine Rn.getf (n := 50) (v := vI (h.1 [2, 0] 4)) d_Tx_readToken_47 rfl fl_Tx_36 Lv_2_0 rfl ?_
  refine Rn.putI (n := 53) d_Tx_readToken_50 rfl fl_Tx_26 pl_Tx_5 Lv_2_0 rfl ?_
  refine Rn.aload_n (n := 54) (i := 0) d_Tx_readToken_53 rfl rfl rfl ?_
  refine Rn.getf (n := 57) (v := vI ((hsI h [2, 0] 5 (h.1 [2, 0] 4)).1 [2, 0] 4)) d_Tx_readToken_54 rfl fl_Tx_36 Lv_2_0 rfl ?_
  refine Rn.aload_n (n := 58) (i := 0) d_Tx_readToken_57 rfl rfl rfl ?_
  refine Rn.getf (n := 61) (v := vI ((hsI h [2, 0] 5 (h.1 [2, 0] 4)).1 [2, 0] 2)) d_Tx_readToken_58 rfl fl_Tx_20 Lv_2_0 rfl ?_
  refine Rn.icmp_lt (n := 64) (t := 70) d_Tx_readToken_61 rfl (by decide) (fun cc => ?_) (fun cc => ?_)
  · have k := k.1 cc
    refine Rn.aload_n (n := 71) (i := 0) d_Tx_readToken_70 rfl rfl rfl ?_
    refine Rn.aload_n (n := 72) (i := 0) d_Tx_readToken_71 rfl rfl rfl ?_
    refine Rn.aload_n (n := 73) (i := 0) d_Tx_readToken_72 rfl rfl rfl ?_
    refine Rn.getf (n := 76) (v := vI ((hsI h [2, 0] 5 (h.1 [2, 0] 4)).1 [2, 0] 4)) d_Tx_readToken_73 rfl fl_Tx_36 Lv_2_0 rfl ?_
    obtain ⟨Q'4, ev1, k⟩ := k
    refine Rn.callV (n := 79) (av := [vI ((hsI h [2, 0] 5 (h.1 [2, 0] 4)).1 [2, 0] 4)]) d_Tx_readToken_76 rfl ml_Tx_readToken_45 mi_Tx_byteAt Lv_2_0 rfl rfl rfl rfl (Nat.le_of_ble_eq_true rfl) ev1 (fun v h3 hq => ?_)
    obtain ⟨r5, rfl, hq⟩ := hq
    have k := k r5 h3 hq
    show Rn X m_Tx_readToken 79 [some (vR [2, 0])] [vI r5, vR [2, 0]] h3 Q
    obtain ⟨Q'9, ev6, k⟩ := k
    refine Rn.callS (n := 82) (av := [vI r5]) d_Tx_readToken_79 rfl ml_Tx_readToken_119 ms_Tx_kindOf rfl rfl (Nat.le_of_ble_eq_true rfl) ev6 (fun v h8 hq => ?_)
    obtain ⟨r10, rfl, hq⟩ := hq
    have k := k r10 h8 hq
    show Rn X m_Tx_readToken 82 [some (vR [2, 0])] [vI r10, vR [2, 0]] h8 Q
    refine Rn.putI (n := 85) d_Tx_readToken_82 rfl fl_Tx_42 pl_Tx_6 Lv_2_0 rfl ?_
    refine Rn.aload_n (n := 86) (i := 0) d_Tx_readToken_85 rfl rfl rfl ?_
    refine Rn.dup (n := 87) d_Tx_readToken_86 rfl rfl ?_
    refine Rn.getf (n := 90) (v := vI ((hsI h8 [2, 0] 6 r10).1 [2, 0] 5)) d_Tx_readToken_87 rfl fl_Tx_26 Lv_2_0 rfl ?_
    refine Rn.iconst (n := 91) (v := 1) d_Tx_readToken_90 rfl (by decide) ?_
    refine Rn.iadd (n := 92) d_Tx_readToken_91 rfl ?_
    refine Rn.putI (n := 95) d_Tx_readToken_92 rfl fl_Tx_26 pl_Tx_5 Lv_2_0 rfl ?_
    exact k
  · have k := k.2 cc
    refine Rn.aload_n (n := 65) (i := 0) d_Tx_readToken_64 rfl rfl rfl ?_
    refine Rn.iconst (n := 66) (v := 0) d_Tx_readToken_65 rfl (by decide) ?_
    refine Rn.putI (n := 69) d_Tx_readToken_66 rfl fl_Tx_42 pl_Tx_6 Lv_2_0 rfl ?_
    exact Rn.vret d_Tx_readToken_69 rfl k
theorem g_Tx_readToken_95 {X : XS}  (h : Hp) (Q : Option AV → Hp → Prop)  (k : (((h.1 [2, 0] 6) = 3 → Q none h) ∧ (¬ (h.1 [2, 0] 6) = 3 → (((h.1 [2, 0] 2) ≤ (h.1 [2, 0] 5) → Q none h) ∧ (¬ (h.1 [2, 0] 2) ≤ (h.1 [2, 0] 5) → (∃ Q'4, EvI X m_Tx_byteAt [vR [2, 0], vI (h.1 [2, 0] 5)] h Q'4 ∧ ∀ (r5 : Int32) (h3 : Hp), Q'4 r5 h3 → (∃ Q'9, EvI X m_Tx_kindOf [vI r5] h3 Q'9 ∧ ∀ (r10 : Int32) (h8 : Hp), Q'9 r10 h8 → ((¬ r10 = (h8.1 [2, 0] 6) → Q none h8) ∧ (r10 = (h8.1 [2, 0] 6) → Rn X m_Tx_readToken 95 [some (vR [2, 0])] [] (hsI h8 [2, 0] 5 ((h8.1 [2, 0] 5) + 1)) Q))))))))) : Rn X m_Tx_readToken 95 [some (vR [2, 0])] [] h Q := by
  refine Rn.aload_n (n := 96) (i := 0) d_Tx_readToken_95 rfl rfl rfl ?_
  refine Rn.getf (n := 99) (v := vI (h.1 [2, 0] 6)) d_Tx_readToken_96 rfl fl_Tx_42 Lv_2_0 rfl ?_
  refine Rn.iconst (n := 100) (v := 3) d_Tx_readToken_99 rfl (by decide) ?_
  refine Rn.icmp_eq (n := 103) (t := 145) d_Tx_readToken_100 rfl (by decide) (fun cc => ?_) (fun cc => ?_)
  · have k := k.1 cc
    exact Rn.vret d_Tx_readToken_145 rfl k
  · have k := k.2 cc
    refine Rn.aload_n (n := 104) (i := 0) d_Tx_readToken_103 rfl rfl rfl ?_
    refine Rn.getf (n := 107) (v := vI (h.1 [2, 0] 5)) d_Tx_readToken_104 rfl fl_Tx_26 Lv_2_0 rfl ?_
    refine Rn.aload_n (n := 108) (i := 0) d_Tx_readToken_107 rfl rfl rfl ?_
    refine Rn.getf (n := 111) (v := vI (h.1 [2, 0] 2)) d_Tx_readToken_108 rfl fl_Tx_20 Lv_2_0 rfl ?_
    refine Rn.icmp_ge (n := 114) (t := 145) d_Tx_readToken_111 rfl (by decide) (fun cc => ?_) (fun cc => ?_)
    · have k := k.1 cc
      exact Rn.vret d_Tx_readToken_145 rfl k
    · have k := k.2 cc
      refine Rn.aload_n (n := 115) (i := 0) d_Tx_readToken_114 rfl rfl rfl ?_
      refine Rn.aload_n (n := 116) (i := 0) d_Tx_readToken_115 rfl rfl rfl ?_
      refine Rn.getf (n := 119) (v := vI (h.1 [2, 0] 5)) d_Tx_readToken_116 rfl fl_Tx_26 Lv_2_0 rfl ?_
      obtain ⟨Q'4, ev1, k⟩ := k
      refine Rn.callV (n := 122) (av := [vI (h.1 [2, 0] 5)]) d_Tx_readToken_119 rfl ml_Tx_readToken_45 mi_Tx_byteAt Lv_2_0 rfl rfl rfl rfl (Nat.le_of_ble_eq_true rfl) ev1 (fun v h3 hq => ?_)
      obtain ⟨r5, rfl, hq⟩ := hq
      have k := k r5 h3 hq
      show Rn X m_Tx_readToken 122 [some (vR [2, 0])] [vI r5] h3 Q
      obtain ⟨Q'9, ev6, k⟩ := k
      refine Rn.callS (n := 125) (av := [vI r5]) d_Tx_readToken_122 rfl ml_Tx_readToken_119 ms_Tx_kindOf rfl rfl (Nat.le_of_ble_eq_true rfl) ev6 (fun v h8 hq => ?_)
      obtain ⟨r10, rfl, hq⟩ := hq
      have k := k r10 h8 hq
      show Rn X m_Tx_readToken 125 [some (vR [2, 0])] [vI r10] h8 Q
      refine Rn.aload_n (n := 126) (i := 0) d_Tx_readToken_125 rfl rfl rfl ?_
      refine Rn.getf (n := 129) (v := vI (h8.1 [2, 0] 6)) d_Tx_readToken_126 rfl fl_Tx_42 Lv_2_0 rfl ?_
      refine Rn.icmp_ne (n := 132) (t := 145) d_Tx_readToken_129 rfl (by decide) (fun cc => ?_) (fun cc => ?_)
      · have k := k.1 cc
        exact Rn.vret d_Tx_readToken_145 rfl k
      · have k := k.2 cc
        refine Rn.aload_n (n := 133) (i := 0) d_Tx_readToken_132 rfl rfl rfl ?_
        refine Rn.dup (n := 134) d_Tx_readToken_133 rfl rfl ?_
        refine Rn.getf (n := 137) (v := vI (h8.1 [2, 0] 5)) d_Tx_readToken_134 rfl fl_Tx_26 Lv_2_0 rfl ?_
        refine Rn.iconst (n := 138) (v := 1) d_Tx_readToken_137 rfl (by decide) ?_
        refine Rn.iadd (n := 139) d_Tx_readToken_138 rfl ?_
        refine Rn.putI (n := 142) d_Tx_readToken_139 rfl fl_Tx_26 pl_Tx_5 Lv_2_0 rfl ?_
        refine Rn.goto (n := 95) d_Tx_readToken_142 (by decide) ?_
        exact k
theorem e_Tx_readToken {X : XS}  (h : Hp) (Q : Option AV → Hp → Prop) (k : Rn X m_Tx_readToken 0 [some (vR [2, 0])] [] h Q) : Ev X m_Tx_readToken [vR [2, 0]] h Q := Ev.intro (plainFor_of_name (by decide +kernel)) (Nat.le_of_ble_eq_true rfl) (ls := [some (vR [2, 0])]) rfl k
theorem d_Tx_byteAt_0 : decode m_Tx_byteAt.2.1 0 = .ok (.iload_n 1, 1) := by decide +kernel
theorem d_Tx_byteAt_1 : decode m_Tx_byteAt.2.1 1 = .ok (.ifCond .lt 27, 3) := by decide +kernel
theorem d_Tx_byteAt_4 : decode m_Tx_byteAt.2.1 4 = .ok (.iload_n 1, 1) := by decide +kernel
theorem d_Tx_byteAt_5 : decode m_Tx_byteAt.2.1 5 = .ok (.aload_n 0, 1) := by decide +kernel
theorem d_Tx_byteAt_6 : decode m_Tx_byteAt.2.1 6 = .ok (.getfield 20, 3) := by decide +kernel
theorem d_Tx_byteAt_9 : decode m_Tx_byteAt.2.1 9 = .ok (.if_icmp .ge 19, 3) := by decide +kernel
theorem d_Tx_byteAt_12 : decode m_Tx_byteAt.2.1 12 = .ok (.iload_n 1, 1) := by decide +kernel
theorem d_Tx_byteAt_13 : decode m_Tx_byteAt.2.1 13 = .ok (.sipush 200, 3) := by decide +kernel
theorem d_Tx_byteAt_16 : decode m_Tx_byteAt.2.1 16 = .ok (.if_icmp .ge 12, 3) := by decide +kernel
theorem d_Tx_byteAt_19 : decode m_Tx_byteAt.2.1 19 = .ok (.aload_n 0, 1) := by decide +kernel
theorem d_Tx_byteAt_20 : decode m_Tx_byteAt.2.1 20 = .ok (.getfield 11, 3) := by decide +kernel
theorem d_Tx_byteAt_23 : decode m_Tx_byteAt.2.1 23 = .ok (.iload_n 1, 1) := by decide +kernel
theorem d_Tx_byteAt_24 : decode m_Tx_byteAt.2.1 24 = .ok (.iaload, 1) := by decide +kernel
theorem d_Tx_byteAt_25 : decode m_Tx_byteAt.2.1 25 = .ok (.goto 4, 3) := by decide +kernel
theorem d_Tx_byteAt_28 : decode m_Tx_byteAt.2.1 28 = .ok (.iconst 0, 1) := by decide +kernel
theorem d_Tx_byteAt_29 : decode m_Tx_byteAt.2.1 29 = .ok (.ireturn, 1) := by decide +kernel
theorem g_Tx_byteAt_0 {X : XS} (a1 : Int32) (h : Hp) (Q : Option AV → Hp → Prop)  (k : ((a1 < 0 → Q (some (vI 0)) h) ∧ (¬ a1 < 0 → (((h.1 [2, 0] 2) ≤ a1 → Q (some (vI 0)) h) ∧ (¬ (h.1 [2, 0] 2) ≤ a1 → ((200 ≤ a1 → Q (some (vI 0)) h) ∧ (¬ 200 ≤ a1 → (vp_in a1 200 ∧ Q (some (vI (h.1 [0, 2, 0] a1.toNatClampNeg))) h)))))))) : Rn X m_Tx_byteAt 0 [some (vR [2, 0]), some (vI a1)] [] h Q := by
  refine Rn.iload_n (n := 1) (i := 1) d_Tx_byteAt_0 rfl rfl rfl ?_
  refine Rn.if_lt (n := 4) (t := 28) d_Tx_byteAt_1 rfl (by decide) (fun cc => ?_) (fun cc => ?_)
  · have k := k.1 cc
    refine Rn.iconst (n := 29) (v := 0) d_Tx_byteAt_28 rfl (by decide) ?_
    exact Rn.iret d_Tx_byteAt_29 rfl rfl k
  · have k := k.2 cc
    refine Rn.iload_n (n := 5) (i := 1) d_Tx_byteAt_4 rfl rfl rfl ?_
    refine Rn.aload_n (n := 6) (i := 0) d_Tx_byteAt_5 rfl rfl rfl ?_
    refine Rn.getf (n := 9) (v := vI (h.1 [2, 0] 2)) d_Tx_byteAt_6 rfl fl_Tx_20 Lv_2_0 rfl ?_
    refine Rn.icmp_ge (n := 12) (t := 28) d_Tx_byteAt_9 rfl (by decide) (fun cc => ?_) (fun cc => ?_)
    · have k := k.1 cc
      refine Rn.iconst (n := 29) (v := 0) d_Tx_byteAt_28 rfl (by decide) ?_
      exact Rn.iret d_Tx_byteAt_29 rfl rfl k
    · have k := k.2 cc
      refine Rn.iload_n (n := 13) (i := 1) d_Tx_byteAt_12 rfl rfl rfl ?_
      refine Rn.sipush (n := 16) (v := 200) d_Tx_byteAt_13 rfl (by decide) ?_
      refine Rn.icmp_ge (n := 19) (t := 28) d_Tx_byteAt_16 rfl (by decide) (fun cc => ?_) (fun cc => ?_)
      · have k := k.1 cc
        refine Rn.iconst (n := 29) (v := 0) d_Tx_byteAt_28 rfl (by decide) ?_
        exact Rn.iret d_Tx_byteAt_29 rfl rfl k
      · have k := k.2 cc
        refine Rn.aload_n (n := 20) (i := 0) d_Tx_byteAt_19 rfl rfl rfl ?_
        refine Rn.getf (n := 23) (v := vR [0, 2, 0]) d_Tx_byteAt_20 rfl fl_Tx_11 Lv_2_0 rfl ?_
        refine Rn.iload_n (n := 24) (i := 1) d_Tx_byteAt_23 rfl rfl rfl ?_
        obtain ⟨b1, k⟩ := k
        refine Rn.iald (n := 25) (v := h.1 [0, 2, 0] a1.toNatClampNeg) d_Tx_byteAt_24 rfl Lv_0_2_0 b1 rfl ?_
        refine Rn.goto (n := 29) d_Tx_byteAt_25 (by decide) ?_
        exact Rn.iret d_Tx_byteAt_29 rfl rfl k
theorem e_Tx_byteAt {X : XS} (a1 : Int32) (h : Hp) (Q : Option AV → Hp → Prop) (k : Rn X m_Tx_byteAt 0 [some (vR [2, 0]), some (vI a1)] [] h Q) : Ev X m_Tx_byteAt [vR [2, 0], vI a1] h Q := Ev.intro (plainFor_of_name (by decide +kernel)) (Nat.le_of_ble_eq_true rfl) (ls := [some (vR [2, 0]), some (vI a1)]) rfl k
theorem d_Tx_kindOf_0 : decode m_Tx_kindOf.2.1 0 = .ok (.iload_n 0, 1) := by decide +kernel
theorem d_Tx_kindOf_1 : decode m_Tx_kindOf.2.1 1 = .ok (.bipush 97, 2) := by decide +kernel
theorem d_Tx_kindOf_3 : decode m_Tx_kindOf.2.1 3 = .ok (.if_icmp .lt 11, 3) := by decide +kernel
theorem d_Tx_kindOf_6 : decode m_Tx_kindOf.2.1 6 = .ok (.iload_n 0, 1) := by decide +kernel
theorem d_Tx_kindOf_7 : decode m_Tx_kindOf.2.1 7 = .ok (.bipush 122, 2) := by decide +kernel
theorem d_Tx_kindOf_9 : decode m_Tx_kindOf.2.1 9 = .ok (.if_icmp .gt 5, 3) := by decide +kernel
theorem d_Tx_kindOf_12 : decode m_Tx_kindOf.2.1 12 = .ok (.iconst 1, 1) := by decide +kernel
theorem d_Tx_kindOf_13 : decode m_Tx_kindOf.2.1 13 = .ok (.ireturn, 1) := by decide +kernel
theorem d_Tx_kindOf_14 : decode m_Tx_kindOf.2.1 14 = .ok (.iload_n 0, 1) := by decide +kernel
theorem d_Tx_kindOf_15 : decode m_Tx_kindOf.2.1 15 = .ok (.bipush 48, 2) := by decide +kernel
theorem d_Tx_kindOf_17 : decode m_Tx_kindOf.2.1 17 = .ok (.if_icmp .lt 13, 3) := by decide +kernel
theorem d_Tx_kindOf_20 : decode m_Tx_kindOf.2.1 20 = .ok (.iload_n 0, 1) := by decide +kernel
theorem d_Tx_kindOf_21 : decode m_Tx_kindOf.2.1 21 = .ok (.bipush 57, 2) := by decide +kernel
theorem d_Tx_kindOf_23 : decode m_Tx_kindOf.2.1 23 = .ok (.if_icmp .gt 7, 3) := by decide +kernel
theorem d_Tx_kindOf_26 : decode m_Tx_kindOf.2.1 26 = .ok (.iconst 2, 1) := by decide +kernel
theorem d_Tx_kindOf_27 : decode m_Tx_kindOf.2.1 27 = .ok (.goto 4, 3) := by decide +kernel
theorem d_Tx_kindOf_30 : decode m_Tx_kindOf.2.1 30 = .ok (.iconst 3, 1) := by decide +kernel
theorem d_Tx_kindOf_31 : decode m_Tx_kindOf.2.1 31 = .ok (.ireturn, 1) := by decide +kernel
theorem g_Tx_kindOf_0 {X : XS} (a0 : Int32) (h : Hp) (Q : Option AV → Hp → Prop)  (k : ((a0 < 97 → Rn X m_Tx_kindOf 14 [some (vI a0)] [] h Q) ∧ (¬ a0 < 97 → ((122 < a0 → Rn X m_Tx_kindOf 14 [some (vI a0)] [] h Q) ∧ (¬ 122 < a0 → Q (some (vI 1)) h))))) : Rn X m_Tx_kindOf 0 [some (vI a0)] [] h Q := by
  refine Rn.iload_n (n := 1) (i := 0) d_Tx_kindOf_0 rfl rfl rfl ?_
  refine Rn.bipush (n := 3) (v := 97) d_Tx_kindOf_1 rfl (by decide) ?_
  refine Rn.icmp_lt (n := 6) (t := 14) d_Tx_kindOf_3 rfl (by decide) (fun cc => ?_) (fun cc => ?_)
  · have k := k.1 cc
    exact k
  · have k := k.2 cc
    refine Rn.iload_n (n := 7) (i := 0) d_Tx_kindOf_6 rfl rfl rfl ?_
    refine Rn.bipush (n := 9) (v := 122) d_Tx_kindOf_7 rfl (by decide) ?_
    refine Rn.icmp_gt (n := 12) (t := 14) d_Tx_kindOf_9 rfl (by decide) (fun cc => ?_) (fun cc => ?_)
    · have k := k.1 cc
      exact k
    · have k := k.2 cc
      refine Rn.iconst (n := 13) (v := 1) d_Tx_kindOf_12 rfl (by decide) ?_
      exact Rn.iret d_Tx_kindOf_13 rfl rfl k
theorem g_Tx_kindOf_14 {X : XS} (a0 : Int32) (h : Hp) (Q : Option AV → Hp → Prop)  (k : ((a0 < 48 → Q (some (vI 3)) h) ∧ (¬ a0 < 48 → ((57 < a0 → Q (some (vI 3)) h) ∧ (¬ 57 < a0 → Q (some (vI 2)) h))))) : Rn X m_Tx_kindOf 14 [some (vI a0)] [] h Q := by
  refine Rn.iload_n (n := 15) (i := 0) d_Tx_kindOf_14 rfl rfl rfl ?_
  refine Rn.bipush (n := 17) (v := 48) d_Tx_kindOf_15 rfl (by decide) ?_
  refine Rn.icmp_lt (n := 20) (t := 30) d_Tx_kindOf_17 rfl (by decide) (fun cc => ?_) (fun cc => ?_)
  · have k := k.1 cc
    refine Rn.iconst (n := 31) (v := 3) d_Tx_kindOf_30 rfl (by decide) ?_
    exact Rn.iret d_Tx_kindOf_31 rfl rfl k
  · have k := k.2 cc
    refine Rn.iload_n (n := 21) (i := 0) d_Tx_kindOf_20 rfl rfl rfl ?_
    refine Rn.bipush (n := 23) (v := 57) d_Tx_kindOf_21 rfl (by decide) ?_
    refine Rn.icmp_gt (n := 26) (t := 30) d_Tx_kindOf_23 rfl (by decide) (fun cc => ?_) (fun cc => ?_)
    · have k := k.1 cc
      refine Rn.iconst (n := 31) (v := 3) d_Tx_kindOf_30 rfl (by decide) ?_
      exact Rn.iret d_Tx_kindOf_31 rfl rfl k
    · have k := k.2 cc
      refine Rn.iconst (n := 27) (v := 2) d_Tx_kindOf_26 rfl (by decide) ?_
      refine Rn.goto (n := 31) d_Tx_kindOf_27 (by decide) ?_
      exact Rn.iret d_Tx_kindOf_31 rfl rfl k
theorem e_Tx_kindOf {X : XS} (a0 : Int32) (h : Hp) (Q : Option AV → Hp → Prop) (k : Rn X m_Tx_kindOf 0 [some (vI a0)] [] h Q) : Ev X m_Tx_kindOf [vI a0] h Q := Ev.intro (plainFor_of_name (by decide +kernel)) (Nat.le_of_ble_eq_true rfl) (ls := [some (vI a0)]) rfl k
