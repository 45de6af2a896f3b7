theorem d_Us_write_0 : decode m_Us_write.2.1 0 = .ok (.iload_n 3, 1) := by decide +kernel
theorem d_Us_write_1 : decode m_Us_write.2.1 1 = .ok (.iconst 1, 1) := by decide +kernel
theorem d_Us_write_2 : decode m_Us_write.2.1 2 = .ok (.bipush 8, 2) := by decide +kernel
theorem d_Us_write_4 : decode m_Us_write.2.1 4 = .ok (.invokestatic 61, 3) := by decide +kernel
theorem d_Us_write_7 : decode m_Us_write.2.1 7 = .ok (.ifCond .eq 6, 3) := by decide +kernel
theorem d_Us_write_10 : decode m_Us_write.2.1 10 = .ok (.bipush (-3), 2) := by decide +kernel
theorem d_Us_write_12 : decode m_Us_write.2.1 12 = .ok (.ireturn, 1) := by decide +kernel
theorem d_Us_write_13 : decode m_Us_write.2.1 13 = .ok (.aload_n 0, 1) := by decide +kernel
theorem d_Us_write_14 : decode m_Us_write.2.1 14 = .ok (.getfield 22, 3) := by decide +kernel
theorem d_Us_write_17 : decode m_Us_write.2.1 17 = .ok (.lload_n 1, 1) := by decide +kernel
theorem d_Us_write_18 : decode m_Us_write.2.1 18 = .ok (.iload_n 3, 1) := by decide +kernel
theorem d_Us_write_19 : decode m_Us_write.2.1 19 = .ok (.invokevirtual 65, 3) := by decide +kernel
theorem d_Us_write_22 : decode m_Us_write.2.1 22 = .ok (.ifCond .eq 13, 3) := by decide +kernel
theorem d_Us_write_25 : decode m_Us_write.2.1 25 = .ok (.aload_n 0, 1) := by decide +kernel
theorem d_Us_write_26 : decode m_Us_write.2.1 26 = .ok (.getfield 22, 3) := by decide +kernel
theorem d_Us_write_29 : decode m_Us_write.2.1 29 = .ok (.getfield 69, 3) := by decide +kernel
theorem d_Us_write_32 : decode m_Us_write.2.1 32 = .ok (.goto 5, 3) := by decide +kernel
theorem d_Us_write_35 : decode m_Us_write.2.1 35 = .ok (.bipush (-5), 2) := by decide +kernel
theorem d_Us_write_37 : decode m_Us_write.2.1 37 = .ok (.ireturn, 1) := by decide +kernel
theorem g_Us_write_0 {X : XS} (a1 : Int64) (a3 : Int32) (h : Hp) (Q : Option AV → Hp → Prop)  (k : (∃ Q'4, EvI X m_Us_isNotIn [vI a3, vI 1, vI 8] h Q'4 ∧ ∀ (r5 : Int32) (h3 : Hp), Q'4 r5 h3 → ((r5 = 0 → (∃ Q'9, EvI X m_Tx_append [vR [2, 0], vL a1, vI a3] h3 Q'9 ∧ ∀ (r10 : Int32) (h8 : Hp), Q'9 r10 h8 → ((r10 = 0 → Q (some (vI (-5))) h8) ∧ (¬ r10 = 0 → Q (some (vI (h8.1 [2, 0] 2))) h8)))) ∧ (¬ r5 = 0 → Q (some (vI (-3))) h3)))) : Rn X m_Us_write 0 [some (vR [0]), some (vL a1), none, some (vI a3)] [] h Q := by
  refine Rn.iload_n (n := 1) (i := 3) d_Us_write_0 rfl rfl rfl ?_
  refine Rn.iconst (n := 2) (v := 1) d_Us_write_1 rfl (by decide) ?_
  refine Rn.bipush (n := 4) (v := 8) d_Us_write_2 rfl (by decide) ?_
  obtain ⟨Q'4, ev1, k⟩ := k
  refine Rn.callS (n := 7) (av := [vI a3, vI 1, vI 8]) d_Us_write_4 rfl ml_Us_write_61 ms_Us_isNotIn rfl rfl (Nat.le_of_ble_eq_true rfl) ev1 (fun v h3 hq => ?_)
  obtain ⟨r5, rfl, hq⟩ := hq
  have k := k r5 h3 hq
  show Rn X m_Us_write 7 [some (vR [0]), some (vL a1), none, some (vI a3)] [vI r5] h3 Q
  refine Rn.if_eq (n := 10) (t := 13) d_Us_write_7 rfl (by decide) (fun cc => ?_) (fun cc => ?_)
  · have k := k.1 cc
    refine Rn.aload_n (n := 14) (i := 0) d_Us_write_13 rfl rfl rfl ?_
    refine Rn.getf (n := 17) (v := vR [2, 0]) d_Us_write_14 rfl fl_Us_22 Lv_0 rfl ?_
    refine Rn.lload_n (n := 18) (i := 1) d_Us_write_17 rfl rfl rfl ?_
    refine Rn.iload_n (n := 19) (i := 3) d_Us_write_18 rfl rfl rfl ?_
    obtain ⟨Q'9, ev6, k⟩ := k
    refine Rn.callV (n := 22) (av := [vL a1, vI a3]) d_Us_write_19 rfl ml_Us_write_65 mi_Tx_append Lv_2_0 rfl rfl rfl rfl (Nat.le_of_ble_eq_true rfl) ev6 (fun v h8 hq => ?_)
    obtain ⟨r10, rfl, hq⟩ := hq
    have k := k r10 h8 hq
    show Rn X m_Us_write 22 [some (vR [0]), some (vL a1), none, some (vI a3)] [vI r10] h8 Q
    refine Rn.if_eq (n := 25) (t := 35) d_Us_write_22 rfl (by decide) (fun cc => ?_) (fun cc => ?_)
    · have k := k.1 cc
      refine Rn.bipush (n := 37) (v := (-5)) d_Us_write_35 rfl (by decide) ?_
      exact Rn.iret d_Us_write_37 rfl rfl k
    · have k := k.2 cc
      refine Rn.aload_n (n := 26) (i := 0) d_Us_write_25 rfl rfl rfl ?_
      refine Rn.getf (n := 29) (v := vR [2, 0]) d_Us_write_26 rfl fl_Us_22 Lv_0 rfl ?_
      refine Rn.getf (n := 32) (v := vI (h8.1 [2, 0] 2)) d_Us_write_29 rfl fl_Us_69 Lv_2_0 rfl ?_
      refine Rn.goto (n := 37) d_Us_write_32 (by decide) ?_
      exact Rn.iret d_Us_write_37 rfl rfl k
  · have k := k.2 cc
    refine Rn.bipush (n := 12) (v := (-3)) d_Us_write_10 rfl (by decide) ?_
    exact Rn.iret d_Us_write_12 rfl rfl k
theorem e_Us_write {X : XS} (a1 : Int64) (a3 : Int32) (h : Hp) (Q : Option AV → Hp → Prop) (k : Rn X m_Us_write 0 [some (vR [0]), some (vL a1), none, some (vI a3)] [] h Q) : Ev X m_Us_write [vR [0], vL a1, vI a3] h Q := Ev.intro (plainFor_of_name (by decide +kernel)) (Nat.le_of_ble_eq_true rfl) (ls := [some (vR [0]), some (vL a1), none, some (vI a3)]) rfl k
theorem d_Us_erase_0 : decode m_Us_erase.2.1 0 = .ok (.aload_n 0, 1) := by decide +kernel
theorem d_Us_erase_1 : decode m_Us_erase.2.1 1 = .ok (.getfield 22, 3) := by decide +kernel
theorem d_Us_erase_4 : decode m_Us_erase.2.1 4 = .ok (.invokevirtual 73, 3) := by decide +kernel
theorem d_Us_erase_7 : decode m_Us_erase.2.1 7 = .ok (.ireturn, 1) := by decide +kernel
theorem g_Us_erase_0 {X : XS}  (h : Hp) (Q : Option AV → Hp → Prop)  (k : (∃ Q'4, EvI X m_Tx_empty [vR [2, 0]] h Q'4 ∧ ∀ (r5 : Int32) (h3 : Hp), Q'4 r5 h3 → Q (some (vI r5)) h3)) : Rn X m_Us_erase 0 [some (vR [0])] [] h Q := by
  refine Rn.aload_n (n := 1) (i := 0) d_Us_erase_0 rfl rfl rfl ?_
  refine Rn.getf (n := 4) (v := vR [2, 0]) d_Us_erase_1 rfl fl_Us_22 Lv_0 rfl ?_
  obtain ⟨Q'4, ev1, k⟩ := k
  refine Rn.callV (n := 7) (av := []) d_Us_erase_4 rfl ml_Us_erase_73 mi_Tx_empty Lv_2_0 rfl rfl rfl rfl (Nat.le_of_ble_eq_true rfl) ev1 (fun v h3 hq => ?_)
  obtain ⟨r5, rfl, hq⟩ := hq
  have k := k r5 h3 hq
  show Rn X m_Us_erase 7 [some (vR [0])] [vI r5] h3 Q
  exact Rn.iret d_Us_erase_7 rfl rfl k
theorem e_Us_erase {X : XS}  (h : Hp) (Q : Option AV → Hp → Prop) (k : Rn X m_Us_erase 0 [some (vR [0])] [] h Q) : Ev X m_Us_erase [vR [0]] h Q := Ev.intro (plainFor_of_name (by decide +kernel)) (Nat.le_of_ble_eq_true rfl) (ls := [some (vR [0])]) rfl k
theorem d_Us_fault_0 : decode m_Us_fault.2.1 0 = .ok (.aload_n 0, 1) := by decide +kernel
theorem d_Us_fault_1 : decode m_Us_fault.2.1 1 = .ok (.getfield 16, 3) := by decide +kernel
theorem d_Us_fault_4 : decode m_Us_fault.2.1 4 = .ok (.aload_n 0, 1) := by decide +kernel
theorem d_Us_fault_5 : decode m_Us_fault.2.1 5 = .ok (.getfield 12, 3) := by decide +kernel
theorem d_Us_fault_8 : decode m_Us_fault.2.1 8 = .ok (.invokevirtual 77, 3) := by decide +kernel
theorem d_Us_fault_11 : decode m_Us_fault.2.1 11 = .ok (.aload_n 0, 1) := by decide +kernel
theorem d_Us_fault_12 : decode m_Us_fault.2.1 12 = .ok (.getfield 22, 3) := by decide +kernel
theorem d_Us_fault_15 : decode m_Us_fault.2.1 15 = .ok (.aload_n 0, 1) := by decide +kernel
theorem d_Us_fault_16 : decode m_Us_fault.2.1 16 = .ok (.getfield 16, 3) := by decide +kernel
theorem d_Us_fault_19 : decode m_Us_fault.2.1 19 = .ok (.invokevirtual 81, 3) := by decide +kernel
theorem d_Us_fault_22 : decode m_Us_fault.2.1 22 = .ok (.ireturn, 1) := by decide +kernel
theorem g_Us_fault_0 {X : XS}  (h : Hp) (Q : Option AV → Hp → Prop)  (k : (∃ Q'4, EvV X m_Pl_copyFrom [vR [1, 0], vR [0, 0]] h Q'4 ∧ ∀ (h3 : Hp), Q'4 h3 → (∃ Q'8, EvI X m_Tx_readInto [vR [2, 0], vR [1, 0]] h3 Q'8 ∧ ∀ (r9 : Int32) (h7 : Hp), Q'8 r9 h7 → Q (some (vI r9)) h7))) : Rn X m_Us_fault 0 [some (vR [0])] [] h Q := by
  refine Rn.aload_n (n := 1) (i := 0) d_Us_fault_0 rfl rfl rfl ?_
  refine Rn.getf (n := 4) (v := vR [1, 0]) d_Us_fault_1 rfl fl_Us_16 Lv_0 rfl ?_
  refine Rn.aload_n (n := 5) (i := 0) d_Us_fault_4 rfl rfl rfl ?_
  refine Rn.getf (n := 8) (v := vR [0, 0]) d_Us_fault_5 rfl fl_Us_12 Lv_0 rfl ?_
  obtain ⟨Q'4, ev1, k⟩ := k
  refine Rn.callV (n := 11) (av := [vR [0, 0]]) d_Us_fault_8 rfl ml_Us_fault_77 mi_Pl_copyFrom Lv_1_0 rfl rfl rfl rfl (Nat.le_of_ble_eq_true rfl) ev1 (fun v h3 hq => ?_)
  obtain ⟨rfl, hq⟩ := hq
  have k := k h3 hq
  show Rn X m_Us_fault 11 [some (vR [0])] [] h3 Q
  refine Rn.aload_n (n := 12) (i := 0) d_Us_fault_11 rfl rfl rfl ?_
  refine Rn.getf (n := 15) (v := vR [2, 0]) d_Us_fault_12 rfl fl_Us_22 Lv_0 rfl ?_
  refine Rn.aload_n (n := 16) (i := 0) d_Us_fault_15 rfl rfl rfl ?_
  refine Rn.getf (n := 19) (v := vR [1, 0]) d_Us_fault_16 rfl fl_Us_16 Lv_0 rfl ?_
  obtain ⟨Q'8, ev5, k⟩ := k
  refine Rn.callV (n := 22) (av := [vR [1, 0]]) d_Us_fault_19 rfl ml_Us_fault_81 mi_Tx_readInto Lv_2_0 rfl rfl rfl rfl (Nat.le_of_ble_eq_true rfl) ev5 (fun v h7 hq => ?_)
  obtain ⟨r9, rfl, hq⟩ := hq
  have k := k r9 h7 hq
  show Rn X m_Us_fault 22 [some (vR [0])] [vI r9] h7 Q
  exact Rn.iret d_Us_fault_22 rfl rfl k
theorem e_Us_fault {X : XS}  (h : Hp) (Q : Option AV → Hp → Prop) (k : Rn X m_Us_fault 0 [some (vR [0])] [] h Q) : Ev X m_Us_fault [vR [0]] h Q := Ev.intro (plainFor_of_name (by decide +kernel)) (Nat.le_of_ble_eq_true rfl) (ls := [some (vR [0])]) rfl k
theorem d_Us_shower_0 : decode m_Us_shower.2.1 0 = .ok (.aload_n 0, 1) := by decide +kernel
theorem d_Us_shower_1 : decode m_Us_shower.2.1 1 = .ok (.getfield 16, 3) := by decide +kernel
theorem d_Us_shower_4 : decode m_Us_shower.2.1 4 = .ok (.aload_n 0, 1) := by decide +kernel
theorem d_Us_shower_5 : decode m_Us_shower.2.1 5 = .ok (.getfield 12, 3) := by decide +kernel
theorem d_Us_shower_8 : decode m_Us_shower.2.1 8 = .ok (.invokevirtual 77, 3) := by decide +kernel
theorem d_Us_shower_11 : decode m_Us_shower.2.1 11 = .ok (.aload_n 0, 1) := by decide +kernel
theorem d_Us_shower_12 : decode m_Us_shower.2.1 12 = .ok (.getfield 22, 3) := by decide +kernel
theorem d_Us_shower_15 : decode m_Us_shower.2.1 15 = .ok (.aload_n 0, 1) := by decide +kernel
theorem d_Us_shower_16 : decode m_Us_shower.2.1 16 = .ok (.getfield 16, 3) := by decide +kernel
theorem d_Us_shower_19 : decode m_Us_shower.2.1 19 = .ok (.invokevirtual 81, 3) := by decide +kernel
theorem d_Us_shower_22 : decode m_Us_shower.2.1 22 = .ok (.iconst (-1), 1) := by decide +kernel
theorem d_Us_shower_23 : decode m_Us_shower.2.1 23 = .ok (.if_icmp .eq 6, 3) := by decide +kernel
theorem d_Us_shower_26 : decode m_Us_shower.2.1 26 = .ok (.bipush (-4), 2) := by decide +kernel
theorem d_Us_shower_28 : decode m_Us_shower.2.1 28 = .ok (.ireturn, 1) := by decide +kernel
theorem d_Us_shower_29 : decode m_Us_shower.2.1 29 = .ok (.aload_n 0, 1) := by decide +kernel
theorem d_Us_shower_30 : decode m_Us_shower.2.1 30 = .ok (.getfield 12, 3) := by decide +kernel
theorem d_Us_shower_33 : decode m_Us_shower.2.1 33 = .ok (.aload_n 0, 1) := by decide +kernel
theorem d_Us_shower_34 : decode m_Us_shower.2.1 34 = .ok (.getfield 16, 3) := by decide +kernel
theorem d_Us_shower_37 : decode m_Us_shower.2.1 37 = .ok (.invokevirtual 77, 3) := by decide +kernel
theorem d_Us_shower_40 : decode m_Us_shower.2.1 40 = .ok (.aload_n 0, 1) := by decide +kernel
theorem d_Us_shower_41 : decode m_Us_shower.2.1 41 = .ok (.getfield 29, 3) := by decide +kernel
theorem d_Us_shower_44 : decode m_Us_shower.2.1 44 = .ok (.invokevirtual 85, 3) := by decide +kernel
theorem d_Us_shower_47 : decode m_Us_shower.2.1 47 = .ok (.iconst 0, 1) := by decide +kernel
theorem d_Us_shower_48 : decode m_Us_shower.2.1 48 = .ok (.istore_n 1, 1) := by decide +kernel
theorem d_Us_shower_49 : decode m_Us_shower.2.1 49 = .ok (.iload_n 1, 1) := by decide +kernel
theorem d_Us_shower_50 : decode m_Us_shower.2.1 50 = .ok (.iconst 2, 1) := by decide +kernel
theorem d_Us_shower_51 : decode m_Us_shower.2.1 51 = .ok (.if_icmp .ge 24, 3) := by decide +kernel
theorem d_Us_shower_54 : decode m_Us_shower.2.1 54 = .ok (.aload_n 0, 1) := by decide +kernel
theorem d_Us_shower_55 : decode m_Us_shower.2.1 55 = .ok (.iload_n 1, 1) := by decide +kernel
theorem d_Us_shower_56 : decode m_Us_shower.2.1 56 = .ok (.invokevirtual 88, 3) := by decide +kernel
theorem d_Us_shower_59 : decode m_Us_shower.2.1 59 = .ok (.astore_n 2, 1) := by decide +kernel
theorem d_Us_shower_60 : decode m_Us_shower.2.1 60 = .ok (.aload_n 2, 1) := by decide +kernel
theorem d_Us_shower_61 : decode m_Us_shower.2.1 61 = .ok (.ifnull 8, 3) := by decide +kernel
theorem d_Us_shower_64 : decode m_Us_shower.2.1 64 = .ok (.aload_n 2, 1) := by decide +kernel
theorem d_Us_shower_65 : decode m_Us_shower.2.1 65 = .ok (.iconst 0, 1) := by decide +kernel
theorem d_Us_shower_66 : decode m_Us_shower.2.1 66 = .ok (.putfield 92, 3) := by decide +kernel
theorem d_Us_shower_69 : decode m_Us_shower.2.1 69 = .ok (.iinc 1 1, 3) := by decide +kernel
theorem d_Us_shower_72 : decode m_Us_shower.2.1 72 = .ok (.goto (-23), 3) := by decide +kernel
theorem d_Us_shower_75 : decode m_Us_shower.2.1 75 = .ok (.aload_n 0, 1) := by decide +kernel
theorem d_Us_shower_76 : decode m_Us_shower.2.1 76 = .ok (.getfield 22, 3) := by decide +kernel
theorem d_Us_shower_79 : decode m_Us_shower.2.1 79 = .ok (.invokevirtual 73, 3) := by decide +kernel
theorem d_Us_shower_82 : decode m_Us_shower.2.1 82 = .ok (.pop, 1) := by decide +kernel
theorem d_Us_shower_83 : decode m_Us_shower.2.1 83 = .ok (.aload_n 0, 1) := by decide +kernel
theorem d_Us_shower_84 : decode m_Us_shower.2.1 84 = .ok (.getfield 22, 3) := by decide +kernel
theorem d_Us_shower_87 : decode m_Us_shower.2.1 87 = .ok (.getfield 96, 3) := by decide +kernel
theorem d_Us_shower_90 : decode m_Us_shower.2.1 90 = .ok (.ireturn, 1) := by decide +kernel
theorem g_Us_shower_0 {X : XS}  (h : Hp) (Q : Option AV → Hp → Prop)  (k : (∃ Q'4, EvV X m_Pl_copyFrom [vR [1, 0], vR [0, 0]] h Q'4 ∧ ∀ (h3 : Hp), Q'4 h3 → (∃ Q'8, EvI X m_Tx_readInto [vR [2, 0], vR [1, 0]] h3 Q'8 ∧ ∀ (r9 : Int32) (h7 : Hp), Q'8 r9 h7 → ((r9 = (-1) → (∃ Q'13, EvV X m_Pl_copyFrom [vR [0, 0], vR [1, 0]] h7 Q'13 ∧ ∀ (h12 : Hp), Q'13 h12 → (∃ Q'17, EvV X m_Wk_clear [vR [3, 0]] h12 Q'17 ∧ ∀ (h16 : Hp), Q'17 h16 → Rn X m_Us_shower 49 [some (vR [0]), some (vI 0), none] [] h16 Q))) ∧ (¬ r9 = (-1) → Q (some (vI (-4))) h7))))) : Rn X m_Us_shower 0 [some (vR [0]), none, none] [] h Q := by
  refine Rn.aload_n (n := 1) (i := 0) d_Us_shower_0 rfl rfl rfl ?_
  refine Rn.getf (n := 4) (v := vR [1, 0]) d_Us_shower_1 rfl fl_Us_16 Lv_0 rfl ?_
  refine Rn.aload_n (n := 5) (i := 0) d_Us_shower_4 rfl rfl rfl ?_
  refine Rn.getf (n := 8) (v := vR [0, 0]) d_Us_shower_5 rfl fl_Us_12 Lv_0 rfl ?_
  obtain ⟨Q'4, ev1, k⟩ := k
  refine Rn.callV (n := 11) (av := [vR [0, 0]]) d_Us_shower_8 rfl ml_Us_shower_77 mi_Pl_copyFrom Lv_1_0 rfl rfl rfl rfl (Nat.le_of_ble_eq_true rfl) ev1 (fun v h3 hq => ?_)
  obtain ⟨rfl, hq⟩ := hq
  have k := k h3 hq
  show Rn X m_Us_shower 11 [some (vR [0]), none, none] [] h3 Q
  refine Rn.aload_n (n := 12) (i := 0) d_Us_shower_11 rfl rfl rfl ?_
  refine Rn.getf (n := 15) (v := vR [2, 0]) d_Us_shower_12 rfl fl_Us_22 Lv_0 rfl ?_
  refine Rn.aload_n (n := 16) (i := 0) d_Us_shower_15 rfl rfl rfl ?_
  refine Rn.getf (n := 19) (v := vR [1, 0]) d_Us_shower_16 rfl fl_Us_16 Lv_0 rfl ?_
  obtain ⟨Q'8, ev5, k⟩ := k
  refine Rn.callV (n := 22) (av := [vR [1, 0]]) d_Us_shower_19 rfl ml_Us_shower_81 mi_Tx_readInto Lv_2_0 rfl rfl rfl rfl (Nat.le_of_ble_eq_true rfl) ev5 (fun v h7 hq => ?_)
  obtain ⟨r9, rfl, hq⟩ := hq
  have k := k r9 h7 hq
  show Rn X m_Us_shower 22 [some (vR [0]), none, none] [vI r9] h7 Q
  refine Rn.iconst (n := 23) (v := (-1)) d_Us_shower_22 rfl (by decide) ?_
  refine Rn.icmp_eq (n := 26) (t := 29) d_Us_shower_23 rfl (by decide) (fun cc => ?_) (fun cc => ?_)
  · have k := k.1 cc
    refine Rn.aload_n (n := 30) (i := 0) d_Us_shower_29 rfl rfl rfl ?_
    refine Rn.getf (n := 33) (v := vR [0, 0]) d_Us_shower_30 rfl fl_Us_12 Lv_0 rfl ?_
    refine Rn.aload_n (n := 34) (i := 0) d_Us_shower_33 rfl rfl rfl ?_
    refine Rn.getf (n := 37) (v := vR [1, 0]) d_Us_shower_34 rfl fl_Us_16 Lv_0 rfl ?_
    obtain ⟨Q'13, ev10, k⟩ := k
    refine Rn.callV (n := 40) (av := [vR [1, 0]]) d_Us_shower_37 rfl ml_Us_shower_77 mi_Pl_copyFrom Lv_0_0 rfl rfl rfl rfl (Nat.le_of_ble_eq_true rfl) ev10 (fun v h12 hq => ?_)
    obtain ⟨rfl, hq⟩ := hq
    have k := k h12 hq
    show Rn X m_Us_shower 40 [some (vR [0]), none, none] [] h12 Q
    refine Rn.aload_n (n := 41) (i := 0) d_Us_shower_40 rfl rfl rfl ?_
    refine Rn.getf (n := 44) (v := vR [3, 0]) d_Us_shower_41 rfl fl_Us_29 Lv_0 rfl ?_
    obtain ⟨Q'17, ev14, k⟩ := k
    refine Rn.callV (n := 47) (av := []) d_Us_shower_44 rfl ml_Us_shower_85 mi_Wk_clear Lv_3_0 rfl rfl rfl rfl (Nat.le_of_ble_eq_true rfl) ev14 (fun v h16 hq => ?_)
    obtain ⟨rfl, hq⟩ := hq
    have k := k h16 hq
    show Rn X m_Us_shower 47 [some (vR [0]), none, none] [] h16 Q
    refine Rn.iconst (n := 48) (v := 0) d_Us_shower_47 rfl (by decide) ?_
    refine Rn.istore_n (n := 49) (i := 1) (ls2 := [some (vR [0]), some (vI 0), none]) d_Us_shower_48 rfl rfl (Nat.le_of_ble_eq_true rfl) rfl ?_
    exact k
  · have k := k.2 cc
    refine Rn.bipush (n := 28) (v := (-4)) d_Us_shower_26 rfl (by decide) ?_
    exact Rn.iret d_Us_shower_28 rfl rfl k
theorem g_Us_shower_49 {X : XS} (a1 : Int32) (h : Hp) (Q : Option AV → Hp → Prop)  (k : ((2 ≤ a1 → (∃ Q'4, EvI X m_Tx_empty [vR [2, 0]] h Q'4 ∧ ∀ (r5 : Int32) (h3 : Hp), Q'4 r5 h3 → Q (some (vI (h3.1 [2, 0] 3))) h3)) ∧ (¬ 2 ≤ a1 → (∃ Q'9, EvR X m_Us_keptAt [vR [0], vI a1] h Q'9 ∧ ∀ (o : Option (List Nat)) (h8 : Hp), Q'9 o h8 → ((o = none → Rn X m_Us_shower 49 [some (vR [0]), some (vI (a1 + 1)), none] [] h8 Q) ∧ (∀ p10, o = some p10 → IsWk p10 ∧ Rn X m_Us_shower 49 [some (vR [0]), some (vI (a1 + 1)), none] [] (hsI h8 p10 0 0) Q)))))) : Rn X m_Us_shower 49 [some (vR [0]), some (vI a1), none] [] h Q := by
  refine Rn.iload_n (n := 50) (i := 1) d_Us_shower_49 rfl rfl rfl ?_
  refine Rn.iconst (n := 51) (v := 2) d_Us_shower_50 rfl (by decide) ?_
  refine Rn.icmp_ge (n := 54) (t := 75) d_Us_shower_51 rfl (by decide) (fun cc => ?_) (fun cc => ?_)
  · have k := k.1 cc
    refine Rn.aload_n (n := 76) (i := 0) d_Us_shower_75 rfl rfl rfl ?_
    refine Rn.getf (n := 79) (v := vR [2, 0]) d_Us_shower_76 rfl fl_Us_22 Lv_0 rfl ?_
    obtain ⟨Q'4, ev1, k⟩ := k
    refine Rn.callV (n := 82) (av := []) d_Us_shower_79 rfl ml_Us_shower_73 mi_Tx_empty Lv_2_0 rfl rfl rfl rfl (Nat.le_of_ble_eq_true rfl) ev1 (fun v h3 hq => ?_)
    obtain ⟨r5, rfl, hq⟩ := hq
    have k := k r5 h3 hq
    show Rn X m_Us_shower 82 [some (vR [0]), some (vI a1), none] [vI r5] h3 Q
    refine Rn.pop (n := 83) d_Us_shower_82 rfl rfl ?_
    refine Rn.aload_n (n := 84) (i := 0) d_Us_shower_83 rfl rfl rfl ?_
    refine Rn.getf (n := 87) (v := vR [2, 0]) d_Us_shower_84 rfl fl_Us_22 Lv_0 rfl ?_
    refine Rn.getf (n := 90) (v := vI (h3.1 [2, 0] 3)) d_Us_shower_87 rfl fl_Us_96 Lv_2_0 rfl ?_
    exact Rn.iret d_Us_shower_90 rfl rfl k
  · have k := k.2 cc
    refine Rn.aload_n (n := 55) (i := 0) d_Us_shower_54 rfl rfl rfl ?_
    refine Rn.iload_n (n := 56) (i := 1) d_Us_shower_55 rfl rfl rfl ?_
    obtain ⟨Q'9, ev6, k⟩ := k
    refine Rn.callV (n := 59) (av := [vI a1]) d_Us_shower_56 rfl ml_Us_shower_88 mi_Us_keptAt Lv_0 rfl rfl rfl rfl (Nat.le_of_ble_eq_true rfl) ev6 (fun v h8 hq => ?_)
    obtain ⟨o, rfl, hq⟩ := hq
    have k := k o h8 hq
    rcases o with _ | p10
    · have k := k.1 rfl
      show Rn X m_Us_shower 59 [some (vR [0]), some (vI a1), none] [vN] h8 Q
      refine Rn.astore_nN (n := 60) (i := 2) (ls2 := [some (vR [0]), some (vI a1), some (vN)]) d_Us_shower_59 rfl rfl (Nat.le_of_ble_eq_true rfl) rfl ?_
      refine Rn.aload_nN (n := 61) (i := 2) d_Us_shower_60 rfl rfl rfl ?_
      refine Rn.ifnullN (n := 69) (x := []) d_Us_shower_61 (by decide) ?_
      refine Rn.iinc (n := 72) (i := 1) (v := a1 + 1) (ls2 := [some (vR [0]), some (vI (a1 + 1)), some (vN)]) d_Us_shower_69 rfl rfl rfl (Nat.le_of_ble_eq_true rfl) rfl ?_
      refine Rn.goto (n := 49) d_Us_shower_72 (by decide) ?_
      exact Rn.loc [some (vR [0]), some (vI (a1 + 1)), none] (LLe_ok ⟨rfl, ⟨rfl, trivial⟩⟩) k
    · obtain ⟨w_p10, k⟩ := k.2 p10 rfl
      show Rn X m_Us_shower 59 [some (vR [0]), some (vI a1), none] [vR p10] h8 Q
      refine Rn.astore_n (n := 60) (i := 2) (ls2 := [some (vR [0]), some (vI a1), some (vR p10)]) d_Us_shower_59 rfl rfl (Nat.le_of_ble_eq_true rfl) rfl ?_
      refine Rn.aload_n (n := 61) (i := 2) d_Us_shower_60 rfl rfl rfl ?_
      refine Rn.ifnullR (n := 64) d_Us_shower_61 rfl ?_
      refine Rn.aload_n (n := 65) (i := 2) d_Us_shower_64 rfl rfl rfl ?_
      refine Rn.iconst (n := 66) (v := 0) d_Us_shower_65 rfl (by decide) ?_
      refine Rn.putZ (n := 69) d_Us_shower_66 rfl fl_Us_92 pl_Wk_0 w_p10.s rfl (Or.inl rfl) ?_
      refine Rn.iinc (n := 72) (i := 1) (v := a1 + 1) (ls2 := [some (vR [0]), some (vI (a1 + 1)), some (vR p10)]) d_Us_shower_69 rfl rfl rfl (Nat.le_of_ble_eq_true rfl) rfl ?_
      refine Rn.goto (n := 49) d_Us_shower_72 (by decide) ?_
      exact Rn.loc [some (vR [0]), some (vI (a1 + 1)), none] (LLe_ok ⟨rfl, ⟨rfl, trivial⟩⟩) k
theorem e_Us_shower {X : XS}  (h : Hp) (Q : Option AV → Hp → Prop) (k : Rn X m_Us_shower 0 [some (vR [0]), none, none] [] h Q) : Ev X m_Us_shower [vR [0]] h Q := Ev.intro (plainFor_of_name (by decide +kernel)) (Nat.le_of_ble_eq_true rfl) (ls := [some (vR [0]), none, none]) rfl k
theorem d_Us_cell_0 : decode m_Us_cell.2.1 0 = .ok (.aload_n 0, 1) := by decide +kernel
theorem d_Us_cell_1 : decode m_Us_cell.2.1 1 = .ok (.getfield 12, 3) := by decide +kernel
theorem d_Us_cell_4 : decode m_Us_cell.2.1 4 = .ok (.iload_n 1, 1) := by decide +kernel
theorem d_Us_cell_5 : decode m_Us_cell.2.1 5 = .ok (.invokevirtual 99, 3) := by decide +kernel
theorem d_Us_cell_8 : decode m_Us_cell.2.1 8 = .ok (.ifCond .ne 6, 3) := by decide +kernel
theorem d_Us_cell_11 : decode m_Us_cell.2.1 11 = .ok (.bipush (-2), 2) := by decide +kernel
theorem d_Us_cell_13 : decode m_Us_cell.2.1 13 = .ok (.ireturn, 1) := by decide +kernel
theorem d_Us_cell_14 : decode m_Us_cell.2.1 14 = .ok (.iload_n 2, 1) := by decide +kernel
theorem d_Us_cell_15 : decode m_Us_cell.2.1 15 = .ok (.ifCond .ne 20, 3) := by decide +kernel
theorem d_Us_cell_18 : decode m_Us_cell.2.1 18 = .ok (.aload_n 0, 1) := by decide +kernel
theorem d_Us_cell_19 : decode m_Us_cell.2.1 19 = .ok (.getfield 12, 3) := by decide +kernel
theorem d_Us_cell_22 : decode m_Us_cell.2.1 22 = .ok (.iload_n 1, 1) := by decide +kernel
theorem d_Us_cell_23 : decode m_Us_cell.2.1 23 = .ok (.invokevirtual 103, 3) := by decide +kernel
theorem d_Us_cell_26 : decode m_Us_cell.2.1 26 = .ok (.ifCond .eq 7, 3) := by decide +kernel
theorem d_Us_cell_29 : decode m_Us_cell.2.1 29 = .ok (.iconst 1, 1) := by decide +kernel
theorem d_Us_cell_30 : decode m_Us_cell.2.1 30 = .ok (.goto 4, 3) := by decide +kernel
theorem d_Us_cell_33 : decode m_Us_cell.2.1 33 = .ok (.iconst 0, 1) := by decide +kernel
theorem d_Us_cell_34 : decode m_Us_cell.2.1 34 = .ok (.ireturn, 1) := by decide +kernel
theorem d_Us_cell_35 : decode m_Us_cell.2.1 35 = .ok (.iload_n 2, 1) := by decide +kernel
theorem d_Us_cell_36 : decode m_Us_cell.2.1 36 = .ok (.iconst 1, 1) := by decide +kernel
theorem d_Us_cell_37 : decode m_Us_cell.2.1 37 = .ok (.if_icmp .ne 14, 3) := by decide +kernel
theorem d_Us_cell_40 : decode m_Us_cell.2.1 40 = .ok (.aload_n 0, 1) := by decide +kernel
theorem d_Us_cell_41 : decode m_Us_cell.2.1 41 = .ok (.getfield 29, 3) := by decide +kernel
theorem d_Us_cell_44 : decode m_Us_cell.2.1 44 = .ok (.iload_n 1, 1) := by decide +kernel
theorem d_Us_cell_45 : decode m_Us_cell.2.1 45 = .ok (.invokevirtual 106, 3) := by decide +kernel
theorem d_Us_cell_48 : decode m_Us_cell.2.1 48 = .ok (.goto 5, 3) := by decide +kernel
theorem d_Us_cell_51 : decode m_Us_cell.2.1 51 = .ok (.bipush (-3), 2) := by decide +kernel
theorem d_Us_cell_53 : decode m_Us_cell.2.1 53 = .ok (.ireturn, 1) := by decide +kernel
theorem g_Us_cell_0 {X : XS} (a1 : Int32) (a2 : Int32) (h : Hp) (Q : Option AV → Hp → Prop)  (k : (∃ Q'4, EvI X m_Pl_hasCell [vR [0, 0], vI a1] h Q'4 ∧ ∀ (r5 : Int32) (h3 : Hp), Q'4 r5 h3 → ((¬ r5 = 0 → ((¬ a2 = 0 → ((¬ a2 = 1 → Q (some (vI (-3))) h3) ∧ (a2 = 1 → (∃ Q'9, EvI X m_Wk_whoIsAt [vR [3, 0], vI a1] h3 Q'9 ∧ ∀ (r10 : Int32) (h8 : Hp), Q'9 r10 h8 → Q (some (vI r10)) h8)))) ∧ (a2 = 0 → (∃ Q'14, EvI X m_Pl_isDry [vR [0, 0], vI a1] h3 Q'14 ∧ ∀ (r15 : Int32) (h13 : Hp), Q'14 r15 h13 → ((r15 = 0 → Q (some (vI 0)) h13) ∧ (¬ r15 = 0 → Q (some (vI 1)) h13)))))) ∧ (r5 = 0 → Q (some (vI (-2))) h3)))) : Rn X m_Us_cell 0 [some (vR [0]), some (vI a1), some (vI a2)] [] h Q := by
  refine Rn.aload_n (n := 1) (i := 0) d_Us_cell_0 rfl rfl rfl ?_
  refine Rn.getf (n := 4) (v := vR [0, 0]) d_Us_cell_1 rfl fl_Us_12 Lv_0 rfl ?_
  refine Rn.iload_n (n := 5) (i := 1) d_Us_cell_4 rfl rfl rfl ?_
  obtain ⟨Q'4, ev1, k⟩ := k
  refine Rn.callV (n := 8) (av := [vI a1]) d_Us_cell_5 rfl ml_Us_cell_99 mi_Pl_hasCell Lv_0_0 rfl rfl rfl rfl (Nat.le_of_ble_eq_true rfl) ev1 (fun v h3 hq => ?_)
  obtain ⟨r5, rfl, hq⟩ := hq
  have k := k r5 h3 hq
  show Rn X m_Us_cell 8 [some (vR [0]), some (vI a1), some (vI a2)] [vI r5] h3 Q
  refine Rn.if_ne (n := 11) (t := 14) d_Us_cell_8 rfl (by decide) (fun cc => ?_) (fun cc => ?_)
  · have k := k.1 cc
    refine Rn.iload_n (n := 15) (i := 2) d_Us_cell_14 rfl rfl rfl ?_
    refine Rn.if_ne (n := 18) (t := 35) d_Us_cell_15 rfl (by decide) (fun cc => ?_) (fun cc => ?_)
    · have k := k.1 cc
      refine Rn.iload_n (n := 36) (i := 2) d_Us_cell_35 rfl rfl rfl ?_
      refine Rn.iconst (n := 37) (v := 1) d_Us_cell_36 rfl (by decide) ?_
      refine Rn.icmp_ne (n := 40) (t := 51) d_Us_cell_37 rfl (by decide) (fun cc => ?_) (fun cc => ?_)
      · have k := k.1 cc
        refine Rn.bipush (n := 53) (v := (-3)) d_Us_cell_51 rfl (by decide) ?_
        exact Rn.iret d_Us_cell_53 rfl rfl k
      · have k := k.2 cc
        refine Rn.aload_n (n := 41) (i := 0) d_Us_cell_40 rfl rfl rfl ?_
        refine Rn.getf (n := 44) (v := vR [3, 0]) d_Us_cell_41 rfl fl_Us_29 Lv_0 rfl ?_
        refine Rn.iload_n (n := 45) (i := 1) d_Us_cell_44 rfl rfl rfl ?_
        obtain ⟨Q'9, ev6, k⟩ := k
        refine Rn.callV (n := 48) (av := [vI a1]) d_Us_cell_45 rfl ml_Us_cell_106 mi_Wk_whoIsAt Lv_3_0 rfl rfl rfl rfl (Nat.le_of_ble_eq_true rfl) ev6 (fun v h8 hq => ?_)
        obtain ⟨r10, rfl, hq⟩ := hq
        have k := k r10 h8 hq
        show Rn X m_Us_cell 48 [some (vR [0]), some (vI a1), some (vI a2)] [vI r10] h8 Q
        refine Rn.goto (n := 53) d_Us_cell_48 (by decide) ?_
        exact Rn.iret d_Us_cell_53 rfl rfl k
    · have k := k.2 cc
      refine Rn.aload_n (n := 19) (i := 0) d_Us_cell_18 rfl rfl rfl ?_
      refine Rn.getf (n := 22) (v := vR [0, 0]) d_Us_cell_19 rfl fl_Us_12 Lv_0 rfl ?_
      refine Rn.iload_n (n := 23) (i := 1) d_Us_cell_22 rfl rfl rfl ?_
      obtain ⟨Q'14, ev11, k⟩ := k
      refine Rn.callV (n := 26) (av := [vI a1]) d_Us_cell_23 rfl ml_Us_cell_103 mi_Pl_isDry Lv_0_0 rfl rfl rfl rfl (Nat.le_of_ble_eq_true rfl) ev11 (fun v h13 hq => ?_)
      obtain ⟨r15, rfl, hq⟩ := hq
      have k := k r15 h13 hq
      show Rn X m_Us_cell 26 [some (vR [0]), some (vI a1), some (vI a2)] [vI r15] h13 Q
      refine Rn.if_eq (n := 29) (t := 33) d_Us_cell_26 rfl (by decide) (fun cc => ?_) (fun cc => ?_)
      · have k := k.1 cc
        refine Rn.iconst (n := 34) (v := 0) d_Us_cell_33 rfl (by decide) ?_
        exact Rn.iret d_Us_cell_34 rfl rfl k
      · have k := k.2 cc
        refine Rn.iconst (n := 30) (v := 1) d_Us_cell_29 rfl (by decide) ?_
        refine Rn.goto (n := 34) d_Us_cell_30 (by decide) ?_
        exact Rn.iret d_Us_cell_34 rfl rfl k
  · have k := k.2 cc
    refine Rn.bipush (n := 13) (v := (-2)) d_Us_cell_11 rfl (by decide) ?_
    exact Rn.iret d_Us_cell_13 rfl rfl k
theorem e_Us_cell {X : XS} (a1 : Int32) (a2 : Int32) (h : Hp) (Q : Option AV → Hp → Prop) (k : Rn X m_Us_cell 0 [some (vR [0]), some (vI a1), some (vI a2)] [] h Q) : Ev X m_Us_cell [vR [0], vI a1, vI a2] h Q := Ev.intro (plainFor_of_name (by decide +kernel)) (Nat.le_of_ble_eq_true rfl) (ls := [some (vR [0]), some (vI a1), some (vI a2)]) rfl k
theorem d_Us_walker_0 : decode m_Us_walker.2.1 0 = .ok (.aload_n 0, 1) := by decide +kernel
theorem d_Us_walker_1 : decode m_Us_walker.2.1 1 = .ok (.getfield 12, 3) := by decide +kernel
theorem d_Us_walker_4 : decode m_Us_walker.2.1 4 = .ok (.iload_n 1, 1) := by decide +kernel
theorem d_Us_walker_5 : decode m_Us_walker.2.1 5 = .ok (.invokevirtual 110, 3) := by decide +kernel
theorem d_Us_walker_8 : decode m_Us_walker.2.1 8 = .ok (.ifCond .ne 6, 3) := by decide +kernel
theorem d_Us_walker_11 : decode m_Us_walker.2.1 11 = .ok (.bipush (-2), 2) := by decide +kernel
theorem d_Us_walker_13 : decode m_Us_walker.2.1 13 = .ok (.ireturn, 1) := by decide +kernel
theorem d_Us_walker_14 : decode m_Us_walker.2.1 14 = .ok (.iload_n 2, 1) := by decide +kernel
theorem d_Us_walker_15 : decode m_Us_walker.2.1 15 = .ok (.tableswitch 91 0 4 #[33, 43, 53, 63, 73], 33) := by decide +kernel
theorem d_Us_walker_48 : decode m_Us_walker.2.1 48 = .ok (.aload_n 0, 1) := by decide +kernel
theorem d_Us_walker_49 : decode m_Us_walker.2.1 49 = .ok (.getfield 29, 3) := by decide +kernel
theorem d_Us_walker_52 : decode m_Us_walker.2.1 52 = .ok (.getfield 113, 3) := by decide +kernel
theorem d_Us_walker_55 : decode m_Us_walker.2.1 55 = .ok (.iload_n 1, 1) := by decide +kernel
theorem d_Us_walker_56 : decode m_Us_walker.2.1 56 = .ok (.iaload, 1) := by decide +kernel
theorem d_Us_walker_57 : decode m_Us_walker.2.1 57 = .ok (.ireturn, 1) := by decide +kernel
theorem d_Us_walker_58 : decode m_Us_walker.2.1 58 = .ok (.aload_n 0, 1) := by decide +kernel
theorem d_Us_walker_59 : decode m_Us_walker.2.1 59 = .ok (.getfield 29, 3) := by decide +kernel
theorem d_Us_walker_62 : decode m_Us_walker.2.1 62 = .ok (.getfield 117, 3) := by decide +kernel
theorem d_Us_walker_65 : decode m_Us_walker.2.1 65 = .ok (.iload_n 1, 1) := by decide +kernel
theorem d_Us_walker_66 : decode m_Us_walker.2.1 66 = .ok (.iaload, 1) := by decide +kernel
theorem d_Us_walker_67 : decode m_Us_walker.2.1 67 = .ok (.ireturn, 1) := by decide +kernel
theorem d_Us_walker_68 : decode m_Us_walker.2.1 68 = .ok (.aload_n 0, 1) := by decide +kernel
theorem d_Us_walker_69 : decode m_Us_walker.2.1 69 = .ok (.getfield 29, 3) := by decide +kernel
theorem d_Us_walker_72 : decode m_Us_walker.2.1 72 = .ok (.getfield 120, 3) := by decide +kernel
theorem d_Us_walker_75 : decode m_Us_walker.2.1 75 = .ok (.iload_n 1, 1) := by decide +kernel
theorem d_Us_walker_76 : decode m_Us_walker.2.1 76 = .ok (.iaload, 1) := by decide +kernel
theorem d_Us_walker_77 : decode m_Us_walker.2.1 77 = .ok (.ireturn, 1) := by decide +kernel
theorem d_Us_walker_78 : decode m_Us_walker.2.1 78 = .ok (.aload_n 0, 1) := by decide +kernel
theorem d_Us_walker_79 : decode m_Us_walker.2.1 79 = .ok (.getfield 29, 3) := by decide +kernel
theorem d_Us_walker_82 : decode m_Us_walker.2.1 82 = .ok (.getfield 123, 3) := by decide +kernel
theorem d_Us_walker_85 : decode m_Us_walker.2.1 85 = .ok (.iload_n 1, 1) := by decide +kernel
theorem d_Us_walker_86 : decode m_Us_walker.2.1 86 = .ok (.iaload, 1) := by decide +kernel
theorem d_Us_walker_87 : decode m_Us_walker.2.1 87 = .ok (.ireturn, 1) := by decide +kernel
theorem d_Us_walker_88 : decode m_Us_walker.2.1 88 = .ok (.aload_n 0, 1) := by decide +kernel
theorem d_Us_walker_89 : decode m_Us_walker.2.1 89 = .ok (.getfield 29, 3) := by decide +kernel
theorem d_Us_walker_92 : decode m_Us_walker.2.1 92 = .ok (.getfield 126, 3) := by decide +kernel
theorem d_Us_walker_95 : decode m_Us_walker.2.1 95 = .ok (.iload_n 1, 1) := by decide +kernel
theorem d_Us_walker_96 : decode m_Us_walker.2.1 96 = .ok (.baload, 1) := by decide +kernel
theorem d_Us_walker_97 : decode m_Us_walker.2.1 97 = .ok (.ifCond .eq 7, 3) := by decide +kernel
theorem d_Us_walker_100 : decode m_Us_walker.2.1 100 = .ok (.iconst 1, 1) := by decide +kernel
theorem d_Us_walker_101 : decode m_Us_walker.2.1 101 = .ok (.goto 4, 3) := by decide +kernel
theorem d_Us_walker_104 : decode m_Us_walker.2.1 104 = .ok (.iconst 0, 1) := by decide +kernel
theorem d_Us_walker_105 : decode m_Us_walker.2.1 105 = .ok (.ireturn, 1) := by decide +kernel
theorem d_Us_walker_106 : decode m_Us_walker.2.1 106 = .ok (.bipush (-3), 2) := by decide +kernel
theorem d_Us_walker_108 : decode m_Us_walker.2.1 108 = .ok (.ireturn, 1) := by decide +kernel
theorem g_Us_walker_0 {X : XS} (a1 : Int32) (a2 : Int32) (h : Hp) (Q : Option AV → Hp → Prop)  (k : (∃ Q'4, EvI X m_Pl_hasWalker [vR [0, 0], vI a1] h Q'4 ∧ ∀ (r5 : Int32) (h3 : Hp), Q'4 r5 h3 → ((¬ r5 = 0 → ((a2.toInt < 0 ∨ 4 < a2.toInt → Q (some (vI (-3))) h3) ∧ (a2 = 0 → (vp_in a1 6 ∧ Q (some (vI (h3.1 [3, 3, 0] a1.toNatClampNeg))) h3)) ∧ (a2 = 1 → (vp_in a1 6 ∧ Q (some (vI (h3.1 [5, 3, 0] a1.toNatClampNeg))) h3)) ∧ (a2 = 2 → (vp_in a1 6 ∧ Q (some (vI (h3.1 [6, 3, 0] a1.toNatClampNeg))) h3)) ∧ (a2 = 3 → (vp_in a1 6 ∧ Q (some (vI (h3.1 [7, 3, 0] a1.toNatClampNeg))) h3)) ∧ (a2 = 4 → (vp_in a1 6 ∧ (((h3.1 [4, 3, 0] a1.toNatClampNeg) = 0 → Q (some (vI 0)) h3) ∧ (¬ (h3.1 [4, 3, 0] a1.toNatClampNeg) = 0 → Q (some (vI 1)) h3)))))) ∧ (r5 = 0 → Q (some (vI (-2))) h3)))) : Rn X m_Us_walker 0 [some (vR [0]), some (vI a1), some (vI a2)] [] h Q := by
  refine Rn.aload_n (n := 1) (i := 0) d_Us_walker_0 rfl rfl rfl ?_
  refine Rn.getf (n := 4) (v := vR [0, 0]) d_Us_walker_1 rfl fl_Us_12 Lv_0 rfl ?_
  refine Rn.iload_n (n := 5) (i := 1) d_Us_walker_4 rfl rfl rfl ?_
  obtain ⟨Q'4, ev1, k⟩ := k
  refine Rn.callV (n := 8) (av := [vI a1]) d_Us_walker_5 rfl ml_Us_walker_110 mi_Pl_hasWalker Lv_0_0 rfl rfl rfl rfl (Nat.le_of_ble_eq_true rfl) ev1 (fun v h3 hq => ?_)
  obtain ⟨r5, rfl, hq⟩ := hq
  have k := k r5 h3 hq
  show Rn X m_Us_walker 8 [some (vR [0]), some (vI a1), some (vI a2)] [vI r5] h3 Q
  refine Rn.if_ne (n := 11) (t := 14) d_Us_walker_8 rfl (by decide) (fun cc => ?_) (fun cc => ?_)
  · have k := k.1 cc
    refine Rn.iload_n (n := 15) (i := 2) d_Us_walker_14 rfl rfl rfl ?_
    refine Rn.tsw (n := 0) d_Us_walker_15 (fun cc => ⟨106, by decide, ?_⟩) (fun j hz1 hz2 hz3 => ?_)
    · have k := k.1 cc
      refine Rn.bipush (n := 108) (v := (-3)) d_Us_walker_106 rfl (by decide) ?_
      exact Rn.iret d_Us_walker_108 rfl rfl k
    · have k := k.2
      have hj : j < 5 := by omega
      match j, hj, hz3 with
      | 0, _, hz3 =>
        have cc : a2 = 0 := Int32.toInt_inj.mp hz3
        have k := k.1 cc
        refine ⟨33, 48, rfl, by decide, ?_⟩
        refine Rn.aload_n (n := 49) (i := 0) d_Us_walker_48 rfl rfl rfl ?_
        refine Rn.getf (n := 52) (v := vR [3, 0]) d_Us_walker_49 rfl fl_Us_29 Lv_0 rfl ?_
        refine Rn.getf (n := 55) (v := vR [3, 3, 0]) d_Us_walker_52 rfl fl_Us_113 Lv_3_0 rfl ?_
        refine Rn.iload_n (n := 56) (i := 1) d_Us_walker_55 rfl rfl rfl ?_
        obtain ⟨b6, k⟩ := k
        refine Rn.iald (n := 57) (v := h3.1 [3, 3, 0] a1.toNatClampNeg) d_Us_walker_56 rfl Lv_3_3_0 b6 rfl ?_
        exact Rn.iret d_Us_walker_57 rfl rfl k
      | 1, _, hz3 =>
        have cc : a2 = 1 := Int32.toInt_inj.mp hz3
        have k := k.2.1 cc
        refine ⟨43, 58, rfl, by decide, ?_⟩
        refine Rn.aload_n (n := 59) (i := 0) d_Us_walker_58 rfl rfl rfl ?_
        refine Rn.getf (n := 62) (v := vR [3, 0]) d_Us_walker_59 rfl fl_Us_29 Lv_0 rfl ?_
        refine Rn.getf (n := 65) (v := vR [5, 3, 0]) d_Us_walker_62 rfl fl_Us_117 Lv_3_0 rfl ?_
        refine Rn.iload_n (n := 66) (i := 1) d_Us_walker_65 rfl rfl rfl ?_
        obtain ⟨b7, k⟩ := k
        refine Rn.iald (n := 67) (v := h3.1 [5, 3, 0] a1.toNatClampNeg) d_Us_walker_66 rfl Lv_5_3_0 b7 rfl ?_
        exact Rn.iret d_Us_walker_67 rfl rfl k
      | 2, _, hz3 =>
        have cc : a2 = 2 := Int32.toInt_inj.mp hz3
        have k := k.2.2.1 cc
        refine ⟨53, 68, rfl, by decide, ?_⟩
        refine Rn.aload_n (n := 69) (i := 0) d_Us_walker_68 rfl rfl rfl ?_
        refine Rn.getf (n := 72) (v := vR [3, 0]) d_Us_walker_69 rfl fl_Us_29 Lv_0 rfl ?_
        refine Rn.getf (n := 75) (v := vR [6, 3, 0]) d_Us_walker_72 rfl fl_Us_120 Lv_3_0 rfl ?_
        refine Rn.iload_n (n := 76) (i := 1) d_Us_walker_75 rfl rfl rfl ?_
        obtain ⟨b8, k⟩ := k
        refine Rn.iald (n := 77) (v := h3.1 [6, 3, 0] a1.toNatClampNeg) d_Us_walker_76 rfl Lv_6_3_0 b8 rfl ?_
        exact Rn.iret d_Us_walker_77 rfl rfl k
      | 3, _, hz3 =>
        have cc : a2 = 3 := Int32.toInt_inj.mp hz3
        have k := k.2.2.2.1 cc
        refine ⟨63, 78, rfl, by decide, ?_⟩
        refine Rn.aload_n (n := 79) (i := 0) d_Us_walker_78 rfl rfl rfl ?_
        refine Rn.getf (n := 82) (v := vR [3, 0]) d_Us_walker_79 rfl fl_Us_29 Lv_0 rfl ?_
        refine Rn.getf (n := 85) (v := vR [7, 3, 0]) d_Us_walker_82 rfl fl_Us_123 Lv_3_0 rfl ?_
        refine Rn.iload_n (n := 86) (i := 1) d_Us_walker_85 rfl rfl rfl ?_
        obtain ⟨b9, k⟩ := k
        refine Rn.iald (n := 87) (v := h3.1 [7, 3, 0] a1.toNatClampNeg) d_Us_walker_86 rfl Lv_7_3_0 b9 rfl ?_
        exact Rn.iret d_Us_walker_87 rfl rfl k
      | 4, _, hz3 =>
        have cc : a2 = 4 := Int32.toInt_inj.mp hz3
        have k := k.2.2.2.2 cc
        refine ⟨73, 88, rfl, by decide, ?_⟩
        refine Rn.aload_n (n := 89) (i := 0) d_Us_walker_88 rfl rfl rfl ?_
        refine Rn.getf (n := 92) (v := vR [3, 0]) d_Us_walker_89 rfl fl_Us_29 Lv_0 rfl ?_
        refine Rn.getf (n := 95) (v := vR [4, 3, 0]) d_Us_walker_92 rfl fl_Us_126 Lv_3_0 rfl ?_
        refine Rn.iload_n (n := 96) (i := 1) d_Us_walker_95 rfl rfl rfl ?_
        obtain ⟨b10, k⟩ := k
        refine Rn.zald (n := 97) (v := h3.1 [4, 3, 0] a1.toNatClampNeg) d_Us_walker_96 rfl Lv_4_3_0 b10 rfl ?_
        refine Rn.if_eq (n := 100) (t := 104) d_Us_walker_97 rfl (by decide) (fun cc => ?_) (fun cc => ?_)
        · have k := k.1 cc
          refine Rn.iconst (n := 105) (v := 0) d_Us_walker_104 rfl (by decide) ?_
          exact Rn.iret d_Us_walker_105 rfl rfl k
        · have k := k.2 cc
          refine Rn.iconst (n := 101) (v := 1) d_Us_walker_100 rfl (by decide) ?_
          refine Rn.goto (n := 105) d_Us_walker_101 (by decide) ?_
          exact Rn.iret d_Us_walker_105 rfl rfl k
      | j + 5, hj, _ => exact absurd hj (by omega)
  · have k := k.2 cc
    refine Rn.bipush (n := 13) (v := (-2)) d_Us_walker_11 rfl (by decide) ?_
    exact Rn.iret d_Us_walker_13 rfl rfl k
theorem e_Us_walker {X : XS} (a1 : Int32) (a2 : Int32) (h : Hp) (Q : Option AV → Hp → Prop) (k : Rn X m_Us_walker 0 [some (vR [0]), some (vI a1), some (vI a2)] [] h Q) : Ev X m_Us_walker [vR [0], vI a1, vI a2] h Q := Ev.intro (plainFor_of_name (by decide +kernel)) (Nat.le_of_ble_eq_true rfl) (ls := [some (vR [0]), some (vI a1), some (vI a2)]) rfl k
theorem d_Us_go_0 : decode m_Us_go.2.1 0 = .ok (.iload_n 1, 1) := by decide +kernel
theorem d_Us_go_1 : decode m_Us_go.2.1 1 = .ok (.iconst 1, 1) := by decide +kernel
theorem d_Us_go_2 : decode m_Us_go.2.1 2 = .ok (.bipush 60, 2) := by decide +kernel
theorem d_Us_go_4 : decode m_Us_go.2.1 4 = .ok (.invokestatic 61, 3) := by decide +kernel
theorem d_Us_go_7 : decode m_Us_go.2.1 7 = .ok (.ifCond .eq 6, 3) := by decide +kernel
theorem d_Us_go_10 : decode m_Us_go.2.1 10 = .ok (.bipush (-3), 2) := by decide +kernel
theorem d_Us_go_12 : decode m_Us_go.2.1 12 = .ok (.ireturn, 1) := by decide +kernel
theorem d_Us_go_13 : decode m_Us_go.2.1 13 = .ok (.iconst 0, 1) := by decide +kernel
theorem d_Us_go_14 : decode m_Us_go.2.1 14 = .ok (.istore_n 2, 1) := by decide +kernel
theorem d_Us_go_15 : decode m_Us_go.2.1 15 = .ok (.iload_n 2, 1) := by decide +kernel
theorem d_Us_go_16 : decode m_Us_go.2.1 16 = .ok (.iload_n 1, 1) := by decide +kernel
theorem d_Us_go_17 : decode m_Us_go.2.1 17 = .ok (.if_icmp .ge 20, 3) := by decide +kernel
theorem d_Us_go_20 : decode m_Us_go.2.1 20 = .ok (.aload_n 0, 1) := by decide +kernel
theorem d_Us_go_21 : decode m_Us_go.2.1 21 = .ok (.getfield 29, 3) := by decide +kernel
theorem d_Us_go_24 : decode m_Us_go.2.1 24 = .ok (.aload_n 0, 1) := by decide +kernel
theorem d_Us_go_25 : decode m_Us_go.2.1 25 = .ok (.getfield 12, 3) := by decide +kernel
theorem d_Us_go_28 : decode m_Us_go.2.1 28 = .ok (.invokevirtual 130, 3) := by decide +kernel
theorem d_Us_go_31 : decode m_Us_go.2.1 31 = .ok (.iinc 2 1, 3) := by decide +kernel
theorem d_Us_go_34 : decode m_Us_go.2.1 34 = .ok (.goto (-19), 3) := by decide +kernel
theorem d_Us_go_37 : decode m_Us_go.2.1 37 = .ok (.aload_n 0, 1) := by decide +kernel
theorem d_Us_go_38 : decode m_Us_go.2.1 38 = .ok (.getfield 29, 3) := by decide +kernel
theorem d_Us_go_41 : decode m_Us_go.2.1 41 = .ok (.getfield 133, 3) := by decide +kernel
theorem d_Us_go_44 : decode m_Us_go.2.1 44 = .ok (.ireturn, 1) := by decide +kernel
theorem g_Us_go_0 {X : XS} (a1 : Int32) (h : Hp) (Q : Option AV → Hp → Prop)  (k : (∃ Q'4, EvI X m_Us_isNotIn [vI a1, vI 1, vI 60] h Q'4 ∧ ∀ (r5 : Int32) (h3 : Hp), Q'4 r5 h3 → ((r5 = 0 → Rn X m_Us_go 15 [some (vR [0]), some (vI a1), some (vI 0)] [] h3 Q) ∧ (¬ r5 = 0 → Q (some (vI (-3))) h3)))) : Rn X m_Us_go 0 [some (vR [0]), some (vI a1), none] [] h Q := by
  refine Rn.iload_n (n := 1) (i := 1) d_Us_go_0 rfl rfl rfl ?_
  refine Rn.iconst (n := 2) (v := 1) d_Us_go_1 rfl (by decide) ?_
  refine Rn.bipush (n := 4) (v := 60) d_Us_go_2 rfl (by decide) ?_
  obtain ⟨Q'4, ev1, k⟩ := k
  refine Rn.callS (n := 7) (av := [vI a1, vI 1, vI 60]) d_Us_go_4 rfl ml_Us_go_61 ms_Us_isNotIn rfl rfl (Nat.le_of_ble_eq_true rfl) ev1 (fun v h3 hq => ?_)
  obtain ⟨r5, rfl, hq⟩ := hq
  have k := k r5 h3 hq
  show Rn X m_Us_go 7 [some (vR [0]), some (vI a1), none] [vI r5] h3 Q
  refine Rn.if_eq (n := 10) (t := 13) d_Us_go_7 rfl (by decide) (fun cc => ?_) (fun cc => ?_)
  · have k := k.1 cc
    refine Rn.iconst (n := 14) (v := 0) d_Us_go_13 rfl (by decide) ?_
    refine Rn.istore_n (n := 15) (i := 2) (ls2 := [some (vR [0]), some (vI a1), some (vI 0)]) d_Us_go_14 rfl rfl (Nat.le_of_ble_eq_true rfl) rfl ?_
    exact k
  · have k := k.2 cc
    refine Rn.bipush (n := 12) (v := (-3)) d_Us_go_10 rfl (by decide) ?_
    exact Rn.iret d_Us_go_12 rfl rfl k
theorem g_Us_go_15 {X : XS} (a1 : Int32) (a2 : Int32) (h : Hp) (Q : Option AV → Hp → Prop)  (k : ((a1 ≤ a2 → Q (some (vI (h.1 [3, 0] 1))) h) ∧ (¬ a1 ≤ a2 → (∃ Q'4, EvV X m_Wk_tick [vR [3, 0], vR [0, 0]] h Q'4 ∧ ∀ (h3 : Hp), Q'4 h3 → Rn X m_Us_go 15 [some (vR [0]), some (vI a1), some (vI (a2 + 1))] [] h3 Q)))) : Rn X m_Us_go 15 [some (vR [0]), some (vI a1), some (vI a2)] [] h Q := by
  refine Rn.iload_n (n := 16) (i := 2) d_Us_go_15 rfl rfl rfl ?_
  refine Rn.iload_n (n := 17) (i := 1) d_Us_go_16 rfl rfl rfl ?_
  refine Rn.icmp_ge (n := 20) (t := 37) d_Us_go_17 rfl (by decide) (fun cc => ?_) (fun cc => ?_)
  · have k := k.1 cc
    refine Rn.aload_n (n := 38) (i := 0) d_Us_go_37 rfl rfl rfl ?_
    refine Rn.getf (n := 41) (v := vR [3, 0]) d_Us_go_38 rfl fl_Us_29 Lv_0 rfl ?_
    refine Rn.getf (n := 44) (v := vI (h.1 [3, 0] 1)) d_Us_go_41 rfl fl_Us_133 Lv_3_0 rfl ?_
    exact Rn.iret d_Us_go_44 rfl rfl k
  · have k := k.2 cc
    refine Rn.aload_n (n := 21) (i := 0) d_Us_go_20 rfl rfl rfl ?_
    refine Rn.getf (n := 24) (v := vR [3, 0]) d_Us_go_21 rfl fl_Us_29 Lv_0 rfl ?_
    refine Rn.aload_n (n := 25) (i := 0) d_Us_go_24 rfl rfl rfl ?_
    refine Rn.getf (n := 28) (v := vR [0, 0]) d_Us_go_25 rfl fl_Us_12 Lv_0 rfl ?_
    obtain ⟨Q'4, ev1, k⟩ := k
    refine Rn.callV (n := 31) (av := [vR [0, 0]]) d_Us_go_28 rfl ml_Us_go_130 mi_Wk_tick Lv_3_0 rfl rfl rfl rfl (Nat.le_of_ble_eq_true rfl) ev1 (fun v h3 hq => ?_)
    obtain ⟨rfl, hq⟩ := hq
    have k := k h3 hq
    show Rn X m_Us_go 31 [some (vR [0]), some (vI a1), some (vI a2)] [] h3 Q
    refine Rn.iinc (n := 34) (i := 2) (v := a2 + 1) (ls2 := [some (vR [0]), some (vI a1), some (vI (a2 + 1))]) d_Us_go_31 rfl rfl rfl (Nat.le_of_ble_eq_true rfl) rfl ?_
    refine Rn.goto (n := 15) d_Us_go_34 (by decide) ?_
    exact k
theorem e_Us_go {X : XS} (a1 : Int32) (h : Hp) (Q : Option AV → Hp → Prop) (k : Rn X m_Us_go 0 [some (vR [0]), some (vI a1), none] [] h Q) : Ev X m_Us_go [vR [0], vI a1] h Q := Ev.intro (plainFor_of_name (by decide +kernel)) (Nat.le_of_ble_eq_true rfl) (ls := [some (vR [0]), some (vI a1), none]) rfl k
theorem d_Us_keep_0 : decode m_Us_keep.2.1 0 = .ok (.aload_n 0, 1) := by decide +kernel
theorem d_Us_keep_1 : decode m_Us_keep.2.1 1 = .ok (.iload_n 1, 1) := by decide +kernel
theorem d_Us_keep_2 : decode m_Us_keep.2.1 2 = .ok (.invokevirtual 88, 3) := by decide +kernel
theorem d_Us_keep_5 : decode m_Us_keep.2.1 5 = .ok (.astore_n 2, 1) := by decide +kernel
theorem d_Us_keep_6 : decode m_Us_keep.2.1 6 = .ok (.aload_n 2, 1) := by decide +kernel
theorem d_Us_keep_7 : decode m_Us_keep.2.1 7 = .ok (.ifnonnull 6, 3) := by decide +kernel
theorem d_Us_keep_10 : decode m_Us_keep.2.1 10 = .ok (.bipush (-2), 2) := by decide +kernel
theorem d_Us_keep_12 : decode m_Us_keep.2.1 12 = .ok (.ireturn, 1) := by decide +kernel
theorem d_Us_keep_13 : decode m_Us_keep.2.1 13 = .ok (.aload_n 2, 1) := by decide +kernel
theorem d_Us_keep_14 : decode m_Us_keep.2.1 14 = .ok (.aload_n 0, 1) := by decide +kernel
theorem d_Us_keep_15 : decode m_Us_keep.2.1 15 = .ok (.getfield 29, 3) := by decide +kernel
theorem d_Us_keep_18 : decode m_Us_keep.2.1 18 = .ok (.invokevirtual 136, 3) := by decide +kernel
theorem d_Us_keep_21 : decode m_Us_keep.2.1 21 = .ok (.aload_n 2, 1) := by decide +kernel
theorem d_Us_keep_22 : decode m_Us_keep.2.1 22 = .ok (.iconst 1, 1) := by decide +kernel
theorem d_Us_keep_23 : decode m_Us_keep.2.1 23 = .ok (.putfield 92, 3) := by decide +kernel
theorem d_Us_keep_26 : decode m_Us_keep.2.1 26 = .ok (.aload_n 0, 1) := by decide +kernel
theorem d_Us_keep_27 : decode m_Us_keep.2.1 27 = .ok (.getfield 29, 3) := by decide +kernel
theorem d_Us_keep_30 : decode m_Us_keep.2.1 30 = .ok (.getfield 133, 3) := by decide +kernel
theorem d_Us_keep_33 : decode m_Us_keep.2.1 33 = .ok (.ireturn, 1) := by decide +kernel
theorem g_Us_keep_0 {X : XS} (a1 : Int32) (h : Hp) (Q : Option AV → Hp → Prop)  (k : (∃ Q'4, EvR X m_Us_keptAt [vR [0], vI a1] h Q'4 ∧ ∀ (o : Option (List Nat)) (h3 : Hp), Q'4 o h3 → ((o = none → Q (some (vI (-2))) h3) ∧ (∀ p5, o = some p5 → IsWk p5 ∧ (∃ Q'9, EvV X m_Wk_copyFrom [vR p5, vR [3, 0]] h3 Q'9 ∧ ∀ (h8 : Hp), Q'9 h8 → Q (some (vI ((hsI h8 p5 0 1).1 [3, 0] 1))) (hsI h8 p5 0 1)))))) : Rn X m_Us_keep 0 [some (vR [0]), some (vI a1), none] [] h Q := by
  refine Rn.aload_n (n := 1) (i := 0) d_Us_keep_0 rfl rfl rfl ?_
  refine Rn.iload_n (n := 2) (i := 1) d_Us_keep_1 rfl rfl rfl ?_
  obtain ⟨Q'4, ev1, k⟩ := k
  refine Rn.callV (n := 5) (av := [vI a1]) d_Us_keep_2 rfl ml_Us_keep_88 mi_Us_keptAt Lv_0 rfl rfl rfl rfl (Nat.le_of_ble_eq_true rfl) ev1 (fun v h3 hq => ?_)
  obtain ⟨o, rfl, hq⟩ := hq
  have k := k o h3 hq
  rcases o with _ | p5
  · have k := k.1 rfl
    show Rn X m_Us_keep 5 [some (vR [0]), some (vI a1), none] [vN] h3 Q
    refine Rn.astore_nN (n := 6) (i := 2) (ls2 := [some (vR [0]), some (vI a1), some (vN)]) d_Us_keep_5 rfl rfl (Nat.le_of_ble_eq_true rfl) rfl ?_
    refine Rn.aload_nN (n := 7) (i := 2) d_Us_keep_6 rfl rfl rfl ?_
    refine Rn.ifnonnullN (n := 10) (x := []) d_Us_keep_7 rfl ?_
    refine Rn.bipush (n := 12) (v := (-2)) d_Us_keep_10 rfl (by decide) ?_
    exact Rn.iret d_Us_keep_12 rfl rfl k
  · obtain ⟨w_p5, k⟩ := k.2 p5 rfl
    show Rn X m_Us_keep 5 [some (vR [0]), some (vI a1), none] [vR p5] h3 Q
    refine Rn.astore_n (n := 6) (i := 2) (ls2 := [some (vR [0]), some (vI a1), some (vR p5)]) d_Us_keep_5 rfl rfl (Nat.le_of_ble_eq_true rfl) rfl ?_
    refine Rn.aload_n (n := 7) (i := 2) d_Us_keep_6 rfl rfl rfl ?_
    refine Rn.ifnonnullR (n := 13) d_Us_keep_7 (by decide) ?_
    refine Rn.aload_n (n := 14) (i := 2) d_Us_keep_13 rfl rfl rfl ?_
    refine Rn.aload_n (n := 15) (i := 0) d_Us_keep_14 rfl rfl rfl ?_
    refine Rn.getf (n := 18) (v := vR [3, 0]) d_Us_keep_15 rfl fl_Us_29 Lv_0 rfl ?_
    obtain ⟨Q'9, ev6, k⟩ := k
    refine Rn.callV (n := 21) (av := [vR [3, 0]]) d_Us_keep_18 rfl ml_Us_keep_136 mi_Wk_copyFrom w_p5.s rfl rfl rfl rfl (Nat.le_of_ble_eq_true rfl) ev6 (fun v h8 hq => ?_)
    obtain ⟨rfl, hq⟩ := hq
    have k := k h8 hq
    show Rn X m_Us_keep 21 [some (vR [0]), some (vI a1), some (vR p5)] [] h8 Q
    refine Rn.aload_n (n := 22) (i := 2) d_Us_keep_21 rfl rfl rfl ?_
    refine Rn.iconst (n := 23) (v := 1) d_Us_keep_22 rfl (by decide) ?_
    refine Rn.putZ (n := 26) d_Us_keep_23 rfl fl_Us_92 pl_Wk_0 w_p5.s rfl (Or.inr rfl) ?_
    refine Rn.aload_n (n := 27) (i := 0) d_Us_keep_26 rfl rfl rfl ?_
    refine Rn.getf (n := 30) (v := vR [3, 0]) d_Us_keep_27 rfl fl_Us_29 Lv_0 rfl ?_
    refine Rn.getf (n := 33) (v := vI ((hsI h8 p5 0 1).1 [3, 0] 1)) d_Us_keep_30 rfl fl_Us_133 Lv_3_0 rfl ?_
    exact Rn.iret d_Us_keep_33 rfl rfl k
theorem e_Us_keep {X : XS} (a1 : Int32) (h : Hp) (Q : Option AV → Hp → Prop) (k : Rn X m_Us_keep 0 [some (vR [0]), some (vI a1), none] [] h Q) : Ev X m_Us_keep [vR [0], vI a1] h Q := Ev.intro (plainFor_of_name (by decide +kernel)) (Nat.le_of_ble_eq_true rfl) (ls := [some (vR [0]), some (vI a1), none]) rfl k
theorem d_Us_back_0 : decode m_Us_back.2.1 0 = .ok (.aload_n 0, 1) := by decide +kernel
theorem d_Us_back_1 : decode m_Us_back.2.1 1 = .ok (.iload_n 1, 1) := by decide +kernel
theorem d_Us_back_2 : decode m_Us_back.2.1 2 = .ok (.invokevirtual 88, 3) := by decide +kernel
theorem d_Us_back_5 : decode m_Us_back.2.1 5 = .ok (.astore_n 2, 1) := by decide +kernel
theorem d_Us_back_6 : decode m_Us_back.2.1 6 = .ok (.aload_n 2, 1) := by decide +kernel
theorem d_Us_back_7 : decode m_Us_back.2.1 7 = .ok (.ifnonnull 6, 3) := by decide +kernel
theorem d_Us_back_10 : decode m_Us_back.2.1 10 = .ok (.bipush (-2), 2) := by decide +kernel
theorem d_Us_back_12 : decode m_Us_back.2.1 12 = .ok (.ireturn, 1) := by decide +kernel
theorem d_Us_back_13 : decode m_Us_back.2.1 13 = .ok (.aload_n 2, 1) := by decide +kernel
theorem d_Us_back_14 : decode m_Us_back.2.1 14 = .ok (.getfield 92, 3) := by decide +kernel
theorem d_Us_back_17 : decode m_Us_back.2.1 17 = .ok (.ifCond .ne 6, 3) := by decide +kernel
theorem d_Us_back_20 : decode m_Us_back.2.1 20 = .ok (.bipush (-4), 2) := by decide +kernel
theorem d_Us_back_22 : decode m_Us_back.2.1 22 = .ok (.ireturn, 1) := by decide +kernel
theorem d_Us_back_23 : decode m_Us_back.2.1 23 = .ok (.aload_n 0, 1) := by decide +kernel
theorem d_Us_back_24 : decode m_Us_back.2.1 24 = .ok (.getfield 29, 3) := by decide +kernel
theorem d_Us_back_27 : decode m_Us_back.2.1 27 = .ok (.aload_n 2, 1) := by decide +kernel
theorem d_Us_back_28 : decode m_Us_back.2.1 28 = .ok (.invokevirtual 136, 3) := by decide +kernel
theorem d_Us_back_31 : decode m_Us_back.2.1 31 = .ok (.aload_n 0, 1) := by decide +kernel
theorem d_Us_back_32 : decode m_Us_back.2.1 32 = .ok (.getfield 29, 3) := by decide +kernel
theorem d_Us_back_35 : decode m_Us_back.2.1 35 = .ok (.getfield 133, 3) := by decide +kernel
theorem d_Us_back_38 : decode m_Us_back.2.1 38 = .ok (.ireturn, 1) := by decide +kernel
theorem g_Us_back_0 {X : XS} (a1 : Int32) (h : Hp) (Q : Option AV → Hp → Prop)  (k : (∃ Q'4, EvR X m_Us_keptAt [vR [0], vI a1] h Q'4 ∧ ∀ (o : Option (List Nat)) (h3 : Hp), Q'4 o h3 → ((o = none → Q (some (vI (-2))) h3) ∧ (∀ p5, o = some p5 → IsWk p5 ∧ ((¬ (h3.1 p5 0) = 0 → (∃ Q'9, EvV X m_Wk_copyFrom [vR [3, 0], vR p5] h3 Q'9 ∧ ∀ (h8 : Hp), Q'9 h8 → Q (some (vI (h8.1 [3, 0] 1))) h8)) ∧ ((h3.1 p5 0) = 0 → Q (some (vI (-4))) h3)))))) : Rn X m_Us_back 0 [some (vR [0]), some (vI a1), none] [] h Q := by
  refine Rn.aload_n (n := 1) (i := 0) d_Us_back_0 rfl rfl rfl ?_
  refine Rn.iload_n (n := 2) (i := 1) d_Us_back_1 rfl rfl rfl ?_
  obtain ⟨Q'4, ev1, k⟩ := k
  refine Rn.callV (n := 5) (av := [vI a1]) d_Us_back_2 rfl ml_Us_back_88 mi_Us_keptAt Lv_0 rfl rfl rfl rfl (Nat.le_of_ble_eq_true rfl) ev1 (fun v h3 hq => ?_)
  obtain ⟨o, rfl, hq⟩ := hq
  have k := k o h3 hq
  rcases o with _ | p5
  · have k := k.1 rfl
    show Rn X m_Us_back 5 [some (vR [0]), some (vI a1), none] [vN] h3 Q
    refine Rn.astore_nN (n := 6) (i := 2) (ls2 := [some (vR [0]), some (vI a1), some (vN)]) d_Us_back_5 rfl rfl (Nat.le_of_ble_eq_true rfl) rfl ?_
    refine Rn.aload_nN (n := 7) (i := 2) d_Us_back_6 rfl rfl rfl ?_
    refine Rn.ifnonnullN (n := 10) (x := []) d_Us_back_7 rfl ?_
    refine Rn.bipush (n := 12) (v := (-2)) d_Us_back_10 rfl (by decide) ?_
    exact Rn.iret d_Us_back_12 rfl rfl k
  · obtain ⟨w_p5, k⟩ := k.2 p5 rfl
    show Rn X m_Us_back 5 [some (vR [0]), some (vI a1), none] [vR p5] h3 Q
    refine Rn.astore_n (n := 6) (i := 2) (ls2 := [some (vR [0]), some (vI a1), some (vR p5)]) d_Us_back_5 rfl rfl (Nat.le_of_ble_eq_true rfl) rfl ?_
    refine Rn.aload_n (n := 7) (i := 2) d_Us_back_6 rfl rfl rfl ?_
    refine Rn.ifnonnullR (n := 13) d_Us_back_7 (by decide) ?_
    refine Rn.aload_n (n := 14) (i := 2) d_Us_back_13 rfl rfl rfl ?_
    refine Rn.getf (n := 17) (v := vI (h3.1 p5 0)) d_Us_back_14 rfl fl_Us_92 w_p5.s rfl ?_
    refine Rn.if_ne (n := 20) (t := 23) d_Us_back_17 rfl (by decide) (fun cc => ?_) (fun cc => ?_)
    · have k := k.1 cc
      refine Rn.aload_n (n := 24) (i := 0) d_Us_back_23 rfl rfl rfl ?_
      refine Rn.getf (n := 27) (v := vR [3, 0]) d_Us_back_24 rfl fl_Us_29 Lv_0 rfl ?_
      refine Rn.aload_n (n := 28) (i := 2) d_Us_back_27 rfl rfl rfl ?_
      obtain ⟨Q'9, ev6, k⟩ := k
      refine Rn.callV (n := 31) (av := [vR p5]) d_Us_back_28 rfl ml_Us_back_136 mi_Wk_copyFrom Lv_3_0 rfl rfl rfl rfl (Nat.le_of_ble_eq_true rfl) ev6 (fun v h8 hq => ?_)
      obtain ⟨rfl, hq⟩ := hq
      have k := k h8 hq
      show Rn X m_Us_back 31 [some (vR [0]), some (vI a1), some (vR p5)] [] h8 Q
      refine Rn.aload_n (n := 32) (i := 0) d_Us_back_31 rfl rfl rfl ?_
      refine Rn.getf (n := 35) (v := vR [3, 0]) d_Us_back_32 rfl fl_Us_29 Lv_0 rfl ?_
      refine Rn.getf (n := 38) (v := vI (h8.1 [3, 0] 1)) d_Us_back_35 rfl fl_Us_133 Lv_3_0 rfl ?_
      exact Rn.iret d_Us_back_38 rfl rfl k
    · have k := k.2 cc
      refine Rn.bipush (n := 22) (v := (-4)) d_Us_back_20 rfl (by decide) ?_
      exact Rn.iret d_Us_back_22 rfl rfl k
theorem e_Us_back {X : XS} (a1 : Int32) (h : Hp) (Q : Option AV → Hp → Prop) (k : Rn X m_Us_back 0 [some (vR [0]), some (vI a1), none] [] h Q) : Ev X m_Us_back [vR [0], vI a1] h Q := Ev.intro (plainFor_of_name (by decide +kernel)) (Nat.le_of_ble_eq_true rfl) (ls := [some (vR [0]), some (vI a1), none]) rfl k
theorem d_Us_keptAt_0 : decode m_Us_keptAt.2.1 0 = .ok (.iload_n 1, 1) := by decide +kernel
theorem d_Us_keptAt_1 : decode m_Us_keptAt.2.1 1 = .ok (.ifCond .lt 21, 3) := by decide +kernel
theorem d_Us_keptAt_4 : decode m_Us_keptAt.2.1 4 = .ok (.iload_n 1, 1) := by decide +kernel
theorem d_Us_keptAt_5 : decode m_Us_keptAt.2.1 5 = .ok (.aload_n 0, 1) := by decide +kernel
theorem d_Us_keptAt_6 : decode m_Us_keptAt.2.1 6 = .ok (.getfield 36, 3) := by decide +kernel
theorem d_Us_keptAt_9 : decode m_Us_keptAt.2.1 9 = .ok (.arraylength, 1) := by decide +kernel
theorem d_Us_keptAt_10 : decode m_Us_keptAt.2.1 10 = .ok (.if_icmp .ge 12, 3) := by decide +kernel
theorem d_Us_keptAt_13 : decode m_Us_keptAt.2.1 13 = .ok (.aload_n 0, 1) := by decide +kernel
theorem d_Us_keptAt_14 : decode m_Us_keptAt.2.1 14 = .ok (.getfield 36, 3) := by decide +kernel
theorem d_Us_keptAt_17 : decode m_Us_keptAt.2.1 17 = .ok (.iload_n 1, 1) := by decide +kernel
theorem d_Us_keptAt_18 : decode m_Us_keptAt.2.1 18 = .ok (.aaload, 1) := by decide +kernel
theorem d_Us_keptAt_19 : decode m_Us_keptAt.2.1 19 = .ok (.goto 4, 3) := by decide +kernel
theorem d_Us_keptAt_22 : decode m_Us_keptAt.2.1 22 = .ok (.aconst_null, 1) := by decide +kernel
theorem d_Us_keptAt_23 : decode m_Us_keptAt.2.1 23 = .ok (.areturn, 1) := by decide +kernel
theorem g_Us_keptAt_0 {X : XS} (a1 : Int32) (h : Hp) (Q : Option AV → Hp → Prop)  (k : ((a1 < 0 → Q (some (vN)) h) ∧ (¬ a1 < 0 → ((2 ≤ a1 → Q (some (vN)) h) ∧ (¬ 2 ≤ a1 → (vp_in a1 2 ∧ Q (some (vR (a1.toNatClampNeg :: [5, 0]))) h)))))) : Rn X m_Us_keptAt 0 [some (vR [0]), some (vI a1)] [] h Q := by
  refine Rn.iload_n (n := 1) (i := 1) d_Us_keptAt_0 rfl rfl rfl ?_
  refine Rn.if_lt (n := 4) (t := 22) d_Us_keptAt_1 rfl (by decide) (fun cc => ?_) (fun cc => ?_)
  · have k := k.1 cc
    refine Rn.aconst_null (n := 23) d_Us_keptAt_22 rfl ?_
    exact Rn.aret d_Us_keptAt_23 ⟨_, rfl⟩ k
  · have k := k.2 cc
    refine Rn.iload_n (n := 5) (i := 1) d_Us_keptAt_4 rfl rfl rfl ?_
    refine Rn.aload_n (n := 6) (i := 0) d_Us_keptAt_5 rfl rfl rfl ?_
    refine Rn.getf (n := 9) (v := vR [5, 0]) d_Us_keptAt_6 rfl fl_Us_36 Lv_0 rfl ?_
    refine Rn.alen10 (n := 10) (v := 2) d_Us_keptAt_9 rfl Lv_5_0 (by decide) ?_
    refine Rn.icmp_ge (n := 13) (t := 22) d_Us_keptAt_10 rfl (by decide) (fun cc => ?_) (fun cc => ?_)
    · have k := k.1 cc
      refine Rn.aconst_null (n := 23) d_Us_keptAt_22 rfl ?_
      exact Rn.aret d_Us_keptAt_23 ⟨_, rfl⟩ k
    · have k := k.2 cc
      refine Rn.aload_n (n := 14) (i := 0) d_Us_keptAt_13 rfl rfl rfl ?_
      refine Rn.getf (n := 17) (v := vR [5, 0]) d_Us_keptAt_14 rfl fl_Us_36 Lv_0 rfl ?_
      refine Rn.iload_n (n := 18) (i := 1) d_Us_keptAt_17 rfl rfl rfl ?_
      obtain ⟨b1, k⟩ := k
      refine Rn.aald (n := 19) d_Us_keptAt_18 rfl Lv_5_0 b1 ?_
      refine Rn.goto (n := 23) d_Us_keptAt_19 (by decide) ?_
      exact Rn.aret d_Us_keptAt_23 ⟨_, rfl⟩ k
theorem e_Us_keptAt {X : XS} (a1 : Int32) (h : Hp) (Q : Option AV → Hp → Prop) (k : Rn X m_Us_keptAt 0 [some (vR [0]), some (vI a1)] [] h Q) : Ev X m_Us_keptAt [vR [0], vI a1] h Q := Ev.intro (plainFor_of_name (by decide +kernel)) (Nat.le_of_ble_eq_true rfl) (ls := [some (vR [0]), some (vI a1)]) rfl k
theorem d_Us_done_0 : decode m_Us_done.2.1 0 = .ok (.aload_n 0, 1) := by decide +kernel
theorem d_Us_done_1 : decode m_Us_done.2.1 1 = .ok (.getfield 33, 3) := by decide +kernel
theorem d_Us_done_4 : decode m_Us_done.2.1 4 = .ok (.invokevirtual 85, 3) := by decide +kernel
theorem d_Us_done_7 : decode m_Us_done.2.1 7 = .ok (.iconst 0, 1) := by decide +kernel
theorem d_Us_done_8 : decode m_Us_done.2.1 8 = .ok (.istore_n 1, 1) := by decide +kernel
theorem d_Us_done_9 : decode m_Us_done.2.1 9 = .ok (.iload_n 1, 1) := by decide +kernel
theorem d_Us_done_10 : decode m_Us_done.2.1 10 = .ok (.bipush 60, 2) := by decide +kernel
theorem d_Us_done_12 : decode m_Us_done.2.1 12 = .ok (.if_icmp .ge 36, 3) := by decide +kernel
theorem d_Us_done_15 : decode m_Us_done.2.1 15 = .ok (.aload_n 0, 1) := by decide +kernel
theorem d_Us_done_16 : decode m_Us_done.2.1 16 = .ok (.getfield 33, 3) := by decide +kernel
theorem d_Us_done_19 : decode m_Us_done.2.1 19 = .ok (.aload_n 0, 1) := by decide +kernel
theorem d_Us_done_20 : decode m_Us_done.2.1 20 = .ok (.getfield 12, 3) := by decide +kernel
theorem d_Us_done_23 : decode m_Us_done.2.1 23 = .ok (.invokevirtual 139, 3) := by decide +kernel
theorem d_Us_done_26 : decode m_Us_done.2.1 26 = .ok (.ifCond .eq 5, 3) := by decide +kernel
theorem d_Us_done_29 : decode m_Us_done.2.1 29 = .ok (.iload_n 1, 1) := by decide +kernel
theorem d_Us_done_30 : decode m_Us_done.2.1 30 = .ok (.ireturn, 1) := by decide +kernel
theorem d_Us_done_31 : decode m_Us_done.2.1 31 = .ok (.aload_n 0, 1) := by decide +kernel
theorem d_Us_done_32 : decode m_Us_done.2.1 32 = .ok (.getfield 33, 3) := by decide +kernel
theorem d_Us_done_35 : decode m_Us_done.2.1 35 = .ok (.aload_n 0, 1) := by decide +kernel
theorem d_Us_done_36 : decode m_Us_done.2.1 36 = .ok (.getfield 12, 3) := by decide +kernel
theorem d_Us_done_39 : decode m_Us_done.2.1 39 = .ok (.invokevirtual 130, 3) := by decide +kernel
theorem d_Us_done_42 : decode m_Us_done.2.1 42 = .ok (.iinc 1 1, 3) := by decide +kernel
theorem d_Us_done_45 : decode m_Us_done.2.1 45 = .ok (.goto (-36), 3) := by decide +kernel
theorem d_Us_done_48 : decode m_Us_done.2.1 48 = .ok (.aload_n 0, 1) := by decide +kernel
theorem d_Us_done_49 : decode m_Us_done.2.1 49 = .ok (.getfield 33, 3) := by decide +kernel
theorem d_Us_done_52 : decode m_Us_done.2.1 52 = .ok (.aload_n 0, 1) := by decide +kernel
theorem d_Us_done_53 : decode m_Us_done.2.1 53 = .ok (.getfield 12, 3) := by decide +kernel
theorem d_Us_done_56 : decode m_Us_done.2.1 56 = .ok (.invokevirtual 139, 3) := by decide +kernel
theorem d_Us_done_59 : decode m_Us_done.2.1 59 = .ok (.ifCond .eq 8, 3) := by decide +kernel
theorem d_Us_done_62 : decode m_Us_done.2.1 62 = .ok (.bipush 60, 2) := by decide +kernel
theorem d_Us_done_64 : decode m_Us_done.2.1 64 = .ok (.goto 4, 3) := by decide +kernel
theorem d_Us_done_67 : decode m_Us_done.2.1 67 = .ok (.iconst (-1), 1) := by decide +kernel
theorem d_Us_done_68 : decode m_Us_done.2.1 68 = .ok (.ireturn, 1) := by decide +kernel
theorem g_Us_done_0 {X : XS}  (h : Hp) (Q : Option AV → Hp → Prop)  (k : (∃ Q'4, EvV X m_Wk_clear [vR [4, 0]] h Q'4 ∧ ∀ (h3 : Hp), Q'4 h3 → Rn X m_Us_done 9 [some (vR [0]), some (vI 0)] [] h3 Q)) : Rn X m_Us_done 0 [some (vR [0]), none] [] h Q := by
  refine Rn.aload_n (n := 1) (i := 0) d_Us_done_0 rfl rfl rfl ?_
  refine Rn.getf (n := 4) (v := vR [4, 0]) d_Us_done_1 rfl fl_Us_33 Lv_0 rfl ?_
  obtain ⟨Q'4, ev1, k⟩ := k
  refine Rn.callV (n := 7) (av := []) d_Us_done_4 rfl ml_Us_done_85 mi_Wk_clear Lv_4_0 rfl rfl rfl rfl (Nat.le_of_ble_eq_true rfl) ev1 (fun v h3 hq => ?_)
  obtain ⟨rfl, hq⟩ := hq
  have k := k h3 hq
  show Rn X m_Us_done 7 [some (vR [0]), none] [] h3 Q
  refine Rn.iconst (n := 8) (v := 0) d_Us_done_7 rfl (by decide) ?_
  refine Rn.istore_n (n := 9) (i := 1) (ls2 := [some (vR [0]), some (vI 0)]) d_Us_done_8 rfl rfl (Nat.le_of_ble_eq_true rfl) rfl ?_
  exact k
theorem g_Us_done_9 {X : XS} (a1 : Int32) (h : Hp) (Q : Option AV → Hp → Prop)  (k : ((60 ≤ a1 → (∃ Q'4, EvI X m_Wk_isOver [vR [4, 0], vR [0, 0]] h Q'4 ∧ ∀ (r5 : Int32) (h3 : Hp), Q'4 r5 h3 → ((r5 = 0 → Q (some (vI (-1))) h3) ∧ (¬ r5 = 0 → Q (some (vI 60)) h3)))) ∧ (¬ 60 ≤ a1 → (∃ Q'9, EvI X m_Wk_isOver [vR [4, 0], vR [0, 0]] h Q'9 ∧ ∀ (r10 : Int32) (h8 : Hp), Q'9 r10 h8 → ((r10 = 0 → (∃ Q'14, EvV X m_Wk_tick [vR [4, 0], vR [0, 0]] h8 Q'14 ∧ ∀ (h13 : Hp), Q'14 h13 → Rn X m_Us_done 9 [some (vR [0]), some (vI (a1 + 1))] [] h13 Q)) ∧ (¬ r10 = 0 → Q (some (vI a1)) h8)))))) : Rn X m_Us_done 9 [some (vR [0]), some (vI a1)] [] h Q := by
  refine Rn.iload_n (n := 10) (i := 1) d_Us_done_9 rfl rfl rfl ?_
  refine Rn.bipush (n := 12) (v := 60) d_Us_done_10 rfl (by decide) ?_
  refine Rn.icmp_ge (n := 15) (t := 48) d_Us_done_12 rfl (by decide) (fun cc => ?_) (fun cc => ?_)
  · have k := k.1 cc
    refine Rn.aload_n (n := 49) (i := 0) d_Us_done_48 rfl rfl rfl ?_
    refine Rn.getf (n := 52) (v := vR [4, 0]) d_Us_done_49 rfl fl_Us_33 Lv_0 rfl ?_
    refine Rn.aload_n (n := 53) (i := 0) d_Us_done_52 rfl rfl rfl ?_
    refine Rn.getf (n := 56) (v := vR [0, 0]) d_Us_done_53 rfl fl_Us_12 Lv_0 rfl ?_
    obtain ⟨Q'4, ev1, k⟩ := k
    refine Rn.callV (n := 59) (av := [vR [0, 0]]) d_Us_done_56 rfl ml_Us_done_139 mi_Wk_isOver Lv_4_0 rfl rfl rfl rfl (Nat.le_of_ble_eq_true rfl) ev1 (fun v h3 hq => ?_)
    obtain ⟨r5, rfl, hq⟩ := hq
    have k := k r5 h3 hq
    show Rn X m_Us_done 59 [some (vR [0]), some (vI a1)] [vI r5] h3 Q
    refine Rn.if_eq (n := 62) (t := 67) d_Us_done_59 rfl (by decide) (fun cc => ?_) (fun cc => ?_)
    · have k := k.1 cc
      refine Rn.iconst (n := 68) (v := (-1)) d_Us_done_67 rfl (by decide) ?_
      exact Rn.iret d_Us_done_68 rfl rfl k
    · have k := k.2 cc
      refine Rn.bipush (n := 64) (v := 60) d_Us_done_62 rfl (by decide) ?_
      refine Rn.goto (n := 68) d_Us_done_64 (by decide) ?_
      exact Rn.iret d_Us_done_68 rfl rfl k
  · have k := k.2 cc
    refine Rn.aload_n (n := 16) (i := 0) d_Us_done_15 rfl rfl rfl ?_
    refine Rn.getf (n := 19) (v := vR [4, 0]) d_Us_done_16 rfl fl_Us_33 Lv_0 rfl ?_
    refine Rn.aload_n (n := 20) (i := 0) d_Us_done_19 rfl rfl rfl ?_
    refine Rn.getf (n := 23) (v := vR [0, 0]) d_Us_done_20 rfl fl_Us_12 Lv_0 rfl ?_
    obtain ⟨Q'9, ev6, k⟩ := k
    refine Rn.callV (n := 26) (av := [vR [0, 0]]) d_Us_done_23 rfl ml_Us_done_139 mi_Wk_isOver Lv_4_0 rfl rfl rfl rfl (Nat.le_of_ble_eq_true rfl) ev6 (fun v h8 hq => ?_)
    obtain ⟨r10, rfl, hq⟩ := hq
    have k := k r10 h8 hq
    show Rn X m_Us_done 26 [some (vR [0]), some (vI a1)] [vI r10] h8 Q
    refine Rn.if_eq (n := 29) (t := 31) d_Us_done_26 rfl (by decide) (fun cc => ?_) (fun cc => ?_)
    · have k := k.1 cc
      refine Rn.aload_n (n := 32) (i := 0) d_Us_done_31 rfl rfl rfl ?_
      refine Rn.getf (n := 35) (v := vR [4, 0]) d_Us_done_32 rfl fl_Us_33 Lv_0 rfl ?_
      refine Rn.aload_n (n := 36) (i := 0) d_Us_done_35 rfl rfl rfl ?_
      refine Rn.getf (n := 39) (v := vR [0, 0]) d_Us_done_36 rfl fl_Us_12 Lv_0 rfl ?_
      obtain ⟨Q'14, ev11, k⟩ := k
      refine Rn.callV (n := 42) (av := [vR [0, 0]]) d_Us_done_39 rfl ml_Us_done_130 mi_Wk_tick Lv_4_0 rfl rfl rfl rfl (Nat.le_of_ble_eq_true rfl) ev11 (fun v h13 hq => ?_)
      obtain ⟨rfl, hq⟩ := hq
      have k := k h13 hq
      show Rn X m_Us_done 42 [some (vR [0]), some (vI a1)] [] h13 Q
      refine Rn.iinc (n := 45) (i := 1) (v := a1 + 1) (ls2 := [some (vR [0]), some (vI (a1 + 1))]) d_Us_done_42 rfl rfl rfl (Nat.le_of_ble_eq_true rfl) rfl ?_
      refine Rn.goto (n := 9) d_Us_done_45 (by decide) ?_
      exact k
    · have k := k.2 cc
      refine Rn.iload_n (n := 30) (i := 1) d_Us_done_29 rfl rfl rfl ?_
      exact Rn.iret d_Us_done_30 rfl rfl k
theorem e_Us_done {X : XS}  (h : Hp) (Q : Option AV → Hp → Prop) (k : Rn X m_Us_done 0 [some (vR [0]), none] [] h Q) : Ev X m_Us_done [vR [0]] h Q := Ev.intro (plainFor_of_name (by decide +kernel)) (Nat.le_of_ble_eq_true rfl) (ls := [some (vR [0]), none]) rfl k
theorem d_Us_pays_0 : decode m_Us_pays.2.1 0 = .ok (.aload_n 0, 1) := by decide +kernel
theorem d_Us_pays_1 : decode m_Us_pays.2.1 1 = .ok (.getfield 12, 3) := by decide +kernel
theorem d_Us_pays_4 : decode m_Us_pays.2.1 4 = .ok (.iload_n 1, 1) := by decide +kernel
theorem d_Us_pays_5 : decode m_Us_pays.2.1 5 = .ok (.invokevirtual 110, 3) := by decide +kernel
theorem d_Us_pays_8 : decode m_Us_pays.2.1 8 = .ok (.ifCond .ne 6, 3) := by decide +kernel
theorem d_Us_pays_11 : decode m_Us_pays.2.1 11 = .ok (.bipush (-2), 2) := by decide +kernel
theorem d_Us_pays_13 : decode m_Us_pays.2.1 13 = .ok (.ireturn, 1) := by decide +kernel
theorem d_Us_pays_14 : decode m_Us_pays.2.1 14 = .ok (.iload_n 2, 1) := by decide +kernel
theorem d_Us_pays_15 : decode m_Us_pays.2.1 15 = .ok (.aload_n 0, 1) := by decide +kernel
theorem d_Us_pays_16 : decode m_Us_pays.2.1 16 = .ok (.getfield 12, 3) := by decide +kernel
theorem d_Us_pays_19 : decode m_Us_pays.2.1 19 = .ok (.invokevirtual 143, 3) := by decide +kernel
theorem d_Us_pays_22 : decode m_Us_pays.2.1 22 = .ok (.invokestatic 146, 3) := by decide +kernel
theorem d_Us_pays_25 : decode m_Us_pays.2.1 25 = .ok (.ifCond .eq 12, 3) := by decide +kernel
theorem d_Us_pays_28 : decode m_Us_pays.2.1 28 = .ok (.iload_n 3, 1) := by decide +kernel
theorem d_Us_pays_29 : decode m_Us_pays.2.1 29 = .ok (.iload 4, 2) := by decide +kernel
theorem d_Us_pays_31 : decode m_Us_pays.2.1 31 = .ok (.invokestatic 150, 3) := by decide +kernel
theorem d_Us_pays_34 : decode m_Us_pays.2.1 34 = .ok (.ifCond .eq 6, 3) := by decide +kernel
theorem d_Us_pays_37 : decode m_Us_pays.2.1 37 = .ok (.bipush (-3), 2) := by decide +kernel
theorem d_Us_pays_39 : decode m_Us_pays.2.1 39 = .ok (.ireturn, 1) := by decide +kernel
theorem d_Us_pays_40 : decode m_Us_pays.2.1 40 = .ok (.aload_n 0, 1) := by decide +kernel
theorem d_Us_pays_41 : decode m_Us_pays.2.1 41 = .ok (.getfield 12, 3) := by decide +kernel
theorem d_Us_pays_44 : decode m_Us_pays.2.1 44 = .ok (.invokevirtual 143, 3) := by decide +kernel
theorem d_Us_pays_47 : decode m_Us_pays.2.1 47 = .ok (.iconst 4, 1) := by decide +kernel
theorem d_Us_pays_48 : decode m_Us_pays.2.1 48 = .ok (.if_icmp .le 6, 3) := by decide +kernel
theorem d_Us_pays_51 : decode m_Us_pays.2.1 51 = .ok (.bipush (-4), 2) := by decide +kernel
theorem d_Us_pays_53 : decode m_Us_pays.2.1 53 = .ok (.ireturn, 1) := by decide +kernel
theorem d_Us_pays_54 : decode m_Us_pays.2.1 54 = .ok (.aload_n 0, 1) := by decide +kernel
theorem d_Us_pays_55 : decode m_Us_pays.2.1 55 = .ok (.getfield 43, 3) := by decide +kernel
theorem d_Us_pays_58 : decode m_Us_pays.2.1 58 = .ok (.aload_n 0, 1) := by decide +kernel
theorem d_Us_pays_59 : decode m_Us_pays.2.1 59 = .ok (.getfield 12, 3) := by decide +kernel
theorem d_Us_pays_62 : decode m_Us_pays.2.1 62 = .ok (.iload_n 2, 1) := by decide +kernel
theorem d_Us_pays_63 : decode m_Us_pays.2.1 63 = .ok (.invokevirtual 153, 3) := by decide +kernel
theorem d_Us_pays_66 : decode m_Us_pays.2.1 66 = .ok (.aload_n 0, 1) := by decide +kernel
theorem d_Us_pays_67 : decode m_Us_pays.2.1 67 = .ok (.getfield 43, 3) := by decide +kernel
theorem d_Us_pays_70 : decode m_Us_pays.2.1 70 = .ok (.iload_n 1, 1) := by decide +kernel
theorem d_Us_pays_71 : decode m_Us_pays.2.1 71 = .ok (.iload_n 3, 1) := by decide +kernel
theorem d_Us_pays_72 : decode m_Us_pays.2.1 72 = .ok (.iload 4, 2) := by decide +kernel
theorem d_Us_pays_74 : decode m_Us_pays.2.1 74 = .ok (.invokevirtual 157, 3) := by decide +kernel
theorem d_Us_pays_77 : decode m_Us_pays.2.1 77 = .ok (.ireturn, 1) := by decide +kernel
theorem g_Us_pays_0 {X : XS} (a1 : Int32) (a2 : Int32) (a3 : Int32) (a4 : Int32) (h : Hp) (Q : Option AV → Hp → Prop)  (k : (∃ Q'4, EvI X m_Pl_hasWalker [vR [0, 0], vI a1] h Q'4 ∧ ∀ (r5 : Int32) (h3 : Hp), Q'4 r5 h3 → ((¬ r5 = 0 → (∃ Q'9, EvI X m_Pl_walkers [vR [0, 0]] h3 Q'9 ∧ ∀ (r10 : Int32) (h8 : Hp), Q'9 r10 h8 → (∃ Q'14, EvI X m_Us_areSizes [vI a2, vI r10] h8 Q'14 ∧ ∀ (r15 : Int32) (h13 : Hp), Q'14 r15 h13 → ((r15 = 0 → Q (some (vI (-3))) h13) ∧ (¬ r15 = 0 → (∃ Q'19, EvI X m_Us_areNotCosts [vI a3, vI a4] h13 Q'19 ∧ ∀ (r20 : Int32) (h18 : Hp), Q'19 r20 h18 → ((r20 = 0 → (∃ Q'24, EvI X m_Pl_walkers [vR [0, 0]] h18 Q'24 ∧ ∀ (r25 : Int32) (h23 : Hp), Q'24 r25 h23 → ((r25 ≤ 4 → (∃ Q'29, EvV X m_Tr_walkWith [vR [6, 0], vR [0, 0], vI a2] h23 Q'29 ∧ ∀ (h28 : Hp), Q'29 h28 → (∃ Q'33, EvI X m_Tr_paidBy [vR [6, 0], vI a1, vI a3, vI a4] h28 Q'33 ∧ ∀ (r34 : Int32) (h32 : Hp), Q'33 r34 h32 → Q (some (vI r34)) h32))) ∧ (¬ r25 ≤ 4 → Q (some (vI (-4))) h23)))) ∧ (¬ r20 = 0 → Q (some (vI (-3))) h18)))))))) ∧ (r5 = 0 → Q (some (vI (-2))) h3)))) : Rn X m_Us_pays 0 [some (vR [0]), some (vI a1), some (vI a2), some (vI a3), some (vI a4)] [] h Q := by
  refine Rn.aload_n (n := 1) (i := 0) d_Us_pays_0 rfl rfl rfl ?_
  refine Rn.getf (n := 4) (v := vR [0, 0]) d_Us_pays_1 rfl fl_Us_12 Lv_0 rfl ?_
  refine Rn.iload_n (n := 5) (i := 1) d_Us_pays_4 rfl rfl rfl ?_
  obtain ⟨Q'4, ev1, k⟩ := k
  refine Rn.callV (n := 8) (av := [vI a1]) d_Us_pays_5 rfl ml_Us_pays_110 mi_Pl_hasWalker Lv_0_0 rfl rfl rfl rfl (Nat.le_of_ble_eq_true rfl) ev1 (fun v h3 hq => ?_)
  obtain ⟨r5, rfl, hq⟩ := hq
  have k := k r5 h3 hq
  show Rn X m_Us_pays 8 [some (vR [0]), some (vI a1), some (vI a2), some (vI a3), some (vI a4)] [vI r5] h3 Q
  refine Rn.if_ne (n := 11) (t := 14) d_Us_pays_8 rfl (by decide) (fun cc => ?_) (fun cc => ?_)
  · have k := k.1 cc
    refine Rn.iload_n (n := 15) (i := 2) d_Us_pays_14 rfl rfl rfl ?_
    refine Rn.aload_n (n := 16) (i := 0) d_Us_pays_15 rfl rfl rfl ?_
    refine Rn.getf (n := 19) (v := vR [0, 0]) d_Us_pays_16 rfl fl_Us_12 Lv_0 rfl ?_
    obtain ⟨Q'9, ev6, k⟩ := k
    refine Rn.callV (n := 22) (av := []) d_Us_pays_19 rfl ml_Us_pays_143 mi_Pl_walkers Lv_0_0 rfl rfl rfl rfl (Nat.le_of_ble_eq_true rfl) ev6 (fun v h8 hq => ?_)
    obtain ⟨r10, rfl, hq⟩ := hq
    have k := k r10 h8 hq
    show Rn X m_Us_pays 22 [some (vR [0]), some (vI a1), some (vI a2), some (vI a3), some (vI a4)] [vI r10, vI a2] h8 Q
    obtain ⟨Q'14, ev11, k⟩ := k
    refine Rn.callS (n := 25) (av := [vI a2, vI r10]) d_Us_pays_22 rfl ml_Us_pays_146 ms_Us_areSizes rfl rfl (Nat.le_of_ble_eq_true rfl) ev11 (fun v h13 hq => ?_)
    obtain ⟨r15, rfl, hq⟩ := hq
    have k := k r15 h13 hq
    show Rn X m_Us_pays 25 [some (vR [0]), some (vI a1), some (vI a2), some (vI a3), some (vI a4)] [vI r15] h13 Q
    refine Rn.if_eq (n := 28) (t := 37) d_Us_pays_25 rfl (by decide) (fun cc => ?_) (fun cc => ?_)
    · have k := k.1 cc
      refine Rn.bipush (n := 39) (v := (-3)) d_Us_pays_37 rfl (by decide) ?_
      exact Rn.iret d_Us_pays_39 rfl rfl k
    · have k := k.2 cc
      refine Rn.iload_n (n := 29) (i := 3) d_Us_pays_28 rfl rfl rfl ?_
      refine Rn.iload (n := 31) (i := 4) d_Us_pays_29 rfl rfl ?_
      obtain ⟨Q'19, ev16, k⟩ := k
      refine Rn.callS (n := 34) (av := [vI a3, vI a4]) d_Us_pays_31 rfl ml_Us_pays_150 ms_Us_areNotCosts rfl rfl (Nat.le_of_ble_eq_true rfl) ev16 (fun v h18 hq => ?_)
      obtain ⟨r20, rfl, hq⟩ := hq
      have k := k r20 h18 hq
      show Rn X m_Us_pays 34 [some (vR [0]), some (vI a1), some (vI a2), some (vI a3), some (vI a4)] [vI r20] h18 Q
      refine Rn.if_eq (n := 37) (t := 40) d_Us_pays_34 rfl (by decide) (fun cc => ?_) (fun cc => ?_)
      · have k := k.1 cc
        refine Rn.aload_n (n := 41) (i := 0) d_Us_pays_40 rfl rfl rfl ?_
        refine Rn.getf (n := 44) (v := vR [0, 0]) d_Us_pays_41 rfl fl_Us_12 Lv_0 rfl ?_
        obtain ⟨Q'24, ev21, k⟩ := k
        refine Rn.callV (n := 47) (av := []) d_Us_pays_44 rfl ml_Us_pays_143 mi_Pl_walkers Lv_0_0 rfl rfl rfl rfl (Nat.le_of_ble_eq_true rfl) ev21 (fun v h23 hq => ?_)
        obtain ⟨r25, rfl, hq⟩ := hq
        have k := k r25 h23 hq
        show Rn X m_Us_pays 47 [some (vR [0]), some (vI a1), some (vI a2), some (vI a3), some (vI a4)] [vI r25] h23 Q
        refine Rn.iconst (n := 48) (v := 4) d_Us_pays_47 rfl (by decide) ?_
        refine Rn.icmp_le (n := 51) (t := 54) d_Us_pays_48 rfl (by decide) (fun cc => ?_) (fun cc => ?_)
        · have k := k.1 cc
          refine Rn.aload_n (n := 55) (i := 0) d_Us_pays_54 rfl rfl rfl ?_
          refine Rn.getf (n := 58) (v := vR [6, 0]) d_Us_pays_55 rfl fl_Us_43 Lv_0 rfl ?_
          refine Rn.aload_n (n := 59) (i := 0) d_Us_pays_58 rfl rfl rfl ?_
          refine Rn.getf (n := 62) (v := vR [0, 0]) d_Us_pays_59 rfl fl_Us_12 Lv_0 rfl ?_
          refine Rn.iload_n (n := 63) (i := 2) d_Us_pays_62 rfl rfl rfl ?_
          obtain ⟨Q'29, ev26, k⟩ := k
          refine Rn.callV (n := 66) (av := [vR [0, 0], vI a2]) d_Us_pays_63 rfl ml_Us_pays_153 mi_Tr_walkWith Lv_6_0 rfl rfl rfl rfl (Nat.le_of_ble_eq_true rfl) ev26 (fun v h28 hq => ?_)
          obtain ⟨rfl, hq⟩ := hq
          have k := k h28 hq
          show Rn X m_Us_pays 66 [some (vR [0]), some (vI a1), some (vI a2), some (vI a3), some (vI a4)] [] h28 Q
          refine Rn.aload_n (n := 67) (i := 0) d_Us_pays_66 rfl rfl rfl ?_
          refine Rn.getf (n := 70) (v := vR [6, 0]) d_Us_pays_67 rfl fl_Us_43 Lv_0 rfl ?_
          refine Rn.iload_n (n := 71) (i := 1) d_Us_pays_70 rfl rfl rfl ?_
          refine Rn.iload_n (n := 72) (i := 3) d_Us_pays_71 rfl rfl rfl ?_
          refine Rn.iload (n := 74) (i := 4) d_Us_pays_72 rfl rfl ?_
          obtain ⟨Q'33, ev30, k⟩ := k
          refine Rn.callV (n := 77) (av := [vI a1, vI a3, vI a4]) d_Us_pays_74 rfl ml_Us_pays_157 mi_Tr_paidBy Lv_6_0 rfl rfl rfl rfl (Nat.le_of_ble_eq_true rfl) ev30 (fun v h32 hq => ?_)
          obtain ⟨r34, rfl, hq⟩ := hq
          have k := k r34 h32 hq
          show Rn X m_Us_pays 77 [some (vR [0]), some (vI a1), some (vI a2), some (vI a3), some (vI a4)] [vI r34] h32 Q
          exact Rn.iret d_Us_pays_77 rfl rfl k
        · have k := k.2 cc
          refine Rn.bipush (n := 53) (v := (-4)) d_Us_pays_51 rfl (by decide) ?_
          exact Rn.iret d_Us_pays_53 rfl rfl k
      · have k := k.2 cc
        refine Rn.bipush (n := 39) (v := (-3)) d_Us_pays_37 rfl (by decide) ?_
        exact Rn.iret d_Us_pays_39 rfl rfl k
  · have k := k.2 cc
    refine Rn.bipush (n := 13) (v := (-2)) d_Us_pays_11 rfl (by decide) ?_
    exact Rn.iret d_Us_pays_13 rfl rfl k
theorem e_Us_pays {X : XS} (a1 : Int32) (a2 : Int32) (a3 : Int32) (a4 : Int32) (h : Hp) (Q : Option AV → Hp → Prop) (k : Rn X m_Us_pays 0 [some (vR [0]), some (vI a1), some (vI a2), some (vI a3), some (vI a4)] [] h Q) : Ev X m_Us_pays [vR [0], vI a1, vI a2, vI a3, vI a4] h Q := Ev.intro (plainFor_of_name (by decide +kernel)) (Nat.le_of_ble_eq_true rfl) (ls := [some (vR [0]), some (vI a1), some (vI a2), some (vI a3), some (vI a4)]) rfl k
theorem d_Us_rests_0 : decode m_Us_rests.2.1 0 = .ok (.iload_n 1, 1) := by decide +kernel
theorem d_Us_rests_1 : decode m_Us_rests.2.1 1 = .ok (.iload_n 2, 1) := by decide +kernel
theorem d_Us_rests_2 : decode m_Us_rests.2.1 2 = .ok (.invokestatic 150, 3) := by decide +kernel
theorem d_Us_rests_5 : decode m_Us_rests.2.1 5 = .ok (.ifCond .ne 12, 3) := by decide +kernel
theorem d_Us_rests_8 : decode m_Us_rests.2.1 8 = .ok (.iload_n 3, 1) := by decide +kernel
theorem d_Us_rests_9 : decode m_Us_rests.2.1 9 = .ok (.iconst 0, 1) := by decide +kernel
theorem d_Us_rests_10 : decode m_Us_rests.2.1 10 = .ok (.iconst 1, 1) := by decide +kernel
theorem d_Us_rests_11 : decode m_Us_rests.2.1 11 = .ok (.invokestatic 61, 3) := by decide +kernel
theorem d_Us_rests_14 : decode m_Us_rests.2.1 14 = .ok (.ifCond .eq 6, 3) := by decide +kernel
theorem d_Us_rests_17 : decode m_Us_rests.2.1 17 = .ok (.bipush (-3), 2) := by decide +kernel
theorem d_Us_rests_19 : decode m_Us_rests.2.1 19 = .ok (.ireturn, 1) := by decide +kernel
theorem d_Us_rests_20 : decode m_Us_rests.2.1 20 = .ok (.aload_n 0, 1) := by decide +kernel
theorem d_Us_rests_21 : decode m_Us_rests.2.1 21 = .ok (.getfield 12, 3) := by decide +kernel
theorem d_Us_rests_24 : decode m_Us_rests.2.1 24 = .ok (.invokevirtual 143, 3) := by decide +kernel
theorem d_Us_rests_27 : decode m_Us_rests.2.1 27 = .ok (.iconst 4, 1) := by decide +kernel
theorem d_Us_rests_28 : decode m_Us_rests.2.1 28 = .ok (.if_icmp .le 6, 3) := by decide +kernel
theorem d_Us_rests_31 : decode m_Us_rests.2.1 31 = .ok (.bipush (-4), 2) := by decide +kernel
theorem d_Us_rests_33 : decode m_Us_rests.2.1 33 = .ok (.ireturn, 1) := by decide +kernel
theorem d_Us_rests_34 : decode m_Us_rests.2.1 34 = .ok (.aload_n 0, 1) := by decide +kernel
theorem d_Us_rests_35 : decode m_Us_rests.2.1 35 = .ok (.getfield 43, 3) := by decide +kernel
theorem d_Us_rests_38 : decode m_Us_rests.2.1 38 = .ok (.aload_n 0, 1) := by decide +kernel
theorem d_Us_rests_39 : decode m_Us_rests.2.1 39 = .ok (.getfield 12, 3) := by decide +kernel
theorem d_Us_rests_42 : decode m_Us_rests.2.1 42 = .ok (.iload_n 1, 1) := by decide +kernel
theorem d_Us_rests_43 : decode m_Us_rests.2.1 43 = .ok (.iload_n 2, 1) := by decide +kernel
theorem d_Us_rests_44 : decode m_Us_rests.2.1 44 = .ok (.invokevirtual 161, 3) := by decide +kernel
theorem d_Us_rests_47 : decode m_Us_rests.2.1 47 = .ok (.iload_n 3, 1) := by decide +kernel
theorem d_Us_rests_48 : decode m_Us_rests.2.1 48 = .ok (.ifCond .ne 13, 3) := by decide +kernel
theorem d_Us_rests_51 : decode m_Us_rests.2.1 51 = .ok (.aload_n 0, 1) := by decide +kernel
theorem d_Us_rests_52 : decode m_Us_rests.2.1 52 = .ok (.getfield 43, 3) := by decide +kernel
theorem d_Us_rests_55 : decode m_Us_rests.2.1 55 = .ok (.getfield 165, 3) := by decide +kernel
theorem d_Us_rests_58 : decode m_Us_rests.2.1 58 = .ok (.goto 10, 3) := by decide +kernel
theorem d_Us_rests_61 : decode m_Us_rests.2.1 61 = .ok (.aload_n 0, 1) := by decide +kernel
theorem d_Us_rests_62 : decode m_Us_rests.2.1 62 = .ok (.getfield 43, 3) := by decide +kernel
theorem d_Us_rests_65 : decode m_Us_rests.2.1 65 = .ok (.getfield 168, 3) := by decide +kernel
theorem d_Us_rests_68 : decode m_Us_rests.2.1 68 = .ok (.ireturn, 1) := by decide +kernel
theorem g_Us_rests_0 {X : XS} (a1 : Int32) (a2 : Int32) (a3 : Int32) (h : Hp) (Q : Option AV → Hp → Prop)  (k : (∃ Q'4, EvI X m_Us_areNotCosts [vI a1, vI a2] h Q'4 ∧ ∀ (r5 : Int32) (h3 : Hp), Q'4 r5 h3 → ((¬ r5 = 0 → Q (some (vI (-3))) h3) ∧ (r5 = 0 → (∃ Q'9, EvI X m_Us_isNotIn [vI a3, vI 0, vI 1] h3 Q'9 ∧ ∀ (r10 : Int32) (h8 : Hp), Q'9 r10 h8 → ((r10 = 0 → (∃ Q'14, EvI X m_Pl_walkers [vR [0, 0]] h8 Q'14 ∧ ∀ (r15 : Int32) (h13 : Hp), Q'14 r15 h13 → ((r15 ≤ 4 → (∃ Q'19, EvV X m_Tr_seekRests [vR [6, 0], vR [0, 0], vI a1, vI a2] h13 Q'19 ∧ ∀ (h18 : Hp), Q'19 h18 → ((¬ a3 = 0 → Q (some (vI (h18.1 [6, 0] 4))) h18) ∧ (a3 = 0 → Q (some (vI (h18.1 [6, 0] 3))) h18)))) ∧ (¬ r15 ≤ 4 → Q (some (vI (-4))) h13)))) ∧ (¬ r10 = 0 → Q (some (vI (-3))) h8))))))) : Rn X m_Us_rests 0 [some (vR [0]), some (vI a1), some (vI a2), some (vI a3)] [] h Q := by
  refine Rn.iload_n (n := 1) (i := 1) d_Us_rests_0 rfl rfl rfl ?_
  refine Rn.iload_n (n := 2) (i := 2) d_Us_rests_1 rfl rfl rfl ?_
  obtain ⟨Q'4, ev1, k⟩ := k
  refine Rn.callS (n := 5) (av := [vI a1, vI a2]) d_Us_rests_2 rfl ml_Us_rests_150 ms_Us_areNotCosts rfl rfl (Nat.le_of_ble_eq_true rfl) ev1 (fun v h3 hq => ?_)
  obtain ⟨r5, rfl, hq⟩ := hq
  have k := k r5 h3 hq
  show Rn X m_Us_rests 5 [some (vR [0]), some (vI a1), some (vI a2), some (vI a3)] [vI r5] h3 Q
  refine Rn.if_ne (n := 8) (t := 17) d_Us_rests_5 rfl (by decide) (fun cc => ?_) (fun cc => ?_)
  · have k := k.1 cc
    refine Rn.bipush (n := 19) (v := (-3)) d_Us_rests_17 rfl (by decide) ?_
    exact Rn.iret d_Us_rests_19 rfl rfl k
  · have k := k.2 cc
    refine Rn.iload_n (n := 9) (i := 3) d_Us_rests_8 rfl rfl rfl ?_
    refine Rn.iconst (n := 10) (v := 0) d_Us_rests_9 rfl (by decide) ?_
    refine Rn.iconst (n := 11) (v := 1) d_Us_rests_10 rfl (by decide) ?_
    obtain ⟨Q'9, ev6, k⟩ := k
    refine Rn.callS (n := 14) (av := [vI a3, vI 0, vI 1]) d_Us_rests_11 rfl ml_Us_rests_61 ms_Us_isNotIn rfl rfl (Nat.le_of_ble_eq_true rfl) ev6 (fun v h8 hq => ?_)
    obtain ⟨r10, rfl, hq⟩ := hq
    have k := k r10 h8 hq
    show Rn X m_Us_rests 14 [some (vR [0]), some (vI a1), some (vI a2), some (vI a3)] [vI r10] h8 Q
    refine Rn.if_eq (n := 17) (t := 20) d_Us_rests_14 rfl (by decide) (fun cc => ?_) (fun cc => ?_)
    · have k := k.1 cc
      refine Rn.aload_n (n := 21) (i := 0) d_Us_rests_20 rfl rfl rfl ?_
      refine Rn.getf (n := 24) (v := vR [0, 0]) d_Us_rests_21 rfl fl_Us_12 Lv_0 rfl ?_
      obtain ⟨Q'14, ev11, k⟩ := k
      refine Rn.callV (n := 27) (av := []) d_Us_rests_24 rfl ml_Us_rests_143 mi_Pl_walkers Lv_0_0 rfl rfl rfl rfl (Nat.le_of_ble_eq_true rfl) ev11 (fun v h13 hq => ?_)
      obtain ⟨r15, rfl, hq⟩ := hq
      have k := k r15 h13 hq
      show Rn X m_Us_rests 27 [some (vR [0]), some (vI a1), some (vI a2), some (vI a3)] [vI r15] h13 Q
      refine Rn.iconst (n := 28) (v := 4) d_Us_rests_27 rfl (by decide) ?_
      refine Rn.icmp_le (n := 31) (t := 34) d_Us_rests_28 rfl (by decide) (fun cc => ?_) (fun cc => ?_)
      · have k := k.1 cc
        refine Rn.aload_n (n := 35) (i := 0) d_Us_rests_34 rfl rfl rfl ?_
        refine Rn.getf (n := 38) (v := vR [6, 0]) d_Us_rests_35 rfl fl_Us_43 Lv_0 rfl ?_
        refine Rn.aload_n (n := 39) (i := 0) d_Us_rests_38 rfl rfl rfl ?_
        refine Rn.getf (n := 42) (v := vR [0, 0]) d_Us_rests_39 rfl fl_Us_12 Lv_0 rfl ?_
        refine Rn.iload_n (n := 43) (i := 1) d_Us_rests_42 rfl rfl rfl ?_
        refine Rn.iload_n (n := 44) (i := 2) d_Us_rests_43 rfl rfl rfl ?_
        obtain ⟨Q'19, ev16, k⟩ := k
        refine Rn.callV (n := 47) (av := [vR [0, 0], vI a1, vI a2]) d_Us_rests_44 rfl ml_Us_rests_161 mi_Tr_seekRests Lv_6_0 rfl rfl rfl rfl (Nat.le_of_ble_eq_true rfl) ev16 (fun v h18 hq => ?_)
        obtain ⟨rfl, hq⟩ := hq
        have k := k h18 hq
        show Rn X m_Us_rests 47 [some (vR [0]), some (vI a1), some (vI a2), some (vI a3)] [] h18 Q
        refine Rn.iload_n (n := 48) (i := 3) d_Us_rests_47 rfl rfl rfl ?_
        refine Rn.if_ne (n := 51) (t := 61) d_Us_rests_48 rfl (by decide) (fun cc => ?_) (fun cc => ?_)
        · have k := k.1 cc
          refine Rn.aload_n (n := 62) (i := 0) d_Us_rests_61 rfl rfl rfl ?_
          refine Rn.getf (n := 65) (v := vR [6, 0]) d_Us_rests_62 rfl fl_Us_43 Lv_0 rfl ?_
          refine Rn.getf (n := 68) (v := vI (h18.1 [6, 0] 4)) d_Us_rests_65 rfl fl_Us_168 Lv_6_0 rfl ?_
          exact Rn.iret d_Us_rests_68 rfl rfl k
        · have k := k.2 cc
          refine Rn.aload_n (n := 52) (i := 0) d_Us_rests_51 rfl rfl rfl ?_
          refine Rn.getf (n := 55) (v := vR [6, 0]) d_Us_rests_52 rfl fl_Us_43 Lv_0 rfl ?_
          refine Rn.getf (n := 58) (v := vI (h18.1 [6, 0] 3)) d_Us_rests_55 rfl fl_Us_165 Lv_6_0 rfl ?_
          refine Rn.goto (n := 68) d_Us_rests_58 (by decide) ?_
          exact Rn.iret d_Us_rests_68 rfl rfl k
      · have k := k.2 cc
        refine Rn.bipush (n := 33) (v := (-4)) d_Us_rests_31 rfl (by decide) ?_
        exact Rn.iret d_Us_rests_33 rfl rfl k
    · have k := k.2 cc
      refine Rn.bipush (n := 19) (v := (-3)) d_Us_rests_17 rfl (by decide) ?_
      exact Rn.iret d_Us_rests_19 rfl rfl k
theorem e_Us_rests {X : XS} (a1 : Int32) (a2 : Int32) (a3 : Int32) (h : Hp) (Q : Option AV → Hp → Prop) (k : Rn X m_Us_rests 0 [some (vR [0]), some (vI a1), some (vI a2), some (vI a3)] [] h Q) : Ev X m_Us_rests [vR [0], vI a1, vI a2, vI a3] h Q := Ev.intro (plainFor_of_name (by decide +kernel)) (Nat.le_of_ble_eq_true rfl) (ls := [some (vR [0]), some (vI a1), some (vI a2), some (vI a3)]) rfl k
theorem d_Us_common_0 : decode m_Us_common.2.1 0 = .ok (.iload_n 1, 1) := by decide +kernel
theorem d_Us_common_1 : decode m_Us_common.2.1 1 = .ok (.iload_n 2, 1) := by decide +kernel
theorem d_Us_common_2 : decode m_Us_common.2.1 2 = .ok (.invokestatic 150, 3) := by decide +kernel
theorem d_Us_common_5 : decode m_Us_common.2.1 5 = .ok (.ifCond .ne 12, 3) := by decide +kernel
theorem d_Us_common_8 : decode m_Us_common.2.1 8 = .ok (.iload_n 3, 1) := by decide +kernel
theorem d_Us_common_9 : decode m_Us_common.2.1 9 = .ok (.iconst 0, 1) := by decide +kernel
theorem d_Us_common_10 : decode m_Us_common.2.1 10 = .ok (.iconst 1, 1) := by decide +kernel
theorem d_Us_common_11 : decode m_Us_common.2.1 11 = .ok (.invokestatic 61, 3) := by decide +kernel
theorem d_Us_common_14 : decode m_Us_common.2.1 14 = .ok (.ifCond .eq 6, 3) := by decide +kernel
theorem d_Us_common_17 : decode m_Us_common.2.1 17 = .ok (.bipush (-3), 2) := by decide +kernel
theorem d_Us_common_19 : decode m_Us_common.2.1 19 = .ok (.ireturn, 1) := by decide +kernel
theorem d_Us_common_20 : decode m_Us_common.2.1 20 = .ok (.aload_n 0, 1) := by decide +kernel
theorem d_Us_common_21 : decode m_Us_common.2.1 21 = .ok (.getfield 12, 3) := by decide +kernel
theorem d_Us_common_24 : decode m_Us_common.2.1 24 = .ok (.invokevirtual 143, 3) := by decide +kernel
theorem d_Us_common_27 : decode m_Us_common.2.1 27 = .ok (.iconst 4, 1) := by decide +kernel
theorem d_Us_common_28 : decode m_Us_common.2.1 28 = .ok (.if_icmp .le 6, 3) := by decide +kernel
theorem d_Us_common_31 : decode m_Us_common.2.1 31 = .ok (.bipush (-4), 2) := by decide +kernel
theorem d_Us_common_33 : decode m_Us_common.2.1 33 = .ok (.ireturn, 1) := by decide +kernel
theorem d_Us_common_34 : decode m_Us_common.2.1 34 = .ok (.aload_n 0, 1) := by decide +kernel
theorem d_Us_common_35 : decode m_Us_common.2.1 35 = .ok (.getfield 43, 3) := by decide +kernel
theorem d_Us_common_38 : decode m_Us_common.2.1 38 = .ok (.aload_n 0, 1) := by decide +kernel
theorem d_Us_common_39 : decode m_Us_common.2.1 39 = .ok (.getfield 12, 3) := by decide +kernel
theorem d_Us_common_42 : decode m_Us_common.2.1 42 = .ok (.iload_n 1, 1) := by decide +kernel
theorem d_Us_common_43 : decode m_Us_common.2.1 43 = .ok (.iload_n 2, 1) := by decide +kernel
theorem d_Us_common_44 : decode m_Us_common.2.1 44 = .ok (.invokevirtual 171, 3) := by decide +kernel
theorem d_Us_common_47 : decode m_Us_common.2.1 47 = .ok (.iload_n 3, 1) := by decide +kernel
theorem d_Us_common_48 : decode m_Us_common.2.1 48 = .ok (.ifCond .ne 13, 3) := by decide +kernel
theorem d_Us_common_51 : decode m_Us_common.2.1 51 = .ok (.aload_n 0, 1) := by decide +kernel
theorem d_Us_common_52 : decode m_Us_common.2.1 52 = .ok (.getfield 43, 3) := by decide +kernel
theorem d_Us_common_55 : decode m_Us_common.2.1 55 = .ok (.getfield 174, 3) := by decide +kernel
theorem d_Us_common_58 : decode m_Us_common.2.1 58 = .ok (.goto 10, 3) := by decide +kernel
theorem d_Us_common_61 : decode m_Us_common.2.1 61 = .ok (.aload_n 0, 1) := by decide +kernel
theorem d_Us_common_62 : decode m_Us_common.2.1 62 = .ok (.getfield 43, 3) := by decide +kernel
theorem d_Us_common_65 : decode m_Us_common.2.1 65 = .ok (.getfield 177, 3) := by decide +kernel
theorem d_Us_common_68 : decode m_Us_common.2.1 68 = .ok (.ireturn, 1) := by decide +kernel
theorem g_Us_common_0 {X : XS} (a1 : Int32) (a2 : Int32) (a3 : Int32) (h : Hp) (Q : Option AV → Hp → Prop)  (k : (∃ Q'4, EvI X m_Us_areNotCosts [vI a1, vI a2] h Q'4 ∧ ∀ (r5 : Int32) (h3 : Hp), Q'4 r5 h3 → ((¬ r5 = 0 → Q (some (vI (-3))) h3) ∧ (r5 = 0 → (∃ Q'9, EvI X m_Us_isNotIn [vI a3, vI 0, vI 1] h3 Q'9 ∧ ∀ (r10 : Int32) (h8 : Hp), Q'9 r10 h8 → ((r10 = 0 → (∃ Q'14, EvI X m_Pl_walkers [vR [0, 0]] h8 Q'14 ∧ ∀ (r15 : Int32) (h13 : Hp), Q'14 r15 h13 → ((r15 ≤ 4 → (∃ Q'19, EvV X m_Tr_seekCommon [vR [6, 0], vR [0, 0], vI a1, vI a2] h13 Q'19 ∧ ∀ (h18 : Hp), Q'19 h18 → ((¬ a3 = 0 → Q (some (vI (h18.1 [6, 0] 6))) h18) ∧ (a3 = 0 → Q (some (vI (h18.1 [6, 0] 5))) h18)))) ∧ (¬ r15 ≤ 4 → Q (some (vI (-4))) h13)))) ∧ (¬ r10 = 0 → Q (some (vI (-3))) h8))))))) : Rn X m_Us_common 0 [some (vR [0]), some (vI a1), some (vI a2), some (vI a3)] [] h Q := by
  refine Rn.iload_n (n := 1) (i := 1) d_Us_common_0 rfl rfl rfl ?_
  refine Rn.iload_n (n := 2) (i := 2) d_Us_common_1 rfl rfl rfl ?_
  obtain ⟨Q'4, ev1, k⟩ := k
  refine Rn.callS (n := 5) (av := [vI a1, vI a2]) d_Us_common_2 rfl ml_Us_common_150 ms_Us_areNotCosts rfl rfl (Nat.le_of_ble_eq_true rfl) ev1 (fun v h3 hq => ?_)
  obtain ⟨r5, rfl, hq⟩ := hq
  have k := k r5 h3 hq
  show Rn X m_Us_common 5 [some (vR [0]), some (vI a1), some (vI a2), some (vI a3)] [vI r5] h3 Q
  refine Rn.if_ne (n := 8) (t := 17) d_Us_common_5 rfl (by decide) (fun cc => ?_) (fun cc => ?_)
  · have k := k.1 cc
    refine Rn.bipush (n := 19) (v := (-3)) d_Us_common_17 rfl (by decide) ?_
    exact Rn.iret d_Us_common_19 rfl rfl k
  · have k := k.2 cc
    refine Rn.iload_n (n := 9) (i := 3) d_Us_common_8 rfl rfl rfl ?_
    refine Rn.iconst (n := 10) (v := 0) d_Us_common_9 rfl (by decide) ?_
    refine Rn.iconst (n := 11) (v := 1) d_Us_common_10 rfl (by decide) ?_
    obtain ⟨Q'9, ev6, k⟩ := k
    refine Rn.callS (n := 14) (av := [vI a3, vI 0, vI 1]) d_Us_common_11 rfl ml_Us_common_61 ms_Us_isNotIn rfl rfl (Nat.le_of_ble_eq_true rfl) ev6 (fun v h8 hq => ?_)
    obtain ⟨r10, rfl, hq⟩ := hq
    have k := k r10 h8 hq
    show Rn X m_Us_common 14 [some (vR [0]), some (vI a1), some (vI a2), some (vI a3)] [vI r10] h8 Q
    refine Rn.if_eq (n := 17) (t := 20) d_Us_common_14 rfl (by decide) (fun cc => ?_) (fun cc => ?_)
    · have k := k.1 cc
      refine Rn.aload_n (n := 21) (i := 0) d_Us_common_20 rfl rfl rfl ?_
      refine Rn.getf (n := 24) (v := vR [0, 0]) d_Us_common_21 rfl fl_Us_12 Lv_0 rfl ?_
      obtain ⟨Q'14, ev11, k⟩ := k
      refine Rn.callV (n := 27) (av := []) d_Us_common_24 rfl ml_Us_common_143 mi_Pl_walkers Lv_0_0 rfl rfl rfl rfl (Nat.le_of_ble_eq_true rfl) ev11 (fun v h13 hq => ?_)
      obtain ⟨r15, rfl, hq⟩ := hq
      have k := k r15 h13 hq
      show Rn X m_Us_common 27 [some (vR [0]), some (vI a1), some (vI a2), some (vI a3)] [vI r15] h13 Q
      refine Rn.iconst (n := 28) (v := 4) d_Us_common_27 rfl (by decide) ?_
      refine Rn.icmp_le (n := 31) (t := 34) d_Us_common_28 rfl (by decide) (fun cc => ?_) (fun cc => ?_)
      · have k := k.1 cc
        refine Rn.aload_n (n := 35) (i := 0) d_Us_common_34 rfl rfl rfl ?_
        refine Rn.getf (n := 38) (v := vR [6, 0]) d_Us_common_35 rfl fl_Us_43 Lv_0 rfl ?_
        refine Rn.aload_n (n := 39) (i := 0) d_Us_common_38 rfl rfl rfl ?_
        refine Rn.getf (n := 42) (v := vR [0, 0]) d_Us_common_39 rfl fl_Us_12 Lv_0 rfl ?_
        refine Rn.iload_n (n := 43) (i := 1) d_Us_common_42 rfl rfl rfl ?_
        refine Rn.iload_n (n := 44) (i := 2) d_Us_common_43 rfl rfl rfl ?_
        obtain ⟨Q'19, ev16, k⟩ := k
        refine Rn.callV (n := 47) (av := [vR [0, 0], vI a1, vI a2]) d_Us_common_44 rfl ml_Us_common_171 mi_Tr_seekCommon Lv_6_0 rfl rfl rfl rfl (Nat.le_of_ble_eq_true rfl) ev16 (fun v h18 hq => ?_)
        obtain ⟨rfl, hq⟩ := hq
        have k := k h18 hq
        show Rn X m_Us_common 47 [some (vR [0]), some (vI a1), some (vI a2), some (vI a3)] [] h18 Q
        refine Rn.iload_n (n := 48) (i := 3) d_Us_common_47 rfl rfl rfl ?_
        refine Rn.if_ne (n := 51) (t := 61) d_Us_common_48 rfl (by decide) (fun cc => ?_) (fun cc => ?_)
        · have k := k.1 cc
          refine Rn.aload_n (n := 62) (i := 0) d_Us_common_61 rfl rfl rfl ?_
          refine Rn.getf (n := 65) (v := vR [6, 0]) d_Us_common_62 rfl fl_Us_43 Lv_0 rfl ?_
          refine Rn.getf (n := 68) (v := vI (h18.1 [6, 0] 6)) d_Us_common_65 rfl fl_Us_177 Lv_6_0 rfl ?_
          exact Rn.iret d_Us_common_68 rfl rfl k
        · have k := k.2 cc
          refine Rn.aload_n (n := 52) (i := 0) d_Us_common_51 rfl rfl rfl ?_
          refine Rn.getf (n := 55) (v := vR [6, 0]) d_Us_common_52 rfl fl_Us_43 Lv_0 rfl ?_
          refine Rn.getf (n := 58) (v := vI (h18.1 [6, 0] 5)) d_Us_common_55 rfl fl_Us_174 Lv_6_0 rfl ?_
          refine Rn.goto (n := 68) d_Us_common_58 (by decide) ?_
          exact Rn.iret d_Us_common_68 rfl rfl k
      · have k := k.2 cc
        refine Rn.bipush (n := 33) (v := (-4)) d_Us_common_31 rfl (by decide) ?_
        exact Rn.iret d_Us_common_33 rfl rfl k
    · have k := k.2 cc
      refine Rn.bipush (n := 19) (v := (-3)) d_Us_common_17 rfl (by decide) ?_
      exact Rn.iret d_Us_common_19 rfl rfl k
theorem e_Us_common {X : XS} (a1 : Int32) (a2 : Int32) (a3 : Int32) (h : Hp) (Q : Option AV → Hp → Prop) (k : Rn X m_Us_common 0 [some (vR [0]), some (vI a1), some (vI a2), some (vI a3)] [] h Q) : Ev X m_Us_common [vR [0], vI a1, vI a2, vI a3] h Q := Ev.intro (plainFor_of_name (by decide +kernel)) (Nat.le_of_ble_eq_true rfl) (ls := [some (vR [0]), some (vI a1), some (vI a2), some (vI a3)]) rfl k
theorem d_Us_areSizes_0 : decode m_Us_areSizes.2.1 0 = .ok (.iconst 0, 1) := by decide +kernel
theorem d_Us_areSizes_1 : decode m_Us_areSizes.2.1 1 = .ok (.istore_n 2, 1) := by decide +kernel
theorem d_Us_areSizes_2 : decode m_Us_areSizes.2.1 2 = .ok (.iload_n 2, 1) := by decide +kernel
theorem d_Us_areSizes_3 : decode m_Us_areSizes.2.1 3 = .ok (.iload_n 1, 1) := by decide +kernel
theorem d_Us_areSizes_4 : decode m_Us_areSizes.2.1 4 = .ok (.if_icmp .ge 28, 3) := by decide +kernel
theorem d_Us_areSizes_7 : decode m_Us_areSizes.2.1 7 = .ok (.iload_n 2, 1) := by decide +kernel
theorem d_Us_areSizes_8 : decode m_Us_areSizes.2.1 8 = .ok (.bipush 6, 2) := by decide +kernel
theorem d_Us_areSizes_10 : decode m_Us_areSizes.2.1 10 = .ok (.if_icmp .ge 22, 3) := by decide +kernel
theorem d_Us_areSizes_13 : decode m_Us_areSizes.2.1 13 = .ok (.iload_n 0, 1) := by decide +kernel
theorem d_Us_areSizes_14 : decode m_Us_areSizes.2.1 14 = .ok (.iconst 2, 1) := by decide +kernel
theorem d_Us_areSizes_15 : decode m_Us_areSizes.2.1 15 = .ok (.iload_n 2, 1) := by decide +kernel
theorem d_Us_areSizes_16 : decode m_Us_areSizes.2.1 16 = .ok (.imul, 1) := by decide +kernel
theorem d_Us_areSizes_17 : decode m_Us_areSizes.2.1 17 = .ok (.ishr, 1) := by decide +kernel
theorem d_Us_areSizes_18 : decode m_Us_areSizes.2.1 18 = .ok (.iconst 3, 1) := by decide +kernel
theorem d_Us_areSizes_19 : decode m_Us_areSizes.2.1 19 = .ok (.iand, 1) := by decide +kernel
theorem d_Us_areSizes_20 : decode m_Us_areSizes.2.1 20 = .ok (.iconst 2, 1) := by decide +kernel
theorem d_Us_areSizes_21 : decode m_Us_areSizes.2.1 21 = .ok (.if_icmp .le 5, 3) := by decide +kernel
theorem d_Us_areSizes_24 : decode m_Us_areSizes.2.1 24 = .ok (.iconst 0, 1) := by decide +kernel
theorem d_Us_areSizes_25 : decode m_Us_areSizes.2.1 25 = .ok (.ireturn, 1) := by decide +kernel
theorem d_Us_areSizes_26 : decode m_Us_areSizes.2.1 26 = .ok (.iinc 2 1, 3) := by decide +kernel
theorem d_Us_areSizes_29 : decode m_Us_areSizes.2.1 29 = .ok (.goto (-27), 3) := by decide +kernel
theorem d_Us_areSizes_32 : decode m_Us_areSizes.2.1 32 = .ok (.iconst 1, 1) := by decide +kernel
theorem d_Us_areSizes_33 : decode m_Us_areSizes.2.1 33 = .ok (.ireturn, 1) := by decide +kernel
theorem g_Us_areSizes_0 {X : XS} (a0 : Int32) (a1 : Int32) (h : Hp) (Q : Option AV → Hp → Prop)  (k : Rn X m_Us_areSizes 2 [some (vI a0), some (vI a1), some (vI 0)] [] h Q) : Rn X m_Us_areSizes 0 [some (vI a0), some (vI a1), none] [] h Q := by
  refine Rn.iconst (n := 1) (v := 0) d_Us_areSizes_0 rfl (by decide) ?_
  refine Rn.istore_n (n := 2) (i := 2) (ls2 := [some (vI a0), some (vI a1), some (vI 0)]) d_Us_areSizes_1 rfl rfl (Nat.le_of_ble_eq_true rfl) rfl ?_
  exact k
theorem g_Us_areSizes_2 {X : XS} (a0 : Int32) (a1 : Int32) (a2 : Int32) (h : Hp) (Q : Option AV → Hp → Prop)  (k : ((a1 ≤ a2 → Q (some (vI 1)) h) ∧ (¬ a1 ≤ a2 → ((6 ≤ a2 → Q (some (vI 1)) h) ∧ (¬ 6 ≤ a2 → ((((iShr a0 (2 * a2)) &&& 3) ≤ 2 → Rn X m_Us_areSizes 2 [some (vI a0), some (vI a1), some (vI (a2 + 1))] [] h Q) ∧ (¬ ((iShr a0 (2 * a2)) &&& 3) ≤ 2 → Q (some (vI 0)) h))))))) : Rn X m_Us_areSizes 2 [some (vI a0), some (vI a1), some (vI a2)] [] h Q := by
  refine Rn.iload_n (n := 3) (i := 2) d_Us_areSizes_2 rfl rfl rfl ?_
  refine Rn.iload_n (n := 4) (i := 1) d_Us_areSizes_3 rfl rfl rfl ?_
  refine Rn.icmp_ge (n := 7) (t := 32) d_Us_areSizes_4 rfl (by decide) (fun cc => ?_) (fun cc => ?_)
  · have k := k.1 cc
    refine Rn.iconst (n := 33) (v := 1) d_Us_areSizes_32 rfl (by decide) ?_
    exact Rn.iret d_Us_areSizes_33 rfl rfl k
  · have k := k.2 cc
    refine Rn.iload_n (n := 8) (i := 2) d_Us_areSizes_7 rfl rfl rfl ?_
    refine Rn.bipush (n := 10) (v := 6) d_Us_areSizes_8 rfl (by decide) ?_
    refine Rn.icmp_ge (n := 13) (t := 32) d_Us_areSizes_10 rfl (by decide) (fun cc => ?_) (fun cc => ?_)
    · have k := k.1 cc
      refine Rn.iconst (n := 33) (v := 1) d_Us_areSizes_32 rfl (by decide) ?_
      exact Rn.iret d_Us_areSizes_33 rfl rfl k
    · have k := k.2 cc
      refine Rn.iload_n (n := 14) (i := 0) d_Us_areSizes_13 rfl rfl rfl ?_
      refine Rn.iconst (n := 15) (v := 2) d_Us_areSizes_14 rfl (by decide) ?_
      refine Rn.iload_n (n := 16) (i := 2) d_Us_areSizes_15 rfl rfl rfl ?_
      refine Rn.imul (n := 17) d_Us_areSizes_16 rfl ?_
      refine Rn.ishr (n := 18) d_Us_areSizes_17 rfl ?_
      refine Rn.iconst (n := 19) (v := 3) d_Us_areSizes_18 rfl (by decide) ?_
      refine Rn.iand (n := 20) d_Us_areSizes_19 rfl ?_
      refine Rn.iconst (n := 21) (v := 2) d_Us_areSizes_20 rfl (by decide) ?_
      refine Rn.icmp_le (n := 24) (t := 26) d_Us_areSizes_21 rfl (by decide) (fun cc => ?_) (fun cc => ?_)
      · have k := k.1 cc
        refine Rn.iinc (n := 29) (i := 2) (v := a2 + 1) (ls2 := [some (vI a0), some (vI a1), some (vI (a2 + 1))]) d_Us_areSizes_26 rfl rfl rfl (Nat.le_of_ble_eq_true rfl) rfl ?_
        refine Rn.goto (n := 2) d_Us_areSizes_29 (by decide) ?_
        exact k
      · have k := k.2 cc
        refine Rn.iconst (n := 25) (v := 0) d_Us_areSizes_24 rfl (by decide) ?_
        exact Rn.iret d_Us_areSizes_25 rfl rfl k
theorem e_Us_areSizes {X : XS} (a0 : Int32) (a1 : Int32) (h : Hp) (Q : Option AV → Hp → Prop) (k : Rn X m_Us_areSizes 0 [some (vI a0), some (vI a1), none] [] h Q) : Ev X m_Us_areSizes [vI a0, vI a1] h Q := Ev.intro (plainFor_of_name (by decide +kernel)) (Nat.le_of_ble_eq_true rfl) (ls := [some (vI a0), some (vI a1), none]) rfl k
theorem d_Us_areNotCosts_0 : decode m_Us_areNotCosts.2.1 0 = .ok (.iload_n 0, 1) := by decide +kernel
theorem d_Us_areNotCosts_1 : decode m_Us_areNotCosts.2.1 1 = .ok (.iconst 0, 1) := by decide +kernel
theorem d_Us_areNotCosts_2 : decode m_Us_areNotCosts.2.1 2 = .ok (.bipush 99, 2) := by decide +kernel
theorem d_Us_areNotCosts_4 : decode m_Us_areNotCosts.2.1 4 = .ok (.invokestatic 61, 3) := by decide +kernel
theorem d_Us_areNotCosts_7 : decode m_Us_areNotCosts.2.1 7 = .ok (.ifCond .ne 13, 3) := by decide +kernel
theorem d_Us_areNotCosts_10 : decode m_Us_areNotCosts.2.1 10 = .ok (.iload_n 1, 1) := by decide +kernel
theorem d_Us_areNotCosts_11 : decode m_Us_areNotCosts.2.1 11 = .ok (.iconst 0, 1) := by decide +kernel
theorem d_Us_areNotCosts_12 : decode m_Us_areNotCosts.2.1 12 = .ok (.bipush 99, 2) := by decide +kernel
theorem d_Us_areNotCosts_14 : decode m_Us_areNotCosts.2.1 14 = .ok (.invokestatic 61, 3) := by decide +kernel
theorem d_Us_areNotCosts_17 : decode m_Us_areNotCosts.2.1 17 = .ok (.ifCond .eq 7, 3) := by decide +kernel
theorem d_Us_areNotCosts_20 : decode m_Us_areNotCosts.2.1 20 = .ok (.iconst 1, 1) := by decide +kernel
theorem d_Us_areNotCosts_21 : decode m_Us_areNotCosts.2.1 21 = .ok (.goto 4, 3) := by decide +kernel
theorem d_Us_areNotCosts_24 : decode m_Us_areNotCosts.2.1 24 = .ok (.iconst 0, 1) := by decide +kernel
theorem d_Us_areNotCosts_25 : decode m_Us_areNotCosts.2.1 25 = .ok (.ireturn, 1) := by decide +kernel
theorem g_Us_areNotCosts_0 {X : XS} (a0 : Int32) (a1 : Int32) (h : Hp) (Q : Option AV → Hp → Prop)  (k : (∃ Q'4, EvI X m_Us_isNotIn [vI a0, vI 0, vI 99] h Q'4 ∧ ∀ (r5 : Int32) (h3 : Hp), Q'4 r5 h3 → ((¬ r5 = 0 → Q (some (vI 1)) h3) ∧ (r5 = 0 → (∃ Q'9, EvI X m_Us_isNotIn [vI a1, vI 0, vI 99] h3 Q'9 ∧ ∀ (r10 : Int32) (h8 : Hp), Q'9 r10 h8 → ((r10 = 0 → Q (some (vI 0)) h8) ∧ (¬ r10 = 0 → Q (some (vI 1)) h8))))))) : Rn X m_Us_areNotCosts 0 [some (vI a0), some (vI a1)] [] h Q := by
  refine Rn.iload_n (n := 1) (i := 0) d_Us_areNotCosts_0 rfl rfl rfl ?_
  refine Rn.iconst (n := 2) (v := 0) d_Us_areNotCosts_1 rfl (by decide) ?_
  refine Rn.bipush (n := 4) (v := 99) d_Us_areNotCosts_2 rfl (by decide) ?_
  obtain ⟨Q'4, ev1, k⟩ := k
  refine Rn.callS (n := 7) (av := [vI a0, vI 0, vI 99]) d_Us_areNotCosts_4 rfl ml_Us_areNotCosts_61 ms_Us_isNotIn rfl rfl (Nat.le_of_ble_eq_true rfl) ev1 (fun v h3 hq => ?_)
  obtain ⟨r5, rfl, hq⟩ := hq
  have k := k r5 h3 hq
  show Rn X m_Us_areNotCosts 7 [some (vI a0), some (vI a1)] [vI r5] h3 Q
  refine Rn.if_ne (n := 10) (t := 20) d_Us_areNotCosts_7 rfl (by decide) (fun cc => ?_) (fun cc => ?_)
  · have k := k.1 cc
    refine Rn.iconst (n := 21) (v := 1) d_Us_areNotCosts_20 rfl (by decide) ?_
    refine Rn.goto (n := 25) d_Us_areNotCosts_21 (by decide) ?_
    exact Rn.iret d_Us_areNotCosts_25 rfl rfl k
  · have k := k.2 cc
    refine Rn.iload_n (n := 11) (i := 1) d_Us_areNotCosts_10 rfl rfl rfl ?_
    refine Rn.iconst (n := 12) (v := 0) d_Us_areNotCosts_11 rfl (by decide) ?_
    refine Rn.bipush (n := 14) (v := 99) d_Us_areNotCosts_12 rfl (by decide) ?_
    obtain ⟨Q'9, ev6, k⟩ := k
    refine Rn.callS (n := 17) (av := [vI a1, vI 0, vI 99]) d_Us_areNotCosts_14 rfl ml_Us_areNotCosts_61 ms_Us_isNotIn rfl rfl (Nat.le_of_ble_eq_true rfl) ev6 (fun v h8 hq => ?_)
    obtain ⟨r10, rfl, hq⟩ := hq
    have k := k r10 h8 hq
    show Rn X m_Us_areNotCosts 17 [some (vI a0), some (vI a1)] [vI r10] h8 Q
    refine Rn.if_eq (n := 20) (t := 24) d_Us_areNotCosts_17 rfl (by decide) (fun cc => ?_) (fun cc => ?_)
    · have k := k.1 cc
      refine Rn.iconst (n := 25) (v := 0) d_Us_areNotCosts_24 rfl (by decide) ?_
      exact Rn.iret d_Us_areNotCosts_25 rfl rfl k
    · have k := k.2 cc
      refine Rn.iconst (n := 21) (v := 1) d_Us_areNotCosts_20 rfl (by decide) ?_
      refine Rn.goto (n := 25) d_Us_areNotCosts_21 (by decide) ?_
      exact Rn.iret d_Us_areNotCosts_25 rfl rfl k
theorem e_Us_areNotCosts {X : XS} (a0 : Int32) (a1 : Int32) (h : Hp) (Q : Option AV → Hp → Prop) (k : Rn X m_Us_areNotCosts 0 [some (vI a0), some (vI a1)] [] h Q) : Ev X m_Us_areNotCosts [vI a0, vI a1] h Q := Ev.intro (plainFor_of_name (by decide +kernel)) (Nat.le_of_ble_eq_true rfl) (ls := [some (vI a0), some (vI a1)]) rfl k
theorem d_Us_stand_0 : decode m_Us_stand.2.1 0 = .ok (.iload_n 1, 1) := by decide +kernel
theorem d_Us_stand_1 : decode m_Us_stand.2.1 1 = .ok (.iconst 0, 1) := by decide +kernel
theorem d_Us_stand_2 : decode m_Us_stand.2.1 2 = .ok (.bipush 19, 2) := by decide +kernel
theorem d_Us_stand_4 : decode m_Us_stand.2.1 4 = .ok (.invokestatic 61, 3) := by decide +kernel
theorem d_Us_stand_7 : decode m_Us_stand.2.1 7 = .ok (.ifCond .ne 22, 3) := by decide +kernel
theorem d_Us_stand_10 : decode m_Us_stand.2.1 10 = .ok (.iload_n 2, 1) := by decide +kernel
theorem d_Us_stand_11 : decode m_Us_stand.2.1 11 = .ok (.iconst 0, 1) := by decide +kernel
theorem d_Us_stand_12 : decode m_Us_stand.2.1 12 = .ok (.iconst 3, 1) := by decide +kernel
theorem d_Us_stand_13 : decode m_Us_stand.2.1 13 = .ok (.invokestatic 61, 3) := by decide +kernel
theorem d_Us_stand_16 : decode m_Us_stand.2.1 16 = .ok (.ifCond .ne 13, 3) := by decide +kernel
theorem d_Us_stand_19 : decode m_Us_stand.2.1 19 = .ok (.iload_n 3, 1) := by decide +kernel
theorem d_Us_stand_20 : decode m_Us_stand.2.1 20 = .ok (.iconst 0, 1) := by decide +kernel
theorem d_Us_stand_21 : decode m_Us_stand.2.1 21 = .ok (.bipush 9, 2) := by decide +kernel
theorem d_Us_stand_23 : decode m_Us_stand.2.1 23 = .ok (.invokestatic 61, 3) := by decide +kernel
theorem d_Us_stand_26 : decode m_Us_stand.2.1 26 = .ok (.ifCond .eq 6, 3) := by decide +kernel
theorem d_Us_stand_29 : decode m_Us_stand.2.1 29 = .ok (.bipush (-3), 2) := by decide +kernel
theorem d_Us_stand_31 : decode m_Us_stand.2.1 31 = .ok (.ireturn, 1) := by decide +kernel
theorem d_Us_stand_32 : decode m_Us_stand.2.1 32 = .ok (.aload_n 0, 1) := by decide +kernel
theorem d_Us_stand_33 : decode m_Us_stand.2.1 33 = .ok (.getfield 50, 3) := by decide +kernel
theorem d_Us_stand_36 : decode m_Us_stand.2.1 36 = .ok (.iload_n 1, 1) := by decide +kernel
theorem d_Us_stand_37 : decode m_Us_stand.2.1 37 = .ok (.invokevirtual 180, 3) := by decide +kernel
theorem d_Us_stand_40 : decode m_Us_stand.2.1 40 = .ok (.ifCond .eq 6, 3) := by decide +kernel
theorem d_Us_stand_43 : decode m_Us_stand.2.1 43 = .ok (.bipush (-4), 2) := by decide +kernel
theorem d_Us_stand_45 : decode m_Us_stand.2.1 45 = .ok (.ireturn, 1) := by decide +kernel
theorem d_Us_stand_46 : decode m_Us_stand.2.1 46 = .ok (.aload_n 0, 1) := by decide +kernel
theorem d_Us_stand_47 : decode m_Us_stand.2.1 47 = .ok (.getfield 50, 3) := by decide +kernel
theorem d_Us_stand_50 : decode m_Us_stand.2.1 50 = .ok (.iload_n 1, 1) := by decide +kernel
theorem d_Us_stand_51 : decode m_Us_stand.2.1 51 = .ok (.iload_n 2, 1) := by decide +kernel
theorem d_Us_stand_52 : decode m_Us_stand.2.1 52 = .ok (.iload_n 3, 1) := by decide +kernel
theorem d_Us_stand_53 : decode m_Us_stand.2.1 53 = .ok (.invokevirtual 183, 3) := by decide +kernel
theorem d_Us_stand_56 : decode m_Us_stand.2.1 56 = .ok (.ifCond .eq 13, 3) := by decide +kernel
theorem d_Us_stand_59 : decode m_Us_stand.2.1 59 = .ok (.aload_n 0, 1) := by decide +kernel
theorem d_Us_stand_60 : decode m_Us_stand.2.1 60 = .ok (.getfield 50, 3) := by decide +kernel
theorem d_Us_stand_63 : decode m_Us_stand.2.1 63 = .ok (.getfield 186, 3) := by decide +kernel
theorem d_Us_stand_66 : decode m_Us_stand.2.1 66 = .ok (.goto 5, 3) := by decide +kernel
theorem d_Us_stand_69 : decode m_Us_stand.2.1 69 = .ok (.bipush (-5), 2) := by decide +kernel
theorem d_Us_stand_71 : decode m_Us_stand.2.1 71 = .ok (.ireturn, 1) := by decide +kernel
theorem g_Us_stand_0 {X : XS} (a1 : Int32) (a2 : Int32) (a3 : Int32) (h : Hp) (Q : Option AV → Hp → Prop)  (k : (∃ Q'4, EvI X m_Us_isNotIn [vI a1, vI 0, vI 19] h Q'4 ∧ ∀ (r5 : Int32) (h3 : Hp), Q'4 r5 h3 → ((¬ r5 = 0 → Q (some (vI (-3))) h3) ∧ (r5 = 0 → (∃ Q'9, EvI X m_Us_isNotIn [vI a2, vI 0, vI 3] h3 Q'9 ∧ ∀ (r10 : Int32) (h8 : Hp), Q'9 r10 h8 → ((¬ r10 = 0 → Q (some (vI (-3))) h8) ∧ (r10 = 0 → (∃ Q'14, EvI X m_Us_isNotIn [vI a3, vI 0, vI 9] h8 Q'14 ∧ ∀ (r15 : Int32) (h13 : Hp), Q'14 r15 h13 → ((r15 = 0 → (∃ Q'19, EvI X m_Ro_isTaken [vR [7, 0], vI a1] h13 Q'19 ∧ ∀ (r20 : Int32) (h18 : Hp), Q'19 r20 h18 → ((r20 = 0 → (∃ Q'24, EvI X m_Ro_add [vR [7, 0], vI a1, vI a2, vI a3] h18 Q'24 ∧ ∀ (r25 : Int32) (h23 : Hp), Q'24 r25 h23 → ((r25 = 0 → Q (some (vI (-5))) h23) ∧ (¬ r25 = 0 → Q (some (vI (h23.1 [7, 0] 0))) h23)))) ∧ (¬ r20 = 0 → Q (some (vI (-4))) h18)))) ∧ (¬ r15 = 0 → Q (some (vI (-3))) h13)))))))))) : Rn X m_Us_stand 0 [some (vR [0]), some (vI a1), some (vI a2), some (vI a3)] [] h Q := by
  refine Rn.iload_n (n := 1) (i := 1) d_Us_stand_0 rfl rfl rfl ?_
  refine Rn.iconst (n := 2) (v := 0) d_Us_stand_1 rfl (by decide) ?_
  refine Rn.bipush (n := 4) (v := 19) d_Us_stand_2 rfl (by decide) ?_
  obtain ⟨Q'4, ev1, k⟩ := k
  refine Rn.callS (n := 7) (av := [vI a1, vI 0, vI 19]) d_Us_stand_4 rfl ml_Us_stand_61 ms_Us_isNotIn rfl rfl (Nat.le_of_ble_eq_true rfl) ev1 (fun v h3 hq => ?_)
  obtain ⟨r5, rfl, hq⟩ := hq
  have k := k r5 h3 hq
  show Rn X m_Us_stand 7 [some (vR [0]), some (vI a1), some (vI a2), some (vI a3)] [vI r5] h3 Q
  refine Rn.if_ne (n := 10) (t := 29) d_Us_stand_7 rfl (by decide) (fun cc => ?_) (fun cc => ?_)
  · have k := k.1 cc
    refine Rn.bipush (n := 31) (v := (-3)) d_Us_stand_29 rfl (by decide) ?_
    exact Rn.iret d_Us_stand_31 rfl rfl k
  · have k := k.2 cc
    refine Rn.iload_n (n := 11) (i := 2) d_Us_stand_10 rfl rfl rfl ?_
    refine Rn.iconst (n := 12) (v := 0) d_Us_stand_11 rfl (by decide) ?_
    refine Rn.iconst (n := 13) (v := 3) d_Us_stand_12 rfl (by decide) ?_
    obtain ⟨Q'9, ev6, k⟩ := k
    refine Rn.callS (n := 16) (av := [vI a2, vI 0, vI 3]) d_Us_stand_13 rfl ml_Us_stand_61 ms_Us_isNotIn rfl rfl (Nat.le_of_ble_eq_true rfl) ev6 (fun v h8 hq => ?_)
    obtain ⟨r10, rfl, hq⟩ := hq
    have k := k r10 h8 hq
    show Rn X m_Us_stand 16 [some (vR [0]), some (vI a1), some (vI a2), some (vI a3)] [vI r10] h8 Q
    refine Rn.if_ne (n := 19) (t := 29) d_Us_stand_16 rfl (by decide) (fun cc => ?_) (fun cc => ?_)
    · have k := k.1 cc
      refine Rn.bipush (n := 31) (v := (-3)) d_Us_stand_29 rfl (by decide) ?_
      exact Rn.iret d_Us_stand_31 rfl rfl k
    · have k := k.2 cc
      refine Rn.iload_n (n := 20) (i := 3) d_Us_stand_19 rfl rfl rfl ?_
      refine Rn.iconst (n := 21) (v := 0) d_Us_stand_20 rfl (by decide) ?_
      refine Rn.bipush (n := 23) (v := 9) d_Us_stand_21 rfl (by decide) ?_
      obtain ⟨Q'14, ev11, k⟩ := k
      refine Rn.callS (n := 26) (av := [vI a3, vI 0, vI 9]) d_Us_stand_23 rfl ml_Us_stand_61 ms_Us_isNotIn rfl rfl (Nat.le_of_ble_eq_true rfl) ev11 (fun v h13 hq => ?_)
      obtain ⟨r15, rfl, hq⟩ := hq
      have k := k r15 h13 hq
      show Rn X m_Us_stand 26 [some (vR [0]), some (vI a1), some (vI a2), some (vI a3)] [vI r15] h13 Q
      refine Rn.if_eq (n := 29) (t := 32) d_Us_stand_26 rfl (by decide) (fun cc => ?_) (fun cc => ?_)
      · have k := k.1 cc
        refine Rn.aload_n (n := 33) (i := 0) d_Us_stand_32 rfl rfl rfl ?_
        refine Rn.getf (n := 36) (v := vR [7, 0]) d_Us_stand_33 rfl fl_Us_50 Lv_0 rfl ?_
        refine Rn.iload_n (n := 37) (i := 1) d_Us_stand_36 rfl rfl rfl ?_
        obtain ⟨Q'19, ev16, k⟩ := k
        refine Rn.callV (n := 40) (av := [vI a1]) d_Us_stand_37 rfl ml_Us_stand_180 mi_Ro_isTaken Lv_7_0 rfl rfl rfl rfl (Nat.le_of_ble_eq_true rfl) ev16 (fun v h18 hq => ?_)
        obtain ⟨r20, rfl, hq⟩ := hq
        have k := k r20 h18 hq
        show Rn X m_Us_stand 40 [some (vR [0]), some (vI a1), some (vI a2), some (vI a3)] [vI r20] h18 Q
        refine Rn.if_eq (n := 43) (t := 46) d_Us_stand_40 rfl (by decide) (fun cc => ?_) (fun cc => ?_)
        · have k := k.1 cc
          refine Rn.aload_n (n := 47) (i := 0) d_Us_stand_46 rfl rfl rfl ?_
          refine Rn.getf (n := 50) (v := vR [7, 0]) d_Us_stand_47 rfl fl_Us_50 Lv_0 rfl ?_
          refine Rn.iload_n (n := 51) (i := 1) d_Us_stand_50 rfl rfl rfl ?_
          refine Rn.iload_n (n := 52) (i := 2) d_Us_stand_51 rfl rfl rfl ?_
          refine Rn.iload_n (n := 53) (i := 3) d_Us_stand_52 rfl rfl rfl ?_
          obtain ⟨Q'24, ev21, k⟩ := k
          refine Rn.callV (n := 56) (av := [vI a1, vI a2, vI a3]) d_Us_stand_53 rfl ml_Us_stand_183 mi_Ro_add Lv_7_0 rfl rfl rfl rfl (Nat.le_of_ble_eq_true rfl) ev21 (fun v h23 hq => ?_)
          obtain ⟨r25, rfl, hq⟩ := hq
          have k := k r25 h23 hq
          show Rn X m_Us_stand 56 [some (vR [0]), some (vI a1), some (vI a2), some (vI a3)] [vI r25] h23 Q
          refine Rn.if_eq (n := 59) (t := 69) d_Us_stand_56 rfl (by decide) (fun cc => ?_) (fun cc => ?_)
          · have k := k.1 cc
            refine Rn.bipush (n := 71) (v := (-5)) d_Us_stand_69 rfl (by decide) ?_
            exact Rn.iret d_Us_stand_71 rfl rfl k
          · have k := k.2 cc
            refine Rn.aload_n (n := 60) (i := 0) d_Us_stand_59 rfl rfl rfl ?_
            refine Rn.getf (n := 63) (v := vR [7, 0]) d_Us_stand_60 rfl fl_Us_50 Lv_0 rfl ?_
            refine Rn.getf (n := 66) (v := vI (h23.1 [7, 0] 0)) d_Us_stand_63 rfl fl_Us_186 Lv_7_0 rfl ?_
            refine Rn.goto (n := 71) d_Us_stand_66 (by decide) ?_
            exact Rn.iret d_Us_stand_71 rfl rfl k
        · have k := k.2 cc
          refine Rn.bipush (n := 45) (v := (-4)) d_Us_stand_43 rfl (by decide) ?_
          exact Rn.iret d_Us_stand_45 rfl rfl k
      · have k := k.2 cc
        refine Rn.bipush (n := 31) (v := (-3)) d_Us_stand_29 rfl (by decide) ?_
        exact Rn.iret d_Us_stand_31 rfl rfl k
theorem e_Us_stand {X : XS} (a1 : Int32) (a2 : Int32) (a3 : Int32) (h : Hp) (Q : Option AV → Hp → Prop) (k : Rn X m_Us_stand 0 [some (vR [0]), some (vI a1), some (vI a2), some (vI a3)] [] h Q) : Ev X m_Us_stand [vR [0], vI a1, vI a2, vI a3] h Q := Ev.intro (plainFor_of_name (by decide +kernel)) (Nat.le_of_ble_eq_true rfl) (ls := [some (vR [0]), some (vI a1), some (vI a2), some (vI a3)]) rfl k
theorem d_Us_bus_0 : decode m_Us_bus.2.1 0 = .ok (.aload_n 0, 1) := by decide +kernel
theorem d_Us_bus_1 : decode m_Us_bus.2.1 1 = .ok (.getfield 50, 3) := by decide +kernel
theorem d_Us_bus_4 : decode m_Us_bus.2.1 4 = .ok (.getfield 186, 3) := by decide +kernel
theorem d_Us_bus_7 : decode m_Us_bus.2.1 7 = .ok (.istore_n 1, 1) := by decide +kernel
theorem d_Us_bus_8 : decode m_Us_bus.2.1 8 = .ok (.aload_n 0, 1) := by decide +kernel
theorem d_Us_bus_9 : decode m_Us_bus.2.1 9 = .ok (.getfield 50, 3) := by decide +kernel
theorem d_Us_bus_12 : decode m_Us_bus.2.1 12 = .ok (.iconst 0, 1) := by decide +kernel
theorem d_Us_bus_13 : decode m_Us_bus.2.1 13 = .ok (.putfield 186, 3) := by decide +kernel
theorem d_Us_bus_16 : decode m_Us_bus.2.1 16 = .ok (.iload_n 1, 1) := by decide +kernel
theorem d_Us_bus_17 : decode m_Us_bus.2.1 17 = .ok (.ireturn, 1) := by decide +kernel
theorem g_Us_bus_0 {X : XS}  (h : Hp) (Q : Option AV → Hp → Prop)  (k : Q (some (vI (h.1 [7, 0] 0))) (hsI h [7, 0] 0 0)) : Rn X m_Us_bus 0 [some (vR [0]), none] [] h Q := by
  refine Rn.aload_n (n := 1) (i := 0) d_Us_bus_0 rfl rfl rfl ?_
  refine Rn.getf (n := 4) (v := vR [7, 0]) d_Us_bus_1 rfl fl_Us_50 Lv_0 rfl ?_
  refine Rn.getf (n := 7) (v := vI (h.1 [7, 0] 0)) d_Us_bus_4 rfl fl_Us_186 Lv_7_0 rfl ?_
  refine Rn.istore_n (n := 8) (i := 1) (ls2 := [some (vR [0]), some (vI (h.1 [7, 0] 0))]) d_Us_bus_7 rfl rfl (Nat.le_of_ble_eq_true rfl) rfl ?_
  refine Rn.aload_n (n := 9) (i := 0) d_Us_bus_8 rfl rfl rfl ?_
  refine Rn.getf (n := 12) (v := vR [7, 0]) d_Us_bus_9 rfl fl_Us_50 Lv_0 rfl ?_
  refine Rn.iconst (n := 13) (v := 0) d_Us_bus_12 rfl (by decide) ?_
  refine Rn.putI (n := 16) d_Us_bus_13 rfl fl_Us_186 pl_Ro_0 Lv_7_0 rfl ?_
  refine Rn.iload_n (n := 17) (i := 1) d_Us_bus_16 rfl rfl rfl ?_
  exact Rn.iret d_Us_bus_17 rfl rfl k
theorem e_Us_bus {X : XS}  (h : Hp) (Q : Option AV → Hp → Prop) (k : Rn X m_Us_bus 0 [some (vR [0]), none] [] h Q) : Ev X m_Us_bus [vR [0]] h Q := Ev.intro (plainFor_of_name (by decide +kernel)) (Nat.le_of_ble_eq_true rfl) (ls := [some (vR [0]), none]) rfl k
theorem d_Us_wet_0 : decode m_Us_wet.2.1 0 = .ok (.iload_n 1, 1) := by decide +kernel
theorem d_Us_wet_1 : decode m_Us_wet.2.1 1 = .ok (.ifCond .lt 20, 3) := by decide +kernel
theorem d_Us_wet_4 : decode m_Us_wet.2.1 4 = .ok (.iload_n 1, 1) := by decide +kernel
theorem d_Us_wet_5 : decode m_Us_wet.2.1 5 = .ok (.aload_n 0, 1) := by decide +kernel
theorem d_Us_wet_6 : decode m_Us_wet.2.1 6 = .ok (.getfield 50, 3) := by decide +kernel
theorem d_Us_wet_9 : decode m_Us_wet.2.1 9 = .ok (.getfield 186, 3) := by decide +kernel
theorem d_Us_wet_12 : decode m_Us_wet.2.1 12 = .ok (.if_icmp .ge 9, 3) := by decide +kernel
theorem d_Us_wet_15 : decode m_Us_wet.2.1 15 = .ok (.iload_n 1, 1) := by decide +kernel
theorem d_Us_wet_16 : decode m_Us_wet.2.1 16 = .ok (.bipush 8, 2) := by decide +kernel
theorem d_Us_wet_18 : decode m_Us_wet.2.1 18 = .ok (.if_icmp .lt 6, 3) := by decide +kernel
theorem d_Us_wet_21 : decode m_Us_wet.2.1 21 = .ok (.bipush (-2), 2) := by decide +kernel
theorem d_Us_wet_23 : decode m_Us_wet.2.1 23 = .ok (.ireturn, 1) := by decide +kernel
theorem d_Us_wet_24 : decode m_Us_wet.2.1 24 = .ok (.aload_n 0, 1) := by decide +kernel
theorem d_Us_wet_25 : decode m_Us_wet.2.1 25 = .ok (.getfield 50, 3) := by decide +kernel
theorem d_Us_wet_28 : decode m_Us_wet.2.1 28 = .ok (.invokevirtual 189, 3) := by decide +kernel
theorem d_Us_wet_31 : decode m_Us_wet.2.1 31 = .ok (.aload_n 0, 1) := by decide +kernel
theorem d_Us_wet_32 : decode m_Us_wet.2.1 32 = .ok (.getfield 50, 3) := by decide +kernel
theorem d_Us_wet_35 : decode m_Us_wet.2.1 35 = .ok (.aload_n 0, 1) := by decide +kernel
theorem d_Us_wet_36 : decode m_Us_wet.2.1 36 = .ok (.getfield 50, 3) := by decide +kernel
theorem d_Us_wet_39 : decode m_Us_wet.2.1 39 = .ok (.getfield 192, 3) := by decide +kernel
theorem d_Us_wet_42 : decode m_Us_wet.2.1 42 = .ok (.iload_n 1, 1) := by decide +kernel
theorem d_Us_wet_43 : decode m_Us_wet.2.1 43 = .ok (.iaload, 1) := by decide +kernel
theorem d_Us_wet_44 : decode m_Us_wet.2.1 44 = .ok (.invokevirtual 195, 3) := by decide +kernel
theorem d_Us_wet_47 : decode m_Us_wet.2.1 47 = .ok (.ireturn, 1) := by decide +kernel
theorem g_Us_wet_0 {X : XS} (a1 : Int32) (h : Hp) (Q : Option AV → Hp → Prop)  (k : ((a1 < 0 → Q (some (vI (-2))) h) ∧ (¬ a1 < 0 → (((h.1 [7, 0] 0) ≤ a1 → Q (some (vI (-2))) h) ∧ (¬ (h.1 [7, 0] 0) ≤ a1 → ((a1 < 8 → (∃ Q'4, EvV X m_Ro_letItRain [vR [7, 0]] h Q'4 ∧ ∀ (h3 : Hp), Q'4 h3 → (vp_in a1 8 ∧ (∃ Q'9, EvI X m_Ro_reaching [vR [7, 0], vI (h3.1 [1, 7, 0] a1.toNatClampNeg)] h3 Q'9 ∧ ∀ (r10 : Int32) (h8 : Hp), Q'9 r10 h8 → Q (some (vI r10)) h8)))) ∧ (¬ a1 < 8 → Q (some (vI (-2))) h))))))) : Rn X m_Us_wet 0 [some (vR [0]), some (vI a1)] [] h Q := by
  refine Rn.iload_n (n := 1) (i := 1) d_Us_wet_0 rfl rfl rfl ?_
  refine Rn.if_lt (n := 4) (t := 21) d_Us_wet_1 rfl (by decide) (fun cc => ?_) (fun cc => ?_)
  · have k := k.1 cc
    refine Rn.bipush (n := 23) (v := (-2)) d_Us_wet_21 rfl (by decide) ?_
    exact Rn.iret d_Us_wet_23 rfl rfl k
  · have k := k.2 cc
    refine Rn.iload_n (n := 5) (i := 1) d_Us_wet_4 rfl rfl rfl ?_
    refine Rn.aload_n (n := 6) (i := 0) d_Us_wet_5 rfl rfl rfl ?_
    refine Rn.getf (n := 9) (v := vR [7, 0]) d_Us_wet_6 rfl fl_Us_50 Lv_0 rfl ?_
    refine Rn.getf (n := 12) (v := vI (h.1 [7, 0] 0)) d_Us_wet_9 rfl fl_Us_186 Lv_7_0 rfl ?_
    refine Rn.icmp_ge (n := 15) (t := 21) d_Us_wet_12 rfl (by decide) (fun cc => ?_) (fun cc => ?_)
    · have k := k.1 cc
      refine Rn.bipush (n := 23) (v := (-2)) d_Us_wet_21 rfl (by decide) ?_
      exact Rn.iret d_Us_wet_23 rfl rfl k
    · have k := k.2 cc
      refine Rn.iload_n (n := 16) (i := 1) d_Us_wet_15 rfl rfl rfl ?_
      refine Rn.bipush (n := 18) (v := 8) d_Us_wet_16 rfl (by decide) ?_
      refine Rn.icmp_lt (n := 21) (t := 24) d_Us_wet_18 rfl (by decide) (fun cc => ?_) (fun cc => ?_)
      · have k := k.1 cc
        refine Rn.aload_n (n := 25) (i := 0) d_Us_wet_24 rfl rfl rfl ?_
        refine Rn.getf (n := 28) (v := vR [7, 0]) d_Us_wet_25 rfl fl_Us_50 Lv_0 rfl ?_
        obtain ⟨Q'4, ev1, k⟩ := k
        refine Rn.callV (n := 31) (av := []) d_Us_wet_28 rfl ml_Us_wet_189 mi_Ro_letItRain Lv_7_0 rfl rfl rfl rfl (Nat.le_of_ble_eq_true rfl) ev1 (fun v h3 hq => ?_)
        obtain ⟨rfl, hq⟩ := hq
        have k := k h3 hq
        show Rn X m_Us_wet 31 [some (vR [0]), some (vI a1)] [] h3 Q
        refine Rn.aload_n (n := 32) (i := 0) d_Us_wet_31 rfl rfl rfl ?_
        refine Rn.getf (n := 35) (v := vR [7, 0]) d_Us_wet_32 rfl fl_Us_50 Lv_0 rfl ?_
        refine Rn.aload_n (n := 36) (i := 0) d_Us_wet_35 rfl rfl rfl ?_
        refine Rn.getf (n := 39) (v := vR [7, 0]) d_Us_wet_36 rfl fl_Us_50 Lv_0 rfl ?_
        refine Rn.getf (n := 42) (v := vR [1, 7, 0]) d_Us_wet_39 rfl fl_Us_192 Lv_7_0 rfl ?_
        refine Rn.iload_n (n := 43) (i := 1) d_Us_wet_42 rfl rfl rfl ?_
        obtain ⟨b5, k⟩ := k
        refine Rn.iald (n := 44) (v := h3.1 [1, 7, 0] a1.toNatClampNeg) d_Us_wet_43 rfl Lv_1_7_0 b5 rfl ?_
        obtain ⟨Q'9, ev6, k⟩ := k
        refine Rn.callV (n := 47) (av := [vI (h3.1 [1, 7, 0] a1.toNatClampNeg)]) d_Us_wet_44 rfl ml_Us_wet_195 mi_Ro_reaching Lv_7_0 rfl rfl rfl rfl (Nat.le_of_ble_eq_true rfl) ev6 (fun v h8 hq => ?_)
        obtain ⟨r10, rfl, hq⟩ := hq
        have k := k r10 h8 hq
        show Rn X m_Us_wet 47 [some (vR [0]), some (vI a1)] [vI r10] h8 Q
        exact Rn.iret d_Us_wet_47 rfl rfl k
      · have k := k.2 cc
        refine Rn.bipush (n := 23) (v := (-2)) d_Us_wet_21 rfl (by decide) ?_
        exact Rn.iret d_Us_wet_23 rfl rfl k
theorem e_Us_wet {X : XS} (a1 : Int32) (h : Hp) (Q : Option AV → Hp → Prop) (k : Rn X m_Us_wet 0 [some (vR [0]), some (vI a1)] [] h Q) : Ev X m_Us_wet [vR [0], vI a1] h Q := Ev.intro (plainFor_of_name (by decide +kernel)) (Nat.le_of_ble_eq_true rfl) (ls := [some (vR [0]), some (vI a1)]) rfl k
theorem d_Us_driest_0 : decode m_Us_driest.2.1 0 = .ok (.iload_n 1, 1) := by decide +kernel
theorem d_Us_driest_1 : decode m_Us_driest.2.1 1 = .ok (.iconst 0, 1) := by decide +kernel
theorem d_Us_driest_2 : decode m_Us_driest.2.1 2 = .ok (.iconst 1, 1) := by decide +kernel
theorem d_Us_driest_3 : decode m_Us_driest.2.1 3 = .ok (.invokestatic 61, 3) := by decide +kernel
theorem d_Us_driest_6 : decode m_Us_driest.2.1 6 = .ok (.ifCond .eq 6, 3) := by decide +kernel
theorem d_Us_driest_9 : decode m_Us_driest.2.1 9 = .ok (.bipush (-3), 2) := by decide +kernel
theorem d_Us_driest_11 : decode m_Us_driest.2.1 11 = .ok (.ireturn, 1) := by decide +kernel
theorem d_Us_driest_12 : decode m_Us_driest.2.1 12 = .ok (.aload_n 0, 1) := by decide +kernel
theorem d_Us_driest_13 : decode m_Us_driest.2.1 13 = .ok (.getfield 50, 3) := by decide +kernel
theorem d_Us_driest_16 : decode m_Us_driest.2.1 16 = .ok (.invokevirtual 189, 3) := by decide +kernel
theorem d_Us_driest_19 : decode m_Us_driest.2.1 19 = .ok (.aload_n 0, 1) := by decide +kernel
theorem d_Us_driest_20 : decode m_Us_driest.2.1 20 = .ok (.getfield 50, 3) := by decide +kernel
theorem d_Us_driest_23 : decode m_Us_driest.2.1 23 = .ok (.invokevirtual 198, 3) := by decide +kernel
theorem d_Us_driest_26 : decode m_Us_driest.2.1 26 = .ok (.istore_n 2, 1) := by decide +kernel
theorem d_Us_driest_27 : decode m_Us_driest.2.1 27 = .ok (.iload_n 1, 1) := by decide +kernel
theorem d_Us_driest_28 : decode m_Us_driest.2.1 28 = .ok (.ifCond .ne 7, 3) := by decide +kernel
theorem d_Us_driest_31 : decode m_Us_driest.2.1 31 = .ok (.iload_n 2, 1) := by decide +kernel
theorem d_Us_driest_32 : decode m_Us_driest.2.1 32 = .ok (.goto 11, 3) := by decide +kernel
theorem d_Us_driest_35 : decode m_Us_driest.2.1 35 = .ok (.aload_n 0, 1) := by decide +kernel
theorem d_Us_driest_36 : decode m_Us_driest.2.1 36 = .ok (.getfield 50, 3) := by decide +kernel
theorem d_Us_driest_39 : decode m_Us_driest.2.1 39 = .ok (.iload_n 2, 1) := by decide +kernel
theorem d_Us_driest_40 : decode m_Us_driest.2.1 40 = .ok (.invokevirtual 195, 3) := by decide +kernel
theorem d_Us_driest_43 : decode m_Us_driest.2.1 43 = .ok (.ireturn, 1) := by decide +kernel
theorem g_Us_driest_0 {X : XS} (a1 : Int32) (h : Hp) (Q : Option AV → Hp → Prop)  (k : (∃ Q'4, EvI X m_Us_isNotIn [vI a1, vI 0, vI 1] h Q'4 ∧ ∀ (r5 : Int32) (h3 : Hp), Q'4 r5 h3 → ((r5 = 0 → (∃ Q'9, EvV X m_Ro_letItRain [vR [7, 0]] h3 Q'9 ∧ ∀ (h8 : Hp), Q'9 h8 → (∃ Q'13, EvI X m_Ro_driestFree [vR [7, 0]] h8 Q'13 ∧ ∀ (r14 : Int32) (h12 : Hp), Q'13 r14 h12 → ((¬ a1 = 0 → (∃ Q'18, EvI X m_Ro_reaching [vR [7, 0], vI r14] h12 Q'18 ∧ ∀ (r19 : Int32) (h17 : Hp), Q'18 r19 h17 → Q (some (vI r19)) h17)) ∧ (a1 = 0 → Q (some (vI r14)) h12))))) ∧ (¬ r5 = 0 → Q (some (vI (-3))) h3)))) : Rn X m_Us_driest 0 [some (vR [0]), some (vI a1), none] [] h Q := by
  refine Rn.iload_n (n := 1) (i := 1) d_Us_driest_0 rfl rfl rfl ?_
  refine Rn.iconst (n := 2) (v := 0) d_Us_driest_1 rfl (by decide) ?_
  refine Rn.iconst (n := 3) (v := 1) d_Us_driest_2 rfl (by decide) ?_
  obtain ⟨Q'4, ev1, k⟩ := k
  refine Rn.callS (n := 6) (av := [vI a1, vI 0, vI 1]) d_Us_driest_3 rfl ml_Us_driest_61 ms_Us_isNotIn rfl rfl (Nat.le_of_ble_eq_true rfl) ev1 (fun v h3 hq => ?_)
  obtain ⟨r5, rfl, hq⟩ := hq
  have k := k r5 h3 hq
  show Rn X m_Us_driest 6 [some (vR [0]), some (vI a1), none] [vI r5] h3 Q
  refine Rn.if_eq (n := 9) (t := 12) d_Us_driest_6 rfl (by decide) (fun cc => ?_) (fun cc => ?_)
  · have k := k.1 cc
    refine Rn.aload_n (n := 13) (i := 0) d_Us_driest_12 rfl rfl rfl ?_
    refine Rn.getf (n := 16) (v := vR [7, 0]) d_Us_driest_13 rfl fl_Us_50 Lv_0 rfl ?_
    obtain ⟨Q'9, ev6, k⟩ := k
    refine Rn.callV (n := 19) (av := []) d_Us_driest_16 rfl ml_Us_driest_189 mi_Ro_letItRain Lv_7_0 rfl rfl rfl rfl (Nat.le_of_ble_eq_true rfl) ev6 (fun v h8 hq => ?_)
    obtain ⟨rfl, hq⟩ := hq
    have k := k h8 hq
    show Rn X m_Us_driest 19 [some (vR [0]), some (vI a1), none] [] h8 Q
    refine Rn.aload_n (n := 20) (i := 0) d_Us_driest_19 rfl rfl rfl ?_
    refine Rn.getf (n := 23) (v := vR [7, 0]) d_Us_driest_20 rfl fl_Us_50 Lv_0 rfl ?_
    obtain ⟨Q'13, ev10, k⟩ := k
    refine Rn.callV (n := 26) (av := []) d_Us_driest_23 rfl ml_Us_driest_198 mi_Ro_driestFree Lv_7_0 rfl rfl rfl rfl (Nat.le_of_ble_eq_true rfl) ev10 (fun v h12 hq => ?_)
    obtain ⟨r14, rfl, hq⟩ := hq
    have k := k r14 h12 hq
    show Rn X m_Us_driest 26 [some (vR [0]), some (vI a1), none] [vI r14] h12 Q
    refine Rn.istore_n (n := 27) (i := 2) (ls2 := [some (vR [0]), some (vI a1), some (vI r14)]) d_Us_driest_26 rfl rfl (Nat.le_of_ble_eq_true rfl) rfl ?_
    refine Rn.iload_n (n := 28) (i := 1) d_Us_driest_27 rfl rfl rfl ?_
    refine Rn.if_ne (n := 31) (t := 35) d_Us_driest_28 rfl (by decide) (fun cc => ?_) (fun cc => ?_)
    · have k := k.1 cc
      refine Rn.aload_n (n := 36) (i := 0) d_Us_driest_35 rfl rfl rfl ?_
      refine Rn.getf (n := 39) (v := vR [7, 0]) d_Us_driest_36 rfl fl_Us_50 Lv_0 rfl ?_
      refine Rn.iload_n (n := 40) (i := 2) d_Us_driest_39 rfl rfl rfl ?_
      obtain ⟨Q'18, ev15, k⟩ := k
      refine Rn.callV (n := 43) (av := [vI r14]) d_Us_driest_40 rfl ml_Us_driest_195 mi_Ro_reaching Lv_7_0 rfl rfl rfl rfl (Nat.le_of_ble_eq_true rfl) ev15 (fun v h17 hq => ?_)
      obtain ⟨r19, rfl, hq⟩ := hq
      have k := k r19 h17 hq
      show Rn X m_Us_driest 43 [some (vR [0]), some (vI a1), some (vI r14)] [vI r19] h17 Q
      exact Rn.iret d_Us_driest_43 rfl rfl k
    · have k := k.2 cc
      refine Rn.iload_n (n := 32) (i := 2) d_Us_driest_31 rfl rfl rfl ?_
      refine Rn.goto (n := 43) d_Us_driest_32 (by decide) ?_
      exact Rn.iret d_Us_driest_43 rfl rfl k
  · have k := k.2 cc
    refine Rn.bipush (n := 11) (v := (-3)) d_Us_driest_9 rfl (by decide) ?_
    exact Rn.iret d_Us_driest_11 rfl rfl k
theorem e_Us_driest {X : XS} (a1 : Int32) (h : Hp) (Q : Option AV → Hp → Prop) (k : Rn X m_Us_driest 0 [some (vR [0]), some (vI a1), none] [] h Q) : Ev X m_Us_driest [vR [0], vI a1] h Q := Ev.intro (plainFor_of_name (by decide +kernel)) (Nat.le_of_ble_eq_true rfl) (ls := [some (vR [0]), some (vI a1), none]) rfl k
theorem d_Us_two_0 : decode m_Us_two.2.1 0 = .ok (.iload_n 1, 1) := by decide +kernel
theorem d_Us_two_1 : decode m_Us_two.2.1 1 = .ok (.iload_n 2, 1) := by decide +kernel
theorem d_Us_two_2 : decode m_Us_two.2.1 2 = .ok (.iload_n 3, 1) := by decide +kernel
theorem d_Us_two_3 : decode m_Us_two.2.1 3 = .ok (.invokestatic 201, 3) := by decide +kernel
theorem d_Us_two_6 : decode m_Us_two.2.1 6 = .ok (.ifCond .ne 25, 3) := by decide +kernel
theorem d_Us_two_9 : decode m_Us_two.2.1 9 = .ok (.iload 4, 2) := by decide +kernel
theorem d_Us_two_11 : decode m_Us_two.2.1 11 = .ok (.bipush (-20), 2) := by decide +kernel
theorem d_Us_two_13 : decode m_Us_two.2.1 13 = .ok (.bipush 20, 2) := by decide +kernel
theorem d_Us_two_15 : decode m_Us_two.2.1 15 = .ok (.invokestatic 61, 3) := by decide +kernel
theorem d_Us_two_18 : decode m_Us_two.2.1 18 = .ok (.ifCond .ne 13, 3) := by decide +kernel
theorem d_Us_two_21 : decode m_Us_two.2.1 21 = .ok (.iload 5, 2) := by decide +kernel
theorem d_Us_two_23 : decode m_Us_two.2.1 23 = .ok (.iconst 0, 1) := by decide +kernel
theorem d_Us_two_24 : decode m_Us_two.2.1 24 = .ok (.iconst 1, 1) := by decide +kernel
theorem d_Us_two_25 : decode m_Us_two.2.1 25 = .ok (.invokestatic 61, 3) := by decide +kernel
theorem d_Us_two_28 : decode m_Us_two.2.1 28 = .ok (.ifCond .eq 6, 3) := by decide +kernel
theorem d_Us_two_31 : decode m_Us_two.2.1 31 = .ok (.bipush (-3), 2) := by decide +kernel
theorem d_Us_two_33 : decode m_Us_two.2.1 33 = .ok (.ireturn, 1) := by decide +kernel
theorem d_Us_two_34 : decode m_Us_two.2.1 34 = .ok (.iload 5, 2) := by decide +kernel
theorem d_Us_two_36 : decode m_Us_two.2.1 36 = .ok (.ifCond .ne 13, 3) := by decide +kernel
theorem d_Us_two_39 : decode m_Us_two.2.1 39 = .ok (.iload_n 1, 1) := by decide +kernel
theorem d_Us_two_40 : decode m_Us_two.2.1 40 = .ok (.iload_n 2, 1) := by decide +kernel
theorem d_Us_two_41 : decode m_Us_two.2.1 41 = .ok (.iload 4, 2) := by decide +kernel
theorem d_Us_two_43 : decode m_Us_two.2.1 43 = .ok (.invokestatic 204, 3) := by decide +kernel
theorem d_Us_two_46 : decode m_Us_two.2.1 46 = .ok (.goto 10, 3) := by decide +kernel
theorem d_Us_two_49 : decode m_Us_two.2.1 49 = .ok (.iload_n 1, 1) := by decide +kernel
theorem d_Us_two_50 : decode m_Us_two.2.1 50 = .ok (.iload_n 3, 1) := by decide +kernel
theorem d_Us_two_51 : decode m_Us_two.2.1 51 = .ok (.iload 4, 2) := by decide +kernel
theorem d_Us_two_53 : decode m_Us_two.2.1 53 = .ok (.invokestatic 207, 3) := by decide +kernel
theorem d_Us_two_56 : decode m_Us_two.2.1 56 = .ok (.ireturn, 1) := by decide +kernel
theorem g_Us_two_0 {X : XS} (a1 : Int32) (a2 : Int32) (a3 : Int32) (a4 : Int32) (a5 : Int32) (h : Hp) (Q : Option AV → Hp → Prop)  (k : (∃ Q'4, EvI X m_Us_areNotWidths [vI a1, vI a2, vI a3] h Q'4 ∧ ∀ (r5 : Int32) (h3 : Hp), Q'4 r5 h3 → ((¬ r5 = 0 → Q (some (vI (-3))) h3) ∧ (r5 = 0 → (∃ Q'9, EvI X m_Us_isNotIn [vI a4, vI (-20), vI 20] h3 Q'9 ∧ ∀ (r10 : Int32) (h8 : Hp), Q'9 r10 h8 → ((¬ r10 = 0 → Q (some (vI (-3))) h8) ∧ (r10 = 0 → (∃ Q'14, EvI X m_Us_isNotIn [vI a5, vI 0, vI 1] h8 Q'14 ∧ ∀ (r15 : Int32) (h13 : Hp), Q'14 r15 h13 → ((r15 = 0 → ((¬ a5 = 0 → (∃ Q'19, EvI X m_Us_bareOfRight [vI a1, vI a3, vI a4] h13 Q'19 ∧ ∀ (r20 : Int32) (h18 : Hp), Q'19 r20 h18 → Q (some (vI r20)) h18)) ∧ (a5 = 0 → (∃ Q'24, EvI X m_Us_bareOfLeft [vI a1, vI a2, vI a4] h13 Q'24 ∧ ∀ (r25 : Int32) (h23 : Hp), Q'24 r25 h23 → Q (some (vI r25)) h23)))) ∧ (¬ r15 = 0 → Q (some (vI (-3))) h13)))))))))) : Rn X m_Us_two 0 [some (vR [0]), some (vI a1), some (vI a2), some (vI a3), some (vI a4), some (vI a5)] [] h Q := by
  refine Rn.iload_n (n := 1) (i := 1) d_Us_two_0 rfl rfl rfl ?_
  refine Rn.iload_n (n := 2) (i := 2) d_Us_two_1 rfl rfl rfl ?_
  refine Rn.iload_n (n := 3) (i := 3) d_Us_two_2 rfl rfl rfl ?_
  obtain ⟨Q'4, ev1, k⟩ := k
  refine Rn.callS (n := 6) (av := [vI a1, vI a2, vI a3]) d_Us_two_3 rfl ml_Us_two_201 ms_Us_areNotWidths rfl rfl (Nat.le_of_ble_eq_true rfl) ev1 (fun v h3 hq => ?_)
  obtain ⟨r5, rfl, hq⟩ := hq
  have k := k r5 h3 hq
  show Rn X m_Us_two 6 [some (vR [0]), some (vI a1), some (vI a2), some (vI a3), some (vI a4), some (vI a5)] [vI r5] h3 Q
  refine Rn.if_ne (n := 9) (t := 31) d_Us_two_6 rfl (by decide) (fun cc => ?_) (fun cc => ?_)
  · have k := k.1 cc
    refine Rn.bipush (n := 33) (v := (-3)) d_Us_two_31 rfl (by decide) ?_
    exact Rn.iret d_Us_two_33 rfl rfl k
  · have k := k.2 cc
    refine Rn.iload (n := 11) (i := 4) d_Us_two_9 rfl rfl ?_
    refine Rn.bipush (n := 13) (v := (-20)) d_Us_two_11 rfl (by decide) ?_
    refine Rn.bipush (n := 15) (v := 20) d_Us_two_13 rfl (by decide) ?_
    obtain ⟨Q'9, ev6, k⟩ := k
    refine Rn.callS (n := 18) (av := [vI a4, vI (-20), vI 20]) d_Us_two_15 rfl ml_Us_two_61 ms_Us_isNotIn rfl rfl (Nat.le_of_ble_eq_true rfl) ev6 (fun v h8 hq => ?_)
    obtain ⟨r10, rfl, hq⟩ := hq
    have k := k r10 h8 hq
    show Rn X m_Us_two 18 [some (vR [0]), some (vI a1), some (vI a2), some (vI a3), some (vI a4), some (vI a5)] [vI r10] h8 Q
    refine Rn.if_ne (n := 21) (t := 31) d_Us_two_18 rfl (by decide) (fun cc => ?_) (fun cc => ?_)
    · have k := k.1 cc
      refine Rn.bipush (n := 33) (v := (-3)) d_Us_two_31 rfl (by decide) ?_
      exact Rn.iret d_Us_two_33 rfl rfl k
    · have k := k.2 cc
      refine Rn.iload (n := 23) (i := 5) d_Us_two_21 rfl rfl ?_
      refine Rn.iconst (n := 24) (v := 0) d_Us_two_23 rfl (by decide) ?_
      refine Rn.iconst (n := 25) (v := 1) d_Us_two_24 rfl (by decide) ?_
      obtain ⟨Q'14, ev11, k⟩ := k
      refine Rn.callS (n := 28) (av := [vI a5, vI 0, vI 1]) d_Us_two_25 rfl ml_Us_two_61 ms_Us_isNotIn rfl rfl (Nat.le_of_ble_eq_true rfl) ev11 (fun v h13 hq => ?_)
      obtain ⟨r15, rfl, hq⟩ := hq
      have k := k r15 h13 hq
      show Rn X m_Us_two 28 [some (vR [0]), some (vI a1), some (vI a2), some (vI a3), some (vI a4), some (vI a5)] [vI r15] h13 Q
      refine Rn.if_eq (n := 31) (t := 34) d_Us_two_28 rfl (by decide) (fun cc => ?_) (fun cc => ?_)
      · have k := k.1 cc
        refine Rn.iload (n := 36) (i := 5) d_Us_two_34 rfl rfl ?_
        refine Rn.if_ne (n := 39) (t := 49) d_Us_two_36 rfl (by decide) (fun cc => ?_) (fun cc => ?_)
        · have k := k.1 cc
          refine Rn.iload_n (n := 50) (i := 1) d_Us_two_49 rfl rfl rfl ?_
          refine Rn.iload_n (n := 51) (i := 3) d_Us_two_50 rfl rfl rfl ?_
          refine Rn.iload (n := 53) (i := 4) d_Us_two_51 rfl rfl ?_
          obtain ⟨Q'19, ev16, k⟩ := k
          refine Rn.callS (n := 56) (av := [vI a1, vI a3, vI a4]) d_Us_two_53 rfl ml_Us_two_207 ms_Us_bareOfRight rfl rfl (Nat.le_of_ble_eq_true rfl) ev16 (fun v h18 hq => ?_)
          obtain ⟨r20, rfl, hq⟩ := hq
          have k := k r20 h18 hq
          show Rn X m_Us_two 56 [some (vR [0]), some (vI a1), some (vI a2), some (vI a3), some (vI a4), some (vI a5)] [vI r20] h18 Q
          exact Rn.iret d_Us_two_56 rfl rfl k
        · have k := k.2 cc
          refine Rn.iload_n (n := 40) (i := 1) d_Us_two_39 rfl rfl rfl ?_
          refine Rn.iload_n (n := 41) (i := 2) d_Us_two_40 rfl rfl rfl ?_
          refine Rn.iload (n := 43) (i := 4) d_Us_two_41 rfl rfl ?_
          obtain ⟨Q'24, ev21, k⟩ := k
          refine Rn.callS (n := 46) (av := [vI a1, vI a2, vI a4]) d_Us_two_43 rfl ml_Us_two_204 ms_Us_bareOfLeft rfl rfl (Nat.le_of_ble_eq_true rfl) ev21 (fun v h23 hq => ?_)
          obtain ⟨r25, rfl, hq⟩ := hq
          have k := k r25 h23 hq
          show Rn X m_Us_two 46 [some (vR [0]), some (vI a1), some (vI a2), some (vI a3), some (vI a4), some (vI a5)] [vI r25] h23 Q
          refine Rn.goto (n := 56) d_Us_two_46 (by decide) ?_
          exact Rn.iret d_Us_two_56 rfl rfl k
      · have k := k.2 cc
        refine Rn.bipush (n := 33) (v := (-3)) d_Us_two_31 rfl (by decide) ?_
        exact Rn.iret d_Us_two_33 rfl rfl k
theorem e_Us_two {X : XS} (a1 : Int32) (a2 : Int32) (a3 : Int32) (a4 : Int32) (a5 : Int32) (h : Hp) (Q : Option AV → Hp → Prop) (k : Rn X m_Us_two 0 [some (vR [0]), some (vI a1), some (vI a2), some (vI a3), some (vI a4), some (vI a5)] [] h Q) : Ev X m_Us_two [vR [0], vI a1, vI a2, vI a3, vI a4, vI a5] h Q := Ev.intro (plainFor_of_name (by decide +kernel)) (Nat.le_of_ble_eq_true rfl) (ls := [some (vR [0]), some (vI a1), some (vI a2), some (vI a3), some (vI a4), some (vI a5)]) rfl k
theorem d_Us_fair_0 : decode m_Us_fair.2.1 0 = .ok (.iload_n 1, 1) := by decide +kernel
theorem d_Us_fair_1 : decode m_Us_fair.2.1 1 = .ok (.iload_n 2, 1) := by decide +kernel
theorem d_Us_fair_2 : decode m_Us_fair.2.1 2 = .ok (.iload_n 3, 1) := by decide +kernel
theorem d_Us_fair_3 : decode m_Us_fair.2.1 3 = .ok (.invokestatic 201, 3) := by decide +kernel
theorem d_Us_fair_6 : decode m_Us_fair.2.1 6 = .ok (.ifCond .eq 6, 3) := by decide +kernel
theorem d_Us_fair_9 : decode m_Us_fair.2.1 9 = .ok (.bipush (-3), 2) := by decide +kernel
theorem d_Us_fair_11 : decode m_Us_fair.2.1 11 = .ok (.ireturn, 1) := by decide +kernel
theorem d_Us_fair_12 : decode m_Us_fair.2.1 12 = .ok (.iconst 0, 1) := by decide +kernel
theorem d_Us_fair_13 : decode m_Us_fair.2.1 13 = .ok (.istore 4, 2) := by decide +kernel
theorem d_Us_fair_15 : decode m_Us_fair.2.1 15 = .ok (.iconst 1, 1) := by decide +kernel
theorem d_Us_fair_16 : decode m_Us_fair.2.1 16 = .ok (.istore 5, 2) := by decide +kernel
theorem d_Us_fair_18 : decode m_Us_fair.2.1 18 = .ok (.iload 5, 2) := by decide +kernel
theorem d_Us_fair_20 : decode m_Us_fair.2.1 20 = .ok (.bipush 20, 2) := by decide +kernel
theorem d_Us_fair_22 : decode m_Us_fair.2.1 22 = .ok (.if_icmp .gt 57, 3) := by decide +kernel
theorem d_Us_fair_25 : decode m_Us_fair.2.1 25 = .ok (.iload_n 1, 1) := by decide +kernel
theorem d_Us_fair_26 : decode m_Us_fair.2.1 26 = .ok (.iload_n 2, 1) := by decide +kernel
theorem d_Us_fair_27 : decode m_Us_fair.2.1 27 = .ok (.iload_n 3, 1) := by decide +kernel
theorem d_Us_fair_28 : decode m_Us_fair.2.1 28 = .ok (.iload 5, 2) := by decide +kernel
theorem d_Us_fair_30 : decode m_Us_fair.2.1 30 = .ok (.ineg, 1) := by decide +kernel
theorem d_Us_fair_31 : decode m_Us_fair.2.1 31 = .ok (.invokestatic 210, 3) := by decide +kernel
theorem d_Us_fair_34 : decode m_Us_fair.2.1 34 = .ok (.iload_n 1, 1) := by decide +kernel
theorem d_Us_fair_35 : decode m_Us_fair.2.1 35 = .ok (.iload_n 2, 1) := by decide +kernel
theorem d_Us_fair_36 : decode m_Us_fair.2.1 36 = .ok (.iload_n 3, 1) := by decide +kernel
theorem d_Us_fair_37 : decode m_Us_fair.2.1 37 = .ok (.iload 4, 2) := by decide +kernel
theorem d_Us_fair_39 : decode m_Us_fair.2.1 39 = .ok (.invokestatic 210, 3) := by decide +kernel
theorem d_Us_fair_42 : decode m_Us_fair.2.1 42 = .ok (.if_icmp .ge 8, 3) := by decide +kernel
theorem d_Us_fair_45 : decode m_Us_fair.2.1 45 = .ok (.iload 5, 2) := by decide +kernel
theorem d_Us_fair_47 : decode m_Us_fair.2.1 47 = .ok (.ineg, 1) := by decide +kernel
theorem d_Us_fair_48 : decode m_Us_fair.2.1 48 = .ok (.istore 4, 2) := by decide +kernel
theorem d_Us_fair_50 : decode m_Us_fair.2.1 50 = .ok (.iload_n 1, 1) := by decide +kernel
theorem d_Us_fair_51 : decode m_Us_fair.2.1 51 = .ok (.iload_n 2, 1) := by decide +kernel
theorem d_Us_fair_52 : decode m_Us_fair.2.1 52 = .ok (.iload_n 3, 1) := by decide +kernel
theorem d_Us_fair_53 : decode m_Us_fair.2.1 53 = .ok (.iload 5, 2) := by decide +kernel
theorem d_Us_fair_55 : decode m_Us_fair.2.1 55 = .ok (.invokestatic 210, 3) := by decide +kernel
theorem d_Us_fair_58 : decode m_Us_fair.2.1 58 = .ok (.iload_n 1, 1) := by decide +kernel
theorem d_Us_fair_59 : decode m_Us_fair.2.1 59 = .ok (.iload_n 2, 1) := by decide +kernel
theorem d_Us_fair_60 : decode m_Us_fair.2.1 60 = .ok (.iload_n 3, 1) := by decide +kernel
theorem d_Us_fair_61 : decode m_Us_fair.2.1 61 = .ok (.iload 4, 2) := by decide +kernel
theorem d_Us_fair_63 : decode m_Us_fair.2.1 63 = .ok (.invokestatic 210, 3) := by decide +kernel
theorem d_Us_fair_66 : decode m_Us_fair.2.1 66 = .ok (.if_icmp .ge 7, 3) := by decide +kernel
theorem d_Us_fair_69 : decode m_Us_fair.2.1 69 = .ok (.iload 5, 2) := by decide +kernel
theorem d_Us_fair_71 : decode m_Us_fair.2.1 71 = .ok (.istore 4, 2) := by decide +kernel
theorem d_Us_fair_73 : decode m_Us_fair.2.1 73 = .ok (.iinc 5 1, 3) := by decide +kernel
theorem d_Us_fair_76 : decode m_Us_fair.2.1 76 = .ok (.goto (-58), 3) := by decide +kernel
theorem d_Us_fair_79 : decode m_Us_fair.2.1 79 = .ok (.iload 4, 2) := by decide +kernel
theorem d_Us_fair_81 : decode m_Us_fair.2.1 81 = .ok (.bipush 100, 2) := by decide +kernel
theorem d_Us_fair_83 : decode m_Us_fair.2.1 83 = .ok (.iadd, 1) := by decide +kernel
theorem d_Us_fair_84 : decode m_Us_fair.2.1 84 = .ok (.ireturn, 1) := by decide +kernel
theorem g_Us_fair_0 {X : XS} (a1 : Int32) (a2 : Int32) (a3 : Int32) (h : Hp) (Q : Option AV → Hp → Prop)  (k : (∃ Q'4, EvI X m_Us_areNotWidths [vI a1, vI a2, vI a3] h Q'4 ∧ ∀ (r5 : Int32) (h3 : Hp), Q'4 r5 h3 → ((r5 = 0 → Rn X m_Us_fair 18 [some (vR [0]), some (vI a1), some (vI a2), some (vI a3), some (vI 0), some (vI 1)] [] h3 Q) ∧ (¬ r5 = 0 → Q (some (vI (-3))) h3)))) : Rn X m_Us_fair 0 [some (vR [0]), some (vI a1), some (vI a2), some (vI a3), none, none] [] h Q := by
  refine Rn.iload_n (n := 1) (i := 1) d_Us_fair_0 rfl rfl rfl ?_
  refine Rn.iload_n (n := 2) (i := 2) d_Us_fair_1 rfl rfl rfl ?_
  refine Rn.iload_n (n := 3) (i := 3) d_Us_fair_2 rfl rfl rfl ?_
  obtain ⟨Q'4, ev1, k⟩ := k
  refine Rn.callS (n := 6) (av := [vI a1, vI a2, vI a3]) d_Us_fair_3 rfl ml_Us_fair_201 ms_Us_areNotWidths rfl rfl (Nat.le_of_ble_eq_true rfl) ev1 (fun v h3 hq => ?_)
  obtain ⟨r5, rfl, hq⟩ := hq
  have k := k r5 h3 hq
  show Rn X m_Us_fair 6 [some (vR [0]), some (vI a1), some (vI a2), some (vI a3), none, none] [vI r5] h3 Q
  refine Rn.if_eq (n := 9) (t := 12) d_Us_fair_6 rfl (by decide) (fun cc => ?_) (fun cc => ?_)
  · have k := k.1 cc
    refine Rn.iconst (n := 13) (v := 0) d_Us_fair_12 rfl (by decide) ?_
    refine Rn.istore (n := 15) (i := 4) (ls2 := [some (vR [0]), some (vI a1), some (vI a2), some (vI a3), some (vI 0), none]) d_Us_fair_13 rfl (Nat.le_of_ble_eq_true rfl) rfl ?_
    refine Rn.iconst (n := 16) (v := 1) d_Us_fair_15 rfl (by decide) ?_
    refine Rn.istore (n := 18) (i := 5) (ls2 := [some (vR [0]), some (vI a1), some (vI a2), some (vI a3), some (vI 0), some (vI 1)]) d_Us_fair_16 rfl (Nat.le_of_ble_eq_true rfl) rfl ?_
    exact k
  · have k := k.2 cc
    refine Rn.bipush (n := 11) (v := (-3)) d_Us_fair_9 rfl (by decide) ?_
    exact Rn.iret d_Us_fair_11 rfl rfl k
theorem g_Us_fair_18 {X : XS} (a1 : Int32) (a2 : Int32) (a3 : Int32) (a4 : Int32) (a5 : Int32) (h : Hp) (Q : Option AV → Hp → Prop)  (k : ((20 < a5 → Q (some (vI (a4 + 100))) h) ∧ (¬ 20 < a5 → (∃ Q'4, EvI X m_Us_greaterPart [vI a1, vI a2, vI a3, vI (-a5)] h Q'4 ∧ ∀ (r5 : Int32) (h3 : Hp), Q'4 r5 h3 → (∃ Q'9, EvI X m_Us_greaterPart [vI a1, vI a2, vI a3, vI a4] h3 Q'9 ∧ ∀ (r10 : Int32) (h8 : Hp), Q'9 r10 h8 → ((r10 ≤ r5 → Rn X m_Us_fair 50 [some (vR [0]), some (vI a1), some (vI a2), some (vI a3), some (vI a4), some (vI a5)] [] h8 Q) ∧ (¬ r10 ≤ r5 → Rn X m_Us_fair 50 [some (vR [0]), some (vI a1), some (vI a2), some (vI a3), some (vI (-a5)), some (vI a5)] [] h8 Q))))))) : Rn X m_Us_fair 18 [some (vR [0]), some (vI a1), some (vI a2), some (vI a3), some (vI a4), some (vI a5)] [] h Q := by
  refine Rn.iload (n := 20) (i := 5) d_Us_fair_18 rfl rfl ?_
  refine Rn.bipush (n := 22) (v := 20) d_Us_fair_20 rfl (by decide) ?_
  refine Rn.icmp_gt (n := 25) (t := 79) d_Us_fair_22 rfl (by decide) (fun cc => ?_) (fun cc => ?_)
  · have k := k.1 cc
    refine Rn.iload (n := 81) (i := 4) d_Us_fair_79 rfl rfl ?_
    refine Rn.bipush (n := 83) (v := 100) d_Us_fair_81 rfl (by decide) ?_
    refine Rn.iadd (n := 84) d_Us_fair_83 rfl ?_
    exact Rn.iret d_Us_fair_84 rfl rfl k
  · have k := k.2 cc
    refine Rn.iload_n (n := 26) (i := 1) d_Us_fair_25 rfl rfl rfl ?_
    refine Rn.iload_n (n := 27) (i := 2) d_Us_fair_26 rfl rfl rfl ?_
    refine Rn.iload_n (n := 28) (i := 3) d_Us_fair_27 rfl rfl rfl ?_
    refine Rn.iload (n := 30) (i := 5) d_Us_fair_28 rfl rfl ?_
    refine Rn.ineg (n := 31) d_Us_fair_30 rfl ?_
    obtain ⟨Q'4, ev1, k⟩ := k
    refine Rn.callS (n := 34) (av := [vI a1, vI a2, vI a3, vI (-a5)]) d_Us_fair_31 rfl ml_Us_fair_210 ms_Us_greaterPart rfl rfl (Nat.le_of_ble_eq_true rfl) ev1 (fun v h3 hq => ?_)
    obtain ⟨r5, rfl, hq⟩ := hq
    have k := k r5 h3 hq
    show Rn X m_Us_fair 34 [some (vR [0]), some (vI a1), some (vI a2), some (vI a3), some (vI a4), some (vI a5)] [vI r5] h3 Q
    refine Rn.iload_n (n := 35) (i := 1) d_Us_fair_34 rfl rfl rfl ?_
    refine Rn.iload_n (n := 36) (i := 2) d_Us_fair_35 rfl rfl rfl ?_
    refine Rn.iload_n (n := 37) (i := 3) d_Us_fair_36 rfl rfl rfl ?_
    refine Rn.iload (n := 39) (i := 4) d_Us_fair_37 rfl rfl ?_
    obtain ⟨Q'9, ev6, k⟩ := k
    refine Rn.callS (n := 42) (av := [vI a1, vI a2, vI a3, vI a4]) d_Us_fair_39 rfl ml_Us_fair_210 ms_Us_greaterPart rfl rfl (Nat.le_of_ble_eq_true rfl) ev6 (fun v h8 hq => ?_)
    obtain ⟨r10, rfl, hq⟩ := hq
    have k := k r10 h8 hq
    show Rn X m_Us_fair 42 [some (vR [0]), some (vI a1), some (vI a2), some (vI a3), some (vI a4), some (vI a5)] [vI r10, vI r5] h8 Q
    refine Rn.icmp_ge (n := 45) (t := 50) d_Us_fair_42 rfl (by decide) (fun cc => ?_) (fun cc => ?_)
    · have k := k.1 cc
      exact k
    · have k := k.2 cc
      refine Rn.iload (n := 47) (i := 5) d_Us_fair_45 rfl rfl ?_
      refine Rn.ineg (n := 48) d_Us_fair_47 rfl ?_
      refine Rn.istore (n := 50) (i := 4) (ls2 := [some (vR [0]), some (vI a1), some (vI a2), some (vI a3), some (vI (-a5)), some (vI a5)]) d_Us_fair_48 rfl (Nat.le_of_ble_eq_true rfl) rfl ?_
      exact k
theorem g_Us_fair_50 {X : XS} (a1 : Int32) (a2 : Int32) (a3 : Int32) (a4 : Int32) (a5 : Int32) (h : Hp) (Q : Option AV → Hp → Prop)  (k : (∃ Q'4, EvI X m_Us_greaterPart [vI a1, vI a2, vI a3, vI a5] h Q'4 ∧ ∀ (r5 : Int32) (h3 : Hp), Q'4 r5 h3 → (∃ Q'9, EvI X m_Us_greaterPart [vI a1, vI a2, vI a3, vI a4] h3 Q'9 ∧ ∀ (r10 : Int32) (h8 : Hp), Q'9 r10 h8 → ((r10 ≤ r5 → Rn X m_Us_fair 18 [some (vR [0]), some (vI a1), some (vI a2), some (vI a3), some (vI a4), some (vI (a5 + 1))] [] h8 Q) ∧ (¬ r10 ≤ r5 → Rn X m_Us_fair 18 [some (vR [0]), some (vI a1), some (vI a2), some (vI a3), some (vI a5), some (vI (a5 + 1))] [] h8 Q))))) : Rn X m_Us_fair 50 [some (vR [0]), some (vI a1), some (vI a2), some (vI a3), some (vI a4), some (vI a5)] [] h Q := by
  refine Rn.iload_n (n := 51) (i := 1) d_Us_fair_50 rfl rfl rfl ?_
  refine Rn.iload_n (n := 52) (i := 2) d_Us_fair_51 rfl rfl rfl ?_
  refine Rn.iload_n (n := 53) (i := 3) d_Us_fair_52 rfl rfl rfl ?_
  refine Rn.iload (n := 55) (i := 5) d_Us_fair_53 rfl rfl ?_
  obtain ⟨Q'4, ev1, k⟩ := k
  refine Rn.callS (n := 58) (av := [vI a1, vI a2, vI a3, vI a5]) d_Us_fair_55 rfl ml_Us_fair_210 ms_Us_greaterPart rfl rfl (Nat.le_of_ble_eq_true rfl) ev1 (fun v h3 hq => ?_)
  obtain ⟨r5, rfl, hq⟩ := hq
  have k := k r5 h3 hq
  show Rn X m_Us_fair 58 [some (vR [0]), some (vI a1), some (vI a2), some (vI a3), some (vI a4), some (vI a5)] [vI r5] h3 Q
  refine Rn.iload_n (n := 59) (i := 1) d_Us_fair_58 rfl rfl rfl ?_
  refine Rn.iload_n (n := 60) (i := 2) d_Us_fair_59 rfl rfl rfl ?_
  refine Rn.iload_n (n := 61) (i := 3) d_Us_fair_60 rfl rfl rfl ?_
  refine Rn.iload (n := 63) (i := 4) d_Us_fair_61 rfl rfl ?_
  obtain ⟨Q'9, ev6, k⟩ := k
  refine Rn.callS (n := 66) (av := [vI a1, vI a2, vI a3, vI a4]) d_Us_fair_63 rfl ml_Us_fair_210 ms_Us_greaterPart rfl rfl (Nat.le_of_ble_eq_true rfl) ev6 (fun v h8 hq => ?_)
  obtain ⟨r10, rfl, hq⟩ := hq
  have k := k r10 h8 hq
  show Rn X m_Us_fair 66 [some (vR [0]), some (vI a1), some (vI a2), some (vI a3), some (vI a4), some (vI a5)] [vI r10, vI r5] h8 Q
  refine Rn.icmp_ge (n := 69) (t := 73) d_Us_fair_66 rfl (by decide) (fun cc => ?_) (fun cc => ?_)
  · have k := k.1 cc
    refine Rn.iinc (n := 76) (i := 5) (v := a5 + 1) (ls2 := [some (vR [0]), some (vI a1), some (vI a2), some (vI a3), some (vI a4), some (vI (a5 + 1))]) d_Us_fair_73 rfl rfl rfl (Nat.le_of_ble_eq_true rfl) rfl ?_
    refine Rn.goto (n := 18) d_Us_fair_76 (by decide) ?_
    exact k
  · have k := k.2 cc
    refine Rn.iload (n := 71) (i := 5) d_Us_fair_69 rfl rfl ?_
    refine Rn.istore (n := 73) (i := 4) (ls2 := [some (vR [0]), some (vI a1), some (vI a2), some (vI a3), some (vI a5), some (vI a5)]) d_Us_fair_71 rfl (Nat.le_of_ble_eq_true rfl) rfl ?_
    refine Rn.iinc (n := 76) (i := 5) (v := a5 + 1) (ls2 := [some (vR [0]), some (vI a1), some (vI a2), some (vI a3), some (vI a5), some (vI (a5 + 1))]) d_Us_fair_73 rfl rfl rfl (Nat.le_of_ble_eq_true rfl) rfl ?_
    refine Rn.goto (n := 18) d_Us_fair_76 (by decide) ?_
    exact k
theorem e_Us_fair {X : XS} (a1 : Int32) (a2 : Int32) (a3 : Int32) (h : Hp) (Q : Option AV → Hp → Prop) (k : Rn X m_Us_fair 0 [some (vR [0]), some (vI a1), some (vI a2), some (vI a3), none, none] [] h Q) : Ev X m_Us_fair [vR [0], vI a1, vI a2, vI a3] h Q := Ev.intro (plainFor_of_name (by decide +kernel)) (Nat.le_of_ble_eq_true rfl) (ls := [some (vR [0]), some (vI a1), some (vI a2), some (vI a3), none, none]) rfl k
theorem d_Us_areNotWidths_0 : decode m_Us_areNotWidths.2.1 0 = .ok (.iload_n 0, 1) := by decide +kernel
theorem d_Us_areNotWidths_1 : decode m_Us_areNotWidths.2.1 1 = .ok (.iconst 1, 1) := by decide +kernel
theorem d_Us_areNotWidths_2 : decode m_Us_areNotWidths.2.1 2 = .ok (.bipush 9, 2) := by decide +kernel
theorem d_Us_areNotWidths_4 : decode m_Us_areNotWidths.2.1 4 = .ok (.invokestatic 61, 3) := by decide +kernel
theorem d_Us_areNotWidths_7 : decode m_Us_areNotWidths.2.1 7 = .ok (.ifCond .ne 23, 3) := by decide +kernel
theorem d_Us_areNotWidths_10 : decode m_Us_areNotWidths.2.1 10 = .ok (.iload_n 1, 1) := by decide +kernel
theorem d_Us_areNotWidths_11 : decode m_Us_areNotWidths.2.1 11 = .ok (.iconst 1, 1) := by decide +kernel
theorem d_Us_areNotWidths_12 : decode m_Us_areNotWidths.2.1 12 = .ok (.bipush 19, 2) := by decide +kernel
theorem d_Us_areNotWidths_14 : decode m_Us_areNotWidths.2.1 14 = .ok (.invokestatic 61, 3) := by decide +kernel
theorem d_Us_areNotWidths_17 : decode m_Us_areNotWidths.2.1 17 = .ok (.ifCond .ne 13, 3) := by decide +kernel
theorem d_Us_areNotWidths_20 : decode m_Us_areNotWidths.2.1 20 = .ok (.iload_n 2, 1) := by decide +kernel
theorem d_Us_areNotWidths_21 : decode m_Us_areNotWidths.2.1 21 = .ok (.iconst 1, 1) := by decide +kernel
theorem d_Us_areNotWidths_22 : decode m_Us_areNotWidths.2.1 22 = .ok (.bipush 19, 2) := by decide +kernel
theorem d_Us_areNotWidths_24 : decode m_Us_areNotWidths.2.1 24 = .ok (.invokestatic 61, 3) := by decide +kernel
theorem d_Us_areNotWidths_27 : decode m_Us_areNotWidths.2.1 27 = .ok (.ifCond .eq 7, 3) := by decide +kernel
theorem d_Us_areNotWidths_30 : decode m_Us_areNotWidths.2.1 30 = .ok (.iconst 1, 1) := by decide +kernel
theorem d_Us_areNotWidths_31 : decode m_Us_areNotWidths.2.1 31 = .ok (.goto 4, 3) := by decide +kernel
theorem d_Us_areNotWidths_34 : decode m_Us_areNotWidths.2.1 34 = .ok (.iconst 0, 1) := by decide +kernel
theorem d_Us_areNotWidths_35 : decode m_Us_areNotWidths.2.1 35 = .ok (.ireturn, 1) := by decide +kernel
theorem g_Us_areNotWidths_0 {X : XS} (a0 : Int32) (a1 : Int32) (a2 : Int32) (h : Hp) (Q : Option AV → Hp → Prop)  (k : (∃ Q'4, EvI X m_Us_isNotIn [vI a0, vI 1, vI 9] h Q'4 ∧ ∀ (r5 : Int32) (h3 : Hp), Q'4 r5 h3 → ((¬ r5 = 0 → Q (some (vI 1)) h3) ∧ (r5 = 0 → (∃ Q'9, EvI X m_Us_isNotIn [vI a1, vI 1, vI 19] h3 Q'9 ∧ ∀ (r10 : Int32) (h8 : Hp), Q'9 r10 h8 → ((¬ r10 = 0 → Q (some (vI 1)) h8) ∧ (r10 = 0 → (∃ Q'14, EvI X m_Us_isNotIn [vI a2, vI 1, vI 19] h8 Q'14 ∧ ∀ (r15 : Int32) (h13 : Hp), Q'14 r15 h13 → ((r15 = 0 → Q (some (vI 0)) h13) ∧ (¬ r15 = 0 → Q (some (vI 1)) h13)))))))))) : Rn X m_Us_areNotWidths 0 [some (vI a0), some (vI a1), some (vI a2)] [] h Q := by
  refine Rn.iload_n (n := 1) (i := 0) d_Us_areNotWidths_0 rfl rfl rfl ?_
  refine Rn.iconst (n := 2) (v := 1) d_Us_areNotWidths_1 rfl (by decide) ?_
  refine Rn.bipush (n := 4) (v := 9) d_Us_areNotWidths_2 rfl (by decide) ?_
  obtain ⟨Q'4, ev1, k⟩ := k
  refine Rn.callS (n := 7) (av := [vI a0, vI 1, vI 9]) d_Us_areNotWidths_4 rfl ml_Us_areNotWidths_61 ms_Us_isNotIn rfl rfl (Nat.le_of_ble_eq_true rfl) ev1 (fun v h3 hq => ?_)
  obtain ⟨r5, rfl, hq⟩ := hq
  have k := k r5 h3 hq
  show Rn X m_Us_areNotWidths 7 [some (vI a0), some (vI a1), some (vI a2)] [vI r5] h3 Q
  refine Rn.if_ne (n := 10) (t := 30) d_Us_areNotWidths_7 rfl (by decide) (fun cc => ?_) (fun cc => ?_)
  · have k := k.1 cc
    refine Rn.iconst (n := 31) (v := 1) d_Us_areNotWidths_30 rfl (by decide) ?_
    refine Rn.goto (n := 35) d_Us_areNotWidths_31 (by decide) ?_
    exact Rn.iret d_Us_areNotWidths_35 rfl rfl k
  · have k := k.2 cc
    refine Rn.iload_n (n := 11) (i := 1) d_Us_areNotWidths_10 rfl rfl rfl ?_
    refine Rn.iconst (n := 12) (v := 1) d_Us_areNotWidths_11 rfl (by decide) ?_
    refine Rn.bipush (n := 14) (v := 19) d_Us_areNotWidths_12 rfl (by decide) ?_
    obtain ⟨Q'9, ev6, k⟩ := k
    refine Rn.callS (n := 17) (av := [vI a1, vI 1, vI 19]) d_Us_areNotWidths_14 rfl ml_Us_areNotWidths_61 ms_Us_isNotIn rfl rfl (Nat.le_of_ble_eq_true rfl) ev6 (fun v h8 hq => ?_)
    obtain ⟨r10, rfl, hq⟩ := hq
    have k := k r10 h8 hq
    show Rn X m_Us_areNotWidths 17 [some (vI a0), some (vI a1), some (vI a2)] [vI r10] h8 Q
    refine Rn.if_ne (n := 20) (t := 30) d_Us_areNotWidths_17 rfl (by decide) (fun cc => ?_) (fun cc => ?_)
    · have k := k.1 cc
      refine Rn.iconst (n := 31) (v := 1) d_Us_areNotWidths_30 rfl (by decide) ?_
      refine Rn.goto (n := 35) d_Us_areNotWidths_31 (by decide) ?_
      exact Rn.iret d_Us_areNotWidths_35 rfl rfl k
    · have k := k.2 cc
      refine Rn.iload_n (n := 21) (i := 2) d_Us_areNotWidths_20 rfl rfl rfl ?_
      refine Rn.iconst (n := 22) (v := 1) d_Us_areNotWidths_21 rfl (by decide) ?_
      refine Rn.bipush (n := 24) (v := 19) d_Us_areNotWidths_22 rfl (by decide) ?_
      obtain ⟨Q'14, ev11, k⟩ := k
      refine Rn.callS (n := 27) (av := [vI a2, vI 1, vI 19]) d_Us_areNotWidths_24 rfl ml_Us_areNotWidths_61 ms_Us_isNotIn rfl rfl (Nat.le_of_ble_eq_true rfl) ev11 (fun v h13 hq => ?_)
      obtain ⟨r15, rfl, hq⟩ := hq
      have k := k r15 h13 hq
      show Rn X m_Us_areNotWidths 27 [some (vI a0), some (vI a1), some (vI a2)] [vI r15] h13 Q
      refine Rn.if_eq (n := 30) (t := 34) d_Us_areNotWidths_27 rfl (by decide) (fun cc => ?_) (fun cc => ?_)
      · have k := k.1 cc
        refine Rn.iconst (n := 35) (v := 0) d_Us_areNotWidths_34 rfl (by decide) ?_
        exact Rn.iret d_Us_areNotWidths_35 rfl rfl k
      · have k := k.2 cc
        refine Rn.iconst (n := 31) (v := 1) d_Us_areNotWidths_30 rfl (by decide) ?_
        refine Rn.goto (n := 35) d_Us_areNotWidths_31 (by decide) ?_
        exact Rn.iret d_Us_areNotWidths_35 rfl rfl k
theorem e_Us_areNotWidths {X : XS} (a0 : Int32) (a1 : Int32) (a2 : Int32) (h : Hp) (Q : Option AV → Hp → Prop) (k : Rn X m_Us_areNotWidths 0 [some (vI a0), some (vI a1), some (vI a2)] [] h Q) : Ev X m_Us_areNotWidths [vI a0, vI a1, vI a2] h Q := Ev.intro (plainFor_of_name (by decide +kernel)) (Nat.le_of_ble_eq_true rfl) (ls := [some (vI a0), some (vI a1), some (vI a2)]) rfl k
theorem d_Us_bareOfLeft_0 : decode m_Us_bareOfLeft.2.1 0 = .ok (.iload_n 1, 1) := by decide +kernel
theorem d_Us_bareOfLeft_1 : decode m_Us_bareOfLeft.2.1 1 = .ok (.iload_n 1, 1) := by decide +kernel
theorem d_Us_bareOfLeft_2 : decode m_Us_bareOfLeft.2.1 2 = .ok (.ineg, 1) := by decide +kernel
theorem d_Us_bareOfLeft_3 : decode m_Us_bareOfLeft.2.1 3 = .ok (.iconst 0, 1) := by decide +kernel
theorem d_Us_bareOfLeft_4 : decode m_Us_bareOfLeft.2.1 4 = .ok (.iload_n 2, 1) := by decide +kernel
theorem d_Us_bareOfLeft_5 : decode m_Us_bareOfLeft.2.1 5 = .ok (.iload_n 0, 1) := by decide +kernel
theorem d_Us_bareOfLeft_6 : decode m_Us_bareOfLeft.2.1 6 = .ok (.isub, 1) := by decide +kernel
theorem d_Us_bareOfLeft_7 : decode m_Us_bareOfLeft.2.1 7 = .ok (.iload_n 2, 1) := by decide +kernel
theorem d_Us_bareOfLeft_8 : decode m_Us_bareOfLeft.2.1 8 = .ok (.iload_n 0, 1) := by decide +kernel
theorem d_Us_bareOfLeft_9 : decode m_Us_bareOfLeft.2.1 9 = .ok (.iadd, 1) := by decide +kernel
theorem d_Us_bareOfLeft_10 : decode m_Us_bareOfLeft.2.1 10 = .ok (.invokestatic 214, 3) := by decide +kernel
theorem d_Us_bareOfLeft_13 : decode m_Us_bareOfLeft.2.1 13 = .ok (.isub, 1) := by decide +kernel
theorem d_Us_bareOfLeft_14 : decode m_Us_bareOfLeft.2.1 14 = .ok (.ireturn, 1) := by decide +kernel
theorem g_Us_bareOfLeft_0 {X : XS} (a0 : Int32) (a1 : Int32) (a2 : Int32) (h : Hp) (Q : Option AV → Hp → Prop)  (k : (∃ Q'4, EvI X m_Us_shared [vI (-a1), vI 0, vI (a2 - a0), vI (a2 + a0)] h Q'4 ∧ ∀ (r5 : Int32) (h3 : Hp), Q'4 r5 h3 → Q (some (vI (a1 - r5))) h3)) : Rn X m_Us_bareOfLeft 0 [some (vI a0), some (vI a1), some (vI a2)] [] h Q := by
  refine Rn.iload_n (n := 1) (i := 1) d_Us_bareOfLeft_0 rfl rfl rfl ?_
  refine Rn.iload_n (n := 2) (i := 1) d_Us_bareOfLeft_1 rfl rfl rfl ?_
  refine Rn.ineg (n := 3) d_Us_bareOfLeft_2 rfl ?_
  refine Rn.iconst (n := 4) (v := 0) d_Us_bareOfLeft_3 rfl (by decide) ?_
  refine Rn.iload_n (n := 5) (i := 2) d_Us_bareOfLeft_4 rfl rfl rfl ?_
  refine Rn.iload_n (n := 6) (i := 0) d_Us_bareOfLeft_5 rfl rfl rfl ?_
  refine Rn.isub (n := 7) d_Us_bareOfLeft_6 rfl ?_
  refine Rn.iload_n (n := 8) (i := 2) d_Us_bareOfLeft_7 rfl rfl rfl ?_
  refine Rn.iload_n (n := 9) (i := 0) d_Us_bareOfLeft_8 rfl rfl rfl ?_
  refine Rn.iadd (n := 10) d_Us_bareOfLeft_9 rfl ?_
  obtain ⟨Q'4, ev1, k⟩ := k
  refine Rn.callS (n := 13) (av := [vI (-a1), vI 0, vI (a2 - a0), vI (a2 + a0)]) d_Us_bareOfLeft_10 rfl ml_Us_bareOfLeft_214 ms_Us_shared rfl rfl (Nat.le_of_ble_eq_true rfl) ev1 (fun v h3 hq => ?_)
  obtain ⟨r5, rfl, hq⟩ := hq
  have k := k r5 h3 hq
  show Rn X m_Us_bareOfLeft 13 [some (vI a0), some (vI a1), some (vI a2)] [vI r5, vI a1] h3 Q
  refine Rn.isub (n := 14) d_Us_bareOfLeft_13 rfl ?_
  exact Rn.iret d_Us_bareOfLeft_14 rfl rfl k
theorem e_Us_bareOfLeft {X : XS} (a0 : Int32) (a1 : Int32) (a2 : Int32) (h : Hp) (Q : Option AV → Hp → Prop) (k : Rn X m_Us_bareOfLeft 0 [some (vI a0), some (vI a1), some (vI a2)] [] h Q) : Ev X m_Us_bareOfLeft [vI a0, vI a1, vI a2] h Q := Ev.intro (plainFor_of_name (by decide +kernel)) (Nat.le_of_ble_eq_true rfl) (ls := [some (vI a0), some (vI a1), some (vI a2)]) rfl k
theorem d_Us_bareOfRight_0 : decode m_Us_bareOfRight.2.1 0 = .ok (.iload_n 1, 1) := by decide +kernel
theorem d_Us_bareOfRight_1 : decode m_Us_bareOfRight.2.1 1 = .ok (.iconst 0, 1) := by decide +kernel
theorem d_Us_bareOfRight_2 : decode m_Us_bareOfRight.2.1 2 = .ok (.iload_n 1, 1) := by decide +kernel
theorem d_Us_bareOfRight_3 : decode m_Us_bareOfRight.2.1 3 = .ok (.iload_n 2, 1) := by decide +kernel
theorem d_Us_bareOfRight_4 : decode m_Us_bareOfRight.2.1 4 = .ok (.iload_n 0, 1) := by decide +kernel
theorem d_Us_bareOfRight_5 : decode m_Us_bareOfRight.2.1 5 = .ok (.isub, 1) := by decide +kernel
theorem d_Us_bareOfRight_6 : decode m_Us_bareOfRight.2.1 6 = .ok (.iload_n 2, 1) := by decide +kernel
theorem d_Us_bareOfRight_7 : decode m_Us_bareOfRight.2.1 7 = .ok (.iload_n 0, 1) := by decide +kernel
theorem d_Us_bareOfRight_8 : decode m_Us_bareOfRight.2.1 8 = .ok (.iadd, 1) := by decide +kernel
theorem d_Us_bareOfRight_9 : decode m_Us_bareOfRight.2.1 9 = .ok (.invokestatic 214, 3) := by decide +kernel
theorem d_Us_bareOfRight_12 : decode m_Us_bareOfRight.2.1 12 = .ok (.isub, 1) := by decide +kernel
theorem d_Us_bareOfRight_13 : decode m_Us_bareOfRight.2.1 13 = .ok (.ireturn, 1) := by decide +kernel
theorem g_Us_bareOfRight_0 {X : XS} (a0 : Int32) (a1 : Int32) (a2 : Int32) (h : Hp) (Q : Option AV → Hp → Prop)  (k : (∃ Q'4, EvI X m_Us_shared [vI 0, vI a1, vI (a2 - a0), vI (a2 + a0)] h Q'4 ∧ ∀ (r5 : Int32) (h3 : Hp), Q'4 r5 h3 → Q (some (vI (a1 - r5))) h3)) : Rn X m_Us_bareOfRight 0 [some (vI a0), some (vI a1), some (vI a2)] [] h Q := by
  refine Rn.iload_n (n := 1) (i := 1) d_Us_bareOfRight_0 rfl rfl rfl ?_
  refine Rn.iconst (n := 2) (v := 0) d_Us_bareOfRight_1 rfl (by decide) ?_
  refine Rn.iload_n (n := 3) (i := 1) d_Us_bareOfRight_2 rfl rfl rfl ?_
  refine Rn.iload_n (n := 4) (i := 2) d_Us_bareOfRight_3 rfl rfl rfl ?_
  refine Rn.iload_n (n := 5) (i := 0) d_Us_bareOfRight_4 rfl rfl rfl ?_
  refine Rn.isub (n := 6) d_Us_bareOfRight_5 rfl ?_
  refine Rn.iload_n (n := 7) (i := 2) d_Us_bareOfRight_6 rfl rfl rfl ?_
  refine Rn.iload_n (n := 8) (i := 0) d_Us_bareOfRight_7 rfl rfl rfl ?_
  refine Rn.iadd (n := 9) d_Us_bareOfRight_8 rfl ?_
  obtain ⟨Q'4, ev1, k⟩ := k
  refine Rn.callS (n := 12) (av := [vI 0, vI a1, vI (a2 - a0), vI (a2 + a0)]) d_Us_bareOfRight_9 rfl ml_Us_bareOfRight_214 ms_Us_shared rfl rfl (Nat.le_of_ble_eq_true rfl) ev1 (fun v h3 hq => ?_)
  obtain ⟨r5, rfl, hq⟩ := hq
  have k := k r5 h3 hq
  show Rn X m_Us_bareOfRight 12 [some (vI a0), some (vI a1), some (vI a2)] [vI r5, vI a1] h3 Q
  refine Rn.isub (n := 13) d_Us_bareOfRight_12 rfl ?_
  exact Rn.iret d_Us_bareOfRight_13 rfl rfl k
theorem e_Us_bareOfRight {X : XS} (a0 : Int32) (a1 : Int32) (a2 : Int32) (h : Hp) (Q : Option AV → Hp → Prop) (k : Rn X m_Us_bareOfRight 0 [some (vI a0), some (vI a1), some (vI a2)] [] h Q) : Ev X m_Us_bareOfRight [vI a0, vI a1, vI a2] h Q := Ev.intro (plainFor_of_name (by decide +kernel)) (Nat.le_of_ble_eq_true rfl) (ls := [some (vI a0), some (vI a1), some (vI a2)]) rfl k
theorem d_Us_shared_0 : decode m_Us_shared.2.1 0 = .ok (.iconst 0, 1) := by decide +kernel
theorem d_Us_shared_1 : decode m_Us_shared.2.1 1 = .ok (.iload_n 1, 1) := by decide +kernel
theorem d_Us_shared_2 : decode m_Us_shared.2.1 2 = .ok (.iload_n 3, 1) := by decide +kernel
theorem d_Us_shared_3 : decode m_Us_shared.2.1 3 = .ok (.invokestatic 217, 3) := by decide +kernel
theorem d_Us_shared_6 : decode m_Us_shared.2.1 6 = .ok (.iload_n 0, 1) := by decide +kernel
theorem d_Us_shared_7 : decode m_Us_shared.2.1 7 = .ok (.iload_n 2, 1) := by decide +kernel
theorem d_Us_shared_8 : decode m_Us_shared.2.1 8 = .ok (.invokestatic 223, 3) := by decide +kernel
theorem d_Us_shared_11 : decode m_Us_shared.2.1 11 = .ok (.isub, 1) := by decide +kernel
theorem d_Us_shared_12 : decode m_Us_shared.2.1 12 = .ok (.invokestatic 223, 3) := by decide +kernel
theorem d_Us_shared_15 : decode m_Us_shared.2.1 15 = .ok (.ireturn, 1) := by decide +kernel
theorem g_Us_shared_0 {X : XS} (a0 : Int32) (a1 : Int32) (a2 : Int32) (a3 : Int32) (h : Hp) (Q : Option AV → Hp → Prop)  (k : Q (some (vI (iMax 0 ((iMin a1 a3) - (iMax a0 a2))))) h) : Rn X m_Us_shared 0 [some (vI a0), some (vI a1), some (vI a2), some (vI a3)] [] h Q := by
  refine Rn.iconst (n := 1) (v := 0) d_Us_shared_0 rfl (by decide) ?_
  refine Rn.iload_n (n := 2) (i := 1) d_Us_shared_1 rfl rfl rfl ?_
  refine Rn.iload_n (n := 3) (i := 3) d_Us_shared_2 rfl rfl rfl ?_
  refine Rn.mmin (n := 6) d_Us_shared_3 rfl ml_Us_shared_217 (Nat.le_of_ble_eq_true rfl) ?_
  refine Rn.iload_n (n := 7) (i := 0) d_Us_shared_6 rfl rfl rfl ?_
  refine Rn.iload_n (n := 8) (i := 2) d_Us_shared_7 rfl rfl rfl ?_
  refine Rn.mmax (n := 11) d_Us_shared_8 rfl ml_Us_shared_223 (Nat.le_of_ble_eq_true rfl) ?_
  refine Rn.isub (n := 12) d_Us_shared_11 rfl ?_
  refine Rn.mmax (n := 15) d_Us_shared_12 rfl ml_Us_shared_223 (Nat.le_of_ble_eq_true rfl) ?_
  exact Rn.iret d_Us_shared_15 rfl rfl k
theorem e_Us_shared {X : XS} (a0 : Int32) (a1 : Int32) (a2 : Int32) (a3 : Int32) (h : Hp) (Q : Option AV → Hp → Prop) (k : Rn X m_Us_shared 0 [some (vI a0), some (vI a1), some (vI a2), some (vI a3)] [] h Q) : Ev X m_Us_shared [vI a0, vI a1, vI a2, vI a3] h Q := Ev.intro (plainFor_of_name (by decide +kernel)) (Nat.le_of_ble_eq_true rfl) (ls := [some (vI a0), some (vI a1), some (vI a2), some (vI a3)]) rfl k
theorem d_Us_greaterPart_0 : decode m_Us_greaterPart.2.1 0 = .ok (.iload_n 0, 1) := by decide +kernel
theorem d_Us_greaterPart_1 : decode m_Us_greaterPart.2.1 1 = .ok (.iload_n 1, 1) := by decide +kernel
theorem d_Us_greaterPart_2 : decode m_Us_greaterPart.2.1 2 = .ok (.iload_n 3, 1) := by decide +kernel
theorem d_Us_greaterPart_3 : decode m_Us_greaterPart.2.1 3 = .ok (.invokestatic 204, 3) := by decide +kernel
theorem d_Us_greaterPart_6 : decode m_Us_greaterPart.2.1 6 = .ok (.iload_n 2, 1) := by decide +kernel
theorem d_Us_greaterPart_7 : decode m_Us_greaterPart.2.1 7 = .ok (.imul, 1) := by decide +kernel
theorem d_Us_greaterPart_8 : decode m_Us_greaterPart.2.1 8 = .ok (.iload_n 0, 1) := by decide +kernel
theorem d_Us_greaterPart_9 : decode m_Us_greaterPart.2.1 9 = .ok (.iload_n 2, 1) := by decide +kernel
theorem d_Us_greaterPart_10 : decode m_Us_greaterPart.2.1 10 = .ok (.iload_n 3, 1) := by decide +kernel
theorem d_Us_greaterPart_11 : decode m_Us_greaterPart.2.1 11 = .ok (.invokestatic 207, 3) := by decide +kernel
theorem d_Us_greaterPart_14 : decode m_Us_greaterPart.2.1 14 = .ok (.iload_n 1, 1) := by decide +kernel
theorem d_Us_greaterPart_15 : decode m_Us_greaterPart.2.1 15 = .ok (.imul, 1) := by decide +kernel
theorem d_Us_greaterPart_16 : decode m_Us_greaterPart.2.1 16 = .ok (.invokestatic 223, 3) := by decide +kernel
theorem d_Us_greaterPart_19 : decode m_Us_greaterPart.2.1 19 = .ok (.ireturn, 1) := by decide +kernel
theorem g_Us_greaterPart_0 {X : XS} (a0 : Int32) (a1 : Int32) (a2 : Int32) (a3 : Int32) (h : Hp) (Q : Option AV → Hp → Prop)  (k : (∃ Q'4, EvI X m_Us_bareOfLeft [vI a0, vI a1, vI a3] h Q'4 ∧ ∀ (r5 : Int32) (h3 : Hp), Q'4 r5 h3 → (∃ Q'9, EvI X m_Us_bareOfRight [vI a0, vI a2, vI a3] h3 Q'9 ∧ ∀ (r10 : Int32) (h8 : Hp), Q'9 r10 h8 → Q (some (vI (iMax (r5 * a2) (r10 * a1)))) h8))) : Rn X m_Us_greaterPart 0 [some (vI a0), some (vI a1), some (vI a2), some (vI a3)] [] h Q := by
  refine Rn.iload_n (n := 1) (i := 0) d_Us_greaterPart_0 rfl rfl rfl ?_
  refine Rn.iload_n (n := 2) (i := 1) d_Us_greaterPart_1 rfl rfl rfl ?_
  refine Rn.iload_n (n := 3) (i := 3) d_Us_greaterPart_2 rfl rfl rfl ?_
  obtain ⟨Q'4, ev1, k⟩ := k
  refine Rn.callS (n := 6) (av := [vI a0, vI a1, vI a3]) d_Us_greaterPart_3 rfl ml_Us_greaterPart_204 ms_Us_bareOfLeft rfl rfl (Nat.le_of_ble_eq_true rfl) ev1 (fun v h3 hq => ?_)
  obtain ⟨r5, rfl, hq⟩ := hq
  have k := k r5 h3 hq
  show Rn X m_Us_greaterPart 6 [some (vI a0), some (vI a1), some (vI a2), some (vI a3)] [vI r5] h3 Q
  refine Rn.iload_n (n := 7) (i := 2) d_Us_greaterPart_6 rfl rfl rfl ?_
  refine Rn.imul (n := 8) d_Us_greaterPart_7 rfl ?_
  refine Rn.iload_n (n := 9) (i := 0) d_Us_greaterPart_8 rfl rfl rfl ?_
  refine Rn.iload_n (n := 10) (i := 2) d_Us_greaterPart_9 rfl rfl rfl ?_
  refine Rn.iload_n (n := 11) (i := 3) d_Us_greaterPart_10 rfl rfl rfl ?_
  obtain ⟨Q'9, ev6, k⟩ := k
  refine Rn.callS (n := 14) (av := [vI a0, vI a2, vI a3]) d_Us_greaterPart_11 rfl ml_Us_greaterPart_207 ms_Us_bareOfRight rfl rfl (Nat.le_of_ble_eq_true rfl) ev6 (fun v h8 hq => ?_)
  obtain ⟨r10, rfl, hq⟩ := hq
  have k := k r10 h8 hq
  show Rn X m_Us_greaterPart 14 [some (vI a0), some (vI a1), some (vI a2), some (vI a3)] [vI r10, vI (r5 * a2)] h8 Q
  refine Rn.iload_n (n := 15) (i := 1) d_Us_greaterPart_14 rfl rfl rfl ?_
  refine Rn.imul (n := 16) d_Us_greaterPart_15 rfl ?_
  refine Rn.mmax (n := 19) d_Us_greaterPart_16 rfl ml_Us_greaterPart_223 (Nat.le_of_ble_eq_true rfl) ?_
  exact Rn.iret d_Us_greaterPart_19 rfl rfl k
theorem e_Us_greaterPart {X : XS} (a0 : Int32) (a1 : Int32) (a2 : Int32) (a3 : Int32) (h : Hp) (Q : Option AV → Hp → Prop) (k : Rn X m_Us_greaterPart 0 [some (vI a0), some (vI a1), some (vI a2), some (vI a3)] [] h Q) : Ev X m_Us_greaterPart [vI a0, vI a1, vI a2, vI a3] h Q := Ev.intro (plainFor_of_name (by decide +kernel)) (Nat.le_of_ble_eq_true rfl) (ls := [some (vI a0), some (vI a1), some (vI a2), some (vI a3)]) rfl k
theorem d_Us_run_0 : decode m_Us_run.2.1 0 = .ok (.iload_n 1, 1) := by decide +kernel
theorem d_Us_run_1 : decode m_Us_run.2.1 1 = .ok (.iload_n 2, 1) := by decide +kernel
theorem d_Us_run_2 : decode m_Us_run.2.1 2 = .ok (.iload_n 3, 1) := by decide +kernel
theorem d_Us_run_3 : decode m_Us_run.2.1 3 = .ok (.iload 4, 2) := by decide +kernel
theorem d_Us_run_5 : decode m_Us_run.2.1 5 = .ok (.invokestatic 226, 3) := by decide +kernel
theorem d_Us_run_8 : decode m_Us_run.2.1 8 = .ok (.ifCond .ne 24, 3) := by decide +kernel
theorem d_Us_run_11 : decode m_Us_run.2.1 11 = .ok (.iload 5, 2) := by decide +kernel
theorem d_Us_run_13 : decode m_Us_run.2.1 13 = .ok (.iconst 0, 1) := by decide +kernel
theorem d_Us_run_14 : decode m_Us_run.2.1 14 = .ok (.bipush 20, 2) := by decide +kernel
theorem d_Us_run_16 : decode m_Us_run.2.1 16 = .ok (.invokestatic 61, 3) := by decide +kernel
theorem d_Us_run_19 : decode m_Us_run.2.1 19 = .ok (.ifCond .ne 13, 3) := by decide +kernel
theorem d_Us_run_22 : decode m_Us_run.2.1 22 = .ok (.iload 6, 2) := by decide +kernel
theorem d_Us_run_24 : decode m_Us_run.2.1 24 = .ok (.iconst 0, 1) := by decide +kernel
theorem d_Us_run_25 : decode m_Us_run.2.1 25 = .ok (.iconst 1, 1) := by decide +kernel
theorem d_Us_run_26 : decode m_Us_run.2.1 26 = .ok (.invokestatic 61, 3) := by decide +kernel
theorem d_Us_run_29 : decode m_Us_run.2.1 29 = .ok (.ifCond .eq 6, 3) := by decide +kernel
theorem d_Us_run_32 : decode m_Us_run.2.1 32 = .ok (.bipush (-3), 2) := by decide +kernel
theorem d_Us_run_34 : decode m_Us_run.2.1 34 = .ok (.ireturn, 1) := by decide +kernel
theorem d_Us_run_35 : decode m_Us_run.2.1 35 = .ok (.iload 5, 2) := by decide +kernel
theorem d_Us_run_37 : decode m_Us_run.2.1 37 = .ok (.ifCond .ne 14, 3) := by decide +kernel
theorem d_Us_run_40 : decode m_Us_run.2.1 40 = .ok (.iload_n 1, 1) := by decide +kernel
theorem d_Us_run_41 : decode m_Us_run.2.1 41 = .ok (.iload_n 2, 1) := by decide +kernel
theorem d_Us_run_42 : decode m_Us_run.2.1 42 = .ok (.iload_n 3, 1) := by decide +kernel
theorem d_Us_run_43 : decode m_Us_run.2.1 43 = .ok (.iload 4, 2) := by decide +kernel
theorem d_Us_run_45 : decode m_Us_run.2.1 45 = .ok (.invokestatic 230, 3) := by decide +kernel
theorem d_Us_run_48 : decode m_Us_run.2.1 48 = .ok (.goto 5, 3) := by decide +kernel
theorem d_Us_run_51 : decode m_Us_run.2.1 51 = .ok (.iload 5, 2) := by decide +kernel
theorem d_Us_run_53 : decode m_Us_run.2.1 53 = .ok (.istore 7, 2) := by decide +kernel
theorem d_Us_run_55 : decode m_Us_run.2.1 55 = .ok (.iload_n 1, 1) := by decide +kernel
theorem d_Us_run_56 : decode m_Us_run.2.1 56 = .ok (.iload_n 2, 1) := by decide +kernel
theorem d_Us_run_57 : decode m_Us_run.2.1 57 = .ok (.iload_n 3, 1) := by decide +kernel
theorem d_Us_run_58 : decode m_Us_run.2.1 58 = .ok (.iload 4, 2) := by decide +kernel
theorem d_Us_run_60 : decode m_Us_run.2.1 60 = .ok (.iload 7, 2) := by decide +kernel
theorem d_Us_run_62 : decode m_Us_run.2.1 62 = .ok (.invokestatic 233, 3) := by decide +kernel
theorem d_Us_run_65 : decode m_Us_run.2.1 65 = .ok (.i2l, 1) := by decide +kernel
theorem d_Us_run_66 : decode m_Us_run.2.1 66 = .ok (.iload 7, 2) := by decide +kernel
theorem d_Us_run_68 : decode m_Us_run.2.1 68 = .ok (.i2l, 1) := by decide +kernel
theorem d_Us_run_69 : decode m_Us_run.2.1 69 = .ok (.iload 6, 2) := by decide +kernel
theorem d_Us_run_71 : decode m_Us_run.2.1 71 = .ok (.invokestatic 237, 3) := by decide +kernel
theorem d_Us_run_74 : decode m_Us_run.2.1 74 = .ok (.l2i, 1) := by decide +kernel
theorem d_Us_run_75 : decode m_Us_run.2.1 75 = .ok (.ireturn, 1) := by decide +kernel
theorem g_Us_run_0 {X : XS} (a1 : Int32) (a2 : Int32) (a3 : Int32) (a4 : Int32) (a5 : Int32) (a6 : Int32) (h : Hp) (Q : Option AV → Hp → Prop)  (k : (∃ Q'4, EvI X m_Us_areNotRunners [vI a1, vI a2, vI a3, vI a4] h Q'4 ∧ ∀ (r5 : Int32) (h3 : Hp), Q'4 r5 h3 → ((¬ r5 = 0 → Q (some (vI (-3))) h3) ∧ (r5 = 0 → (∃ Q'9, EvI X m_Us_isNotIn [vI a5, vI 0, vI 20] h3 Q'9 ∧ ∀ (r10 : Int32) (h8 : Hp), Q'9 r10 h8 → ((¬ r10 = 0 → Q (some (vI (-3))) h8) ∧ (r10 = 0 → (∃ Q'14, EvI X m_Us_isNotIn [vI a6, vI 0, vI 1] h8 Q'14 ∧ ∀ (r15 : Int32) (h13 : Hp), Q'14 r15 h13 → ((r15 = 0 → ((¬ a5 = 0 → Rn X m_Us_run 53 [some (vR [0]), some (vI a1), some (vI a2), some (vI a3), some (vI a4), some (vI a5), some (vI a6), none] [vI a5] h13 Q) ∧ (a5 = 0 → (∃ Q'19, EvI X m_Us_bestPace [vI a1, vI a2, vI a3, vI a4] h13 Q'19 ∧ ∀ (r20 : Int32) (h18 : Hp), Q'19 r20 h18 → Rn X m_Us_run 53 [some (vR [0]), some (vI a1), some (vI a2), some (vI a3), some (vI a4), some (vI a5), some (vI a6), none] [vI r20] h18 Q)))) ∧ (¬ r15 = 0 → Q (some (vI (-3))) h13)))))))))) : Rn X m_Us_run 0 [some (vR [0]), some (vI a1), some (vI a2), some (vI a3), some (vI a4), some (vI a5), some (vI a6), none] [] h Q := by
  refine Rn.iload_n (n := 1) (i := 1) d_Us_run_0 rfl rfl rfl ?_
  refine Rn.iload_n (n := 2) (i := 2) d_Us_run_1 rfl rfl rfl ?_
  refine Rn.iload_n (n := 3) (i := 3) d_Us_run_2 rfl rfl rfl ?_
  refine Rn.iload (n := 5) (i := 4) d_Us_run_3 rfl rfl ?_
  obtain ⟨Q'4, ev1, k⟩ := k
  refine Rn.callS (n := 8) (av := [vI a1, vI a2, vI a3, vI a4]) d_Us_run_5 rfl ml_Us_run_226 ms_Us_areNotRunners rfl rfl (Nat.le_of_ble_eq_true rfl) ev1 (fun v h3 hq => ?_)
  obtain ⟨r5, rfl, hq⟩ := hq
  have k := k r5 h3 hq
  show Rn X m_Us_run 8 [some (vR [0]), some (vI a1), some (vI a2), some (vI a3), some (vI a4), some (vI a5), some (vI a6), none] [vI r5] h3 Q
  refine Rn.if_ne (n := 11) (t := 32) d_Us_run_8 rfl (by decide) (fun cc => ?_) (fun cc => ?_)
  · have k := k.1 cc
    refine Rn.bipush (n := 34) (v := (-3)) d_Us_run_32 rfl (by decide) ?_
    exact Rn.iret d_Us_run_34 rfl rfl k
  · have k := k.2 cc
    refine Rn.iload (n := 13) (i := 5) d_Us_run_11 rfl rfl ?_
    refine Rn.iconst (n := 14) (v := 0) d_Us_run_13 rfl (by decide) ?_
    refine Rn.bipush (n := 16) (v := 20) d_Us_run_14 rfl (by decide) ?_
    obtain ⟨Q'9, ev6, k⟩ := k
    refine Rn.callS (n := 19) (av := [vI a5, vI 0, vI 20]) d_Us_run_16 rfl ml_Us_run_61 ms_Us_isNotIn rfl rfl (Nat.le_of_ble_eq_true rfl) ev6 (fun v h8 hq => ?_)
    obtain ⟨r10, rfl, hq⟩ := hq
    have k := k r10 h8 hq
    show Rn X m_Us_run 19 [some (vR [0]), some (vI a1), some (vI a2), some (vI a3), some (vI a4), some (vI a5), some (vI a6), none] [vI r10] h8 Q
    refine Rn.if_ne (n := 22) (t := 32) d_Us_run_19 rfl (by decide) (fun cc => ?_) (fun cc => ?_)
    · have k := k.1 cc
      refine Rn.bipush (n := 34) (v := (-3)) d_Us_run_32 rfl (by decide) ?_
      exact Rn.iret d_Us_run_34 rfl rfl k
    · have k := k.2 cc
      refine Rn.iload (n := 24) (i := 6) d_Us_run_22 rfl rfl ?_
      refine Rn.iconst (n := 25) (v := 0) d_Us_run_24 rfl (by decide) ?_
      refine Rn.iconst (n := 26) (v := 1) d_Us_run_25 rfl (by decide) ?_
      obtain ⟨Q'14, ev11, k⟩ := k
      refine Rn.callS (n := 29) (av := [vI a6, vI 0, vI 1]) d_Us_run_26 rfl ml_Us_run_61 ms_Us_isNotIn rfl rfl (Nat.le_of_ble_eq_true rfl) ev11 (fun v h13 hq => ?_)
      obtain ⟨r15, rfl, hq⟩ := hq
      have k := k r15 h13 hq
      show Rn X m_Us_run 29 [some (vR [0]), some (vI a1), some (vI a2), some (vI a3), some (vI a4), some (vI a5), some (vI a6), none] [vI r15] h13 Q
      refine Rn.if_eq (n := 32) (t := 35) d_Us_run_29 rfl (by decide) (fun cc => ?_) (fun cc => ?_)
      · have k := k.1 cc
        refine Rn.iload (n := 37) (i := 5) d_Us_run_35 rfl rfl ?_
        refine Rn.if_ne (n := 40) (t := 51) d_Us_run_37 rfl (by decide) (fun cc => ?_) (fun cc => ?_)
        · have k := k.1 cc
          refine Rn.iload (n := 53) (i := 5) d_Us_run_51 rfl rfl ?_
          exact k
        · have k := k.2 cc
          refine Rn.iload_n (n := 41) (i := 1) d_Us_run_40 rfl rfl rfl ?_
          refine Rn.iload_n (n := 42) (i := 2) d_Us_run_41 rfl rfl rfl ?_
          refine Rn.iload_n (n := 43) (i := 3) d_Us_run_42 rfl rfl rfl ?_
          refine Rn.iload (n := 45) (i := 4) d_Us_run_43 rfl rfl ?_
          obtain ⟨Q'19, ev16, k⟩ := k
          refine Rn.callS (n := 48) (av := [vI a1, vI a2, vI a3, vI a4]) d_Us_run_45 rfl ml_Us_run_230 ms_Us_bestPace rfl rfl (Nat.le_of_ble_eq_true rfl) ev16 (fun v h18 hq => ?_)
          obtain ⟨r20, rfl, hq⟩ := hq
          have k := k r20 h18 hq
          show Rn X m_Us_run 48 [some (vR [0]), some (vI a1), some (vI a2), some (vI a3), some (vI a4), some (vI a5), some (vI a6), none] [vI r20] h18 Q
          refine Rn.goto (n := 53) d_Us_run_48 (by decide) ?_
          exact k
      · have k := k.2 cc
        refine Rn.bipush (n := 34) (v := (-3)) d_Us_run_32 rfl (by decide) ?_
        exact Rn.iret d_Us_run_34 rfl rfl k
theorem g_Us_run_53 {X : XS} (a1 : Int32) (a2 : Int32) (a3 : Int32) (a4 : Int32) (a5 : Int32) (a6 : Int32) (s0 : Int32) (h : Hp) (Q : Option AV → Hp → Prop)  (k : (∃ Q'4, EvI X m_Us_wetPerWay [vI a1, vI a2, vI a3, vI a4, vI s0] h Q'4 ∧ ∀ (r5 : Int32) (h3 : Hp), Q'4 r5 h3 → (∃ Q'9, EvL X m_Us_lowest [vL r5.toInt64, vL s0.toInt64, vI a6] h3 Q'9 ∧ ∀ (r10 : Int64) (h8 : Hp), Q'9 r10 h8 → Q (some (vI r10.toInt32)) h8))) : Rn X m_Us_run 53 [some (vR [0]), some (vI a1), some (vI a2), some (vI a3), some (vI a4), some (vI a5), some (vI a6), none] [vI s0] h Q := by
  refine Rn.istore (n := 55) (i := 7) (ls2 := [some (vR [0]), some (vI a1), some (vI a2), some (vI a3), some (vI a4), some (vI a5), some (vI a6), some (vI s0)]) d_Us_run_53 rfl (Nat.le_of_ble_eq_true rfl) rfl ?_
  refine Rn.iload_n (n := 56) (i := 1) d_Us_run_55 rfl rfl rfl ?_
  refine Rn.iload_n (n := 57) (i := 2) d_Us_run_56 rfl rfl rfl ?_
  refine Rn.iload_n (n := 58) (i := 3) d_Us_run_57 rfl rfl rfl ?_
  refine Rn.iload (n := 60) (i := 4) d_Us_run_58 rfl rfl ?_
  refine Rn.iload (n := 62) (i := 7) d_Us_run_60 rfl rfl ?_
  obtain ⟨Q'4, ev1, k⟩ := k
  refine Rn.callS (n := 65) (av := [vI a1, vI a2, vI a3, vI a4, vI s0]) d_Us_run_62 rfl ml_Us_run_233 ms_Us_wetPerWay rfl rfl (Nat.le_of_ble_eq_true rfl) ev1 (fun v h3 hq => ?_)
  obtain ⟨r5, rfl, hq⟩ := hq
  have k := k r5 h3 hq
  show Rn X m_Us_run 65 [some (vR [0]), some (vI a1), some (vI a2), some (vI a3), some (vI a4), some (vI a5), some (vI a6), some (vI s0)] [vI r5] h3 Q
  refine Rn.i2l (n := 66) d_Us_run_65 rfl ?_
  refine Rn.iload (n := 68) (i := 7) d_Us_run_66 rfl rfl ?_
  refine Rn.i2l (n := 69) d_Us_run_68 rfl ?_
  refine Rn.iload (n := 71) (i := 6) d_Us_run_69 rfl rfl ?_
  obtain ⟨Q'9, ev6, k⟩ := k
  refine Rn.callS (n := 74) (av := [vL r5.toInt64, vL s0.toInt64, vI a6]) d_Us_run_71 rfl ml_Us_run_237 ms_Us_lowest rfl rfl (Nat.le_of_ble_eq_true rfl) ev6 (fun v h8 hq => ?_)
  obtain ⟨r10, rfl, hq⟩ := hq
  have k := k r10 h8 hq
  show Rn X m_Us_run 74 [some (vR [0]), some (vI a1), some (vI a2), some (vI a3), some (vI a4), some (vI a5), some (vI a6), some (vI s0)] [vL r10] h8 Q
  refine Rn.l2i (n := 75) d_Us_run_74 rfl ?_
  exact Rn.iret d_Us_run_75 rfl rfl k
theorem e_Us_run {X : XS} (a1 : Int32) (a2 : Int32) (a3 : Int32) (a4 : Int32) (a5 : Int32) (a6 : Int32) (h : Hp) (Q : Option AV → Hp → Prop) (k : Rn X m_Us_run 0 [some (vR [0]), some (vI a1), some (vI a2), some (vI a3), some (vI a4), some (vI a5), some (vI a6), none] [] h Q) : Ev X m_Us_run [vR [0], vI a1, vI a2, vI a3, vI a4, vI a5, vI a6] h Q := Ev.intro (plainFor_of_name (by decide +kernel)) (Nat.le_of_ble_eq_true rfl) (ls := [some (vR [0]), some (vI a1), some (vI a2), some (vI a3), some (vI a4), some (vI a5), some (vI a6), none]) rfl k
theorem d_Us_pace_0 : decode m_Us_pace.2.1 0 = .ok (.iload_n 1, 1) := by decide +kernel
theorem d_Us_pace_1 : decode m_Us_pace.2.1 1 = .ok (.iload_n 2, 1) := by decide +kernel
theorem d_Us_pace_2 : decode m_Us_pace.2.1 2 = .ok (.iload_n 3, 1) := by decide +kernel
theorem d_Us_pace_3 : decode m_Us_pace.2.1 3 = .ok (.iload 4, 2) := by decide +kernel
theorem d_Us_pace_5 : decode m_Us_pace.2.1 5 = .ok (.invokestatic 226, 3) := by decide +kernel
theorem d_Us_pace_8 : decode m_Us_pace.2.1 8 = .ok (.ifCond .eq 6, 3) := by decide +kernel
theorem d_Us_pace_11 : decode m_Us_pace.2.1 11 = .ok (.bipush (-3), 2) := by decide +kernel
theorem d_Us_pace_13 : decode m_Us_pace.2.1 13 = .ok (.ireturn, 1) := by decide +kernel
theorem d_Us_pace_14 : decode m_Us_pace.2.1 14 = .ok (.iload_n 1, 1) := by decide +kernel
theorem d_Us_pace_15 : decode m_Us_pace.2.1 15 = .ok (.iload_n 2, 1) := by decide +kernel
theorem d_Us_pace_16 : decode m_Us_pace.2.1 16 = .ok (.iload_n 3, 1) := by decide +kernel
theorem d_Us_pace_17 : decode m_Us_pace.2.1 17 = .ok (.iload 4, 2) := by decide +kernel
theorem d_Us_pace_19 : decode m_Us_pace.2.1 19 = .ok (.invokestatic 230, 3) := by decide +kernel
theorem d_Us_pace_22 : decode m_Us_pace.2.1 22 = .ok (.ireturn, 1) := by decide +kernel
theorem g_Us_pace_0 {X : XS} (a1 : Int32) (a2 : Int32) (a3 : Int32) (a4 : Int32) (h : Hp) (Q : Option AV → Hp → Prop)  (k : (∃ Q'4, EvI X m_Us_areNotRunners [vI a1, vI a2, vI a3, vI a4] h Q'4 ∧ ∀ (r5 : Int32) (h3 : Hp), Q'4 r5 h3 → ((r5 = 0 → (∃ Q'9, EvI X m_Us_bestPace [vI a1, vI a2, vI a3, vI a4] h3 Q'9 ∧ ∀ (r10 : Int32) (h8 : Hp), Q'9 r10 h8 → Q (some (vI r10)) h8)) ∧ (¬ r5 = 0 → Q (some (vI (-3))) h3)))) : Rn X m_Us_pace 0 [some (vR [0]), some (vI a1), some (vI a2), some (vI a3), some (vI a4)] [] h Q := by
  refine Rn.iload_n (n := 1) (i := 1) d_Us_pace_0 rfl rfl rfl ?_
  refine Rn.iload_n (n := 2) (i := 2) d_Us_pace_1 rfl rfl rfl ?_
  refine Rn.iload_n (n := 3) (i := 3) d_Us_pace_2 rfl rfl rfl ?_
  refine Rn.iload (n := 5) (i := 4) d_Us_pace_3 rfl rfl ?_
  obtain ⟨Q'4, ev1, k⟩ := k
  refine Rn.callS (n := 8) (av := [vI a1, vI a2, vI a3, vI a4]) d_Us_pace_5 rfl ml_Us_pace_226 ms_Us_areNotRunners rfl rfl (Nat.le_of_ble_eq_true rfl) ev1 (fun v h3 hq => ?_)
  obtain ⟨r5, rfl, hq⟩ := hq
  have k := k r5 h3 hq
  show Rn X m_Us_pace 8 [some (vR [0]), some (vI a1), some (vI a2), some (vI a3), some (vI a4)] [vI r5] h3 Q
  refine Rn.if_eq (n := 11) (t := 14) d_Us_pace_8 rfl (by decide) (fun cc => ?_) (fun cc => ?_)
  · have k := k.1 cc
    refine Rn.iload_n (n := 15) (i := 1) d_Us_pace_14 rfl rfl rfl ?_
    refine Rn.iload_n (n := 16) (i := 2) d_Us_pace_15 rfl rfl rfl ?_
    refine Rn.iload_n (n := 17) (i := 3) d_Us_pace_16 rfl rfl rfl ?_
    refine Rn.iload (n := 19) (i := 4) d_Us_pace_17 rfl rfl ?_
    obtain ⟨Q'9, ev6, k⟩ := k
    refine Rn.callS (n := 22) (av := [vI a1, vI a2, vI a3, vI a4]) d_Us_pace_19 rfl ml_Us_pace_230 ms_Us_bestPace rfl rfl (Nat.le_of_ble_eq_true rfl) ev6 (fun v h8 hq => ?_)
    obtain ⟨r10, rfl, hq⟩ := hq
    have k := k r10 h8 hq
    show Rn X m_Us_pace 22 [some (vR [0]), some (vI a1), some (vI a2), some (vI a3), some (vI a4)] [vI r10] h8 Q
    exact Rn.iret d_Us_pace_22 rfl rfl k
  · have k := k.2 cc
    refine Rn.bipush (n := 13) (v := (-3)) d_Us_pace_11 rfl (by decide) ?_
    exact Rn.iret d_Us_pace_13 rfl rfl k
theorem e_Us_pace {X : XS} (a1 : Int32) (a2 : Int32) (a3 : Int32) (a4 : Int32) (h : Hp) (Q : Option AV → Hp → Prop) (k : Rn X m_Us_pace 0 [some (vR [0]), some (vI a1), some (vI a2), some (vI a3), some (vI a4)] [] h Q) : Ev X m_Us_pace [vR [0], vI a1, vI a2, vI a3, vI a4] h Q := Ev.intro (plainFor_of_name (by decide +kernel)) (Nat.le_of_ble_eq_true rfl) (ls := [some (vR [0]), some (vI a1), some (vI a2), some (vI a3), some (vI a4)]) rfl k
theorem d_Us_areNotRunners_0 : decode m_Us_areNotRunners.2.1 0 = .ok (.iload_n 0, 1) := by decide +kernel
theorem d_Us_areNotRunners_1 : decode m_Us_areNotRunners.2.1 1 = .ok (.iconst 1, 1) := by decide +kernel
theorem d_Us_areNotRunners_2 : decode m_Us_areNotRunners.2.1 2 = .ok (.bipush 99, 2) := by decide +kernel
theorem d_Us_areNotRunners_4 : decode m_Us_areNotRunners.2.1 4 = .ok (.invokestatic 61, 3) := by decide +kernel
theorem d_Us_areNotRunners_7 : decode m_Us_areNotRunners.2.1 7 = .ok (.ifCond .ne 33, 3) := by decide +kernel
theorem d_Us_areNotRunners_10 : decode m_Us_areNotRunners.2.1 10 = .ok (.iload_n 1, 1) := by decide +kernel
theorem d_Us_areNotRunners_11 : decode m_Us_areNotRunners.2.1 11 = .ok (.iconst 1, 1) := by decide +kernel
theorem d_Us_areNotRunners_12 : decode m_Us_areNotRunners.2.1 12 = .ok (.bipush 99, 2) := by decide +kernel
theorem d_Us_areNotRunners_14 : decode m_Us_areNotRunners.2.1 14 = .ok (.invokestatic 61, 3) := by decide +kernel
theorem d_Us_areNotRunners_17 : decode m_Us_areNotRunners.2.1 17 = .ok (.ifCond .ne 23, 3) := by decide +kernel
theorem d_Us_areNotRunners_20 : decode m_Us_areNotRunners.2.1 20 = .ok (.iload_n 2, 1) := by decide +kernel
theorem d_Us_areNotRunners_21 : decode m_Us_areNotRunners.2.1 21 = .ok (.iconst 1, 1) := by decide +kernel
theorem d_Us_areNotRunners_22 : decode m_Us_areNotRunners.2.1 22 = .ok (.bipush 99, 2) := by decide +kernel
theorem d_Us_areNotRunners_24 : decode m_Us_areNotRunners.2.1 24 = .ok (.invokestatic 61, 3) := by decide +kernel
theorem d_Us_areNotRunners_27 : decode m_Us_areNotRunners.2.1 27 = .ok (.ifCond .ne 13, 3) := by decide +kernel
theorem d_Us_areNotRunners_30 : decode m_Us_areNotRunners.2.1 30 = .ok (.iload_n 3, 1) := by decide +kernel
theorem d_Us_areNotRunners_31 : decode m_Us_areNotRunners.2.1 31 = .ok (.iconst 0, 1) := by decide +kernel
theorem d_Us_areNotRunners_32 : decode m_Us_areNotRunners.2.1 32 = .ok (.bipush 20, 2) := by decide +kernel
theorem d_Us_areNotRunners_34 : decode m_Us_areNotRunners.2.1 34 = .ok (.invokestatic 61, 3) := by decide +kernel
theorem d_Us_areNotRunners_37 : decode m_Us_areNotRunners.2.1 37 = .ok (.ifCond .eq 7, 3) := by decide +kernel
theorem d_Us_areNotRunners_40 : decode m_Us_areNotRunners.2.1 40 = .ok (.iconst 1, 1) := by decide +kernel
theorem d_Us_areNotRunners_41 : decode m_Us_areNotRunners.2.1 41 = .ok (.goto 4, 3) := by decide +kernel
theorem d_Us_areNotRunners_44 : decode m_Us_areNotRunners.2.1 44 = .ok (.iconst 0, 1) := by decide +kernel
theorem d_Us_areNotRunners_45 : decode m_Us_areNotRunners.2.1 45 = .ok (.ireturn, 1) := by decide +kernel
theorem g_Us_areNotRunners_0 {X : XS} (a0 : Int32) (a1 : Int32) (a2 : Int32) (a3 : Int32) (h : Hp) (Q : Option AV → Hp → Prop)  (k : (∃ Q'4, EvI X m_Us_isNotIn [vI a0, vI 1, vI 99] h Q'4 ∧ ∀ (r5 : Int32) (h3 : Hp), Q'4 r5 h3 → ((¬ r5 = 0 → Q (some (vI 1)) h3) ∧ (r5 = 0 → (∃ Q'9, EvI X m_Us_isNotIn [vI a1, vI 1, vI 99] h3 Q'9 ∧ ∀ (r10 : Int32) (h8 : Hp), Q'9 r10 h8 → ((¬ r10 = 0 → Q (some (vI 1)) h8) ∧ (r10 = 0 → (∃ Q'14, EvI X m_Us_isNotIn [vI a2, vI 1, vI 99] h8 Q'14 ∧ ∀ (r15 : Int32) (h13 : Hp), Q'14 r15 h13 → ((¬ r15 = 0 → Q (some (vI 1)) h13) ∧ (r15 = 0 → (∃ Q'19, EvI X m_Us_isNotIn [vI a3, vI 0, vI 20] h13 Q'19 ∧ ∀ (r20 : Int32) (h18 : Hp), Q'19 r20 h18 → ((r20 = 0 → Q (some (vI 0)) h18) ∧ (¬ r20 = 0 → Q (some (vI 1)) h18))))))))))))) : Rn X m_Us_areNotRunners 0 [some (vI a0), some (vI a1), some (vI a2), some (vI a3)] [] h Q := by
  refine Rn.iload_n (n := 1) (i := 0) d_Us_areNotRunners_0 rfl rfl rfl ?_
  refine Rn.iconst (n := 2) (v := 1) d_Us_areNotRunners_1 rfl (by decide) ?_
  refine Rn.bipush (n := 4) (v := 99) d_Us_areNotRunners_2 rfl (by decide) ?_
  obtain ⟨Q'4, ev1, k⟩ := k
  refine Rn.callS (n := 7) (av := [vI a0, vI 1, vI 99]) d_Us_areNotRunners_4 rfl ml_Us_areNotRunners_61 ms_Us_isNotIn rfl rfl (Nat.le_of_ble_eq_true rfl) ev1 (fun v h3 hq => ?_)
  obtain ⟨r5, rfl, hq⟩ := hq
  have k := k r5 h3 hq
  show Rn X m_Us_areNotRunners 7 [some (vI a0), some (vI a1), some (vI a2), some (vI a3)] [vI r5] h3 Q
  refine Rn.if_ne (n := 10) (t := 40) d_Us_areNotRunners_7 rfl (by decide) (fun cc => ?_) (fun cc => ?_)
  · have k := k.1 cc
    refine Rn.iconst (n := 41) (v := 1) d_Us_areNotRunners_40 rfl (by decide) ?_
    refine Rn.goto (n := 45) d_Us_areNotRunners_41 (by decide) ?_
    exact Rn.iret d_Us_areNotRunners_45 rfl rfl k
  · have k := k.2 cc
    refine Rn.iload_n (n := 11) (i := 1) d_Us_areNotRunners_10 rfl rfl rfl ?_
    refine Rn.iconst (n := 12) (v := 1) d_Us_areNotRunners_11 rfl (by decide) ?_
    refine Rn.bipush (n := 14) (v := 99) d_Us_areNotRunners_12 rfl (by decide) ?_
    obtain ⟨Q'9, ev6, k⟩ := k
    refine Rn.callS (n := 17) (av := [vI a1, vI 1, vI 99]) d_Us_areNotRunners_14 rfl ml_Us_areNotRunners_61 ms_Us_isNotIn rfl rfl (Nat.le_of_ble_eq_true rfl) ev6 (fun v h8 hq => ?_)
    obtain ⟨r10, rfl, hq⟩ := hq
    have k := k r10 h8 hq
    show Rn X m_Us_areNotRunners 17 [some (vI a0), some (vI a1), some (vI a2), some (vI a3)] [vI r10] h8 Q
    refine Rn.if_ne (n := 20) (t := 40) d_Us_areNotRunners_17 rfl (by decide) (fun cc => ?_) (fun cc => ?_)
    · have k := k.1 cc
      refine Rn.iconst (n := 41) (v := 1) d_Us_areNotRunners_40 rfl (by decide) ?_
      refine Rn.goto (n := 45) d_Us_areNotRunners_41 (by decide) ?_
      exact Rn.iret d_Us_areNotRunners_45 rfl rfl k
    · have k := k.2 cc
      refine Rn.iload_n (n := 21) (i := 2) d_Us_areNotRunners_20 rfl rfl rfl ?_
      refine Rn.iconst (n := 22) (v := 1) d_Us_areNotRunners_21 rfl (by decide) ?_
      refine Rn.bipush (n := 24) (v := 99) d_Us_areNotRunners_22 rfl (by decide) ?_
      obtain ⟨Q'14, ev11, k⟩ := k
      refine Rn.callS (n := 27) (av := [vI a2, vI 1, vI 99]) d_Us_areNotRunners_24 rfl ml_Us_areNotRunners_61 ms_Us_isNotIn rfl rfl (Nat.le_of_ble_eq_true rfl) ev11 (fun v h13 hq => ?_)
      obtain ⟨r15, rfl, hq⟩ := hq
      have k := k r15 h13 hq
      show Rn X m_Us_areNotRunners 27 [some (vI a0), some (vI a1), some (vI a2), some (vI a3)] [vI r15] h13 Q
      refine Rn.if_ne (n := 30) (t := 40) d_Us_areNotRunners_27 rfl (by decide) (fun cc => ?_) (fun cc => ?_)
      · have k := k.1 cc
        refine Rn.iconst (n := 41) (v := 1) d_Us_areNotRunners_40 rfl (by decide) ?_
        refine Rn.goto (n := 45) d_Us_areNotRunners_41 (by decide) ?_
        exact Rn.iret d_Us_areNotRunners_45 rfl rfl k
      · have k := k.2 cc
        refine Rn.iload_n (n := 31) (i := 3) d_Us_areNotRunners_30 rfl rfl rfl ?_
        refine Rn.iconst (n := 32) (v := 0) d_Us_areNotRunners_31 rfl (by decide) ?_
        refine Rn.bipush (n := 34) (v := 20) d_Us_areNotRunners_32 rfl (by decide) ?_
        obtain ⟨Q'19, ev16, k⟩ := k
        refine Rn.callS (n := 37) (av := [vI a3, vI 0, vI 20]) d_Us_areNotRunners_34 rfl ml_Us_areNotRunners_61 ms_Us_isNotIn rfl rfl (Nat.le_of_ble_eq_true rfl) ev16 (fun v h18 hq => ?_)
        obtain ⟨r20, rfl, hq⟩ := hq
        have k := k r20 h18 hq
        show Rn X m_Us_areNotRunners 37 [some (vI a0), some (vI a1), some (vI a2), some (vI a3)] [vI r20] h18 Q
        refine Rn.if_eq (n := 40) (t := 44) d_Us_areNotRunners_37 rfl (by decide) (fun cc => ?_) (fun cc => ?_)
        · have k := k.1 cc
          refine Rn.iconst (n := 45) (v := 0) d_Us_areNotRunners_44 rfl (by decide) ?_
          exact Rn.iret d_Us_areNotRunners_45 rfl rfl k
        · have k := k.2 cc
          refine Rn.iconst (n := 41) (v := 1) d_Us_areNotRunners_40 rfl (by decide) ?_
          refine Rn.goto (n := 45) d_Us_areNotRunners_41 (by decide) ?_
          exact Rn.iret d_Us_areNotRunners_45 rfl rfl k
theorem e_Us_areNotRunners {X : XS} (a0 : Int32) (a1 : Int32) (a2 : Int32) (a3 : Int32) (h : Hp) (Q : Option AV → Hp → Prop) (k : Rn X m_Us_areNotRunners 0 [some (vI a0), some (vI a1), some (vI a2), some (vI a3)] [] h Q) : Ev X m_Us_areNotRunners [vI a0, vI a1, vI a2, vI a3] h Q := Ev.intro (plainFor_of_name (by decide +kernel)) (Nat.le_of_ble_eq_true rfl) (ls := [some (vI a0), some (vI a1), some (vI a2), some (vI a3)]) rfl k
theorem d_Us_wetPerWay_0 : decode m_Us_wetPerWay.2.1 0 = .ok (.iload_n 2, 1) := by decide +kernel
theorem d_Us_wetPerWay_1 : decode m_Us_wetPerWay.2.1 1 = .ok (.iload_n 0, 1) := by decide +kernel
theorem d_Us_wetPerWay_2 : decode m_Us_wetPerWay.2.1 2 = .ok (.iload_n 1, 1) := by decide +kernel
theorem d_Us_wetPerWay_3 : decode m_Us_wetPerWay.2.1 3 = .ok (.iload 4, 2) := by decide +kernel
theorem d_Us_wetPerWay_5 : decode m_Us_wetPerWay.2.1 5 = .ok (.iload_n 3, 1) := by decide +kernel
theorem d_Us_wetPerWay_6 : decode m_Us_wetPerWay.2.1 6 = .ok (.isub, 1) := by decide +kernel
theorem d_Us_wetPerWay_7 : decode m_Us_wetPerWay.2.1 7 = .ok (.invokestatic 241, 3) := by decide +kernel
theorem d_Us_wetPerWay_10 : decode m_Us_wetPerWay.2.1 10 = .ok (.imul, 1) := by decide +kernel
theorem d_Us_wetPerWay_11 : decode m_Us_wetPerWay.2.1 11 = .ok (.iadd, 1) := by decide +kernel
theorem d_Us_wetPerWay_12 : decode m_Us_wetPerWay.2.1 12 = .ok (.imul, 1) := by decide +kernel
theorem d_Us_wetPerWay_13 : decode m_Us_wetPerWay.2.1 13 = .ok (.ireturn, 1) := by decide +kernel
theorem g_Us_wetPerWay_0 {X : XS} (a0 : Int32) (a1 : Int32) (a2 : Int32) (a3 : Int32) (a4 : Int32) (h : Hp) (Q : Option AV → Hp → Prop)  (k : Q (some (vI (a2 * (a0 + (a1 * (iAbs (a4 - a3))))))) h) : Rn X m_Us_wetPerWay 0 [some (vI a0), some (vI a1), some (vI a2), some (vI a3), some (vI a4)] [] h Q := by
  refine Rn.iload_n (n := 1) (i := 2) d_Us_wetPerWay_0 rfl rfl rfl ?_
  refine Rn.iload_n (n := 2) (i := 0) d_Us_wetPerWay_1 rfl rfl rfl ?_
  refine Rn.iload_n (n := 3) (i := 1) d_Us_wetPerWay_2 rfl rfl rfl ?_
  refine Rn.iload (n := 5) (i := 4) d_Us_wetPerWay_3 rfl rfl ?_
  refine Rn.iload_n (n := 6) (i := 3) d_Us_wetPerWay_5 rfl rfl rfl ?_
  refine Rn.isub (n := 7) d_Us_wetPerWay_6 rfl ?_
  refine Rn.mabs (n := 10) d_Us_wetPerWay_7 rfl ml_Us_wetPerWay_241 (Nat.le_of_ble_eq_true rfl) ?_
  refine Rn.imul (n := 11) d_Us_wetPerWay_10 rfl ?_
  refine Rn.iadd (n := 12) d_Us_wetPerWay_11 rfl ?_
  refine Rn.imul (n := 13) d_Us_wetPerWay_12 rfl ?_
  exact Rn.iret d_Us_wetPerWay_13 rfl rfl k
theorem e_Us_wetPerWay {X : XS} (a0 : Int32) (a1 : Int32) (a2 : Int32) (a3 : Int32) (a4 : Int32) (h : Hp) (Q : Option AV → Hp → Prop) (k : Rn X m_Us_wetPerWay 0 [some (vI a0), some (vI a1), some (vI a2), some (vI a3), some (vI a4)] [] h Q) : Ev X m_Us_wetPerWay [vI a0, vI a1, vI a2, vI a3, vI a4] h Q := Ev.intro (plainFor_of_name (by decide +kernel)) (Nat.le_of_ble_eq_true rfl) (ls := [some (vI a0), some (vI a1), some (vI a2), some (vI a3), some (vI a4)]) rfl k
theorem d_Us_bestPace_0 : decode m_Us_bestPace.2.1 0 = .ok (.iconst 1, 1) := by decide +kernel
theorem d_Us_bestPace_1 : decode m_Us_bestPace.2.1 1 = .ok (.istore 4, 2) := by decide +kernel
theorem d_Us_bestPace_3 : decode m_Us_bestPace.2.1 3 = .ok (.iconst 2, 1) := by decide +kernel
theorem d_Us_bestPace_4 : decode m_Us_bestPace.2.1 4 = .ok (.istore 5, 2) := by decide +kernel
theorem d_Us_bestPace_6 : decode m_Us_bestPace.2.1 6 = .ok (.iload 5, 2) := by decide +kernel
theorem d_Us_bestPace_8 : decode m_Us_bestPace.2.1 8 = .ok (.bipush 20, 2) := by decide +kernel
theorem d_Us_bestPace_10 : decode m_Us_bestPace.2.1 10 = .ok (.if_icmp .gt 44, 3) := by decide +kernel
theorem d_Us_bestPace_13 : decode m_Us_bestPace.2.1 13 = .ok (.iload_n 0, 1) := by decide +kernel
theorem d_Us_bestPace_14 : decode m_Us_bestPace.2.1 14 = .ok (.iload_n 1, 1) := by decide +kernel
theorem d_Us_bestPace_15 : decode m_Us_bestPace.2.1 15 = .ok (.iload_n 2, 1) := by decide +kernel
theorem d_Us_bestPace_16 : decode m_Us_bestPace.2.1 16 = .ok (.iload_n 3, 1) := by decide +kernel
theorem d_Us_bestPace_17 : decode m_Us_bestPace.2.1 17 = .ok (.iload 5, 2) := by decide +kernel
theorem d_Us_bestPace_19 : decode m_Us_bestPace.2.1 19 = .ok (.invokestatic 233, 3) := by decide +kernel
theorem d_Us_bestPace_22 : decode m_Us_bestPace.2.1 22 = .ok (.iload 4, 2) := by decide +kernel
theorem d_Us_bestPace_24 : decode m_Us_bestPace.2.1 24 = .ok (.imul, 1) := by decide +kernel
theorem d_Us_bestPace_25 : decode m_Us_bestPace.2.1 25 = .ok (.istore 6, 2) := by decide +kernel
theorem d_Us_bestPace_27 : decode m_Us_bestPace.2.1 27 = .ok (.iload 6, 2) := by decide +kernel
theorem d_Us_bestPace_29 : decode m_Us_bestPace.2.1 29 = .ok (.iload_n 0, 1) := by decide +kernel
theorem d_Us_bestPace_30 : decode m_Us_bestPace.2.1 30 = .ok (.iload_n 1, 1) := by decide +kernel
theorem d_Us_bestPace_31 : decode m_Us_bestPace.2.1 31 = .ok (.iload_n 2, 1) := by decide +kernel
theorem d_Us_bestPace_32 : decode m_Us_bestPace.2.1 32 = .ok (.iload_n 3, 1) := by decide +kernel
theorem d_Us_bestPace_33 : decode m_Us_bestPace.2.1 33 = .ok (.iload 4, 2) := by decide +kernel
theorem d_Us_bestPace_35 : decode m_Us_bestPace.2.1 35 = .ok (.invokestatic 233, 3) := by decide +kernel
theorem d_Us_bestPace_38 : decode m_Us_bestPace.2.1 38 = .ok (.iload 5, 2) := by decide +kernel
theorem d_Us_bestPace_40 : decode m_Us_bestPace.2.1 40 = .ok (.imul, 1) := by decide +kernel
theorem d_Us_bestPace_41 : decode m_Us_bestPace.2.1 41 = .ok (.if_icmp .ge 7, 3) := by decide +kernel
theorem d_Us_bestPace_44 : decode m_Us_bestPace.2.1 44 = .ok (.iload 5, 2) := by decide +kernel
theorem d_Us_bestPace_46 : decode m_Us_bestPace.2.1 46 = .ok (.istore 4, 2) := by decide +kernel
theorem d_Us_bestPace_48 : decode m_Us_bestPace.2.1 48 = .ok (.iinc 5 1, 3) := by decide +kernel
theorem d_Us_bestPace_51 : decode m_Us_bestPace.2.1 51 = .ok (.goto (-45), 3) := by decide +kernel
theorem d_Us_bestPace_54 : decode m_Us_bestPace.2.1 54 = .ok (.iload 4, 2) := by decide +kernel
theorem d_Us_bestPace_56 : decode m_Us_bestPace.2.1 56 = .ok (.ireturn, 1) := by decide +kernel
theorem g_Us_bestPace_0 {X : XS} (a0 : Int32) (a1 : Int32) (a2 : Int32) (a3 : Int32) (h : Hp) (Q : Option AV → Hp → Prop)  (k : Rn X m_Us_bestPace 6 [some (vI a0), some (vI a1), some (vI a2), some (vI a3), some (vI 1), some (vI 2), none] [] h Q) : Rn X m_Us_bestPace 0 [some (vI a0), some (vI a1), some (vI a2), some (vI a3), none, none, none] [] h Q := by
  refine Rn.iconst (n := 1) (v := 1) d_Us_bestPace_0 rfl (by decide) ?_
  refine Rn.istore (n := 3) (i := 4) (ls2 := [some (vI a0), some (vI a1), some (vI a2), some (vI a3), some (vI 1), none, none]) d_Us_bestPace_1 rfl (Nat.le_of_ble_eq_true rfl) rfl ?_
  refine Rn.iconst (n := 4) (v := 2) d_Us_bestPace_3 rfl (by decide) ?_
  refine Rn.istore (n := 6) (i := 5) (ls2 := [some (vI a0), some (vI a1), some (vI a2), some (vI a3), some (vI 1), some (vI 2), none]) d_Us_bestPace_4 rfl (Nat.le_of_ble_eq_true rfl) rfl ?_
  exact k
theorem g_Us_bestPace_6 {X : XS} (a0 : Int32) (a1 : Int32) (a2 : Int32) (a3 : Int32) (a4 : Int32) (a5 : Int32) (h : Hp) (Q : Option AV → Hp → Prop)  (k : ((20 < a5 → Q (some (vI a4)) h) ∧ (¬ 20 < a5 → (∃ Q'4, EvI X m_Us_wetPerWay [vI a0, vI a1, vI a2, vI a3, vI a5] h Q'4 ∧ ∀ (r5 : Int32) (h3 : Hp), Q'4 r5 h3 → (∃ Q'9, EvI X m_Us_wetPerWay [vI a0, vI a1, vI a2, vI a3, vI a4] h3 Q'9 ∧ ∀ (r10 : Int32) (h8 : Hp), Q'9 r10 h8 → (((r10 * a5) ≤ (r5 * a4) → Rn X m_Us_bestPace 6 [some (vI a0), some (vI a1), some (vI a2), some (vI a3), some (vI a4), some (vI (a5 + 1)), none] [] h8 Q) ∧ (¬ (r10 * a5) ≤ (r5 * a4) → Rn X m_Us_bestPace 6 [some (vI a0), some (vI a1), some (vI a2), some (vI a3), some (vI a5), some (vI (a5 + 1)), none] [] h8 Q))))))) : Rn X m_Us_bestPace 6 [some (vI a0), some (vI a1), some (vI a2), some (vI a3), some (vI a4), some (vI a5), none] [] h Q := by
  refine Rn.iload (n := 8) (i := 5) d_Us_bestPace_6 rfl rfl ?_
  refine Rn.bipush (n := 10) (v := 20) d_Us_bestPace_8 rfl (by decide) ?_
  refine Rn.icmp_gt (n := 13) (t := 54) d_Us_bestPace_10 rfl (by decide) (fun cc => ?_) (fun cc => ?_)
  · have k := k.1 cc
    refine Rn.iload (n := 56) (i := 4) d_Us_bestPace_54 rfl rfl ?_
    exact Rn.iret d_Us_bestPace_56 rfl rfl k
  · have k := k.2 cc
    refine Rn.iload_n (n := 14) (i := 0) d_Us_bestPace_13 rfl rfl rfl ?_
    refine Rn.iload_n (n := 15) (i := 1) d_Us_bestPace_14 rfl rfl rfl ?_
    refine Rn.iload_n (n := 16) (i := 2) d_Us_bestPace_15 rfl rfl rfl ?_
    refine Rn.iload_n (n := 17) (i := 3) d_Us_bestPace_16 rfl rfl rfl ?_
    refine Rn.iload (n := 19) (i := 5) d_Us_bestPace_17 rfl rfl ?_
    obtain ⟨Q'4, ev1, k⟩ := k
    refine Rn.callS (n := 22) (av := [vI a0, vI a1, vI a2, vI a3, vI a5]) d_Us_bestPace_19 rfl ml_Us_bestPace_233 ms_Us_wetPerWay rfl rfl (Nat.le_of_ble_eq_true rfl) ev1 (fun v h3 hq => ?_)
    obtain ⟨r5, rfl, hq⟩ := hq
    have k := k r5 h3 hq
    show Rn X m_Us_bestPace 22 [some (vI a0), some (vI a1), some (vI a2), some (vI a3), some (vI a4), some (vI a5), none] [vI r5] h3 Q
    refine Rn.iload (n := 24) (i := 4) d_Us_bestPace_22 rfl rfl ?_
    refine Rn.imul (n := 25) d_Us_bestPace_24 rfl ?_
    refine Rn.istore (n := 27) (i := 6) (ls2 := [some (vI a0), some (vI a1), some (vI a2), some (vI a3), some (vI a4), some (vI a5), some (vI (r5 * a4))]) d_Us_bestPace_25 rfl (Nat.le_of_ble_eq_true rfl) rfl ?_
    refine Rn.iload (n := 29) (i := 6) d_Us_bestPace_27 rfl rfl ?_
    refine Rn.iload_n (n := 30) (i := 0) d_Us_bestPace_29 rfl rfl rfl ?_
    refine Rn.iload_n (n := 31) (i := 1) d_Us_bestPace_30 rfl rfl rfl ?_
    refine Rn.iload_n (n := 32) (i := 2) d_Us_bestPace_31 rfl rfl rfl ?_
    refine Rn.iload_n (n := 33) (i := 3) d_Us_bestPace_32 rfl rfl rfl ?_
    refine Rn.iload (n := 35) (i := 4) d_Us_bestPace_33 rfl rfl ?_
    obtain ⟨Q'9, ev6, k⟩ := k
    refine Rn.callS (n := 38) (av := [vI a0, vI a1, vI a2, vI a3, vI a4]) d_Us_bestPace_35 rfl ml_Us_bestPace_233 ms_Us_wetPerWay rfl rfl (Nat.le_of_ble_eq_true rfl) ev6 (fun v h8 hq => ?_)
    obtain ⟨r10, rfl, hq⟩ := hq
    have k := k r10 h8 hq
    show Rn X m_Us_bestPace 38 [some (vI a0), some (vI a1), some (vI a2), some (vI a3), some (vI a4), some (vI a5), some (vI (r5 * a4))] [vI r10, vI (r5 * a4)] h8 Q
    refine Rn.iload (n := 40) (i := 5) d_Us_bestPace_38 rfl rfl ?_
    refine Rn.imul (n := 41) d_Us_bestPace_40 rfl ?_
    refine Rn.icmp_ge (n := 44) (t := 48) d_Us_bestPace_41 rfl (by decide) (fun cc => ?_) (fun cc => ?_)
    · have k := k.1 cc
      refine Rn.iinc (n := 51) (i := 5) (v := a5 + 1) (ls2 := [some (vI a0), some (vI a1), some (vI a2), some (vI a3), some (vI a4), some (vI (a5 + 1)), some (vI (r5 * a4))]) d_Us_bestPace_48 rfl rfl rfl (Nat.le_of_ble_eq_true rfl) rfl ?_
      refine Rn.goto (n := 6) d_Us_bestPace_51 (by decide) ?_
      exact Rn.loc [some (vI a0), some (vI a1), some (vI a2), some (vI a3), some (vI a4), some (vI (a5 + 1)), none] (LLe_ok ⟨rfl, ⟨rfl, ⟨rfl, ⟨rfl, ⟨rfl, ⟨rfl, trivial⟩⟩⟩⟩⟩⟩) k
    · have k := k.2 cc
      refine Rn.iload (n := 46) (i := 5) d_Us_bestPace_44 rfl rfl ?_
      refine Rn.istore (n := 48) (i := 4) (ls2 := [some (vI a0), some (vI a1), some (vI a2), some (vI a3), some (vI a5), some (vI a5), some (vI (r5 * a4))]) d_Us_bestPace_46 rfl (Nat.le_of_ble_eq_true rfl) rfl ?_
      refine Rn.iinc (n := 51) (i := 5) (v := a5 + 1) (ls2 := [some (vI a0), some (vI a1), some (vI a2), some (vI a3), some (vI a5), some (vI (a5 + 1)), some (vI (r5 * a4))]) d_Us_bestPace_48 rfl rfl rfl (Nat.le_of_ble_eq_true rfl) rfl ?_
      refine Rn.goto (n := 6) d_Us_bestPace_51 (by decide) ?_
      exact Rn.loc [some (vI a0), some (vI a1), some (vI a2), some (vI a3), some (vI a5), some (vI (a5 + 1)), none] (LLe_ok ⟨rfl, ⟨rfl, ⟨rfl, ⟨rfl, ⟨rfl, ⟨rfl, trivial⟩⟩⟩⟩⟩⟩) k
theorem e_Us_bestPace {X : XS} (a0 : Int32) (a1 : Int32) (a2 : Int32) (a3 : Int32) (h : Hp) (Q : Option AV → Hp → Prop) (k : Rn X m_Us_bestPace 0 [some (vI a0), some (vI a1), some (vI a2), some (vI a3), none, none, none] [] h Q) : Ev X m_Us_bestPace [vI a0, vI a1, vI a2, vI a3] h Q := Ev.intro (plainFor_of_name (by decide +kernel)) (Nat.le_of_ble_eq_true rfl) (ls := [some (vI a0), some (vI a1), some (vI a2), some (vI a3), none, none, none]) rfl k
theorem d_Us_door_0 : decode m_Us_door.2.1 0 = .ok (.iload_n 1, 1) := by decide +kernel
theorem d_Us_door_1 : decode m_Us_door.2.1 1 = .ok (.iconst 0, 1) := by decide +kernel
theorem d_Us_door_2 : decode m_Us_door.2.1 2 = .ok (.bipush 10, 2) := by decide +kernel
theorem d_Us_door_4 : decode m_Us_door.2.1 4 = .ok (.invokestatic 61, 3) := by decide +kernel
theorem d_Us_door_7 : decode m_Us_door.2.1 7 = .ok (.ifCond .ne 24, 3) := by decide +kernel
theorem d_Us_door_10 : decode m_Us_door.2.1 10 = .ok (.iload_n 2, 1) := by decide +kernel
theorem d_Us_door_11 : decode m_Us_door.2.1 11 = .ok (.iconst 0, 1) := by decide +kernel
theorem d_Us_door_12 : decode m_Us_door.2.1 12 = .ok (.bipush 10, 2) := by decide +kernel
theorem d_Us_door_14 : decode m_Us_door.2.1 14 = .ok (.invokestatic 61, 3) := by decide +kernel
theorem d_Us_door_17 : decode m_Us_door.2.1 17 = .ok (.ifCond .ne 14, 3) := by decide +kernel
theorem d_Us_door_20 : decode m_Us_door.2.1 20 = .ok (.iload_n 3, 1) := by decide +kernel
theorem d_Us_door_21 : decode m_Us_door.2.1 21 = .ok (.iconst 0, 1) := by decide +kernel
theorem d_Us_door_22 : decode m_Us_door.2.1 22 = .ok (.sipush 999, 3) := by decide +kernel
theorem d_Us_door_25 : decode m_Us_door.2.1 25 = .ok (.invokestatic 61, 3) := by decide +kernel
theorem d_Us_door_28 : decode m_Us_door.2.1 28 = .ok (.ifCond .eq 7, 3) := by decide +kernel
theorem d_Us_door_31 : decode m_Us_door.2.1 31 = .ok (.ldc2_w 244, 3) := by decide +kernel
theorem d_Us_door_34 : decode m_Us_door.2.1 34 = .ok (.lreturn, 1) := by decide +kernel
theorem d_Us_door_35 : decode m_Us_door.2.1 35 = .ok (.iload 4, 2) := by decide +kernel
theorem d_Us_door_37 : decode m_Us_door.2.1 37 = .ok (.iconst 0, 1) := by decide +kernel
theorem d_Us_door_38 : decode m_Us_door.2.1 38 = .ok (.bipush 8, 2) := by decide +kernel
theorem d_Us_door_40 : decode m_Us_door.2.1 40 = .ok (.invokestatic 61, 3) := by decide +kernel
theorem d_Us_door_43 : decode m_Us_door.2.1 43 = .ok (.ifCond .ne 13, 3) := by decide +kernel
theorem d_Us_door_46 : decode m_Us_door.2.1 46 = .ok (.iload 5, 2) := by decide +kernel
theorem d_Us_door_48 : decode m_Us_door.2.1 48 = .ok (.iconst 0, 1) := by decide +kernel
theorem d_Us_door_49 : decode m_Us_door.2.1 49 = .ok (.iconst 2, 1) := by decide +kernel
theorem d_Us_door_50 : decode m_Us_door.2.1 50 = .ok (.invokestatic 61, 3) := by decide +kernel
theorem d_Us_door_53 : decode m_Us_door.2.1 53 = .ok (.ifCond .eq 7, 3) := by decide +kernel
theorem d_Us_door_56 : decode m_Us_door.2.1 56 = .ok (.ldc2_w 244, 3) := by decide +kernel
theorem d_Us_door_59 : decode m_Us_door.2.1 59 = .ok (.lreturn, 1) := by decide +kernel
theorem d_Us_door_60 : decode m_Us_door.2.1 60 = .ok (.ldc2_w 246, 3) := by decide +kernel
theorem d_Us_door_63 : decode m_Us_door.2.1 63 = .ok (.lstore 6, 2) := by decide +kernel
theorem d_Us_door_65 : decode m_Us_door.2.1 65 = .ok (.iload_n 3, 1) := by decide +kernel
theorem d_Us_door_66 : decode m_Us_door.2.1 66 = .ok (.i2l, 1) := by decide +kernel
theorem d_Us_door_67 : decode m_Us_door.2.1 67 = .ok (.lload 6, 2) := by decide +kernel
theorem d_Us_door_69 : decode m_Us_door.2.1 69 = .ok (.lmul, 1) := by decide +kernel
theorem d_Us_door_70 : decode m_Us_door.2.1 70 = .ok (.lstore 8, 2) := by decide +kernel
theorem d_Us_door_72 : decode m_Us_door.2.1 72 = .ok (.iconst 0, 1) := by decide +kernel
theorem d_Us_door_73 : decode m_Us_door.2.1 73 = .ok (.istore 10, 2) := by decide +kernel
theorem d_Us_door_75 : decode m_Us_door.2.1 75 = .ok (.iconst 1, 1) := by decide +kernel
theorem d_Us_door_76 : decode m_Us_door.2.1 76 = .ok (.istore 11, 2) := by decide +kernel
theorem d_Us_door_78 : decode m_Us_door.2.1 78 = .ok (.iload 11, 2) := by decide +kernel
theorem d_Us_door_80 : decode m_Us_door.2.1 80 = .ok (.iload 4, 2) := by decide +kernel
theorem d_Us_door_82 : decode m_Us_door.2.1 82 = .ok (.if_icmp .gt 100, 3) := by decide +kernel
theorem d_Us_door_85 : decode m_Us_door.2.1 85 = .ok (.lload 6, 2) := by decide +kernel
theorem d_Us_door_87 : decode m_Us_door.2.1 87 = .ok (.ldc2_w 246, 3) := by decide +kernel
theorem d_Us_door_90 : decode m_Us_door.2.1 90 = .ok (.lmul, 1) := by decide +kernel
theorem d_Us_door_91 : decode m_Us_door.2.1 91 = .ok (.iload_n 1, 1) := by decide +kernel
theorem d_Us_door_92 : decode m_Us_door.2.1 92 = .ok (.i2l, 1) := by decide +kernel
theorem d_Us_door_93 : decode m_Us_door.2.1 93 = .ok (.iload_n 2, 1) := by decide +kernel
theorem d_Us_door_94 : decode m_Us_door.2.1 94 = .ok (.i2l, 1) := by decide +kernel
theorem d_Us_door_95 : decode m_Us_door.2.1 95 = .ok (.lmul, 1) := by decide +kernel
theorem d_Us_door_96 : decode m_Us_door.2.1 96 = .ok (.iload_n 3, 1) := by decide +kernel
theorem d_Us_door_97 : decode m_Us_door.2.1 97 = .ok (.i2l, 1) := by decide +kernel
theorem d_Us_door_98 : decode m_Us_door.2.1 98 = .ok (.lmul, 1) := by decide +kernel
theorem d_Us_door_99 : decode m_Us_door.2.1 99 = .ok (.lload 6, 2) := by decide +kernel
theorem d_Us_door_101 : decode m_Us_door.2.1 101 = .ok (.ldc2_w 246, 3) := by decide +kernel
theorem d_Us_door_104 : decode m_Us_door.2.1 104 = .ok (.ldiv, 1) := by decide +kernel
theorem d_Us_door_105 : decode m_Us_door.2.1 105 = .ok (.lmul, 1) := by decide +kernel
theorem d_Us_door_106 : decode m_Us_door.2.1 106 = .ok (.ladd, 1) := by decide +kernel
theorem d_Us_door_107 : decode m_Us_door.2.1 107 = .ok (.bipush 10, 2) := by decide +kernel
theorem d_Us_door_109 : decode m_Us_door.2.1 109 = .ok (.iload_n 1, 1) := by decide +kernel
theorem d_Us_door_110 : decode m_Us_door.2.1 110 = .ok (.isub, 1) := by decide +kernel
theorem d_Us_door_111 : decode m_Us_door.2.1 111 = .ok (.i2l, 1) := by decide +kernel
theorem d_Us_door_112 : decode m_Us_door.2.1 112 = .ok (.lload 8, 2) := by decide +kernel
theorem d_Us_door_114 : decode m_Us_door.2.1 114 = .ok (.lmul, 1) := by decide +kernel
theorem d_Us_door_115 : decode m_Us_door.2.1 115 = .ok (.ladd, 1) := by decide +kernel
theorem d_Us_door_116 : decode m_Us_door.2.1 116 = .ok (.lstore 12, 2) := by decide +kernel
theorem d_Us_door_118 : decode m_Us_door.2.1 118 = .ok (.lload 6, 2) := by decide +kernel
theorem d_Us_door_120 : decode m_Us_door.2.1 120 = .ok (.ldc2_w 246, 3) := by decide +kernel
theorem d_Us_door_123 : decode m_Us_door.2.1 123 = .ok (.lmul, 1) := by decide +kernel
theorem d_Us_door_124 : decode m_Us_door.2.1 124 = .ok (.lstore 6, 2) := by decide +kernel
theorem d_Us_door_126 : decode m_Us_door.2.1 126 = .ok (.lload 12, 2) := by decide +kernel
theorem d_Us_door_128 : decode m_Us_door.2.1 128 = .ok (.iload_n 3, 1) := by decide +kernel
theorem d_Us_door_129 : decode m_Us_door.2.1 129 = .ok (.i2l, 1) := by decide +kernel
theorem d_Us_door_130 : decode m_Us_door.2.1 130 = .ok (.lload 6, 2) := by decide +kernel
theorem d_Us_door_132 : decode m_Us_door.2.1 132 = .ok (.lmul, 1) := by decide +kernel
theorem d_Us_door_133 : decode m_Us_door.2.1 133 = .ok (.lcmp, 1) := by decide +kernel
theorem d_Us_door_134 : decode m_Us_door.2.1 134 = .ok (.ifCond .ge 7, 3) := by decide +kernel
theorem d_Us_door_137 : decode m_Us_door.2.1 137 = .ok (.iconst 1, 1) := by decide +kernel
theorem d_Us_door_138 : decode m_Us_door.2.1 138 = .ok (.goto 4, 3) := by decide +kernel
theorem d_Us_door_141 : decode m_Us_door.2.1 141 = .ok (.iconst 0, 1) := by decide +kernel
theorem d_Us_door_142 : decode m_Us_door.2.1 142 = .ok (.istore 14, 2) := by decide +kernel
theorem d_Us_door_144 : decode m_Us_door.2.1 144 = .ok (.iload 14, 2) := by decide +kernel
theorem d_Us_door_146 : decode m_Us_door.2.1 146 = .ok (.ifCond .eq 8, 3) := by decide +kernel
theorem d_Us_door_149 : decode m_Us_door.2.1 149 = .ok (.lload 12, 2) := by decide +kernel
theorem d_Us_door_151 : decode m_Us_door.2.1 151 = .ok (.goto 8, 3) := by decide +kernel
theorem d_Us_door_154 : decode m_Us_door.2.1 154 = .ok (.iload_n 3, 1) := by decide +kernel
theorem d_Us_door_155 : decode m_Us_door.2.1 155 = .ok (.i2l, 1) := by decide +kernel
theorem d_Us_door_156 : decode m_Us_door.2.1 156 = .ok (.lload 6, 2) := by decide +kernel
theorem d_Us_door_158 : decode m_Us_door.2.1 158 = .ok (.lmul, 1) := by decide +kernel
theorem d_Us_door_159 : decode m_Us_door.2.1 159 = .ok (.lstore 8, 2) := by decide +kernel
theorem d_Us_door_161 : decode m_Us_door.2.1 161 = .ok (.iload 14, 2) := by decide +kernel
theorem d_Us_door_163 : decode m_Us_door.2.1 163 = .ok (.ifCond .eq 10, 3) := by decide +kernel
theorem d_Us_door_166 : decode m_Us_door.2.1 166 = .ok (.iload 10, 2) := by decide +kernel
theorem d_Us_door_168 : decode m_Us_door.2.1 168 = .ok (.iconst 1, 1) := by decide +kernel
theorem d_Us_door_169 : decode m_Us_door.2.1 169 = .ok (.iadd, 1) := by decide +kernel
theorem d_Us_door_170 : decode m_Us_door.2.1 170 = .ok (.goto 4, 3) := by decide +kernel
theorem d_Us_door_173 : decode m_Us_door.2.1 173 = .ok (.iconst 0, 1) := by decide +kernel
theorem d_Us_door_174 : decode m_Us_door.2.1 174 = .ok (.istore 10, 2) := by decide +kernel
theorem d_Us_door_176 : decode m_Us_door.2.1 176 = .ok (.iinc 11 1, 3) := by decide +kernel
theorem d_Us_door_179 : decode m_Us_door.2.1 179 = .ok (.goto (-101), 3) := by decide +kernel
theorem d_Us_door_182 : decode m_Us_door.2.1 182 = .ok (.iload 5, 2) := by decide +kernel
theorem d_Us_door_184 : decode m_Us_door.2.1 184 = .ok (.iconst 2, 1) := by decide +kernel
theorem d_Us_door_185 : decode m_Us_door.2.1 185 = .ok (.if_icmp .ne 9, 3) := by decide +kernel
theorem d_Us_door_188 : decode m_Us_door.2.1 188 = .ok (.iload 10, 2) := by decide +kernel
theorem d_Us_door_190 : decode m_Us_door.2.1 190 = .ok (.i2l, 1) := by decide +kernel
theorem d_Us_door_191 : decode m_Us_door.2.1 191 = .ok (.goto 12, 3) := by decide +kernel
theorem d_Us_door_194 : decode m_Us_door.2.1 194 = .ok (.lload 8, 2) := by decide +kernel
theorem d_Us_door_196 : decode m_Us_door.2.1 196 = .ok (.lload 6, 2) := by decide +kernel
theorem d_Us_door_198 : decode m_Us_door.2.1 198 = .ok (.iload 5, 2) := by decide +kernel
theorem d_Us_door_200 : decode m_Us_door.2.1 200 = .ok (.invokestatic 237, 3) := by decide +kernel
theorem d_Us_door_203 : decode m_Us_door.2.1 203 = .ok (.lreturn, 1) := by decide +kernel
theorem g_Us_door_0 {X : XS} (a1 : Int32) (a2 : Int32) (a3 : Int32) (a4 : Int32) (a5 : Int32) (h : Hp) (Q : Option AV → Hp → Prop)  (k : (∃ Q'4, EvI X m_Us_isNotIn [vI a1, vI 0, vI 10] h Q'4 ∧ ∀ (r5 : Int32) (h3 : Hp), Q'4 r5 h3 → ((¬ r5 = 0 → Q (some (vL (-3))) h3) ∧ (r5 = 0 → (∃ Q'9, EvI X m_Us_isNotIn [vI a2, vI 0, vI 10] h3 Q'9 ∧ ∀ (r10 : Int32) (h8 : Hp), Q'9 r10 h8 → ((¬ r10 = 0 → Q (some (vL (-3))) h8) ∧ (r10 = 0 → (∃ Q'14, EvI X m_Us_isNotIn [vI a3, vI 0, vI 999] h8 Q'14 ∧ ∀ (r15 : Int32) (h13 : Hp), Q'14 r15 h13 → ((r15 = 0 → (∃ Q'19, EvI X m_Us_isNotIn [vI a4, vI 0, vI 8] h13 Q'19 ∧ ∀ (r20 : Int32) (h18 : Hp), Q'19 r20 h18 → ((¬ r20 = 0 → Q (some (vL (-3))) h18) ∧ (r20 = 0 → (∃ Q'24, EvI X m_Us_isNotIn [vI a5, vI 0, vI 2] h18 Q'24 ∧ ∀ (r25 : Int32) (h23 : Hp), Q'24 r25 h23 → ((r25 = 0 → Rn X m_Us_door 78 [some (vR [0]), some (vI a1), some (vI a2), some (vI a3), some (vI a4), some (vI a5), some (vL 10), none, some (vL (a3.toInt64 * 10)), none, some (vI 0), some (vI 1), none, none, none] [] h23 Q) ∧ (¬ r25 = 0 → Q (some (vL (-3))) h23))))))) ∧ (¬ r15 = 0 → Q (some (vL (-3))) h13)))))))))) : Rn X m_Us_door 0 [some (vR [0]), some (vI a1), some (vI a2), some (vI a3), some (vI a4), some (vI a5), none, none, none, none, none, none, none, none, none] [] h Q := by
  refine Rn.iload_n (n := 1) (i := 1) d_Us_door_0 rfl rfl rfl ?_
  refine Rn.iconst (n := 2) (v := 0) d_Us_door_1 rfl (by decide) ?_
  refine Rn.bipush (n := 4) (v := 10) d_Us_door_2 rfl (by decide) ?_
  obtain ⟨Q'4, ev1, k⟩ := k
  refine Rn.callS (n := 7) (av := [vI a1, vI 0, vI 10]) d_Us_door_4 rfl ml_Us_door_61 ms_Us_isNotIn rfl rfl (Nat.le_of_ble_eq_true rfl) ev1 (fun v h3 hq => ?_)
  obtain ⟨r5, rfl, hq⟩ := hq
  have k := k r5 h3 hq
  show Rn X m_Us_door 7 [some (vR [0]), some (vI a1), some (vI a2), some (vI a3), some (vI a4), some (vI a5), none, none, none, none, none, none, none, none, none] [vI r5] h3 Q
  refine Rn.if_ne (n := 10) (t := 31) d_Us_door_7 rfl (by decide) (fun cc => ?_) (fun cc => ?_)
  · have k := k.1 cc
    refine Rn.ldc2 (n := 34) (v := (-3)) d_Us_door_31 rfl cl_Us_244 ?_
    exact Rn.lret d_Us_door_34 rfl k
  · have k := k.2 cc
    refine Rn.iload_n (n := 11) (i := 2) d_Us_door_10 rfl rfl rfl ?_
    refine Rn.iconst (n := 12) (v := 0) d_Us_door_11 rfl (by decide) ?_
    refine Rn.bipush (n := 14) (v := 10) d_Us_door_12 rfl (by decide) ?_
    obtain ⟨Q'9, ev6, k⟩ := k
    refine Rn.callS (n := 17) (av := [vI a2, vI 0, vI 10]) d_Us_door_14 rfl ml_Us_door_61 ms_Us_isNotIn rfl rfl (Nat.le_of_ble_eq_true rfl) ev6 (fun v h8 hq => ?_)
    obtain ⟨r10, rfl, hq⟩ := hq
    have k := k r10 h8 hq
    show Rn X m_Us_door 17 [some (vR [0]), some (vI a1), some (vI a2), some (vI a3), some (vI a4), some (vI a5), none, none, none, none, none, none, none, none, none] [vI r10] h8 Q
    refine Rn.if_ne (n := 20) (t := 31) d_Us_door_17 rfl (by decide) (fun cc => ?_) (fun cc => ?_)
    · have k := k.1 cc
      refine Rn.ldc2 (n := 34) (v := (-3)) d_Us_door_31 rfl cl_Us_244 ?_
      exact Rn.lret d_Us_door_34 rfl k
    · have k := k.2 cc
      refine Rn.iload_n (n := 21) (i := 3) d_Us_door_20 rfl rfl rfl ?_
      refine Rn.iconst (n := 22) (v := 0) d_Us_door_21 rfl (by decide) ?_
      refine Rn.sipush (n := 25) (v := 999) d_Us_door_22 rfl (by decide) ?_
      obtain ⟨Q'14, ev11, k⟩ := k
      refine Rn.callS (n := 28) (av := [vI a3, vI 0, vI 999]) d_Us_door_25 rfl ml_Us_door_61 ms_Us_isNotIn rfl rfl (Nat.le_of_ble_eq_true rfl) ev11 (fun v h13 hq => ?_)
      obtain ⟨r15, rfl, hq⟩ := hq
      have k := k r15 h13 hq
      show Rn X m_Us_door 28 [some (vR [0]), some (vI a1), some (vI a2), some (vI a3), some (vI a4), some (vI a5), none, none, none, none, none, none, none, none, none] [vI r15] h13 Q
      refine Rn.if_eq (n := 31) (t := 35) d_Us_door_28 rfl (by decide) (fun cc => ?_) (fun cc => ?_)
      · have k := k.1 cc
        refine Rn.iload (n := 37) (i := 4) d_Us_door_35 rfl rfl ?_
        refine Rn.iconst (n := 38) (v := 0) d_Us_door_37 rfl (by decide) ?_
        refine Rn.bipush (n := 40) (v := 8) d_Us_door_38 rfl (by decide) ?_
        obtain ⟨Q'19, ev16, k⟩ := k
        refine Rn.callS (n := 43) (av := [vI a4, vI 0, vI 8]) d_Us_door_40 rfl ml_Us_door_61 ms_Us_isNotIn rfl rfl (Nat.le_of_ble_eq_true rfl) ev16 (fun v h18 hq => ?_)
        obtain ⟨r20, rfl, hq⟩ := hq
        have k := k r20 h18 hq
        show Rn X m_Us_door 43 [some (vR [0]), some (vI a1), some (vI a2), some (vI a3), some (vI a4), some (vI a5), none, none, none, none, none, none, none, none, none] [vI r20] h18 Q
        refine Rn.if_ne (n := 46) (t := 56) d_Us_door_43 rfl (by decide) (fun cc => ?_) (fun cc => ?_)
        · have k := k.1 cc
          refine Rn.ldc2 (n := 59) (v := (-3)) d_Us_door_56 rfl cl_Us_244 ?_
          exact Rn.lret d_Us_door_59 rfl k
        · have k := k.2 cc
          refine Rn.iload (n := 48) (i := 5) d_Us_door_46 rfl rfl ?_
          refine Rn.iconst (n := 49) (v := 0) d_Us_door_48 rfl (by decide) ?_
          refine Rn.iconst (n := 50) (v := 2) d_Us_door_49 rfl (by decide) ?_
          obtain ⟨Q'24, ev21, k⟩ := k
          refine Rn.callS (n := 53) (av := [vI a5, vI 0, vI 2]) d_Us_door_50 rfl ml_Us_door_61 ms_Us_isNotIn rfl rfl (Nat.le_of_ble_eq_true rfl) ev21 (fun v h23 hq => ?_)
          obtain ⟨r25, rfl, hq⟩ := hq
          have k := k r25 h23 hq
          show Rn X m_Us_door 53 [some (vR [0]), some (vI a1), some (vI a2), some (vI a3), some (vI a4), some (vI a5), none, none, none, none, none, none, none, none, none] [vI r25] h23 Q
          refine Rn.if_eq (n := 56) (t := 60) d_Us_door_53 rfl (by decide) (fun cc => ?_) (fun cc => ?_)
          · have k := k.1 cc
            refine Rn.ldc2 (n := 63) (v := 10) d_Us_door_60 rfl cl_Us_246 ?_
            refine Rn.lstore (n := 65) (i := 6) (ls2 := [some (vR [0]), some (vI a1), some (vI a2), some (vI a3), some (vI a4), some (vI a5), some (vL 10), none, none, none, none, none, none, none, none]) d_Us_door_63 rfl (Nat.le_of_ble_eq_true rfl) rfl ?_
            refine Rn.iload_n (n := 66) (i := 3) d_Us_door_65 rfl rfl rfl ?_
            refine Rn.i2l (n := 67) d_Us_door_66 rfl ?_
            refine Rn.lload (n := 69) (i := 6) d_Us_door_67 rfl rfl ?_
            refine Rn.lmul (n := 70) d_Us_door_69 rfl ?_
            refine Rn.lstore (n := 72) (i := 8) (ls2 := [some (vR [0]), some (vI a1), some (vI a2), some (vI a3), some (vI a4), some (vI a5), some (vL 10), none, some (vL (a3.toInt64 * 10)), none, none, none, none, none, none]) d_Us_door_70 rfl (Nat.le_of_ble_eq_true rfl) rfl ?_
            refine Rn.iconst (n := 73) (v := 0) d_Us_door_72 rfl (by decide) ?_
            refine Rn.istore (n := 75) (i := 10) (ls2 := [some (vR [0]), some (vI a1), some (vI a2), some (vI a3), some (vI a4), some (vI a5), some (vL 10), none, some (vL (a3.toInt64 * 10)), none, some (vI 0), none, none, none, none]) d_Us_door_73 rfl (Nat.le_of_ble_eq_true rfl) rfl ?_
            refine Rn.iconst (n := 76) (v := 1) d_Us_door_75 rfl (by decide) ?_
            refine Rn.istore (n := 78) (i := 11) (ls2 := [some (vR [0]), some (vI a1), some (vI a2), some (vI a3), some (vI a4), some (vI a5), some (vL 10), none, some (vL (a3.toInt64 * 10)), none, some (vI 0), some (vI 1), none, none, none]) d_Us_door_76 rfl (Nat.le_of_ble_eq_true rfl) rfl ?_
            exact k
          · have k := k.2 cc
            refine Rn.ldc2 (n := 59) (v := (-3)) d_Us_door_56 rfl cl_Us_244 ?_
            exact Rn.lret d_Us_door_59 rfl k
      · have k := k.2 cc
        refine Rn.ldc2 (n := 34) (v := (-3)) d_Us_door_31 rfl cl_Us_244 ?_
        exact Rn.lret d_Us_door_34 rfl k
theorem g_Us_door_78 {X : XS} (a1 : Int32) (a2 : Int32) (a3 : Int32) (a4 : Int32) (a5 : Int32) (a6 : Int64) (a8 : Int64) (a10 : Int32) (a11 : Int32) (h : Hp) (Q : Option AV → Hp → Prop)  (k : ((a4 < a11 → ((¬ a5 = 2 → (∃ Q'4, EvL X m_Us_lowest [vL a8, vL a6, vI a5] h Q'4 ∧ ∀ (r5 : Int64) (h3 : Hp), Q'4 r5 h3 → Q (some (vL r5)) h3)) ∧ (a5 = 2 → Q (some (vL a10.toInt64)) h))) ∧ (¬ a4 < a11 → ((0 ≤ (lg_cmp (((a6 * 10) + (((a1.toInt64 * a2.toInt64) * a3.toInt64) * (a6 / 10))) + (((10 - a1).toInt64) * a8)) (a3.toInt64 * (a6 * 10))) → Rn X m_Us_door 142 [some (vR [0]), some (vI a1), some (vI a2), some (vI a3), some (vI a4), some (vI a5), some (vL (a6 * 10)), none, some (vL a8), none, some (vI a10), some (vI a11), some (vL (((a6 * 10) + (((a1.toInt64 * a2.toInt64) * a3.toInt64) * (a6 / 10))) + (((10 - a1).toInt64) * a8))), none, none] [vI 0] h Q) ∧ (¬ 0 ≤ (lg_cmp (((a6 * 10) + (((a1.toInt64 * a2.toInt64) * a3.toInt64) * (a6 / 10))) + (((10 - a1).toInt64) * a8)) (a3.toInt64 * (a6 * 10))) → Rn X m_Us_door 142 [some (vR [0]), some (vI a1), some (vI a2), some (vI a3), some (vI a4), some (vI a5), some (vL (a6 * 10)), none, some (vL a8), none, some (vI a10), some (vI a11), some (vL (((a6 * 10) + (((a1.toInt64 * a2.toInt64) * a3.toInt64) * (a6 / 10))) + (((10 - a1).toInt64) * a8))), none, none] [vI 1] h Q))))) : Rn X m_Us_door 78 [some (vR [0]), some (vI a1), some (vI a2), some (vI a3), some (vI a4), some (vI a5), some (vL a6), none, some (vL a8), none, some (vI a10), some (vI a11), none, none, none] [] h Q := by
  refine Rn.iload (n := 80) (i := 11) d_Us_door_78 rfl rfl ?_
  refine Rn.iload (n := 82) (i := 4) d_Us_door_80 rfl rfl ?_
  refine Rn.icmp_gt (n := 85) (t := 182) d_Us_door_82 rfl (by decide) (fun cc => ?_) (fun cc => ?_)
  · have k := k.1 cc
    refine Rn.iload (n := 184) (i := 5) d_Us_door_182 rfl rfl ?_
    refine Rn.iconst (n := 185) (v := 2) d_Us_door_184 rfl (by decide) ?_
    refine Rn.icmp_ne (n := 188) (t := 194) d_Us_door_185 rfl (by decide) (fun cc => ?_) (fun cc => ?_)
    · have k := k.1 cc
      refine Rn.lload (n := 196) (i := 8) d_Us_door_194 rfl rfl ?_
      refine Rn.lload (n := 198) (i := 6) d_Us_door_196 rfl rfl ?_
      refine Rn.iload (n := 200) (i := 5) d_Us_door_198 rfl rfl ?_
      obtain ⟨Q'4, ev1, k⟩ := k
      refine Rn.callS (n := 203) (av := [vL a8, vL a6, vI a5]) d_Us_door_200 rfl ml_Us_door_237 ms_Us_lowest rfl rfl (Nat.le_of_ble_eq_true rfl) ev1 (fun v h3 hq => ?_)
      obtain ⟨r5, rfl, hq⟩ := hq
      have k := k r5 h3 hq
      show Rn X m_Us_door 203 [some (vR [0]), some (vI a1), some (vI a2), some (vI a3), some (vI a4), some (vI a5), some (vL a6), none, some (vL a8), none, some (vI a10), some (vI a11), none, none, none] [vL r5] h3 Q
      exact Rn.lret d_Us_door_203 rfl k
    · have k := k.2 cc
      refine Rn.iload (n := 190) (i := 10) d_Us_door_188 rfl rfl ?_
      refine Rn.i2l (n := 191) d_Us_door_190 rfl ?_
      refine Rn.goto (n := 203) d_Us_door_191 (by decide) ?_
      exact Rn.lret d_Us_door_203 rfl k
  · have k := k.2 cc
    refine Rn.lload (n := 87) (i := 6) d_Us_door_85 rfl rfl ?_
    refine Rn.ldc2 (n := 90) (v := 10) d_Us_door_87 rfl cl_Us_246 ?_
    refine Rn.lmul (n := 91) d_Us_door_90 rfl ?_
    refine Rn.iload_n (n := 92) (i := 1) d_Us_door_91 rfl rfl rfl ?_
    refine Rn.i2l (n := 93) d_Us_door_92 rfl ?_
    refine Rn.iload_n (n := 94) (i := 2) d_Us_door_93 rfl rfl rfl ?_
    refine Rn.i2l (n := 95) d_Us_door_94 rfl ?_
    refine Rn.lmul (n := 96) d_Us_door_95 rfl ?_
    refine Rn.iload_n (n := 97) (i := 3) d_Us_door_96 rfl rfl rfl ?_
    refine Rn.i2l (n := 98) d_Us_door_97 rfl ?_
    refine Rn.lmul (n := 99) d_Us_door_98 rfl ?_
    refine Rn.lload (n := 101) (i := 6) d_Us_door_99 rfl rfl ?_
    refine Rn.ldc2 (n := 104) (v := 10) d_Us_door_101 rfl cl_Us_246 ?_
    refine Rn.ldiv (n := 105) d_Us_door_104 rfl (by decide) ?_
    refine Rn.lmul (n := 106) d_Us_door_105 rfl ?_
    refine Rn.ladd (n := 107) d_Us_door_106 rfl ?_
    refine Rn.bipush (n := 109) (v := 10) d_Us_door_107 rfl (by decide) ?_
    refine Rn.iload_n (n := 110) (i := 1) d_Us_door_109 rfl rfl rfl ?_
    refine Rn.isub (n := 111) d_Us_door_110 rfl ?_
    refine Rn.i2l (n := 112) d_Us_door_111 rfl ?_
    refine Rn.lload (n := 114) (i := 8) d_Us_door_112 rfl rfl ?_
    refine Rn.lmul (n := 115) d_Us_door_114 rfl ?_
    refine Rn.ladd (n := 116) d_Us_door_115 rfl ?_
    refine Rn.lstore (n := 118) (i := 12) (ls2 := [some (vR [0]), some (vI a1), some (vI a2), some (vI a3), some (vI a4), some (vI a5), some (vL a6), none, some (vL a8), none, some (vI a10), some (vI a11), some (vL (((a6 * 10) + (((a1.toInt64 * a2.toInt64) * a3.toInt64) * (a6 / 10))) + (((10 - a1).toInt64) * a8))), none, none]) d_Us_door_116 rfl (Nat.le_of_ble_eq_true rfl) rfl ?_
    refine Rn.lload (n := 120) (i := 6) d_Us_door_118 rfl rfl ?_
    refine Rn.ldc2 (n := 123) (v := 10) d_Us_door_120 rfl cl_Us_246 ?_
    refine Rn.lmul (n := 124) d_Us_door_123 rfl ?_
    refine Rn.lstore (n := 126) (i := 6) (ls2 := [some (vR [0]), some (vI a1), some (vI a2), some (vI a3), some (vI a4), some (vI a5), some (vL (a6 * 10)), none, some (vL a8), none, some (vI a10), some (vI a11), some (vL (((a6 * 10) + (((a1.toInt64 * a2.toInt64) * a3.toInt64) * (a6 / 10))) + (((10 - a1).toInt64) * a8))), none, none]) d_Us_door_124 rfl (Nat.le_of_ble_eq_true rfl) rfl ?_
    refine Rn.lload (n := 128) (i := 12) d_Us_door_126 rfl rfl ?_
    refine Rn.iload_n (n := 129) (i := 3) d_Us_door_128 rfl rfl rfl ?_
    refine Rn.i2l (n := 130) d_Us_door_129 rfl ?_
    refine Rn.lload (n := 132) (i := 6) d_Us_door_130 rfl rfl ?_
    refine Rn.lmul (n := 133) d_Us_door_132 rfl ?_
    refine Rn.lcmp (n := 134) d_Us_door_133 rfl ?_
    refine Rn.if_ge (n := 137) (t := 141) d_Us_door_134 rfl (by decide) (fun cc => ?_) (fun cc => ?_)
    · have k := k.1 cc
      refine Rn.iconst (n := 142) (v := 0) d_Us_door_141 rfl (by decide) ?_
      exact k
    · have k := k.2 cc
      refine Rn.iconst (n := 138) (v := 1) d_Us_door_137 rfl (by decide) ?_
      refine Rn.goto (n := 142) d_Us_door_138 (by decide) ?_
      exact k
theorem g_Us_door_142 {X : XS} (a1 : Int32) (a2 : Int32) (a3 : Int32) (a4 : Int32) (a5 : Int32) (a6 : Int64) (a8 : Int64) (a10 : Int32) (a11 : Int32) (a12 : Int64) (s0 : Int32) (h : Hp) (Q : Option AV → Hp → Prop)  (k : ((s0 = 0 → Rn X m_Us_door 159 [some (vR [0]), some (vI a1), some (vI a2), some (vI a3), some (vI a4), some (vI a5), some (vL a6), none, some (vL a8), none, some (vI a10), some (vI a11), some (vL a12), none, some (vI s0)] [vL (a3.toInt64 * a6)] h Q) ∧ (¬ s0 = 0 → Rn X m_Us_door 159 [some (vR [0]), some (vI a1), some (vI a2), some (vI a3), some (vI a4), some (vI a5), some (vL a6), none, some (vL a8), none, some (vI a10), some (vI a11), some (vL a12), none, some (vI s0)] [vL a12] h Q))) : Rn X m_Us_door 142 [some (vR [0]), some (vI a1), some (vI a2), some (vI a3), some (vI a4), some (vI a5), some (vL a6), none, some (vL a8), none, some (vI a10), some (vI a11), some (vL a12), none, none] [vI s0] h Q := by
  refine Rn.istore (n := 144) (i := 14) (ls2 := [some (vR [0]), some (vI a1), some (vI a2), some (vI a3), some (vI a4), some (vI a5), some (vL a6), none, some (vL a8), none, some (vI a10), some (vI a11), some (vL a12), none, some (vI s0)]) d_Us_door_142 rfl (Nat.le_of_ble_eq_true rfl) rfl ?_
  refine Rn.iload (n := 146) (i := 14) d_Us_door_144 rfl rfl ?_
  refine Rn.if_eq (n := 149) (t := 154) d_Us_door_146 rfl (by decide) (fun cc => ?_) (fun cc => ?_)
  · have k := k.1 cc
    refine Rn.iload_n (n := 155) (i := 3) d_Us_door_154 rfl rfl rfl ?_
    refine Rn.i2l (n := 156) d_Us_door_155 rfl ?_
    refine Rn.lload (n := 158) (i := 6) d_Us_door_156 rfl rfl ?_
    refine Rn.lmul (n := 159) d_Us_door_158 rfl ?_
    exact k
  · have k := k.2 cc
    refine Rn.lload (n := 151) (i := 12) d_Us_door_149 rfl rfl ?_
    refine Rn.goto (n := 159) d_Us_door_151 (by decide) ?_
    exact k
theorem g_Us_door_159 {X : XS} (a1 : Int32) (a2 : Int32) (a3 : Int32) (a4 : Int32) (a5 : Int32) (a6 : Int64) (a8 : Int64) (a10 : Int32) (a11 : Int32) (a12 : Int64) (a14 : Int32) (s0 : Int64) (h : Hp) (Q : Option AV → Hp → Prop)  (k : ((a14 = 0 → Rn X m_Us_door 78 [some (vR [0]), some (vI a1), some (vI a2), some (vI a3), some (vI a4), some (vI a5), some (vL a6), none, some (vL s0), none, some (vI 0), some (vI (a11 + 1)), none, none, none] [] h Q) ∧ (¬ a14 = 0 → Rn X m_Us_door 78 [some (vR [0]), some (vI a1), some (vI a2), some (vI a3), some (vI a4), some (vI a5), some (vL a6), none, some (vL s0), none, some (vI (a10 + 1)), some (vI (a11 + 1)), none, none, none] [] h Q))) : Rn X m_Us_door 159 [some (vR [0]), some (vI a1), some (vI a2), some (vI a3), some (vI a4), some (vI a5), some (vL a6), none, some (vL a8), none, some (vI a10), some (vI a11), some (vL a12), none, some (vI a14)] [vL s0] h Q := by
  refine Rn.lstore (n := 161) (i := 8) (ls2 := [some (vR [0]), some (vI a1), some (vI a2), some (vI a3), some (vI a4), some (vI a5), some (vL a6), none, some (vL s0), none, some (vI a10), some (vI a11), some (vL a12), none, some (vI a14)]) d_Us_door_159 rfl (Nat.le_of_ble_eq_true rfl) rfl ?_
  refine Rn.iload (n := 163) (i := 14) d_Us_door_161 rfl rfl ?_
  refine Rn.if_eq (n := 166) (t := 173) d_Us_door_163 rfl (by decide) (fun cc => ?_) (fun cc => ?_)
  · have k := k.1 cc
    refine Rn.iconst (n := 174) (v := 0) d_Us_door_173 rfl (by decide) ?_
    refine Rn.istore (n := 176) (i := 10) (ls2 := [some (vR [0]), some (vI a1), some (vI a2), some (vI a3), some (vI a4), some (vI a5), some (vL a6), none, some (vL s0), none, some (vI 0), some (vI a11), some (vL a12), none, some (vI a14)]) d_Us_door_174 rfl (Nat.le_of_ble_eq_true rfl) rfl ?_
    refine Rn.iinc (n := 179) (i := 11) (v := a11 + 1) (ls2 := [some (vR [0]), some (vI a1), some (vI a2), some (vI a3), some (vI a4), some (vI a5), some (vL a6), none, some (vL s0), none, some (vI 0), some (vI (a11 + 1)), some (vL a12), none, some (vI a14)]) d_Us_door_176 rfl rfl rfl (Nat.le_of_ble_eq_true rfl) rfl ?_
    refine Rn.goto (n := 78) d_Us_door_179 (by decide) ?_
    exact Rn.loc [some (vR [0]), some (vI a1), some (vI a2), some (vI a3), some (vI a4), some (vI a5), some (vL a6), none, some (vL s0), none, some (vI 0), some (vI (a11 + 1)), none, none, none] (LLe_ok ⟨rfl, ⟨rfl, ⟨rfl, ⟨rfl, ⟨rfl, ⟨rfl, ⟨rfl, ⟨rfl, ⟨rfl, ⟨rfl, trivial⟩⟩⟩⟩⟩⟩⟩⟩⟩⟩) k
  · have k := k.2 cc
    refine Rn.iload (n := 168) (i := 10) d_Us_door_166 rfl rfl ?_
    refine Rn.iconst (n := 169) (v := 1) d_Us_door_168 rfl (by decide) ?_
    refine Rn.iadd (n := 170) d_Us_door_169 rfl ?_
    refine Rn.goto (n := 174) d_Us_door_170 (by decide) ?_
    refine Rn.istore (n := 176) (i := 10) (ls2 := [some (vR [0]), some (vI a1), some (vI a2), some (vI a3), some (vI a4), some (vI a5), some (vL a6), none, some (vL s0), none, some (vI (a10 + 1)), some (vI a11), some (vL a12), none, some (vI a14)]) d_Us_door_174 rfl (Nat.le_of_ble_eq_true rfl) rfl ?_
    refine Rn.iinc (n := 179) (i := 11) (v := a11 + 1) (ls2 := [some (vR [0]), some (vI a1), some (vI a2), some (vI a3), some (vI a4), some (vI a5), some (vL a6), none, some (vL s0), none, some (vI (a10 + 1)), some (vI (a11 + 1)), some (vL a12), none, some (vI a14)]) d_Us_door_176 rfl rfl rfl (Nat.le_of_ble_eq_true rfl) rfl ?_
    refine Rn.goto (n := 78) d_Us_door_179 (by decide) ?_
    exact Rn.loc [some (vR [0]), some (vI a1), some (vI a2), some (vI a3), some (vI a4), some (vI a5), some (vL a6), none, some (vL s0), none, some (vI (a10 + 1)), some (vI (a11 + 1)), none, none, none] (LLe_ok ⟨rfl, ⟨rfl, ⟨rfl, ⟨rfl, ⟨rfl, ⟨rfl, ⟨rfl, ⟨rfl, ⟨rfl, ⟨rfl, trivial⟩⟩⟩⟩⟩⟩⟩⟩⟩⟩) k
theorem e_Us_door {X : XS} (a1 : Int32) (a2 : Int32) (a3 : Int32) (a4 : Int32) (a5 : Int32) (h : Hp) (Q : Option AV → Hp → Prop) (k : Rn X m_Us_door 0 [some (vR [0]), some (vI a1), some (vI a2), some (vI a3), some (vI a4), some (vI a5), none, none, none, none, none, none, none, none, none] [] h Q) : Ev X m_Us_door [vR [0], vI a1, vI a2, vI a3, vI a4, vI a5] h Q := Ev.intro (plainFor_of_name (by decide +kernel)) (Nat.le_of_ble_eq_true rfl) (ls := [some (vR [0]), some (vI a1), some (vI a2), some (vI a3), some (vI a4), some (vI a5), none, none, none, none, none, none, none, none, none]) rfl k
theorem d_Us_left_0 : decode m_Us_left.2.1 0 = .ok (.iload_n 1, 1) := by decide +kernel
theorem d_Us_left_1 : decode m_Us_left.2.1 1 = .ok (.iconst 1, 1) := by decide +kernel
theorem d_Us_left_2 : decode m_Us_left.2.1 2 = .ok (.bipush 9, 2) := by decide +kernel
theorem d_Us_left_4 : decode m_Us_left.2.1 4 = .ok (.invokestatic 61, 3) := by decide +kernel
theorem d_Us_left_7 : decode m_Us_left.2.1 7 = .ok (.ifCond .ne 23, 3) := by decide +kernel
theorem d_Us_left_10 : decode m_Us_left.2.1 10 = .ok (.iload_n 2, 1) := by decide +kernel
theorem d_Us_left_11 : decode m_Us_left.2.1 11 = .ok (.iconst 0, 1) := by decide +kernel
theorem d_Us_left_12 : decode m_Us_left.2.1 12 = .ok (.bipush 10, 2) := by decide +kernel
theorem d_Us_left_14 : decode m_Us_left.2.1 14 = .ok (.invokestatic 61, 3) := by decide +kernel
theorem d_Us_left_17 : decode m_Us_left.2.1 17 = .ok (.ifCond .ne 13, 3) := by decide +kernel
theorem d_Us_left_20 : decode m_Us_left.2.1 20 = .ok (.iload_n 3, 1) := by decide +kernel
theorem d_Us_left_21 : decode m_Us_left.2.1 21 = .ok (.iconst 0, 1) := by decide +kernel
theorem d_Us_left_22 : decode m_Us_left.2.1 22 = .ok (.bipush 10, 2) := by decide +kernel
theorem d_Us_left_24 : decode m_Us_left.2.1 24 = .ok (.invokestatic 61, 3) := by decide +kernel
theorem d_Us_left_27 : decode m_Us_left.2.1 27 = .ok (.ifCond .eq 7, 3) := by decide +kernel
theorem d_Us_left_30 : decode m_Us_left.2.1 30 = .ok (.ldc2_w 244, 3) := by decide +kernel
theorem d_Us_left_33 : decode m_Us_left.2.1 33 = .ok (.lreturn, 1) := by decide +kernel
theorem d_Us_left_34 : decode m_Us_left.2.1 34 = .ok (.iload 4, 2) := by decide +kernel
theorem d_Us_left_36 : decode m_Us_left.2.1 36 = .ok (.iconst 0, 1) := by decide +kernel
theorem d_Us_left_37 : decode m_Us_left.2.1 37 = .ok (.iload_n 1, 1) := by decide +kernel
theorem d_Us_left_38 : decode m_Us_left.2.1 38 = .ok (.invokestatic 61, 3) := by decide +kernel
theorem d_Us_left_41 : decode m_Us_left.2.1 41 = .ok (.ifCond .ne 13, 3) := by decide +kernel
theorem d_Us_left_44 : decode m_Us_left.2.1 44 = .ok (.iload 5, 2) := by decide +kernel
theorem d_Us_left_46 : decode m_Us_left.2.1 46 = .ok (.iconst 0, 1) := by decide +kernel
theorem d_Us_left_47 : decode m_Us_left.2.1 47 = .ok (.iconst 1, 1) := by decide +kernel
theorem d_Us_left_48 : decode m_Us_left.2.1 48 = .ok (.invokestatic 61, 3) := by decide +kernel
theorem d_Us_left_51 : decode m_Us_left.2.1 51 = .ok (.ifCond .eq 7, 3) := by decide +kernel
theorem d_Us_left_54 : decode m_Us_left.2.1 54 = .ok (.ldc2_w 244, 3) := by decide +kernel
theorem d_Us_left_57 : decode m_Us_left.2.1 57 = .ok (.lreturn, 1) := by decide +kernel
theorem d_Us_left_58 : decode m_Us_left.2.1 58 = .ok (.iload_n 2, 1) := by decide +kernel
theorem d_Us_left_59 : decode m_Us_left.2.1 59 = .ok (.bipush 10, 2) := by decide +kernel
theorem d_Us_left_61 : decode m_Us_left.2.1 61 = .ok (.iload_n 3, 1) := by decide +kernel
theorem d_Us_left_62 : decode m_Us_left.2.1 62 = .ok (.isub, 1) := by decide +kernel
theorem d_Us_left_63 : decode m_Us_left.2.1 63 = .ok (.imul, 1) := by decide +kernel
theorem d_Us_left_64 : decode m_Us_left.2.1 64 = .ok (.istore 6, 2) := by decide +kernel
theorem d_Us_left_66 : decode m_Us_left.2.1 66 = .ok (.lconst 0, 1) := by decide +kernel
theorem d_Us_left_67 : decode m_Us_left.2.1 67 = .ok (.lstore 7, 2) := by decide +kernel
theorem d_Us_left_69 : decode m_Us_left.2.1 69 = .ok (.lconst 1, 1) := by decide +kernel
theorem d_Us_left_70 : decode m_Us_left.2.1 70 = .ok (.lstore 9, 2) := by decide +kernel
theorem d_Us_left_72 : decode m_Us_left.2.1 72 = .ok (.iconst 0, 1) := by decide +kernel
theorem d_Us_left_73 : decode m_Us_left.2.1 73 = .ok (.istore 11, 2) := by decide +kernel
theorem d_Us_left_75 : decode m_Us_left.2.1 75 = .ok (.iload 11, 2) := by decide +kernel
theorem d_Us_left_77 : decode m_Us_left.2.1 77 = .ok (.iload_n 1, 1) := by decide +kernel
theorem d_Us_left_78 : decode m_Us_left.2.1 78 = .ok (.if_icmp .gt 62, 3) := by decide +kernel
theorem d_Us_left_81 : decode m_Us_left.2.1 81 = .ok (.iload 11, 2) := by decide +kernel
theorem d_Us_left_83 : decode m_Us_left.2.1 83 = .ok (.iload 4, 2) := by decide +kernel
theorem d_Us_left_85 : decode m_Us_left.2.1 85 = .ok (.if_icmp .lt 33, 3) := by decide +kernel
theorem d_Us_left_88 : decode m_Us_left.2.1 88 = .ok (.lload 7, 2) := by decide +kernel
theorem d_Us_left_90 : decode m_Us_left.2.1 90 = .ok (.lload 9, 2) := by decide +kernel
theorem d_Us_left_92 : decode m_Us_left.2.1 92 = .ok (.iload 6, 2) := by decide +kernel
theorem d_Us_left_94 : decode m_Us_left.2.1 94 = .ok (.i2l, 1) := by decide +kernel
theorem d_Us_left_95 : decode m_Us_left.2.1 95 = .ok (.iload 11, 2) := by decide +kernel
theorem d_Us_left_97 : decode m_Us_left.2.1 97 = .ok (.invokestatic 248, 3) := by decide +kernel
theorem d_Us_left_100 : decode m_Us_left.2.1 100 = .ok (.lmul, 1) := by decide +kernel
theorem d_Us_left_101 : decode m_Us_left.2.1 101 = .ok (.bipush 100, 2) := by decide +kernel
theorem d_Us_left_103 : decode m_Us_left.2.1 103 = .ok (.iload 6, 2) := by decide +kernel
theorem d_Us_left_105 : decode m_Us_left.2.1 105 = .ok (.isub, 1) := by decide +kernel
theorem d_Us_left_106 : decode m_Us_left.2.1 106 = .ok (.i2l, 1) := by decide +kernel
theorem d_Us_left_107 : decode m_Us_left.2.1 107 = .ok (.iload_n 1, 1) := by decide +kernel
theorem d_Us_left_108 : decode m_Us_left.2.1 108 = .ok (.iload 11, 2) := by decide +kernel
theorem d_Us_left_110 : decode m_Us_left.2.1 110 = .ok (.isub, 1) := by decide +kernel
theorem d_Us_left_111 : decode m_Us_left.2.1 111 = .ok (.invokestatic 248, 3) := by decide +kernel
theorem d_Us_left_114 : decode m_Us_left.2.1 114 = .ok (.lmul, 1) := by decide +kernel
theorem d_Us_left_115 : decode m_Us_left.2.1 115 = .ok (.ladd, 1) := by decide +kernel
theorem d_Us_left_116 : decode m_Us_left.2.1 116 = .ok (.lstore 7, 2) := by decide +kernel
theorem d_Us_left_118 : decode m_Us_left.2.1 118 = .ok (.lload 9, 2) := by decide +kernel
theorem d_Us_left_120 : decode m_Us_left.2.1 120 = .ok (.iload_n 1, 1) := by decide +kernel
theorem d_Us_left_121 : decode m_Us_left.2.1 121 = .ok (.iload 11, 2) := by decide +kernel
theorem d_Us_left_123 : decode m_Us_left.2.1 123 = .ok (.isub, 1) := by decide +kernel
theorem d_Us_left_124 : decode m_Us_left.2.1 124 = .ok (.i2l, 1) := by decide +kernel
theorem d_Us_left_125 : decode m_Us_left.2.1 125 = .ok (.lmul, 1) := by decide +kernel
theorem d_Us_left_126 : decode m_Us_left.2.1 126 = .ok (.iload 11, 2) := by decide +kernel
theorem d_Us_left_128 : decode m_Us_left.2.1 128 = .ok (.iconst 1, 1) := by decide +kernel
theorem d_Us_left_129 : decode m_Us_left.2.1 129 = .ok (.iadd, 1) := by decide +kernel
theorem d_Us_left_130 : decode m_Us_left.2.1 130 = .ok (.i2l, 1) := by decide +kernel
theorem d_Us_left_131 : decode m_Us_left.2.1 131 = .ok (.ldiv, 1) := by decide +kernel
theorem d_Us_left_132 : decode m_Us_left.2.1 132 = .ok (.lstore 9, 2) := by decide +kernel
theorem d_Us_left_134 : decode m_Us_left.2.1 134 = .ok (.iinc 11 1, 3) := by decide +kernel
theorem d_Us_left_137 : decode m_Us_left.2.1 137 = .ok (.goto (-62), 3) := by decide +kernel
theorem d_Us_left_140 : decode m_Us_left.2.1 140 = .ok (.lload 7, 2) := by decide +kernel
theorem d_Us_left_142 : decode m_Us_left.2.1 142 = .ok (.ldc2_w 252, 3) := by decide +kernel
theorem d_Us_left_145 : decode m_Us_left.2.1 145 = .ok (.iload_n 1, 1) := by decide +kernel
theorem d_Us_left_146 : decode m_Us_left.2.1 146 = .ok (.invokestatic 248, 3) := by decide +kernel
theorem d_Us_left_149 : decode m_Us_left.2.1 149 = .ok (.iload 5, 2) := by decide +kernel
theorem d_Us_left_151 : decode m_Us_left.2.1 151 = .ok (.invokestatic 237, 3) := by decide +kernel
theorem d_Us_left_154 : decode m_Us_left.2.1 154 = .ok (.lreturn, 1) := by decide +kernel
theorem g_Us_left_0 {X : XS} (a1 : Int32) (a2 : Int32) (a3 : Int32) (a4 : Int32) (a5 : Int32) (h : Hp) (Q : Option AV → Hp → Prop)  (k : (∃ Q'4, EvI X m_Us_isNotIn [vI a1, vI 1, vI 9] h Q'4 ∧ ∀ (r5 : Int32) (h3 : Hp), Q'4 r5 h3 → ((¬ r5 = 0 → Q (some (vL (-3))) h3) ∧ (r5 = 0 → (∃ Q'9, EvI X m_Us_isNotIn [vI a2, vI 0, vI 10] h3 Q'9 ∧ ∀ (r10 : Int32) (h8 : Hp), Q'9 r10 h8 → ((¬ r10 = 0 → Q (some (vL (-3))) h8) ∧ (r10 = 0 → (∃ Q'14, EvI X m_Us_isNotIn [vI a3, vI 0, vI 10] h8 Q'14 ∧ ∀ (r15 : Int32) (h13 : Hp), Q'14 r15 h13 → ((r15 = 0 → (∃ Q'19, EvI X m_Us_isNotIn [vI a4, vI 0, vI a1] h13 Q'19 ∧ ∀ (r20 : Int32) (h18 : Hp), Q'19 r20 h18 → ((¬ r20 = 0 → Q (some (vL (-3))) h18) ∧ (r20 = 0 → (∃ Q'24, EvI X m_Us_isNotIn [vI a5, vI 0, vI 1] h18 Q'24 ∧ ∀ (r25 : Int32) (h23 : Hp), Q'24 r25 h23 → ((r25 = 0 → Rn X m_Us_left 75 [some (vR [0]), some (vI a1), some (vI a2), some (vI a3), some (vI a4), some (vI a5), some (vI (a2 * (10 - a3))), some (vL 0), none, some (vL 1), none, some (vI 0)] [] h23 Q) ∧ (¬ r25 = 0 → Q (some (vL (-3))) h23))))))) ∧ (¬ r15 = 0 → Q (some (vL (-3))) h13)))))))))) : Rn X m_Us_left 0 [some (vR [0]), some (vI a1), some (vI a2), some (vI a3), some (vI a4), some (vI a5), none, none, none, none, none, none] [] h Q := by
  refine Rn.iload_n (n := 1) (i := 1) d_Us_left_0 rfl rfl rfl ?_
  refine Rn.iconst (n := 2) (v := 1) d_Us_left_1 rfl (by decide) ?_
  refine Rn.bipush (n := 4) (v := 9) d_Us_left_2 rfl (by decide) ?_
  obtain ⟨Q'4, ev1, k⟩ := k
  refine Rn.callS (n := 7) (av := [vI a1, vI 1, vI 9]) d_Us_left_4 rfl ml_Us_left_61 ms_Us_isNotIn rfl rfl (Nat.le_of_ble_eq_true rfl) ev1 (fun v h3 hq => ?_)
  obtain ⟨r5, rfl, hq⟩ := hq
  have k := k r5 h3 hq
  show Rn X m_Us_left 7 [some (vR [0]), some (vI a1), some (vI a2), some (vI a3), some (vI a4), some (vI a5), none, none, none, none, none, none] [vI r5] h3 Q
  refine Rn.if_ne (n := 10) (t := 30) d_Us_left_7 rfl (by decide) (fun cc => ?_) (fun cc => ?_)
  · have k := k.1 cc
    refine Rn.ldc2 (n := 33) (v := (-3)) d_Us_left_30 rfl cl_Us_244 ?_
    exact Rn.lret d_Us_left_33 rfl k
  · have k := k.2 cc
    refine Rn.iload_n (n := 11) (i := 2) d_Us_left_10 rfl rfl rfl ?_
    refine Rn.iconst (n := 12) (v := 0) d_Us_left_11 rfl (by decide) ?_
    refine Rn.bipush (n := 14) (v := 10) d_Us_left_12 rfl (by decide) ?_
    obtain ⟨Q'9, ev6, k⟩ := k
    refine Rn.callS (n := 17) (av := [vI a2, vI 0, vI 10]) d_Us_left_14 rfl ml_Us_left_61 ms_Us_isNotIn rfl rfl (Nat.le_of_ble_eq_true rfl) ev6 (fun v h8 hq => ?_)
    obtain ⟨r10, rfl, hq⟩ := hq
    have k := k r10 h8 hq
    show Rn X m_Us_left 17 [some (vR [0]), some (vI a1), some (vI a2), some (vI a3), some (vI a4), some (vI a5), none, none, none, none, none, none] [vI r10] h8 Q
    refine Rn.if_ne (n := 20) (t := 30) d_Us_left_17 rfl (by decide) (fun cc => ?_) (fun cc => ?_)
    · have k := k.1 cc
      refine Rn.ldc2 (n := 33) (v := (-3)) d_Us_left_30 rfl cl_Us_244 ?_
      exact Rn.lret d_Us_left_33 rfl k
    · have k := k.2 cc
      refine Rn.iload_n (n := 21) (i := 3) d_Us_left_20 rfl rfl rfl ?_
      refine Rn.iconst (n := 22) (v := 0) d_Us_left_21 rfl (by decide) ?_
      refine Rn.bipush (n := 24) (v := 10) d_Us_left_22 rfl (by decide) ?_
      obtain ⟨Q'14, ev11, k⟩ := k
      refine Rn.callS (n := 27) (av := [vI a3, vI 0, vI 10]) d_Us_left_24 rfl ml_Us_left_61 ms_Us_isNotIn rfl rfl (Nat.le_of_ble_eq_true rfl) ev11 (fun v h13 hq => ?_)
      obtain ⟨r15, rfl, hq⟩ := hq
      have k := k r15 h13 hq
      show Rn X m_Us_left 27 [some (vR [0]), some (vI a1), some (vI a2), some (vI a3), some (vI a4), some (vI a5), none, none, none, none, none, none] [vI r15] h13 Q
      refine Rn.if_eq (n := 30) (t := 34) d_Us_left_27 rfl (by decide) (fun cc => ?_) (fun cc => ?_)
      · have k := k.1 cc
        refine Rn.iload (n := 36) (i := 4) d_Us_left_34 rfl rfl ?_
        refine Rn.iconst (n := 37) (v := 0) d_Us_left_36 rfl (by decide) ?_
        refine Rn.iload_n (n := 38) (i := 1) d_Us_left_37 rfl rfl rfl ?_
        obtain ⟨Q'19, ev16, k⟩ := k
        refine Rn.callS (n := 41) (av := [vI a4, vI 0, vI a1]) d_Us_left_38 rfl ml_Us_left_61 ms_Us_isNotIn rfl rfl (Nat.le_of_ble_eq_true rfl) ev16 (fun v h18 hq => ?_)
        obtain ⟨r20, rfl, hq⟩ := hq
        have k := k r20 h18 hq
        show Rn X m_Us_left 41 [some (vR [0]), some (vI a1), some (vI a2), some (vI a3), some (vI a4), some (vI a5), none, none, none, none, none, none] [vI r20] h18 Q
        refine Rn.if_ne (n := 44) (t := 54) d_Us_left_41 rfl (by decide) (fun cc => ?_) (fun cc => ?_)
        · have k := k.1 cc
          refine Rn.ldc2 (n := 57) (v := (-3)) d_Us_left_54 rfl cl_Us_244 ?_
          exact Rn.lret d_Us_left_57 rfl k
        · have k := k.2 cc
          refine Rn.iload (n := 46) (i := 5) d_Us_left_44 rfl rfl ?_
          refine Rn.iconst (n := 47) (v := 0) d_Us_left_46 rfl (by decide) ?_
          refine Rn.iconst (n := 48) (v := 1) d_Us_left_47 rfl (by decide) ?_
          obtain ⟨Q'24, ev21, k⟩ := k
          refine Rn.callS (n := 51) (av := [vI a5, vI 0, vI 1]) d_Us_left_48 rfl ml_Us_left_61 ms_Us_isNotIn rfl rfl (Nat.le_of_ble_eq_true rfl) ev21 (fun v h23 hq => ?_)
          obtain ⟨r25, rfl, hq⟩ := hq
          have k := k r25 h23 hq
          show Rn X m_Us_left 51 [some (vR [0]), some (vI a1), some (vI a2), some (vI a3), some (vI a4), some (vI a5), none, none, none, none, none, none] [vI r25] h23 Q
          refine Rn.if_eq (n := 54) (t := 58) d_Us_left_51 rfl (by decide) (fun cc => ?_) (fun cc => ?_)
          · have k := k.1 cc
            refine Rn.iload_n (n := 59) (i := 2) d_Us_left_58 rfl rfl rfl ?_
            refine Rn.bipush (n := 61) (v := 10) d_Us_left_59 rfl (by decide) ?_
            refine Rn.iload_n (n := 62) (i := 3) d_Us_left_61 rfl rfl rfl ?_
            refine Rn.isub (n := 63) d_Us_left_62 rfl ?_
            refine Rn.imul (n := 64) d_Us_left_63 rfl ?_
            refine Rn.istore (n := 66) (i := 6) (ls2 := [some (vR [0]), some (vI a1), some (vI a2), some (vI a3), some (vI a4), some (vI a5), some (vI (a2 * (10 - a3))), none, none, none, none, none]) d_Us_left_64 rfl (Nat.le_of_ble_eq_true rfl) rfl ?_
            refine Rn.lconst (n := 67) (v := 0) d_Us_left_66 rfl rfl ?_
            refine Rn.lstore (n := 69) (i := 7) (ls2 := [some (vR [0]), some (vI a1), some (vI a2), some (vI a3), some (vI a4), some (vI a5), some (vI (a2 * (10 - a3))), some (vL 0), none, none, none, none]) d_Us_left_67 rfl (Nat.le_of_ble_eq_true rfl) rfl ?_
            refine Rn.lconst (n := 70) (v := 1) d_Us_left_69 rfl rfl ?_
            refine Rn.lstore (n := 72) (i := 9) (ls2 := [some (vR [0]), some (vI a1), some (vI a2), some (vI a3), some (vI a4), some (vI a5), some (vI (a2 * (10 - a3))), some (vL 0), none, some (vL 1), none, none]) d_Us_left_70 rfl (Nat.le_of_ble_eq_true rfl) rfl ?_
            refine Rn.iconst (n := 73) (v := 0) d_Us_left_72 rfl (by decide) ?_
            refine Rn.istore (n := 75) (i := 11) (ls2 := [some (vR [0]), some (vI a1), some (vI a2), some (vI a3), some (vI a4), some (vI a5), some (vI (a2 * (10 - a3))), some (vL 0), none, some (vL 1), none, some (vI 0)]) d_Us_left_73 rfl (Nat.le_of_ble_eq_true rfl) rfl ?_
            exact k
          · have k := k.2 cc
            refine Rn.ldc2 (n := 57) (v := (-3)) d_Us_left_54 rfl cl_Us_244 ?_
            exact Rn.lret d_Us_left_57 rfl k
      · have k := k.2 cc
        refine Rn.ldc2 (n := 33) (v := (-3)) d_Us_left_30 rfl cl_Us_244 ?_
        exact Rn.lret d_Us_left_33 rfl k
theorem g_Us_left_75 {X : XS} (a1 : Int32) (a2 : Int32) (a3 : Int32) (a4 : Int32) (a5 : Int32) (a6 : Int32) (a7 : Int64) (a9 : Int64) (a11 : Int32) (h : Hp) (Q : Option AV → Hp → Prop)  (k : ((a1 < a11 → (∃ Q'4, EvL X m_Us_power [vL 100, vI a1] h Q'4 ∧ ∀ (r5 : Int64) (h3 : Hp), Q'4 r5 h3 → (∃ Q'9, EvL X m_Us_lowest [vL a7, vL r5, vI a5] h3 Q'9 ∧ ∀ (r10 : Int64) (h8 : Hp), Q'9 r10 h8 → Q (some (vL r10)) h8))) ∧ (¬ a1 < a11 → ((a11 < a4 → (¬ ((a11 + 1).toInt64) = 0 ∧ Rn X m_Us_left 75 [some (vR [0]), some (vI a1), some (vI a2), some (vI a3), some (vI a4), some (vI a5), some (vI a6), some (vL a7), none, some (vL ((a9 * ((a1 - a11).toInt64)) / ((a11 + 1).toInt64))), none, some (vI (a11 + 1))] [] h Q)) ∧ (¬ a11 < a4 → (∃ Q'15, EvL X m_Us_power [vL a6.toInt64, vI a11] h Q'15 ∧ ∀ (r16 : Int64) (h14 : Hp), Q'15 r16 h14 → (∃ Q'20, EvL X m_Us_power [vL ((100 - a6).toInt64), vI (a1 - a11)] h14 Q'20 ∧ ∀ (r21 : Int64) (h19 : Hp), Q'20 r21 h19 → (¬ ((a11 + 1).toInt64) = 0 ∧ Rn X m_Us_left 75 [some (vR [0]), some (vI a1), some (vI a2), some (vI a3), some (vI a4), some (vI a5), some (vI a6), some (vL (a7 + ((a9 * r16) * r21))), none, some (vL ((a9 * ((a1 - a11).toInt64)) / ((a11 + 1).toInt64))), none, some (vI (a11 + 1))] [] h19 Q)))))))) : Rn X m_Us_left 75 [some (vR [0]), some (vI a1), some (vI a2), some (vI a3), some (vI a4), some (vI a5), some (vI a6), some (vL a7), none, some (vL a9), none, some (vI a11)] [] h Q := by
  refine Rn.iload (n := 77) (i := 11) d_Us_left_75 rfl rfl ?_
  refine Rn.iload_n (n := 78) (i := 1) d_Us_left_77 rfl rfl rfl ?_
  refine Rn.icmp_gt (n := 81) (t := 140) d_Us_left_78 rfl (by decide) (fun cc => ?_) (fun cc => ?_)
  · have k := k.1 cc
    refine Rn.lload (n := 142) (i := 7) d_Us_left_140 rfl rfl ?_
    refine Rn.ldc2 (n := 145) (v := 100) d_Us_left_142 rfl cl_Us_252 ?_
    refine Rn.iload_n (n := 146) (i := 1) d_Us_left_145 rfl rfl rfl ?_
    obtain ⟨Q'4, ev1, k⟩ := k
    refine Rn.callS (n := 149) (av := [vL 100, vI a1]) d_Us_left_146 rfl ml_Us_left_248 ms_Us_power rfl rfl (Nat.le_of_ble_eq_true rfl) ev1 (fun v h3 hq => ?_)
    obtain ⟨r5, rfl, hq⟩ := hq
    have k := k r5 h3 hq
    show Rn X m_Us_left 149 [some (vR [0]), some (vI a1), some (vI a2), some (vI a3), some (vI a4), some (vI a5), some (vI a6), some (vL a7), none, some (vL a9), none, some (vI a11)] [vL r5, vL a7] h3 Q
    refine Rn.iload (n := 151) (i := 5) d_Us_left_149 rfl rfl ?_
    obtain ⟨Q'9, ev6, k⟩ := k
    refine Rn.callS (n := 154) (av := [vL a7, vL r5, vI a5]) d_Us_left_151 rfl ml_Us_left_237 ms_Us_lowest rfl rfl (Nat.le_of_ble_eq_true rfl) ev6 (fun v h8 hq => ?_)
    obtain ⟨r10, rfl, hq⟩ := hq
    have k := k r10 h8 hq
    show Rn X m_Us_left 154 [some (vR [0]), some (vI a1), some (vI a2), some (vI a3), some (vI a4), some (vI a5), some (vI a6), some (vL a7), none, some (vL a9), none, some (vI a11)] [vL r10] h8 Q
    exact Rn.lret d_Us_left_154 rfl k
  · have k := k.2 cc
    refine Rn.iload (n := 83) (i := 11) d_Us_left_81 rfl rfl ?_
    refine Rn.iload (n := 85) (i := 4) d_Us_left_83 rfl rfl ?_
    refine Rn.icmp_lt (n := 88) (t := 118) d_Us_left_85 rfl (by decide) (fun cc => ?_) (fun cc => ?_)
    · have k := k.1 cc
      refine Rn.lload (n := 120) (i := 9) d_Us_left_118 rfl rfl ?_
      refine Rn.iload_n (n := 121) (i := 1) d_Us_left_120 rfl rfl rfl ?_
      refine Rn.iload (n := 123) (i := 11) d_Us_left_121 rfl rfl ?_
      refine Rn.isub (n := 124) d_Us_left_123 rfl ?_
      refine Rn.i2l (n := 125) d_Us_left_124 rfl ?_
      refine Rn.lmul (n := 126) d_Us_left_125 rfl ?_
      refine Rn.iload (n := 128) (i := 11) d_Us_left_126 rfl rfl ?_
      refine Rn.iconst (n := 129) (v := 1) d_Us_left_128 rfl (by decide) ?_
      refine Rn.iadd (n := 130) d_Us_left_129 rfl ?_
      refine Rn.i2l (n := 131) d_Us_left_130 rfl ?_
      obtain ⟨z11, k⟩ := k
      refine Rn.ldiv (n := 132) d_Us_left_131 rfl z11 ?_
      refine Rn.lstore (n := 134) (i := 9) (ls2 := [some (vR [0]), some (vI a1), some (vI a2), some (vI a3), some (vI a4), some (vI a5), some (vI a6), some (vL a7), none, some (vL ((a9 * ((a1 - a11).toInt64)) / ((a11 + 1).toInt64))), none, some (vI a11)]) d_Us_left_132 rfl (Nat.le_of_ble_eq_true rfl) rfl ?_
      refine Rn.iinc (n := 137) (i := 11) (v := a11 + 1) (ls2 := [some (vR [0]), some (vI a1), some (vI a2), some (vI a3), some (vI a4), some (vI a5), some (vI a6), some (vL a7), none, some (vL ((a9 * ((a1 - a11).toInt64)) / ((a11 + 1).toInt64))), none, some (vI (a11 + 1))]) d_Us_left_134 rfl rfl rfl (Nat.le_of_ble_eq_true rfl) rfl ?_
      refine Rn.goto (n := 75) d_Us_left_137 (by decide) ?_
      exact k
    · have k := k.2 cc
      refine Rn.lload (n := 90) (i := 7) d_Us_left_88 rfl rfl ?_
      refine Rn.lload (n := 92) (i := 9) d_Us_left_90 rfl rfl ?_
      refine Rn.iload (n := 94) (i := 6) d_Us_left_92 rfl rfl ?_
      refine Rn.i2l (n := 95) d_Us_left_94 rfl ?_
      refine Rn.iload (n := 97) (i := 11) d_Us_left_95 rfl rfl ?_
      obtain ⟨Q'15, ev12, k⟩ := k
      refine Rn.callS (n := 100) (av := [vL a6.toInt64, vI a11]) d_Us_left_97 rfl ml_Us_left_248 ms_Us_power rfl rfl (Nat.le_of_ble_eq_true rfl) ev12 (fun v h14 hq => ?_)
      obtain ⟨r16, rfl, hq⟩ := hq
      have k := k r16 h14 hq
      show Rn X m_Us_left 100 [some (vR [0]), some (vI a1), some (vI a2), some (vI a3), some (vI a4), some (vI a5), some (vI a6), some (vL a7), none, some (vL a9), none, some (vI a11)] [vL r16, vL a9, vL a7] h14 Q
      refine Rn.lmul (n := 101) d_Us_left_100 rfl ?_
      refine Rn.bipush (n := 103) (v := 100) d_Us_left_101 rfl (by decide) ?_
      refine Rn.iload (n := 105) (i := 6) d_Us_left_103 rfl rfl ?_
      refine Rn.isub (n := 106) d_Us_left_105 rfl ?_
      refine Rn.i2l (n := 107) d_Us_left_106 rfl ?_
      refine Rn.iload_n (n := 108) (i := 1) d_Us_left_107 rfl rfl rfl ?_
      refine Rn.iload (n := 110) (i := 11) d_Us_left_108 rfl rfl ?_
      refine Rn.isub (n := 111) d_Us_left_110 rfl ?_
      obtain ⟨Q'20, ev17, k⟩ := k
      refine Rn.callS (n := 114) (av := [vL ((100 - a6).toInt64), vI (a1 - a11)]) d_Us_left_111 rfl ml_Us_left_248 ms_Us_power rfl rfl (Nat.le_of_ble_eq_true rfl) ev17 (fun v h19 hq => ?_)
      obtain ⟨r21, rfl, hq⟩ := hq
      have k := k r21 h19 hq
      show Rn X m_Us_left 114 [some (vR [0]), some (vI a1), some (vI a2), some (vI a3), some (vI a4), some (vI a5), some (vI a6), some (vL a7), none, some (vL a9), none, some (vI a11)] [vL r21, vL (a9 * r16), vL a7] h19 Q
      refine Rn.lmul (n := 115) d_Us_left_114 rfl ?_
      refine Rn.ladd (n := 116) d_Us_left_115 rfl ?_
      refine Rn.lstore (n := 118) (i := 7) (ls2 := [some (vR [0]), some (vI a1), some (vI a2), some (vI a3), some (vI a4), some (vI a5), some (vI a6), some (vL (a7 + ((a9 * r16) * r21))), none, some (vL a9), none, some (vI a11)]) d_Us_left_116 rfl (Nat.le_of_ble_eq_true rfl) rfl ?_
      refine Rn.lload (n := 120) (i := 9) d_Us_left_118 rfl rfl ?_
      refine Rn.iload_n (n := 121) (i := 1) d_Us_left_120 rfl rfl rfl ?_
      refine Rn.iload (n := 123) (i := 11) d_Us_left_121 rfl rfl ?_
      refine Rn.isub (n := 124) d_Us_left_123 rfl ?_
      refine Rn.i2l (n := 125) d_Us_left_124 rfl ?_
      refine Rn.lmul (n := 126) d_Us_left_125 rfl ?_
      refine Rn.iload (n := 128) (i := 11) d_Us_left_126 rfl rfl ?_
      refine Rn.iconst (n := 129) (v := 1) d_Us_left_128 rfl (by decide) ?_
      refine Rn.iadd (n := 130) d_Us_left_129 rfl ?_
      refine Rn.i2l (n := 131) d_Us_left_130 rfl ?_
      obtain ⟨z22, k⟩ := k
      refine Rn.ldiv (n := 132) d_Us_left_131 rfl z22 ?_
      refine Rn.lstore (n := 134) (i := 9) (ls2 := [some (vR [0]), some (vI a1), some (vI a2), some (vI a3), some (vI a4), some (vI a5), some (vI a6), some (vL (a7 + ((a9 * r16) * r21))), none, some (vL ((a9 * ((a1 - a11).toInt64)) / ((a11 + 1).toInt64))), none, some (vI a11)]) d_Us_left_132 rfl (Nat.le_of_ble_eq_true rfl) rfl ?_
      refine Rn.iinc (n := 137) (i := 11) (v := a11 + 1) (ls2 := [some (vR [0]), some (vI a1), some (vI a2), some (vI a3), some (vI a4), some (vI a5), some (vI a6), some (vL (a7 + ((a9 * r16) * r21))), none, some (vL ((a9 * ((a1 - a11).toInt64)) / ((a11 + 1).toInt64))), none, some (vI (a11 + 1))]) d_Us_left_134 rfl rfl rfl (Nat.le_of_ble_eq_true rfl) rfl ?_
      refine Rn.goto (n := 75) d_Us_left_137 (by decide) ?_
      exact k
theorem e_Us_left {X : XS} (a1 : Int32) (a2 : Int32) (a3 : Int32) (a4 : Int32) (a5 : Int32) (h : Hp) (Q : Option AV → Hp → Prop) (k : Rn X m_Us_left 0 [some (vR [0]), some (vI a1), some (vI a2), some (vI a3), some (vI a4), some (vI a5), none, none, none, none, none, none] [] h Q) : Ev X m_Us_left [vR [0], vI a1, vI a2, vI a3, vI a4, vI a5] h Q := Ev.intro (plainFor_of_name (by decide +kernel)) (Nat.le_of_ble_eq_true rfl) (ls := [some (vR [0]), some (vI a1), some (vI a2), some (vI a3), some (vI a4), some (vI a5), none, none, none, none, none, none]) rfl k
theorem d_Us_power_0 : decode m_Us_power.2.1 0 = .ok (.lconst 1, 1) := by decide +kernel
theorem d_Us_power_1 : decode m_Us_power.2.1 1 = .ok (.lstore_n 3, 1) := by decide +kernel
theorem d_Us_power_2 : decode m_Us_power.2.1 2 = .ok (.iconst 0, 1) := by decide +kernel
theorem d_Us_power_3 : decode m_Us_power.2.1 3 = .ok (.istore 5, 2) := by decide +kernel
theorem d_Us_power_5 : decode m_Us_power.2.1 5 = .ok (.iload 5, 2) := by decide +kernel
theorem d_Us_power_7 : decode m_Us_power.2.1 7 = .ok (.iload_n 2, 1) := by decide +kernel
theorem d_Us_power_8 : decode m_Us_power.2.1 8 = .ok (.if_icmp .ge 13, 3) := by decide +kernel
theorem d_Us_power_11 : decode m_Us_power.2.1 11 = .ok (.lload_n 3, 1) := by decide +kernel
theorem d_Us_power_12 : decode m_Us_power.2.1 12 = .ok (.lload_n 0, 1) := by decide +kernel
theorem d_Us_power_13 : decode m_Us_power.2.1 13 = .ok (.lmul, 1) := by decide +kernel
theorem d_Us_power_14 : decode m_Us_power.2.1 14 = .ok (.lstore_n 3, 1) := by decide +kernel
theorem d_Us_power_15 : decode m_Us_power.2.1 15 = .ok (.iinc 5 1, 3) := by decide +kernel
theorem d_Us_power_18 : decode m_Us_power.2.1 18 = .ok (.goto (-13), 3) := by decide +kernel
theorem d_Us_power_21 : decode m_Us_power.2.1 21 = .ok (.lload_n 3, 1) := by decide +kernel
theorem d_Us_power_22 : decode m_Us_power.2.1 22 = .ok (.lreturn, 1) := by decide +kernel
theorem g_Us_power_0 {X : XS} (a0 : Int64) (a2 : Int32) (h : Hp) (Q : Option AV → Hp → Prop)  (k : Rn X m_Us_power 5 [some (vL a0), none, some (vI a2), some (vL 1), none, some (vI 0)] [] h Q) : Rn X m_Us_power 0 [some (vL a0), none, some (vI a2), none, none, none] [] h Q := by
  refine Rn.lconst (n := 1) (v := 1) d_Us_power_0 rfl rfl ?_
  refine Rn.lstore_n (n := 2) (i := 3) (ls2 := [some (vL a0), none, some (vI a2), some (vL 1), none, none]) d_Us_power_1 rfl rfl (Nat.le_of_ble_eq_true rfl) rfl ?_
  refine Rn.iconst (n := 3) (v := 0) d_Us_power_2 rfl (by decide) ?_
  refine Rn.istore (n := 5) (i := 5) (ls2 := [some (vL a0), none, some (vI a2), some (vL 1), none, some (vI 0)]) d_Us_power_3 rfl (Nat.le_of_ble_eq_true rfl) rfl ?_
  exact k
theorem g_Us_power_5 {X : XS} (a0 : Int64) (a2 : Int32) (a3 : Int64) (a5 : Int32) (h : Hp) (Q : Option AV → Hp → Prop)  (k : ((a2 ≤ a5 → Q (some (vL a3)) h) ∧ (¬ a2 ≤ a5 → Rn X m_Us_power 5 [some (vL a0), none, some (vI a2), some (vL (a3 * a0)), none, some (vI (a5 + 1))] [] h Q))) : Rn X m_Us_power 5 [some (vL a0), none, some (vI a2), some (vL a3), none, some (vI a5)] [] h Q := by
  refine Rn.iload (n := 7) (i := 5) d_Us_power_5 rfl rfl ?_
  refine Rn.iload_n (n := 8) (i := 2) d_Us_power_7 rfl rfl rfl ?_
  refine Rn.icmp_ge (n := 11) (t := 21) d_Us_power_8 rfl (by decide) (fun cc => ?_) (fun cc => ?_)
  · have k := k.1 cc
    refine Rn.lload_n (n := 22) (i := 3) d_Us_power_21 rfl rfl rfl ?_
    exact Rn.lret d_Us_power_22 rfl k
  · have k := k.2 cc
    refine Rn.lload_n (n := 12) (i := 3) d_Us_power_11 rfl rfl rfl ?_
    refine Rn.lload_n (n := 13) (i := 0) d_Us_power_12 rfl rfl rfl ?_
    refine Rn.lmul (n := 14) d_Us_power_13 rfl ?_
    refine Rn.lstore_n (n := 15) (i := 3) (ls2 := [some (vL a0), none, some (vI a2), some (vL (a3 * a0)), none, some (vI a5)]) d_Us_power_14 rfl rfl (Nat.le_of_ble_eq_true rfl) rfl ?_
    refine Rn.iinc (n := 18) (i := 5) (v := a5 + 1) (ls2 := [some (vL a0), none, some (vI a2), some (vL (a3 * a0)), none, some (vI (a5 + 1))]) d_Us_power_15 rfl rfl rfl (Nat.le_of_ble_eq_true rfl) rfl ?_
    refine Rn.goto (n := 5) d_Us_power_18 (by decide) ?_
    exact k
theorem e_Us_power {X : XS} (a0 : Int64) (a2 : Int32) (h : Hp) (Q : Option AV → Hp → Prop) (k : Rn X m_Us_power 0 [some (vL a0), none, some (vI a2), none, none, none] [] h Q) : Ev X m_Us_power [vL a0, vI a2] h Q := Ev.intro (plainFor_of_name (by decide +kernel)) (Nat.le_of_ble_eq_true rfl) (ls := [some (vL a0), none, some (vI a2), none, none, none]) rfl k
theorem d_Us_seller_0 : decode m_Us_seller.2.1 0 = .ok (.iload_n 1, 1) := by decide +kernel
theorem d_Us_seller_1 : decode m_Us_seller.2.1 1 = .ok (.ifCond .lt 14, 3) := by decide +kernel
theorem d_Us_seller_4 : decode m_Us_seller.2.1 4 = .ok (.iload_n 1, 1) := by decide +kernel
theorem d_Us_seller_5 : decode m_Us_seller.2.1 5 = .ok (.aload_n 0, 1) := by decide +kernel
theorem d_Us_seller_6 : decode m_Us_seller.2.1 6 = .ok (.getfield 12, 3) := by decide +kernel
theorem d_Us_seller_9 : decode m_Us_seller.2.1 9 = .ok (.getfield 254, 3) := by decide +kernel
theorem d_Us_seller_12 : decode m_Us_seller.2.1 12 = .ok (.if_icmp .lt 6, 3) := by decide +kernel
theorem d_Us_seller_15 : decode m_Us_seller.2.1 15 = .ok (.bipush (-2), 2) := by decide +kernel
theorem d_Us_seller_17 : decode m_Us_seller.2.1 17 = .ok (.ireturn, 1) := by decide +kernel
theorem d_Us_seller_18 : decode m_Us_seller.2.1 18 = .ok (.iload_n 2, 1) := by decide +kernel
theorem d_Us_seller_19 : decode m_Us_seller.2.1 19 = .ok (.iconst 1, 1) := by decide +kernel
theorem d_Us_seller_20 : decode m_Us_seller.2.1 20 = .ok (.bipush 99, 2) := by decide +kernel
theorem d_Us_seller_22 : decode m_Us_seller.2.1 22 = .ok (.invokestatic 61, 3) := by decide +kernel
theorem d_Us_seller_25 : decode m_Us_seller.2.1 25 = .ok (.ifCond .eq 6, 3) := by decide +kernel
theorem d_Us_seller_28 : decode m_Us_seller.2.1 28 = .ok (.bipush (-3), 2) := by decide +kernel
theorem d_Us_seller_30 : decode m_Us_seller.2.1 30 = .ok (.ireturn, 1) := by decide +kernel
theorem d_Us_seller_31 : decode m_Us_seller.2.1 31 = .ok (.aload_n 0, 1) := by decide +kernel
theorem d_Us_seller_32 : decode m_Us_seller.2.1 32 = .ok (.getfield 57, 3) := by decide +kernel
theorem d_Us_seller_35 : decode m_Us_seller.2.1 35 = .ok (.aload_n 0, 1) := by decide +kernel
theorem d_Us_seller_36 : decode m_Us_seller.2.1 36 = .ok (.getfield 12, 3) := by decide +kernel
theorem d_Us_seller_39 : decode m_Us_seller.2.1 39 = .ok (.aload_n 0, 1) := by decide +kernel
theorem d_Us_seller_40 : decode m_Us_seller.2.1 40 = .ok (.getfield 33, 3) := by decide +kernel
theorem d_Us_seller_43 : decode m_Us_seller.2.1 43 = .ok (.invokevirtual 257, 3) := by decide +kernel
theorem d_Us_seller_46 : decode m_Us_seller.2.1 46 = .ok (.aload_n 0, 1) := by decide +kernel
theorem d_Us_seller_47 : decode m_Us_seller.2.1 47 = .ok (.getfield 57, 3) := by decide +kernel
theorem d_Us_seller_50 : decode m_Us_seller.2.1 50 = .ok (.iload_n 1, 1) := by decide +kernel
theorem d_Us_seller_51 : decode m_Us_seller.2.1 51 = .ok (.iload_n 2, 1) := by decide +kernel
theorem d_Us_seller_52 : decode m_Us_seller.2.1 52 = .ok (.invokevirtual 261, 3) := by decide +kernel
theorem d_Us_seller_55 : decode m_Us_seller.2.1 55 = .ok (.ireturn, 1) := by decide +kernel
theorem g_Us_seller_0 {X : XS} (a1 : Int32) (a2 : Int32) (h : Hp) (Q : Option AV → Hp → Prop)  (k : ((a1 < 0 → Q (some (vI (-2))) h) ∧ (¬ a1 < 0 → ((a1 < (h.1 [0, 0] 1) → (∃ Q'4, EvI X m_Us_isNotIn [vI a2, vI 1, vI 99] h Q'4 ∧ ∀ (r5 : Int32) (h3 : Hp), Q'4 r5 h3 → ((r5 = 0 → (∃ Q'9, EvV X m_Mk_watch [vR [8, 0], vR [0, 0], vR [4, 0]] h3 Q'9 ∧ ∀ (h8 : Hp), Q'9 h8 → (∃ Q'13, EvI X m_Mk_income [vR [8, 0], vI a1, vI a2] h8 Q'13 ∧ ∀ (r14 : Int32) (h12 : Hp), Q'13 r14 h12 → Q (some (vI r14)) h12))) ∧ (¬ r5 = 0 → Q (some (vI (-3))) h3)))) ∧ (¬ a1 < (h.1 [0, 0] 1) → Q (some (vI (-2))) h))))) : Rn X m_Us_seller 0 [some (vR [0]), some (vI a1), some (vI a2)] [] h Q := by
  refine Rn.iload_n (n := 1) (i := 1) d_Us_seller_0 rfl rfl rfl ?_
  refine Rn.if_lt (n := 4) (t := 15) d_Us_seller_1 rfl (by decide) (fun cc => ?_) (fun cc => ?_)
  · have k := k.1 cc
    refine Rn.bipush (n := 17) (v := (-2)) d_Us_seller_15 rfl (by decide) ?_
    exact Rn.iret d_Us_seller_17 rfl rfl k
  · have k := k.2 cc
    refine Rn.iload_n (n := 5) (i := 1) d_Us_seller_4 rfl rfl rfl ?_
    refine Rn.aload_n (n := 6) (i := 0) d_Us_seller_5 rfl rfl rfl ?_
    refine Rn.getf (n := 9) (v := vR [0, 0]) d_Us_seller_6 rfl fl_Us_12 Lv_0 rfl ?_
    refine Rn.getf (n := 12) (v := vI (h.1 [0, 0] 1)) d_Us_seller_9 rfl fl_Us_254 Lv_0_0 rfl ?_
    refine Rn.icmp_lt (n := 15) (t := 18) d_Us_seller_12 rfl (by decide) (fun cc => ?_) (fun cc => ?_)
    · have k := k.1 cc
      refine Rn.iload_n (n := 19) (i := 2) d_Us_seller_18 rfl rfl rfl ?_
      refine Rn.iconst (n := 20) (v := 1) d_Us_seller_19 rfl (by decide) ?_
      refine Rn.bipush (n := 22) (v := 99) d_Us_seller_20 rfl (by decide) ?_
      obtain ⟨Q'4, ev1, k⟩ := k
      refine Rn.callS (n := 25) (av := [vI a2, vI 1, vI 99]) d_Us_seller_22 rfl ml_Us_seller_61 ms_Us_isNotIn rfl rfl (Nat.le_of_ble_eq_true rfl) ev1 (fun v h3 hq => ?_)
      obtain ⟨r5, rfl, hq⟩ := hq
      have k := k r5 h3 hq
      show Rn X m_Us_seller 25 [some (vR [0]), some (vI a1), some (vI a2)] [vI r5] h3 Q
      refine Rn.if_eq (n := 28) (t := 31) d_Us_seller_25 rfl (by decide) (fun cc => ?_) (fun cc => ?_)
      · have k := k.1 cc
        refine Rn.aload_n (n := 32) (i := 0) d_Us_seller_31 rfl rfl rfl ?_
        refine Rn.getf (n := 35) (v := vR [8, 0]) d_Us_seller_32 rfl fl_Us_57 Lv_0 rfl ?_
        refine Rn.aload_n (n := 36) (i := 0) d_Us_seller_35 rfl rfl rfl ?_
        refine Rn.getf (n := 39) (v := vR [0, 0]) d_Us_seller_36 rfl fl_Us_12 Lv_0 rfl ?_
        refine Rn.aload_n (n := 40) (i := 0) d_Us_seller_39 rfl rfl rfl ?_
        refine Rn.getf (n := 43) (v := vR [4, 0]) d_Us_seller_40 rfl fl_Us_33 Lv_0 rfl ?_
        obtain ⟨Q'9, ev6, k⟩ := k
        refine Rn.callV (n := 46) (av := [vR [0, 0], vR [4, 0]]) d_Us_seller_43 rfl ml_Us_seller_257 mi_Mk_watch Lv_8_0 rfl rfl rfl rfl (Nat.le_of_ble_eq_true rfl) ev6 (fun v h8 hq => ?_)
        obtain ⟨rfl, hq⟩ := hq
        have k := k h8 hq
        show Rn X m_Us_seller 46 [some (vR [0]), some (vI a1), some (vI a2)] [] h8 Q
        refine Rn.aload_n (n := 47) (i := 0) d_Us_seller_46 rfl rfl rfl ?_
        refine Rn.getf (n := 50) (v := vR [8, 0]) d_Us_seller_47 rfl fl_Us_57 Lv_0 rfl ?_
        refine Rn.iload_n (n := 51) (i := 1) d_Us_seller_50 rfl rfl rfl ?_
        refine Rn.iload_n (n := 52) (i := 2) d_Us_seller_51 rfl rfl rfl ?_
        obtain ⟨Q'13, ev10, k⟩ := k
        refine Rn.callV (n := 55) (av := [vI a1, vI a2]) d_Us_seller_52 rfl ml_Us_seller_261 mi_Mk_income Lv_8_0 rfl rfl rfl rfl (Nat.le_of_ble_eq_true rfl) ev10 (fun v h12 hq => ?_)
        obtain ⟨r14, rfl, hq⟩ := hq
        have k := k r14 h12 hq
        show Rn X m_Us_seller 55 [some (vR [0]), some (vI a1), some (vI a2)] [vI r14] h12 Q
        exact Rn.iret d_Us_seller_55 rfl rfl k
      · have k := k.2 cc
        refine Rn.bipush (n := 30) (v := (-3)) d_Us_seller_28 rfl (by decide) ?_
        exact Rn.iret d_Us_seller_30 rfl rfl k
    · have k := k.2 cc
      refine Rn.bipush (n := 17) (v := (-2)) d_Us_seller_15 rfl (by decide) ?_
      exact Rn.iret d_Us_seller_17 rfl rfl k
theorem e_Us_seller {X : XS} (a1 : Int32) (a2 : Int32) (h : Hp) (Q : Option AV → Hp → Prop) (k : Rn X m_Us_seller 0 [some (vR [0]), some (vI a1), some (vI a2)] [] h Q) : Ev X m_Us_seller [vR [0], vI a1, vI a2] h Q := Ev.intro (plainFor_of_name (by decide +kernel)) (Nat.le_of_ble_eq_true rfl) (ls := [some (vR [0]), some (vI a1), some (vI a2)]) rfl k
theorem d_Us_where_0 : decode m_Us_where.2.1 0 = .ok (.iload_n 1, 1) := by decide +kernel
theorem d_Us_where_1 : decode m_Us_where.2.1 1 = .ok (.iconst 0, 1) := by decide +kernel
theorem d_Us_where_2 : decode m_Us_where.2.1 2 = .ok (.iconst 2, 1) := by decide +kernel
theorem d_Us_where_3 : decode m_Us_where.2.1 3 = .ok (.invokestatic 61, 3) := by decide +kernel
theorem d_Us_where_6 : decode m_Us_where.2.1 6 = .ok (.ifCond .eq 6, 3) := by decide +kernel
theorem d_Us_where_9 : decode m_Us_where.2.1 9 = .ok (.bipush (-3), 2) := by decide +kernel
theorem d_Us_where_11 : decode m_Us_where.2.1 11 = .ok (.ireturn, 1) := by decide +kernel
theorem d_Us_where_12 : decode m_Us_where.2.1 12 = .ok (.aload_n 0, 1) := by decide +kernel
theorem d_Us_where_13 : decode m_Us_where.2.1 13 = .ok (.getfield 57, 3) := by decide +kernel
theorem d_Us_where_16 : decode m_Us_where.2.1 16 = .ok (.aload_n 0, 1) := by decide +kernel
theorem d_Us_where_17 : decode m_Us_where.2.1 17 = .ok (.getfield 12, 3) := by decide +kernel
theorem d_Us_where_20 : decode m_Us_where.2.1 20 = .ok (.aload_n 0, 1) := by decide +kernel
theorem d_Us_where_21 : decode m_Us_where.2.1 21 = .ok (.getfield 33, 3) := by decide +kernel
theorem d_Us_where_24 : decode m_Us_where.2.1 24 = .ok (.invokevirtual 257, 3) := by decide +kernel
theorem d_Us_where_27 : decode m_Us_where.2.1 27 = .ok (.aload_n 0, 1) := by decide +kernel
theorem d_Us_where_28 : decode m_Us_where.2.1 28 = .ok (.getfield 57, 3) := by decide +kernel
theorem d_Us_where_31 : decode m_Us_where.2.1 31 = .ok (.aload_n 0, 1) := by decide +kernel
theorem d_Us_where_32 : decode m_Us_where.2.1 32 = .ok (.getfield 12, 3) := by decide +kernel
theorem d_Us_where_35 : decode m_Us_where.2.1 35 = .ok (.getfield 254, 3) := by decide +kernel
theorem d_Us_where_38 : decode m_Us_where.2.1 38 = .ok (.invokevirtual 264, 3) := by decide +kernel
theorem d_Us_where_41 : decode m_Us_where.2.1 41 = .ok (.iload_n 1, 1) := by decide +kernel
theorem d_Us_where_42 : decode m_Us_where.2.1 42 = .ok (.ifCond .ne 11, 3) := by decide +kernel
theorem d_Us_where_45 : decode m_Us_where.2.1 45 = .ok (.aload_n 0, 1) := by decide +kernel
theorem d_Us_where_46 : decode m_Us_where.2.1 46 = .ok (.getfield 57, 3) := by decide +kernel
theorem d_Us_where_49 : decode m_Us_where.2.1 49 = .ok (.getfield 268, 3) := by decide +kernel
theorem d_Us_where_52 : decode m_Us_where.2.1 52 = .ok (.ireturn, 1) := by decide +kernel
theorem d_Us_where_53 : decode m_Us_where.2.1 53 = .ok (.iload_n 1, 1) := by decide +kernel
theorem d_Us_where_54 : decode m_Us_where.2.1 54 = .ok (.iconst 1, 1) := by decide +kernel
theorem d_Us_where_55 : decode m_Us_where.2.1 55 = .ok (.if_icmp .ne 13, 3) := by decide +kernel
theorem d_Us_where_58 : decode m_Us_where.2.1 58 = .ok (.aload_n 0, 1) := by decide +kernel
theorem d_Us_where_59 : decode m_Us_where.2.1 59 = .ok (.getfield 57, 3) := by decide +kernel
theorem d_Us_where_62 : decode m_Us_where.2.1 62 = .ok (.getfield 271, 3) := by decide +kernel
theorem d_Us_where_65 : decode m_Us_where.2.1 65 = .ok (.goto 10, 3) := by decide +kernel
theorem d_Us_where_68 : decode m_Us_where.2.1 68 = .ok (.aload_n 0, 1) := by decide +kernel
theorem d_Us_where_69 : decode m_Us_where.2.1 69 = .ok (.getfield 57, 3) := by decide +kernel
theorem d_Us_where_72 : decode m_Us_where.2.1 72 = .ok (.getfield 274, 3) := by decide +kernel
theorem d_Us_where_75 : decode m_Us_where.2.1 75 = .ok (.ireturn, 1) := by decide +kernel
theorem g_Us_where_0 {X : XS} (a1 : Int32) (h : Hp) (Q : Option AV → Hp → Prop)  (k : (∃ Q'4, EvI X m_Us_isNotIn [vI a1, vI 0, vI 2] h Q'4 ∧ ∀ (r5 : Int32) (h3 : Hp), Q'4 r5 h3 → ((r5 = 0 → (∃ Q'9, EvV X m_Mk_watch [vR [8, 0], vR [0, 0], vR [4, 0]] h3 Q'9 ∧ ∀ (h8 : Hp), Q'9 h8 → (∃ Q'13, EvV X m_Mk_seekBest [vR [8, 0], vI (h8.1 [0, 0] 1)] h8 Q'13 ∧ ∀ (h12 : Hp), Q'13 h12 → ((¬ a1 = 0 → ((¬ a1 = 1 → Q (some (vI (h12.1 [8, 0] 3))) h12) ∧ (a1 = 1 → Q (some (vI (h12.1 [8, 0] 2))) h12))) ∧ (a1 = 0 → Q (some (vI (h12.1 [8, 0] 1))) h12))))) ∧ (¬ r5 = 0 → Q (some (vI (-3))) h3)))) : Rn X m_Us_where 0 [some (vR [0]), some (vI a1)] [] h Q := by
  refine Rn.iload_n (n := 1) (i := 1) d_Us_where_0 rfl rfl rfl ?_
  refine Rn.iconst (n := 2) (v := 0) d_Us_where_1 rfl (by decide) ?_
  refine Rn.iconst (n := 3) (v := 2) d_Us_where_2 rfl (by decide) ?_
  obtain ⟨Q'4, ev1, k⟩ := k
  refine Rn.callS (n := 6) (av := [vI a1, vI 0, vI 2]) d_Us_where_3 rfl ml_Us_where_61 ms_Us_isNotIn rfl rfl (Nat.le_of_ble_eq_true rfl) ev1 (fun v h3 hq => ?_)
  obtain ⟨r5, rfl, hq⟩ := hq
  have k := k r5 h3 hq
  show Rn X m_Us_where 6 [some (vR [0]), some (vI a1)] [vI r5] h3 Q
  refine Rn.if_eq (n := 9) (t := 12) d_Us_where_6 rfl (by decide) (fun cc => ?_) (fun cc => ?_)
  · have k := k.1 cc
    refine Rn.aload_n (n := 13) (i := 0) d_Us_where_12 rfl rfl rfl ?_
    refine Rn.getf (n := 16) (v := vR [8, 0]) d_Us_where_13 rfl fl_Us_57 Lv_0 rfl ?_
    refine Rn.aload_n (n := 17) (i := 0) d_Us_where_16 rfl rfl rfl ?_
    refine Rn.getf (n := 20) (v := vR [0, 0]) d_Us_where_17 rfl fl_Us_12 Lv_0 rfl ?_
    refine Rn.aload_n (n := 21) (i := 0) d_Us_where_20 rfl rfl rfl ?_
    refine Rn.getf (n := 24) (v := vR [4, 0]) d_Us_where_21 rfl fl_Us_33 Lv_0 rfl ?_
    obtain ⟨Q'9, ev6, k⟩ := k
    refine Rn.callV (n := 27) (av := [vR [0, 0], vR [4, 0]]) d_Us_where_24 rfl ml_Us_where_257 mi_Mk_watch Lv_8_0 rfl rfl rfl rfl (Nat.le_of_ble_eq_true rfl) ev6 (fun v h8 hq => ?_)
    obtain ⟨rfl, hq⟩ := hq
    have k := k h8 hq
    show Rn X m_Us_where 27 [some (vR [0]), some (vI a1)] [] h8 Q
    refine Rn.aload_n (n := 28) (i := 0) d_Us_where_27 rfl rfl rfl ?_
    refine Rn.getf (n := 31) (v := vR [8, 0]) d_Us_where_28 rfl fl_Us_57 Lv_0 rfl ?_
    refine Rn.aload_n (n := 32) (i := 0) d_Us_where_31 rfl rfl rfl ?_
    refine Rn.getf (n := 35) (v := vR [0, 0]) d_Us_where_32 rfl fl_Us_12 Lv_0 rfl ?_
    refine Rn.getf (n := 38) (v := vI (h8.1 [0, 0] 1)) d_Us_where_35 rfl fl_Us_254 Lv_0_0 rfl ?_
    obtain ⟨Q'13, ev10, k⟩ := k
    refine Rn.callV (n := 41) (av := [vI (h8.1 [0, 0] 1)]) d_Us_where_38 rfl ml_Us_where_264 mi_Mk_seekBest Lv_8_0 rfl rfl rfl rfl (Nat.le_of_ble_eq_true rfl) ev10 (fun v h12 hq => ?_)
    obtain ⟨rfl, hq⟩ := hq
    have k := k h12 hq
    show Rn X m_Us_where 41 [some (vR [0]), some (vI a1)] [] h12 Q
    refine Rn.iload_n (n := 42) (i := 1) d_Us_where_41 rfl rfl rfl ?_
    refine Rn.if_ne (n := 45) (t := 53) d_Us_where_42 rfl (by decide) (fun cc => ?_) (fun cc => ?_)
    · have k := k.1 cc
      refine Rn.iload_n (n := 54) (i := 1) d_Us_where_53 rfl rfl rfl ?_
      refine Rn.iconst (n := 55) (v := 1) d_Us_where_54 rfl (by decide) ?_
      refine Rn.icmp_ne (n := 58) (t := 68) d_Us_where_55 rfl (by decide) (fun cc => ?_) (fun cc => ?_)
      · have k := k.1 cc
        refine Rn.aload_n (n := 69) (i := 0) d_Us_where_68 rfl rfl rfl ?_
        refine Rn.getf (n := 72) (v := vR [8, 0]) d_Us_where_69 rfl fl_Us_57 Lv_0 rfl ?_
        refine Rn.getf (n := 75) (v := vI (h12.1 [8, 0] 3)) d_Us_where_72 rfl fl_Us_274 Lv_8_0 rfl ?_
        exact Rn.iret d_Us_where_75 rfl rfl k
      · have k := k.2 cc
        refine Rn.aload_n (n := 59) (i := 0) d_Us_where_58 rfl rfl rfl ?_
        refine Rn.getf (n := 62) (v := vR [8, 0]) d_Us_where_59 rfl fl_Us_57 Lv_0 rfl ?_
        refine Rn.getf (n := 65) (v := vI (h12.1 [8, 0] 2)) d_Us_where_62 rfl fl_Us_271 Lv_8_0 rfl ?_
        refine Rn.goto (n := 75) d_Us_where_65 (by decide) ?_
        exact Rn.iret d_Us_where_75 rfl rfl k
    · have k := k.2 cc
      refine Rn.aload_n (n := 46) (i := 0) d_Us_where_45 rfl rfl rfl ?_
      refine Rn.getf (n := 49) (v := vR [8, 0]) d_Us_where_46 rfl fl_Us_57 Lv_0 rfl ?_
      refine Rn.getf (n := 52) (v := vI (h12.1 [8, 0] 1)) d_Us_where_49 rfl fl_Us_268 Lv_8_0 rfl ?_
      exact Rn.iret d_Us_where_52 rfl rfl k
  · have k := k.2 cc
    refine Rn.bipush (n := 11) (v := (-3)) d_Us_where_9 rfl (by decide) ?_
    exact Rn.iret d_Us_where_11 rfl rfl k
theorem e_Us_where {X : XS} (a1 : Int32) (h : Hp) (Q : Option AV → Hp → Prop) (k : Rn X m_Us_where 0 [some (vR [0]), some (vI a1)] [] h Q) : Ev X m_Us_where [vR [0], vI a1] h Q := Ev.intro (plainFor_of_name (by decide +kernel)) (Nat.le_of_ble_eq_true rfl) (ls := [some (vR [0]), some (vI a1)]) rfl k
theorem d_Us_count_0 : decode m_Us_count.2.1 0 = .ok (.iload_n 1, 1) := by decide +kernel
theorem d_Us_count_1 : decode m_Us_count.2.1 1 = .ok (.tableswitch 111 0 7 #[47, 55, 63, 71, 79, 87, 95, 103], 47) := by decide +kernel
theorem d_Us_count_48 : decode m_Us_count.2.1 48 = .ok (.aload_n 0, 1) := by decide +kernel
theorem d_Us_count_49 : decode m_Us_count.2.1 49 = .ok (.getfield 12, 3) := by decide +kernel
theorem d_Us_count_52 : decode m_Us_count.2.1 52 = .ok (.getfield 277, 3) := by decide +kernel
theorem d_Us_count_55 : decode m_Us_count.2.1 55 = .ok (.ireturn, 1) := by decide +kernel
theorem d_Us_count_56 : decode m_Us_count.2.1 56 = .ok (.aload_n 0, 1) := by decide +kernel
theorem d_Us_count_57 : decode m_Us_count.2.1 57 = .ok (.getfield 12, 3) := by decide +kernel
theorem d_Us_count_60 : decode m_Us_count.2.1 60 = .ok (.getfield 254, 3) := by decide +kernel
theorem d_Us_count_63 : decode m_Us_count.2.1 63 = .ok (.ireturn, 1) := by decide +kernel
theorem d_Us_count_64 : decode m_Us_count.2.1 64 = .ok (.aload_n 0, 1) := by decide +kernel
theorem d_Us_count_65 : decode m_Us_count.2.1 65 = .ok (.getfield 12, 3) := by decide +kernel
theorem d_Us_count_68 : decode m_Us_count.2.1 68 = .ok (.invokevirtual 143, 3) := by decide +kernel
theorem d_Us_count_71 : decode m_Us_count.2.1 71 = .ok (.ireturn, 1) := by decide +kernel
theorem d_Us_count_72 : decode m_Us_count.2.1 72 = .ok (.aload_n 0, 1) := by decide +kernel
theorem d_Us_count_73 : decode m_Us_count.2.1 73 = .ok (.getfield 29, 3) := by decide +kernel
theorem d_Us_count_76 : decode m_Us_count.2.1 76 = .ok (.invokevirtual 280, 3) := by decide +kernel
theorem d_Us_count_79 : decode m_Us_count.2.1 79 = .ok (.ireturn, 1) := by decide +kernel
theorem d_Us_count_80 : decode m_Us_count.2.1 80 = .ok (.aload_n 0, 1) := by decide +kernel
theorem d_Us_count_81 : decode m_Us_count.2.1 81 = .ok (.getfield 29, 3) := by decide +kernel
theorem d_Us_count_84 : decode m_Us_count.2.1 84 = .ok (.getfield 133, 3) := by decide +kernel
theorem d_Us_count_87 : decode m_Us_count.2.1 87 = .ok (.ireturn, 1) := by decide +kernel
theorem d_Us_count_88 : decode m_Us_count.2.1 88 = .ok (.aload_n 0, 1) := by decide +kernel
theorem d_Us_count_89 : decode m_Us_count.2.1 89 = .ok (.getfield 22, 3) := by decide +kernel
theorem d_Us_count_92 : decode m_Us_count.2.1 92 = .ok (.getfield 69, 3) := by decide +kernel
theorem d_Us_count_95 : decode m_Us_count.2.1 95 = .ok (.ireturn, 1) := by decide +kernel
theorem d_Us_count_96 : decode m_Us_count.2.1 96 = .ok (.aload_n 0, 1) := by decide +kernel
theorem d_Us_count_97 : decode m_Us_count.2.1 97 = .ok (.getfield 50, 3) := by decide +kernel
theorem d_Us_count_100 : decode m_Us_count.2.1 100 = .ok (.getfield 186, 3) := by decide +kernel
theorem d_Us_count_103 : decode m_Us_count.2.1 103 = .ok (.ireturn, 1) := by decide +kernel
theorem d_Us_count_104 : decode m_Us_count.2.1 104 = .ok (.aload_n 0, 1) := by decide +kernel
theorem d_Us_count_105 : decode m_Us_count.2.1 105 = .ok (.getfield 29, 3) := by decide +kernel
theorem d_Us_count_108 : decode m_Us_count.2.1 108 = .ok (.getfield 283, 3) := by decide +kernel
theorem d_Us_count_111 : decode m_Us_count.2.1 111 = .ok (.ireturn, 1) := by decide +kernel
theorem d_Us_count_112 : decode m_Us_count.2.1 112 = .ok (.bipush (-3), 2) := by decide +kernel
theorem d_Us_count_114 : decode m_Us_count.2.1 114 = .ok (.ireturn, 1) := by decide +kernel
theorem g_Us_count_0 {X : XS} (a1 : Int32) (h : Hp) (Q : Option AV → Hp → Prop)  (k : ((a1.toInt < 0 ∨ 7 < a1.toInt → Q (some (vI (-3))) h) ∧ (a1 = 0 → Q (some (vI (h.1 [0, 0] 0))) h) ∧ (a1 = 1 → Q (some (vI (h.1 [0, 0] 1))) h) ∧ (a1 = 2 → (∃ Q'4, EvI X m_Pl_walkers [vR [0, 0]] h Q'4 ∧ ∀ (r5 : Int32) (h3 : Hp), Q'4 r5 h3 → Q (some (vI r5)) h3)) ∧ (a1 = 3 → (∃ Q'9, EvI X m_Wk_onStreet [vR [3, 0]] h Q'9 ∧ ∀ (r10 : Int32) (h8 : Hp), Q'9 r10 h8 → Q (some (vI r10)) h8)) ∧ (a1 = 4 → Q (some (vI (h.1 [3, 0] 1))) h) ∧ (a1 = 5 → Q (some (vI (h.1 [2, 0] 2))) h) ∧ (a1 = 6 → Q (some (vI (h.1 [7, 0] 0))) h) ∧ (a1 = 7 → Q (some (vI (h.1 [3, 0] 2))) h))) : Rn X m_Us_count 0 [some (vR [0]), some (vI a1)] [] h Q := by
  refine Rn.iload_n (n := 1) (i := 1) d_Us_count_0 rfl rfl rfl ?_
  refine Rn.tsw (n := 0) d_Us_count_1 (fun cc => ⟨112, by decide, ?_⟩) (fun j hz1 hz2 hz3 => ?_)
  · have k := k.1 cc
    refine Rn.bipush (n := 114) (v := (-3)) d_Us_count_112 rfl (by decide) ?_
    exact Rn.iret d_Us_count_114 rfl rfl k
  · have k := k.2
    have hj : j < 8 := by omega
    match j, hj, hz3 with
    | 0, _, hz3 =>
      have cc : a1 = 0 := Int32.toInt_inj.mp hz3
      have k := k.1 cc
      refine ⟨47, 48, rfl, by decide, ?_⟩
      refine Rn.aload_n (n := 49) (i := 0) d_Us_count_48 rfl rfl rfl ?_
      refine Rn.getf (n := 52) (v := vR [0, 0]) d_Us_count_49 rfl fl_Us_12 Lv_0 rfl ?_
      refine Rn.getf (n := 55) (v := vI (h.1 [0, 0] 0)) d_Us_count_52 rfl fl_Us_277 Lv_0_0 rfl ?_
      exact Rn.iret d_Us_count_55 rfl rfl k
    | 1, _, hz3 =>
      have cc : a1 = 1 := Int32.toInt_inj.mp hz3
      have k := k.2.1 cc
      refine ⟨55, 56, rfl, by decide, ?_⟩
      refine Rn.aload_n (n := 57) (i := 0) d_Us_count_56 rfl rfl rfl ?_
      refine Rn.getf (n := 60) (v := vR [0, 0]) d_Us_count_57 rfl fl_Us_12 Lv_0 rfl ?_
      refine Rn.getf (n := 63) (v := vI (h.1 [0, 0] 1)) d_Us_count_60 rfl fl_Us_254 Lv_0_0 rfl ?_
      exact Rn.iret d_Us_count_63 rfl rfl k
    | 2, _, hz3 =>
      have cc : a1 = 2 := Int32.toInt_inj.mp hz3
      have k := k.2.2.1 cc
      refine ⟨63, 64, rfl, by decide, ?_⟩
      refine Rn.aload_n (n := 65) (i := 0) d_Us_count_64 rfl rfl rfl ?_
      refine Rn.getf (n := 68) (v := vR [0, 0]) d_Us_count_65 rfl fl_Us_12 Lv_0 rfl ?_
      obtain ⟨Q'4, ev1, k⟩ := k
      refine Rn.callV (n := 71) (av := []) d_Us_count_68 rfl ml_Us_count_143 mi_Pl_walkers Lv_0_0 rfl rfl rfl rfl (Nat.le_of_ble_eq_true rfl) ev1 (fun v h3 hq => ?_)
      obtain ⟨r5, rfl, hq⟩ := hq
      have k := k r5 h3 hq
      show Rn X m_Us_count 71 [some (vR [0]), some (vI a1)] [vI r5] h3 Q
      exact Rn.iret d_Us_count_71 rfl rfl k
    | 3, _, hz3 =>
      have cc : a1 = 3 := Int32.toInt_inj.mp hz3
      have k := k.2.2.2.1 cc
      refine ⟨71, 72, rfl, by decide, ?_⟩
      refine Rn.aload_n (n := 73) (i := 0) d_Us_count_72 rfl rfl rfl ?_
      refine Rn.getf (n := 76) (v := vR [3, 0]) d_Us_count_73 rfl fl_Us_29 Lv_0 rfl ?_
      obtain ⟨Q'9, ev6, k⟩ := k
      refine Rn.callV (n := 79) (av := []) d_Us_count_76 rfl ml_Us_count_280 mi_Wk_onStreet Lv_3_0 rfl rfl rfl rfl (Nat.le_of_ble_eq_true rfl) ev6 (fun v h8 hq => ?_)
      obtain ⟨r10, rfl, hq⟩ := hq
      have k := k r10 h8 hq
      show Rn X m_Us_count 79 [some (vR [0]), some (vI a1)] [vI r10] h8 Q
      exact Rn.iret d_Us_count_79 rfl rfl k
    | 4, _, hz3 =>
      have cc : a1 = 4 := Int32.toInt_inj.mp hz3
      have k := k.2.2.2.2.1 cc
      refine ⟨79, 80, rfl, by decide, ?_⟩
      refine Rn.aload_n (n := 81) (i := 0) d_Us_count_80 rfl rfl rfl ?_
      refine Rn.getf (n := 84) (v := vR [3, 0]) d_Us_count_81 rfl fl_Us_29 Lv_0 rfl ?_
      refine Rn.getf (n := 87) (v := vI (h.1 [3, 0] 1)) d_Us_count_84 rfl fl_Us_133 Lv_3_0 rfl ?_
      exact Rn.iret d_Us_count_87 rfl rfl k
    | 5, _, hz3 =>
      have cc : a1 = 5 := Int32.toInt_inj.mp hz3
      have k := k.2.2.2.2.2.1 cc
      refine ⟨87, 88, rfl, by decide, ?_⟩
      refine Rn.aload_n (n := 89) (i := 0) d_Us_count_88 rfl rfl rfl ?_
      refine Rn.getf (n := 92) (v := vR [2, 0]) d_Us_count_89 rfl fl_Us_22 Lv_0 rfl ?_
      refine Rn.getf (n := 95) (v := vI (h.1 [2, 0] 2)) d_Us_count_92 rfl fl_Us_69 Lv_2_0 rfl ?_
      exact Rn.iret d_Us_count_95 rfl rfl k
    | 6, _, hz3 =>
      have cc : a1 = 6 := Int32.toInt_inj.mp hz3
      have k := k.2.2.2.2.2.2.1 cc
      refine ⟨95, 96, rfl, by decide, ?_⟩
      refine Rn.aload_n (n := 97) (i := 0) d_Us_count_96 rfl rfl rfl ?_
      refine Rn.getf (n := 100) (v := vR [7, 0]) d_Us_count_97 rfl fl_Us_50 Lv_0 rfl ?_
      refine Rn.getf (n := 103) (v := vI (h.1 [7, 0] 0)) d_Us_count_100 rfl fl_Us_186 Lv_7_0 rfl ?_
      exact Rn.iret d_Us_count_103 rfl rfl k
    | 7, _, hz3 =>
      have cc : a1 = 7 := Int32.toInt_inj.mp hz3
      have k := k.2.2.2.2.2.2.2 cc
      refine ⟨103, 104, rfl, by decide, ?_⟩
      refine Rn.aload_n (n := 105) (i := 0) d_Us_count_104 rfl rfl rfl ?_
      refine Rn.getf (n := 108) (v := vR [3, 0]) d_Us_count_105 rfl fl_Us_29 Lv_0 rfl ?_
      refine Rn.getf (n := 111) (v := vI (h.1 [3, 0] 2)) d_Us_count_108 rfl fl_Us_283 Lv_3_0 rfl ?_
      exact Rn.iret d_Us_count_111 rfl rfl k
    | j + 8, hj, _ => exact absurd hj (by omega)
theorem e_Us_count {X : XS} (a1 : Int32) (h : Hp) (Q : Option AV → Hp → Prop) (k : Rn X m_Us_count 0 [some (vR [0]), some (vI a1)] [] h Q) : Ev X m_Us_count [vR [0], vI a1] h Q := Ev.intro (plainFor_of_name (by decide +kernel)) (Nat.le_of_ble_eq_true rfl) (ls := [some (vR [0]), some (vI a1)]) rfl k
theorem d_Us_isNotIn_0 : decode m_Us_isNotIn.2.1 0 = .ok (.iload_n 0, 1) := by decide +kernel
theorem d_Us_isNotIn_1 : decode m_Us_isNotIn.2.1 1 = .ok (.iload_n 1, 1) := by decide +kernel
theorem d_Us_isNotIn_2 : decode m_Us_isNotIn.2.1 2 = .ok (.if_icmp .lt 8, 3) := by decide +kernel
theorem d_Us_isNotIn_5 : decode m_Us_isNotIn.2.1 5 = .ok (.iload_n 0, 1) := by decide +kernel
theorem d_Us_isNotIn_6 : decode m_Us_isNotIn.2.1 6 = .ok (.iload_n 2, 1) := by decide +kernel
theorem d_Us_isNotIn_7 : decode m_Us_isNotIn.2.1 7 = .ok (.if_icmp .le 7, 3) := by decide +kernel
theorem d_Us_isNotIn_10 : decode m_Us_isNotIn.2.1 10 = .ok (.iconst 1, 1) := by decide +kernel
theorem d_Us_isNotIn_11 : decode m_Us_isNotIn.2.1 11 = .ok (.goto 4, 3) := by decide +kernel
theorem d_Us_isNotIn_14 : decode m_Us_isNotIn.2.1 14 = .ok (.iconst 0, 1) := by decide +kernel
theorem d_Us_isNotIn_15 : decode m_Us_isNotIn.2.1 15 = .ok (.ireturn, 1) := by decide +kernel
theorem g_Us_isNotIn_0 {X : XS} (a0 : Int32) (a1 : Int32) (a2 : Int32) (h : Hp) (Q : Option AV → Hp → Prop)  (k : ((a0 < a1 → Q (some (vI 1)) h) ∧ (¬ a0 < a1 → ((a0 ≤ a2 → Q (some (vI 0)) h) ∧ (¬ a0 ≤ a2 → Q (some (vI 1)) h))))) : Rn X m_Us_isNotIn 0 [some (vI a0), some (vI a1), some (vI a2)] [] h Q := by
  refine Rn.iload_n (n := 1) (i := 0) d_Us_isNotIn_0 rfl rfl rfl ?_
  refine Rn.iload_n (n := 2) (i := 1) d_Us_isNotIn_1 rfl rfl rfl ?_
  refine Rn.icmp_lt (n := 5) (t := 10) d_Us_isNotIn_2 rfl (by decide) (fun cc => ?_) (fun cc => ?_)
  · have k := k.1 cc
    refine Rn.iconst (n := 11) (v := 1) d_Us_isNotIn_10 rfl (by decide) ?_
    refine Rn.goto (n := 15) d_Us_isNotIn_11 (by decide) ?_
    exact Rn.iret d_Us_isNotIn_15 rfl rfl k
  · have k := k.2 cc
    refine Rn.iload_n (n := 6) (i := 0) d_Us_isNotIn_5 rfl rfl rfl ?_
    refine Rn.iload_n (n := 7) (i := 2) d_Us_isNotIn_6 rfl rfl rfl ?_
    refine Rn.icmp_le (n := 10) (t := 14) d_Us_isNotIn_7 rfl (by decide) (fun cc => ?_) (fun cc => ?_)
    · have k := k.1 cc
      refine Rn.iconst (n := 15) (v := 0) d_Us_isNotIn_14 rfl (by decide) ?_
      exact Rn.iret d_Us_isNotIn_15 rfl rfl k
    · have k := k.2 cc
      refine Rn.iconst (n := 11) (v := 1) d_Us_isNotIn_10 rfl (by decide) ?_
      refine Rn.goto (n := 15) d_Us_isNotIn_11 (by decide) ?_
      exact Rn.iret d_Us_isNotIn_15 rfl rfl k
theorem e_Us_isNotIn {X : XS} (a0 : Int32) (a1 : Int32) (a2 : Int32) (h : Hp) (Q : Option AV → Hp → Prop) (k : Rn X m_Us_isNotIn 0 [some (vI a0), some (vI a1), some (vI a2)] [] h Q) : Ev X m_Us_isNotIn [vI a0, vI a1, vI a2] h Q := Ev.intro (plainFor_of_name (by decide +kernel)) (Nat.le_of_ble_eq_true rfl) (ls := [some (vI a0), some (vI a1), some (vI a2)]) rfl k
theorem d_Us_lowest_0 : decode m_Us_lowest.2.1 0 = .ok (.lload_n 0, 1) := by decide +kernel
theorem d_Us_lowest_1 : decode m_Us_lowest.2.1 1 = .ok (.lload_n 2, 1) := by decide +kernel
theorem d_Us_lowest_2 : decode m_Us_lowest.2.1 2 = .ok (.invokestatic 286, 3) := by decide +kernel
theorem d_Us_lowest_5 : decode m_Us_lowest.2.1 5 = .ok (.lstore 5, 2) := by decide +kernel
theorem d_Us_lowest_7 : decode m_Us_lowest.2.1 7 = .ok (.lload 5, 2) := by decide +kernel
theorem d_Us_lowest_9 : decode m_Us_lowest.2.1 9 = .ok (.lconst 1, 1) := by decide +kernel
theorem d_Us_lowest_10 : decode m_Us_lowest.2.1 10 = .ok (.lcmp, 1) := by decide +kernel
theorem d_Us_lowest_11 : decode m_Us_lowest.2.1 11 = .ok (.ifCond .ge 5, 3) := by decide +kernel
theorem d_Us_lowest_14 : decode m_Us_lowest.2.1 14 = .ok (.lconst 0, 1) := by decide +kernel
theorem d_Us_lowest_15 : decode m_Us_lowest.2.1 15 = .ok (.lreturn, 1) := by decide +kernel
theorem d_Us_lowest_16 : decode m_Us_lowest.2.1 16 = .ok (.iload 4, 2) := by decide +kernel
theorem d_Us_lowest_18 : decode m_Us_lowest.2.1 18 = .ok (.ifCond .ne 10, 3) := by decide +kernel
theorem d_Us_lowest_21 : decode m_Us_lowest.2.1 21 = .ok (.lload_n 0, 1) := by decide +kernel
theorem d_Us_lowest_22 : decode m_Us_lowest.2.1 22 = .ok (.lload 5, 2) := by decide +kernel
theorem d_Us_lowest_24 : decode m_Us_lowest.2.1 24 = .ok (.ldiv, 1) := by decide +kernel
theorem d_Us_lowest_25 : decode m_Us_lowest.2.1 25 = .ok (.goto 7, 3) := by decide +kernel
theorem d_Us_lowest_28 : decode m_Us_lowest.2.1 28 = .ok (.lload_n 2, 1) := by decide +kernel
theorem d_Us_lowest_29 : decode m_Us_lowest.2.1 29 = .ok (.lload 5, 2) := by decide +kernel
theorem d_Us_lowest_31 : decode m_Us_lowest.2.1 31 = .ok (.ldiv, 1) := by decide +kernel
theorem d_Us_lowest_32 : decode m_Us_lowest.2.1 32 = .ok (.lreturn, 1) := by decide +kernel
theorem g_Us_lowest_0 {X : XS} (a0 : Int64) (a2 : Int64) (a4 : Int32) (h : Hp) (Q : Option AV → Hp → Prop)  (k : (∃ Q'4, EvL X m_Us_commonDivisor [vL a0, vL a2] h Q'4 ∧ ∀ (r5 : Int64) (h3 : Hp), Q'4 r5 h3 → ((0 ≤ (lg_cmp r5 1) → ((¬ a4 = 0 → (¬ r5 = 0 ∧ Q (some (vL (a2 / r5))) h3)) ∧ (a4 = 0 → (¬ r5 = 0 ∧ Q (some (vL (a0 / r5))) h3)))) ∧ (¬ 0 ≤ (lg_cmp r5 1) → Q (some (vL 0)) h3)))) : Rn X m_Us_lowest 0 [some (vL a0), none, some (vL a2), none, some (vI a4), none, none] [] h Q := by
  refine Rn.lload_n (n := 1) (i := 0) d_Us_lowest_0 rfl rfl rfl ?_
  refine Rn.lload_n (n := 2) (i := 2) d_Us_lowest_1 rfl rfl rfl ?_
  obtain ⟨Q'4, ev1, k⟩ := k
  refine Rn.callS (n := 5) (av := [vL a0, vL a2]) d_Us_lowest_2 rfl ml_Us_lowest_286 ms_Us_commonDivisor rfl rfl (Nat.le_of_ble_eq_true rfl) ev1 (fun v h3 hq => ?_)
  obtain ⟨r5, rfl, hq⟩ := hq
  have k := k r5 h3 hq
  show Rn X m_Us_lowest 5 [some (vL a0), none, some (vL a2), none, some (vI a4), none, none] [vL r5] h3 Q
  refine Rn.lstore (n := 7) (i := 5) (ls2 := [some (vL a0), none, some (vL a2), none, some (vI a4), some (vL r5), none]) d_Us_lowest_5 rfl (Nat.le_of_ble_eq_true rfl) rfl ?_
  refine Rn.lload (n := 9) (i := 5) d_Us_lowest_7 rfl rfl ?_
  refine Rn.lconst (n := 10) (v := 1) d_Us_lowest_9 rfl rfl ?_
  refine Rn.lcmp (n := 11) d_Us_lowest_10 rfl ?_
  refine Rn.if_ge (n := 14) (t := 16) d_Us_lowest_11 rfl (by decide) (fun cc => ?_) (fun cc => ?_)
  · have k := k.1 cc
    refine Rn.iload (n := 18) (i := 4) d_Us_lowest_16 rfl rfl ?_
    refine Rn.if_ne (n := 21) (t := 28) d_Us_lowest_18 rfl (by decide) (fun cc => ?_) (fun cc => ?_)
    · have k := k.1 cc
      refine Rn.lload_n (n := 29) (i := 2) d_Us_lowest_28 rfl rfl rfl ?_
      refine Rn.lload (n := 31) (i := 5) d_Us_lowest_29 rfl rfl ?_
      obtain ⟨z6, k⟩ := k
      refine Rn.ldiv (n := 32) d_Us_lowest_31 rfl z6 ?_
      exact Rn.lret d_Us_lowest_32 rfl k
    · have k := k.2 cc
      refine Rn.lload_n (n := 22) (i := 0) d_Us_lowest_21 rfl rfl rfl ?_
      refine Rn.lload (n := 24) (i := 5) d_Us_lowest_22 rfl rfl ?_
      obtain ⟨z7, k⟩ := k
      refine Rn.ldiv (n := 25) d_Us_lowest_24 rfl z7 ?_
      refine Rn.goto (n := 32) d_Us_lowest_25 (by decide) ?_
      exact Rn.lret d_Us_lowest_32 rfl k
  · have k := k.2 cc
    refine Rn.lconst (n := 15) (v := 0) d_Us_lowest_14 rfl rfl ?_
    exact Rn.lret d_Us_lowest_15 rfl k
theorem e_Us_lowest {X : XS} (a0 : Int64) (a2 : Int64) (a4 : Int32) (h : Hp) (Q : Option AV → Hp → Prop) (k : Rn X m_Us_lowest 0 [some (vL a0), none, some (vL a2), none, some (vI a4), none, none] [] h Q) : Ev X m_Us_lowest [vL a0, vL a2, vI a4] h Q := Ev.intro (plainFor_of_name (by decide +kernel)) (Nat.le_of_ble_eq_true rfl) (ls := [some (vL a0), none, some (vL a2), none, some (vI a4), none, none]) rfl k
theorem d_Us_commonDivisor_0 : decode m_Us_commonDivisor.2.1 0 = .ok (.lload_n 0, 1) := by decide +kernel
theorem d_Us_commonDivisor_1 : decode m_Us_commonDivisor.2.1 1 = .ok (.lstore 4, 2) := by decide +kernel
theorem d_Us_commonDivisor_3 : decode m_Us_commonDivisor.2.1 3 = .ok (.lload_n 2, 1) := by decide +kernel
theorem d_Us_commonDivisor_4 : decode m_Us_commonDivisor.2.1 4 = .ok (.lstore 6, 2) := by decide +kernel
theorem d_Us_commonDivisor_6 : decode m_Us_commonDivisor.2.1 6 = .ok (.iconst 0, 1) := by decide +kernel
theorem d_Us_commonDivisor_7 : decode m_Us_commonDivisor.2.1 7 = .ok (.istore 8, 2) := by decide +kernel
theorem d_Us_commonDivisor_9 : decode m_Us_commonDivisor.2.1 9 = .ok (.iload 8, 2) := by decide +kernel
theorem d_Us_commonDivisor_11 : decode m_Us_commonDivisor.2.1 11 = .ok (.sipush 1000, 3) := by decide +kernel
theorem d_Us_commonDivisor_14 : decode m_Us_commonDivisor.2.1 14 = .ok (.if_icmp .ge 31, 3) := by decide +kernel
theorem d_Us_commonDivisor_17 : decode m_Us_commonDivisor.2.1 17 = .ok (.lload 6, 2) := by decide +kernel
theorem d_Us_commonDivisor_19 : decode m_Us_commonDivisor.2.1 19 = .ok (.lconst 0, 1) := by decide +kernel
theorem d_Us_commonDivisor_20 : decode m_Us_commonDivisor.2.1 20 = .ok (.lcmp, 1) := by decide +kernel
theorem d_Us_commonDivisor_21 : decode m_Us_commonDivisor.2.1 21 = .ok (.ifCond .eq 24, 3) := by decide +kernel
theorem d_Us_commonDivisor_24 : decode m_Us_commonDivisor.2.1 24 = .ok (.lload 4, 2) := by decide +kernel
theorem d_Us_commonDivisor_26 : decode m_Us_commonDivisor.2.1 26 = .ok (.lload 6, 2) := by decide +kernel
theorem d_Us_commonDivisor_28 : decode m_Us_commonDivisor.2.1 28 = .ok (.lrem, 1) := by decide +kernel
theorem d_Us_commonDivisor_29 : decode m_Us_commonDivisor.2.1 29 = .ok (.lstore 9, 2) := by decide +kernel
theorem d_Us_commonDivisor_31 : decode m_Us_commonDivisor.2.1 31 = .ok (.lload 6, 2) := by decide +kernel
theorem d_Us_commonDivisor_33 : decode m_Us_commonDivisor.2.1 33 = .ok (.lstore 4, 2) := by decide +kernel
theorem d_Us_commonDivisor_35 : decode m_Us_commonDivisor.2.1 35 = .ok (.lload 9, 2) := by decide +kernel
theorem d_Us_commonDivisor_37 : decode m_Us_commonDivisor.2.1 37 = .ok (.lstore 6, 2) := by decide +kernel
theorem d_Us_commonDivisor_39 : decode m_Us_commonDivisor.2.1 39 = .ok (.iinc 8 1, 3) := by decide +kernel
theorem d_Us_commonDivisor_42 : decode m_Us_commonDivisor.2.1 42 = .ok (.goto (-33), 3) := by decide +kernel
theorem d_Us_commonDivisor_45 : decode m_Us_commonDivisor.2.1 45 = .ok (.lload 4, 2) := by decide +kernel
theorem d_Us_commonDivisor_47 : decode m_Us_commonDivisor.2.1 47 = .ok (.lreturn, 1) := by decide +kernel
theorem g_Us_commonDivisor_0 {X : XS} (a0 : Int64) (a2 : Int64) (h : Hp) (Q : Option AV → Hp → Prop)  (k : Rn X m_Us_commonDivisor 9 [some (vL a0), none, some (vL a2), none, some (vL a0), none, some (vL a2), none, some (vI 0), none, none] [] h Q) : Rn X m_Us_commonDivisor 0 [some (vL a0), none, some (vL a2), none, none, none, none, none, none, none, none] [] h Q := by
  refine Rn.lload_n (n := 1) (i := 0) d_Us_commonDivisor_0 rfl rfl rfl ?_
  refine Rn.lstore (n := 3) (i := 4) (ls2 := [some (vL a0), none, some (vL a2), none, some (vL a0), none, none, none, none, none, none]) d_Us_commonDivisor_1 rfl (Nat.le_of_ble_eq_true rfl) rfl ?_
  refine Rn.lload_n (n := 4) (i := 2) d_Us_commonDivisor_3 rfl rfl rfl ?_
  refine Rn.lstore (n := 6) (i := 6) (ls2 := [some (vL a0), none, some (vL a2), none, some (vL a0), none, some (vL a2), none, none, none, none]) d_Us_commonDivisor_4 rfl (Nat.le_of_ble_eq_true rfl) rfl ?_
  refine Rn.iconst (n := 7) (v := 0) d_Us_commonDivisor_6 rfl (by decide) ?_
  refine Rn.istore (n := 9) (i := 8) (ls2 := [some (vL a0), none, some (vL a2), none, some (vL a0), none, some (vL a2), none, some (vI 0), none, none]) d_Us_commonDivisor_7 rfl (Nat.le_of_ble_eq_true rfl) rfl ?_
  exact k
theorem g_Us_commonDivisor_9 {X : XS} (a0 : Int64) (a2 : Int64) (a4 : Int64) (a6 : Int64) (a8 : Int32) (h : Hp) (Q : Option AV → Hp → Prop)  (k : ((1000 ≤ a8 → Q (some (vL a4)) h) ∧ (¬ 1000 ≤ a8 → (((lg_cmp a6 0) = 0 → Q (some (vL a4)) h) ∧ (¬ (lg_cmp a6 0) = 0 → (¬ a6 = 0 ∧ Rn X m_Us_commonDivisor 9 [some (vL a0), none, some (vL a2), none, some (vL a6), none, some (vL (lR a4 a6)), none, some (vI (a8 + 1)), none, none] [] h Q)))))) : Rn X m_Us_commonDivisor 9 [some (vL a0), none, some (vL a2), none, some (vL a4), none, some (vL a6), none, some (vI a8), none, none] [] h Q := by
  refine Rn.iload (n := 11) (i := 8) d_Us_commonDivisor_9 rfl rfl ?_
  refine Rn.sipush (n := 14) (v := 1000) d_Us_commonDivisor_11 rfl (by decide) ?_
  refine Rn.icmp_ge (n := 17) (t := 45) d_Us_commonDivisor_14 rfl (by decide) (fun cc => ?_) (fun cc => ?_)
  · have k := k.1 cc
    refine Rn.lload (n := 47) (i := 4) d_Us_commonDivisor_45 rfl rfl ?_
    exact Rn.lret d_Us_commonDivisor_47 rfl k
  · have k := k.2 cc
    refine Rn.lload (n := 19) (i := 6) d_Us_commonDivisor_17 rfl rfl ?_
    refine Rn.lconst (n := 20) (v := 0) d_Us_commonDivisor_19 rfl rfl ?_
    refine Rn.lcmp (n := 21) d_Us_commonDivisor_20 rfl ?_
    refine Rn.if_eq (n := 24) (t := 45) d_Us_commonDivisor_21 rfl (by decide) (fun cc => ?_) (fun cc => ?_)
    · have k := k.1 cc
      refine Rn.lload (n := 47) (i := 4) d_Us_commonDivisor_45 rfl rfl ?_
      exact Rn.lret d_Us_commonDivisor_47 rfl k
    · have k := k.2 cc
      refine Rn.lload (n := 26) (i := 4) d_Us_commonDivisor_24 rfl rfl ?_
      refine Rn.lload (n := 28) (i := 6) d_Us_commonDivisor_26 rfl rfl ?_
      obtain ⟨z1, k⟩ := k
      refine Rn.lrem (n := 29) d_Us_commonDivisor_28 rfl z1 ?_
      refine Rn.lstore (n := 31) (i := 9) (ls2 := [some (vL a0), none, some (vL a2), none, some (vL a4), none, some (vL a6), none, some (vI a8), some (vL (lR a4 a6)), none]) d_Us_commonDivisor_29 rfl (Nat.le_of_ble_eq_true rfl) rfl ?_
      refine Rn.lload (n := 33) (i := 6) d_Us_commonDivisor_31 rfl rfl ?_
      refine Rn.lstore (n := 35) (i := 4) (ls2 := [some (vL a0), none, some (vL a2), none, some (vL a6), none, some (vL a6), none, some (vI a8), some (vL (lR a4 a6)), none]) d_Us_commonDivisor_33 rfl (Nat.le_of_ble_eq_true rfl) rfl ?_
      refine Rn.lload (n := 37) (i := 9) d_Us_commonDivisor_35 rfl rfl ?_
      refine Rn.lstore (n := 39) (i := 6) (ls2 := [some (vL a0), none, some (vL a2), none, some (vL a6), none, some (vL (lR a4 a6)), none, some (vI a8), some (vL (lR a4 a6)), none]) d_Us_commonDivisor_37 rfl (Nat.le_of_ble_eq_true rfl) rfl ?_
      refine Rn.iinc (n := 42) (i := 8) (v := a8 + 1) (ls2 := [some (vL a0), none, some (vL a2), none, some (vL a6), none, some (vL (lR a4 a6)), none, some (vI (a8 + 1)), some (vL (lR a4 a6)), none]) d_Us_commonDivisor_39 rfl rfl rfl (Nat.le_of_ble_eq_true rfl) rfl ?_
      refine Rn.goto (n := 9) d_Us_commonDivisor_42 (by decide) ?_
      exact Rn.loc [some (vL a0), none, some (vL a2), none, some (vL a6), none, some (vL (lR a4 a6)), none, some (vI (a8 + 1)), none, none] (LLe_ok ⟨rfl, ⟨rfl, ⟨rfl, ⟨rfl, ⟨rfl, trivial⟩⟩⟩⟩⟩) k
theorem e_Us_commonDivisor {X : XS} (a0 : Int64) (a2 : Int64) (h : Hp) (Q : Option AV → Hp → Prop) (k : Rn X m_Us_commonDivisor 0 [some (vL a0), none, some (vL a2), none, none, none, none, none, none, none, none] [] h Q) : Ev X m_Us_commonDivisor [vL a0, vL a2] h Q := Ev.intro (plainFor_of_name (by decide +kernel)) (Nat.le_of_ble_eq_true rfl) (ls := [some (vL a0), none, some (vL a2), none, none, none, none, none, none, none, none]) rfl k
