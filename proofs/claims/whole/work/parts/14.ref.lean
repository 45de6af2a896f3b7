theorem d_Rf_in_0 : decode m_Rf_in.2.1 0 = .ok (.iload_n 0, 1) := by decide +kernel
theorem d_Rf_in_1 : decode m_Rf_in.2.1 1 = .ok (.iload_n 1, 1) := by decide +kernel
theorem d_Rf_in_2 : decode m_Rf_in.2.1 2 = .ok (.if_icmp .lt 12, 3) := by decide +kernel
theorem d_Rf_in_5 : decode m_Rf_in.2.1 5 = .ok (.iload_n 0, 1) := by decide +kernel
theorem d_Rf_in_6 : decode m_Rf_in.2.1 6 = .ok (.iload_n 2, 1) := by decide +kernel
theorem d_Rf_in_7 : decode m_Rf_in.2.1 7 = .ok (.if_icmp .gt 7, 3) := by decide +kernel
theorem d_Rf_in_10 : decode m_Rf_in.2.1 10 = .ok (.iconst 1, 1) := by decide +kernel
theorem d_Rf_in_11 : decode m_Rf_in.2.1 11 = .ok (.goto 4, 3) := by decide +kernel
theorem d_Rf_in_14 : decode m_Rf_in.2.1 14 = .ok (.iconst 0, 1) := by decide +kernel
theorem d_Rf_in_15 : decode m_Rf_in.2.1 15 = .ok (.ireturn, 1) := by decide +kernel
theorem g_Rf_in_0 {X : XS} (a0 : Int32) (a1 : Int32) (a2 : Int32) (h : Hp) (Q : Option AV → Hp → Prop)  (k : ((a0 < a1 → Q (some (vI 0)) h) ∧ (¬ a0 < a1 → ((a2 < a0 → Q (some (vI 0)) h) ∧ (¬ a2 < a0 → Q (some (vI 1)) h))))) : Rn X m_Rf_in 0 [some (vI a0), some (vI a1), some (vI a2)] [] h Q := by
  refine Rn.iload_n (n := 1) (i := 0) d_Rf_in_0 rfl rfl rfl ?_
  refine Rn.iload_n (n := 2) (i := 1) d_Rf_in_1 rfl rfl rfl ?_
  refine Rn.icmp_lt (n := 5) (t := 14) d_Rf_in_2 rfl (by decide) (fun cc => ?_) (fun cc => ?_)
  · have k := k.1 cc
    refine Rn.iconst (n := 15) (v := 0) d_Rf_in_14 rfl (by decide) ?_
    exact Rn.iret d_Rf_in_15 rfl rfl k
  · have k := k.2 cc
    refine Rn.iload_n (n := 6) (i := 0) d_Rf_in_5 rfl rfl rfl ?_
    refine Rn.iload_n (n := 7) (i := 2) d_Rf_in_6 rfl rfl rfl ?_
    refine Rn.icmp_gt (n := 10) (t := 14) d_Rf_in_7 rfl (by decide) (fun cc => ?_) (fun cc => ?_)
    · have k := k.1 cc
      refine Rn.iconst (n := 15) (v := 0) d_Rf_in_14 rfl (by decide) ?_
      exact Rn.iret d_Rf_in_15 rfl rfl k
    · have k := k.2 cc
      refine Rn.iconst (n := 11) (v := 1) d_Rf_in_10 rfl (by decide) ?_
      refine Rn.goto (n := 15) d_Rf_in_11 (by decide) ?_
      exact Rn.iret d_Rf_in_15 rfl rfl k
theorem e_Rf_in {X : XS} (a0 : Int32) (a1 : Int32) (a2 : Int32) (h : Hp) (Q : Option AV → Hp → Prop) (k : Rn X m_Rf_in 0 [some (vI a0), some (vI a1), some (vI a2)] [] h Q) : Ev X m_Rf_in [vI a0, vI a1, vI a2] h Q := Ev.intro (plainFor_of_name (by decide +kernel)) (Nat.le_of_ble_eq_true rfl) (ls := [some (vI a0), some (vI a1), some (vI a2)]) rfl k
theorem d_Rf_has_0 : decode m_Rf_has.2.1 0 = .ok (.iload_n 0, 1) := by decide +kernel
theorem d_Rf_has_1 : decode m_Rf_has.2.1 1 = .ok (.iload_n 1, 1) := by decide +kernel
theorem d_Rf_has_2 : decode m_Rf_has.2.1 2 = .ok (.ishr, 1) := by decide +kernel
theorem d_Rf_has_3 : decode m_Rf_has.2.1 3 = .ok (.iconst 1, 1) := by decide +kernel
theorem d_Rf_has_4 : decode m_Rf_has.2.1 4 = .ok (.iand, 1) := by decide +kernel
theorem d_Rf_has_5 : decode m_Rf_has.2.1 5 = .ok (.iconst 1, 1) := by decide +kernel
theorem d_Rf_has_6 : decode m_Rf_has.2.1 6 = .ok (.if_icmp .ne 7, 3) := by decide +kernel
theorem d_Rf_has_9 : decode m_Rf_has.2.1 9 = .ok (.iconst 1, 1) := by decide +kernel
theorem d_Rf_has_10 : decode m_Rf_has.2.1 10 = .ok (.goto 4, 3) := by decide +kernel
theorem d_Rf_has_13 : decode m_Rf_has.2.1 13 = .ok (.iconst 0, 1) := by decide +kernel
theorem d_Rf_has_14 : decode m_Rf_has.2.1 14 = .ok (.ireturn, 1) := by decide +kernel
theorem g_Rf_has_0 {X : XS} (a0 : Int32) (a1 : Int32) (h : Hp) (Q : Option AV → Hp → Prop)  (k : ((¬ ((iShr a0 a1) &&& 1) = 1 → Q (some (vI 0)) h) ∧ (((iShr a0 a1) &&& 1) = 1 → Q (some (vI 1)) h))) : Rn X m_Rf_has 0 [some (vI a0), some (vI a1)] [] h Q := by
  refine Rn.iload_n (n := 1) (i := 0) d_Rf_has_0 rfl rfl rfl ?_
  refine Rn.iload_n (n := 2) (i := 1) d_Rf_has_1 rfl rfl rfl ?_
  refine Rn.ishr (n := 3) d_Rf_has_2 rfl ?_
  refine Rn.iconst (n := 4) (v := 1) d_Rf_has_3 rfl (by decide) ?_
  refine Rn.iand (n := 5) d_Rf_has_4 rfl ?_
  refine Rn.iconst (n := 6) (v := 1) d_Rf_has_5 rfl (by decide) ?_
  refine Rn.icmp_ne (n := 9) (t := 13) d_Rf_has_6 rfl (by decide) (fun cc => ?_) (fun cc => ?_)
  · have k := k.1 cc
    refine Rn.iconst (n := 14) (v := 0) d_Rf_has_13 rfl (by decide) ?_
    exact Rn.iret d_Rf_has_14 rfl rfl k
  · have k := k.2 cc
    refine Rn.iconst (n := 10) (v := 1) d_Rf_has_9 rfl (by decide) ?_
    refine Rn.goto (n := 14) d_Rf_has_10 (by decide) ?_
    exact Rn.iret d_Rf_has_14 rfl rfl k
theorem e_Rf_has {X : XS} (a0 : Int32) (a1 : Int32) (h : Hp) (Q : Option AV → Hp → Prop) (k : Rn X m_Rf_has 0 [some (vI a0), some (vI a1)] [] h Q) : Ev X m_Rf_has [vI a0, vI a1] h Q := Ev.intro (plainFor_of_name (by decide +kernel)) (Nat.le_of_ble_eq_true rfl) (ls := [some (vI a0), some (vI a1)]) rfl k
theorem d_Rf_bits_0 : decode m_Rf_bits.2.1 0 = .ok (.iconst 0, 1) := by decide +kernel
theorem d_Rf_bits_1 : decode m_Rf_bits.2.1 1 = .ok (.istore_n 1, 1) := by decide +kernel
theorem d_Rf_bits_2 : decode m_Rf_bits.2.1 2 = .ok (.iconst 0, 1) := by decide +kernel
theorem d_Rf_bits_3 : decode m_Rf_bits.2.1 3 = .ok (.istore_n 2, 1) := by decide +kernel
theorem d_Rf_bits_4 : decode m_Rf_bits.2.1 4 = .ok (.iload_n 2, 1) := by decide +kernel
theorem d_Rf_bits_5 : decode m_Rf_bits.2.1 5 = .ok (.bipush 6, 2) := by decide +kernel
theorem d_Rf_bits_7 : decode m_Rf_bits.2.1 7 = .ok (.if_icmp .ge 17, 3) := by decide +kernel
theorem d_Rf_bits_10 : decode m_Rf_bits.2.1 10 = .ok (.iload_n 1, 1) := by decide +kernel
theorem d_Rf_bits_11 : decode m_Rf_bits.2.1 11 = .ok (.iload_n 0, 1) := by decide +kernel
theorem d_Rf_bits_12 : decode m_Rf_bits.2.1 12 = .ok (.iload_n 2, 1) := by decide +kernel
theorem d_Rf_bits_13 : decode m_Rf_bits.2.1 13 = .ok (.ishr, 1) := by decide +kernel
theorem d_Rf_bits_14 : decode m_Rf_bits.2.1 14 = .ok (.iconst 1, 1) := by decide +kernel
theorem d_Rf_bits_15 : decode m_Rf_bits.2.1 15 = .ok (.iand, 1) := by decide +kernel
theorem d_Rf_bits_16 : decode m_Rf_bits.2.1 16 = .ok (.iadd, 1) := by decide +kernel
theorem d_Rf_bits_17 : decode m_Rf_bits.2.1 17 = .ok (.istore_n 1, 1) := by decide +kernel
theorem d_Rf_bits_18 : decode m_Rf_bits.2.1 18 = .ok (.iinc 2 1, 3) := by decide +kernel
theorem d_Rf_bits_21 : decode m_Rf_bits.2.1 21 = .ok (.goto (-17), 3) := by decide +kernel
theorem d_Rf_bits_24 : decode m_Rf_bits.2.1 24 = .ok (.iload_n 1, 1) := by decide +kernel
theorem d_Rf_bits_25 : decode m_Rf_bits.2.1 25 = .ok (.ireturn, 1) := by decide +kernel
theorem g_Rf_bits_0 {X : XS} (a0 : Int32) (h : Hp) (Q : Option AV → Hp → Prop)  (k : Rn X m_Rf_bits 4 [some (vI a0), some (vI 0), some (vI 0)] [] h Q) : Rn X m_Rf_bits 0 [some (vI a0), none, none] [] h Q := by
  refine Rn.iconst (n := 1) (v := 0) d_Rf_bits_0 rfl (by decide) ?_
  refine Rn.istore_n (n := 2) (i := 1) (ls2 := [some (vI a0), some (vI 0), none]) d_Rf_bits_1 rfl rfl (Nat.le_of_ble_eq_true rfl) rfl ?_
  refine Rn.iconst (n := 3) (v := 0) d_Rf_bits_2 rfl (by decide) ?_
  refine Rn.istore_n (n := 4) (i := 2) (ls2 := [some (vI a0), some (vI 0), some (vI 0)]) d_Rf_bits_3 rfl rfl (Nat.le_of_ble_eq_true rfl) rfl ?_
  exact k
theorem g_Rf_bits_4 {X : XS} (a0 : Int32) (a1 : Int32) (a2 : Int32) (h : Hp) (Q : Option AV → Hp → Prop)  (k : ((6 ≤ a2 → Q (some (vI a1)) h) ∧ (¬ 6 ≤ a2 → Rn X m_Rf_bits 4 [some (vI a0), some (vI (a1 + ((iShr a0 a2) &&& 1))), some (vI (a2 + 1))] [] h Q))) : Rn X m_Rf_bits 4 [some (vI a0), some (vI a1), some (vI a2)] [] h Q := by
  refine Rn.iload_n (n := 5) (i := 2) d_Rf_bits_4 rfl rfl rfl ?_
  refine Rn.bipush (n := 7) (v := 6) d_Rf_bits_5 rfl (by decide) ?_
  refine Rn.icmp_ge (n := 10) (t := 24) d_Rf_bits_7 rfl (by decide) (fun cc => ?_) (fun cc => ?_)
  · have k := k.1 cc
    refine Rn.iload_n (n := 25) (i := 1) d_Rf_bits_24 rfl rfl rfl ?_
    exact Rn.iret d_Rf_bits_25 rfl rfl k
  · have k := k.2 cc
    refine Rn.iload_n (n := 11) (i := 1) d_Rf_bits_10 rfl rfl rfl ?_
    refine Rn.iload_n (n := 12) (i := 0) d_Rf_bits_11 rfl rfl rfl ?_
    refine Rn.iload_n (n := 13) (i := 2) d_Rf_bits_12 rfl rfl rfl ?_
    refine Rn.ishr (n := 14) d_Rf_bits_13 rfl ?_
    refine Rn.iconst (n := 15) (v := 1) d_Rf_bits_14 rfl (by decide) ?_
    refine Rn.iand (n := 16) d_Rf_bits_15 rfl ?_
    refine Rn.iadd (n := 17) d_Rf_bits_16 rfl ?_
    refine Rn.istore_n (n := 18) (i := 1) (ls2 := [some (vI a0), some (vI (a1 + ((iShr a0 a2) &&& 1))), some (vI a2)]) d_Rf_bits_17 rfl rfl (Nat.le_of_ble_eq_true rfl) rfl ?_
    refine Rn.iinc (n := 21) (i := 2) (v := a2 + 1) (ls2 := [some (vI a0), some (vI (a1 + ((iShr a0 a2) &&& 1))), some (vI (a2 + 1))]) d_Rf_bits_18 rfl rfl rfl (Nat.le_of_ble_eq_true rfl) rfl ?_
    refine Rn.goto (n := 4) d_Rf_bits_21 (by decide) ?_
    exact k
theorem e_Rf_bits {X : XS} (a0 : Int32) (h : Hp) (Q : Option AV → Hp → Prop) (k : Rn X m_Rf_bits 0 [some (vI a0), none, none] [] h Q) : Ev X m_Rf_bits [vI a0] h Q := Ev.intro (plainFor_of_name (by decide +kernel)) (Nat.le_of_ble_eq_true rfl) (ls := [some (vI a0), none, none]) rfl k
theorem d_Rf_off_0 : decode m_Rf_off.2.1 0 = .ok (.iload_n 0, 1) := by decide +kernel
theorem d_Rf_off_1 : decode m_Rf_off.2.1 1 = .ok (.iload_n 1, 1) := by decide +kernel
theorem d_Rf_off_2 : decode m_Rf_off.2.1 2 = .ok (.if_icmp .le 9, 3) := by decide +kernel
theorem d_Rf_off_5 : decode m_Rf_off.2.1 5 = .ok (.iload_n 0, 1) := by decide +kernel
theorem d_Rf_off_6 : decode m_Rf_off.2.1 6 = .ok (.iload_n 1, 1) := by decide +kernel
theorem d_Rf_off_7 : decode m_Rf_off.2.1 7 = .ok (.isub, 1) := by decide +kernel
theorem d_Rf_off_8 : decode m_Rf_off.2.1 8 = .ok (.goto 6, 3) := by decide +kernel
theorem d_Rf_off_11 : decode m_Rf_off.2.1 11 = .ok (.iload_n 1, 1) := by decide +kernel
theorem d_Rf_off_12 : decode m_Rf_off.2.1 12 = .ok (.iload_n 0, 1) := by decide +kernel
theorem d_Rf_off_13 : decode m_Rf_off.2.1 13 = .ok (.isub, 1) := by decide +kernel
theorem d_Rf_off_14 : decode m_Rf_off.2.1 14 = .ok (.ireturn, 1) := by decide +kernel
theorem g_Rf_off_0 {X : XS} (a0 : Int32) (a1 : Int32) (h : Hp) (Q : Option AV → Hp → Prop)  (k : ((a0 ≤ a1 → Q (some (vI (a1 - a0))) h) ∧ (¬ a0 ≤ a1 → Q (some (vI (a0 - a1))) h))) : Rn X m_Rf_off 0 [some (vI a0), some (vI a1)] [] h Q := by
  refine Rn.iload_n (n := 1) (i := 0) d_Rf_off_0 rfl rfl rfl ?_
  refine Rn.iload_n (n := 2) (i := 1) d_Rf_off_1 rfl rfl rfl ?_
  refine Rn.icmp_le (n := 5) (t := 11) d_Rf_off_2 rfl (by decide) (fun cc => ?_) (fun cc => ?_)
  · have k := k.1 cc
    refine Rn.iload_n (n := 12) (i := 1) d_Rf_off_11 rfl rfl rfl ?_
    refine Rn.iload_n (n := 13) (i := 0) d_Rf_off_12 rfl rfl rfl ?_
    refine Rn.isub (n := 14) d_Rf_off_13 rfl ?_
    exact Rn.iret d_Rf_off_14 rfl rfl k
  · have k := k.2 cc
    refine Rn.iload_n (n := 6) (i := 0) d_Rf_off_5 rfl rfl rfl ?_
    refine Rn.iload_n (n := 7) (i := 1) d_Rf_off_6 rfl rfl rfl ?_
    refine Rn.isub (n := 8) d_Rf_off_7 rfl ?_
    refine Rn.goto (n := 14) d_Rf_off_8 (by decide) ?_
    exact Rn.iret d_Rf_off_14 rfl rfl k
theorem e_Rf_off {X : XS} (a0 : Int32) (a1 : Int32) (h : Hp) (Q : Option AV → Hp → Prop) (k : Rn X m_Rf_off 0 [some (vI a0), some (vI a1)] [] h Q) : Ev X m_Rf_off [vI a0, vI a1] h Q := Ev.intro (plainFor_of_name (by decide +kernel)) (Nat.le_of_ble_eq_true rfl) (ls := [some (vI a0), some (vI a1)]) rfl k
theorem d_Rf_isWalker_0 : decode m_Rf_isWalker.2.1 0 = .ok (.iload_n 1, 1) := by decide +kernel
theorem d_Rf_isWalker_1 : decode m_Rf_isWalker.2.1 1 = .ok (.iconst 0, 1) := by decide +kernel
theorem d_Rf_isWalker_2 : decode m_Rf_isWalker.2.1 2 = .ok (.iconst 5, 1) := by decide +kernel
theorem d_Rf_isWalker_3 : decode m_Rf_isWalker.2.1 3 = .ok (.invokestatic 66, 3) := by decide +kernel
theorem d_Rf_isWalker_6 : decode m_Rf_isWalker.2.1 6 = .ok (.ifCond .eq 18, 3) := by decide +kernel
theorem d_Rf_isWalker_9 : decode m_Rf_isWalker.2.1 9 = .ok (.aload_n 0, 1) := by decide +kernel
theorem d_Rf_isWalker_10 : decode m_Rf_isWalker.2.1 10 = .ok (.getfield 70, 3) := by decide +kernel
theorem d_Rf_isWalker_13 : decode m_Rf_isWalker.2.1 13 = .ok (.iload_n 1, 1) := by decide +kernel
theorem d_Rf_isWalker_14 : decode m_Rf_isWalker.2.1 14 = .ok (.invokestatic 73, 3) := by decide +kernel
theorem d_Rf_isWalker_17 : decode m_Rf_isWalker.2.1 17 = .ok (.ifCond .eq 7, 3) := by decide +kernel
theorem d_Rf_isWalker_20 : decode m_Rf_isWalker.2.1 20 = .ok (.iconst 1, 1) := by decide +kernel
theorem d_Rf_isWalker_21 : decode m_Rf_isWalker.2.1 21 = .ok (.goto 4, 3) := by decide +kernel
theorem d_Rf_isWalker_24 : decode m_Rf_isWalker.2.1 24 = .ok (.iconst 0, 1) := by decide +kernel
theorem d_Rf_isWalker_25 : decode m_Rf_isWalker.2.1 25 = .ok (.ireturn, 1) := by decide +kernel
theorem g_Rf_isWalker_0 {X : XS} (a1 : Int32) (h : Hp) (Q : Option AV → Hp → Prop)  (k : (∃ Q'4, EvI X m_Rf_in [vI a1, vI 0, vI 5] h Q'4 ∧ ∀ (r5 : Int32) (h3 : Hp), Q'4 r5 h3 → ((r5 = 0 → Q (some (vI 0)) h3) ∧ (¬ r5 = 0 → (∃ Q'9, EvI X m_Rf_has [vI (h3.1 [1] 3), vI a1] h3 Q'9 ∧ ∀ (r10 : Int32) (h8 : Hp), Q'9 r10 h8 → ((r10 = 0 → Q (some (vI 0)) h8) ∧ (¬ r10 = 0 → Q (some (vI 1)) h8))))))) : Rn X m_Rf_isWalker 0 [some (vR [1]), some (vI a1)] [] h Q := by
  refine Rn.iload_n (n := 1) (i := 1) d_Rf_isWalker_0 rfl rfl rfl ?_
  refine Rn.iconst (n := 2) (v := 0) d_Rf_isWalker_1 rfl (by decide) ?_
  refine Rn.iconst (n := 3) (v := 5) d_Rf_isWalker_2 rfl (by decide) ?_
  obtain ⟨Q'4, ev1, k⟩ := k
  refine Rn.callS (n := 6) (av := [vI a1, vI 0, vI 5]) d_Rf_isWalker_3 rfl ml_Rf_isWalker_66 ms_Rf_in rfl rfl (Nat.le_of_ble_eq_true rfl) ev1 (fun v h3 hq => ?_)
  obtain ⟨r5, rfl, hq⟩ := hq
  have k := k r5 h3 hq
  show Rn X m_Rf_isWalker 6 [some (vR [1]), some (vI a1)] [vI r5] h3 Q
  refine Rn.if_eq (n := 9) (t := 24) d_Rf_isWalker_6 rfl (by decide) (fun cc => ?_) (fun cc => ?_)
  · have k := k.1 cc
    refine Rn.iconst (n := 25) (v := 0) d_Rf_isWalker_24 rfl (by decide) ?_
    exact Rn.iret d_Rf_isWalker_25 rfl rfl k
  · have k := k.2 cc
    refine Rn.aload_n (n := 10) (i := 0) d_Rf_isWalker_9 rfl rfl rfl ?_
    refine Rn.getf (n := 13) (v := vI (h3.1 [1] 3)) d_Rf_isWalker_10 rfl fl_Rf_70 Lv_1 rfl ?_
    refine Rn.iload_n (n := 14) (i := 1) d_Rf_isWalker_13 rfl rfl rfl ?_
    obtain ⟨Q'9, ev6, k⟩ := k
    refine Rn.callS (n := 17) (av := [vI (h3.1 [1] 3), vI a1]) d_Rf_isWalker_14 rfl ml_Rf_isWalker_73 ms_Rf_has rfl rfl (Nat.le_of_ble_eq_true rfl) ev6 (fun v h8 hq => ?_)
    obtain ⟨r10, rfl, hq⟩ := hq
    have k := k r10 h8 hq
    show Rn X m_Rf_isWalker 17 [some (vR [1]), some (vI a1)] [vI r10] h8 Q
    refine Rn.if_eq (n := 20) (t := 24) d_Rf_isWalker_17 rfl (by decide) (fun cc => ?_) (fun cc => ?_)
    · have k := k.1 cc
      refine Rn.iconst (n := 25) (v := 0) d_Rf_isWalker_24 rfl (by decide) ?_
      exact Rn.iret d_Rf_isWalker_25 rfl rfl k
    · have k := k.2 cc
      refine Rn.iconst (n := 21) (v := 1) d_Rf_isWalker_20 rfl (by decide) ?_
      refine Rn.goto (n := 25) d_Rf_isWalker_21 (by decide) ?_
      exact Rn.iret d_Rf_isWalker_25 rfl rfl k
theorem e_Rf_isWalker {X : XS} (a1 : Int32) (h : Hp) (Q : Option AV → Hp → Prop) (k : Rn X m_Rf_isWalker 0 [some (vR [1]), some (vI a1)] [] h Q) : Ev X m_Rf_isWalker [vR [1], vI a1] h Q := Ev.intro (plainFor_of_name (by decide +kernel)) (Nat.le_of_ble_eq_true rfl) (ls := [some (vR [1]), some (vI a1)]) rfl k
theorem d_Rf_write_0 : decode m_Rf_write.2.1 0 = .ok (.iload_n 3, 1) := by decide +kernel
theorem d_Rf_write_1 : decode m_Rf_write.2.1 1 = .ok (.iconst 1, 1) := by decide +kernel
theorem d_Rf_write_2 : decode m_Rf_write.2.1 2 = .ok (.bipush 8, 2) := by decide +kernel
theorem d_Rf_write_4 : decode m_Rf_write.2.1 4 = .ok (.invokestatic 66, 3) := by decide +kernel
theorem d_Rf_write_7 : decode m_Rf_write.2.1 7 = .ok (.ifCond .ne 6, 3) := by decide +kernel
theorem d_Rf_write_10 : decode m_Rf_write.2.1 10 = .ok (.bipush (-3), 2) := by decide +kernel
theorem d_Rf_write_12 : decode m_Rf_write.2.1 12 = .ok (.ireturn, 1) := by decide +kernel
theorem d_Rf_write_13 : decode m_Rf_write.2.1 13 = .ok (.aload_n 0, 1) := by decide +kernel
theorem d_Rf_write_14 : decode m_Rf_write.2.1 14 = .ok (.getfield 77, 3) := by decide +kernel
theorem d_Rf_write_17 : decode m_Rf_write.2.1 17 = .ok (.iload_n 3, 1) := by decide +kernel
theorem d_Rf_write_18 : decode m_Rf_write.2.1 18 = .ok (.iadd, 1) := by decide +kernel
theorem d_Rf_write_19 : decode m_Rf_write.2.1 19 = .ok (.sipush 200, 3) := by decide +kernel
theorem d_Rf_write_22 : decode m_Rf_write.2.1 22 = .ok (.if_icmp .le 6, 3) := by decide +kernel
theorem d_Rf_write_25 : decode m_Rf_write.2.1 25 = .ok (.bipush (-5), 2) := by decide +kernel
theorem d_Rf_write_27 : decode m_Rf_write.2.1 27 = .ok (.ireturn, 1) := by decide +kernel
theorem d_Rf_write_28 : decode m_Rf_write.2.1 28 = .ok (.iconst 0, 1) := by decide +kernel
theorem d_Rf_write_29 : decode m_Rf_write.2.1 29 = .ok (.istore 4, 2) := by decide +kernel
theorem d_Rf_write_31 : decode m_Rf_write.2.1 31 = .ok (.iload 4, 2) := by decide +kernel
theorem d_Rf_write_33 : decode m_Rf_write.2.1 33 = .ok (.iload_n 3, 1) := by decide +kernel
theorem d_Rf_write_34 : decode m_Rf_write.2.1 34 = .ok (.if_icmp .ge 33, 3) := by decide +kernel
theorem d_Rf_write_37 : decode m_Rf_write.2.1 37 = .ok (.aload_n 0, 1) := by decide +kernel
theorem d_Rf_write_38 : decode m_Rf_write.2.1 38 = .ok (.getfield 23, 3) := by decide +kernel
theorem d_Rf_write_41 : decode m_Rf_write.2.1 41 = .ok (.aload_n 0, 1) := by decide +kernel
theorem d_Rf_write_42 : decode m_Rf_write.2.1 42 = .ok (.getfield 77, 3) := by decide +kernel
theorem d_Rf_write_45 : decode m_Rf_write.2.1 45 = .ok (.iload 4, 2) := by decide +kernel
theorem d_Rf_write_47 : decode m_Rf_write.2.1 47 = .ok (.iadd, 1) := by decide +kernel
theorem d_Rf_write_48 : decode m_Rf_write.2.1 48 = .ok (.lload_n 1, 1) := by decide +kernel
theorem d_Rf_write_49 : decode m_Rf_write.2.1 49 = .ok (.bipush 8, 2) := by decide +kernel
theorem d_Rf_write_51 : decode m_Rf_write.2.1 51 = .ok (.iload 4, 2) := by decide +kernel
theorem d_Rf_write_53 : decode m_Rf_write.2.1 53 = .ok (.imul, 1) := by decide +kernel
theorem d_Rf_write_54 : decode m_Rf_write.2.1 54 = .ok (.lshr, 1) := by decide +kernel
theorem d_Rf_write_55 : decode m_Rf_write.2.1 55 = .ok (.ldc2_w 80, 3) := by decide +kernel
theorem d_Rf_write_58 : decode m_Rf_write.2.1 58 = .ok (.land, 1) := by decide +kernel
theorem d_Rf_write_59 : decode m_Rf_write.2.1 59 = .ok (.l2i, 1) := by decide +kernel
theorem d_Rf_write_60 : decode m_Rf_write.2.1 60 = .ok (.iastore, 1) := by decide +kernel
theorem d_Rf_write_61 : decode m_Rf_write.2.1 61 = .ok (.iinc 4 1, 3) := by decide +kernel
theorem d_Rf_write_64 : decode m_Rf_write.2.1 64 = .ok (.goto (-33), 3) := by decide +kernel
theorem d_Rf_write_67 : decode m_Rf_write.2.1 67 = .ok (.aload_n 0, 1) := by decide +kernel
theorem d_Rf_write_68 : decode m_Rf_write.2.1 68 = .ok (.dup, 1) := by decide +kernel
theorem d_Rf_write_69 : decode m_Rf_write.2.1 69 = .ok (.getfield 77, 3) := by decide +kernel
theorem d_Rf_write_72 : decode m_Rf_write.2.1 72 = .ok (.iload_n 3, 1) := by decide +kernel
theorem d_Rf_write_73 : decode m_Rf_write.2.1 73 = .ok (.iadd, 1) := by decide +kernel
theorem d_Rf_write_74 : decode m_Rf_write.2.1 74 = .ok (.putfield 77, 3) := by decide +kernel
theorem d_Rf_write_77 : decode m_Rf_write.2.1 77 = .ok (.aload_n 0, 1) := by decide +kernel
theorem d_Rf_write_78 : decode m_Rf_write.2.1 78 = .ok (.getfield 77, 3) := by decide +kernel
theorem d_Rf_write_81 : decode m_Rf_write.2.1 81 = .ok (.ireturn, 1) := by decide +kernel
theorem g_Rf_write_0 {X : XS} (a1 : Int64) (a3 : Int32) (h : Hp) (Q : Option AV → Hp → Prop)  (k : (∃ Q'4, EvI X m_Rf_in [vI a3, vI 1, vI 8] h Q'4 ∧ ∀ (r5 : Int32) (h3 : Hp), Q'4 r5 h3 → ((¬ r5 = 0 → ((((h3.1 [1] 6) + a3) ≤ 200 → Rn X m_Rf_write 31 [some (vR [1]), some (vL a1), none, some (vI a3), some (vI 0)] [] h3 Q) ∧ (¬ ((h3.1 [1] 6) + a3) ≤ 200 → Q (some (vI (-5))) h3))) ∧ (r5 = 0 → Q (some (vI (-3))) h3)))) : Rn X m_Rf_write 0 [some (vR [1]), some (vL a1), none, some (vI a3), none] [] h Q := by
  refine Rn.iload_n (n := 1) (i := 3) d_Rf_write_0 rfl rfl rfl ?_
  refine Rn.iconst (n := 2) (v := 1) d_Rf_write_1 rfl (by decide) ?_
  refine Rn.bipush (n := 4) (v := 8) d_Rf_write_2 rfl (by decide) ?_
  obtain ⟨Q'4, ev1, k⟩ := k
  refine Rn.callS (n := 7) (av := [vI a3, vI 1, vI 8]) d_Rf_write_4 rfl ml_Rf_write_66 ms_Rf_in rfl rfl (Nat.le_of_ble_eq_true rfl) ev1 (fun v h3 hq => ?_)
  obtain ⟨r5, rfl, hq⟩ := hq
  have k := k r5 h3 hq
  show Rn X m_Rf_write 7 [some (vR [1]), some (vL a1), none, some (vI a3), none] [vI r5] h3 Q
  refine Rn.if_ne (n := 10) (t := 13) d_Rf_write_7 rfl (by decide) (fun cc => ?_) (fun cc => ?_)
  · have k := k.1 cc
    refine Rn.aload_n (n := 14) (i := 0) d_Rf_write_13 rfl rfl rfl ?_
    refine Rn.getf (n := 17) (v := vI (h3.1 [1] 6)) d_Rf_write_14 rfl fl_Rf_77 Lv_1 rfl ?_
    refine Rn.iload_n (n := 18) (i := 3) d_Rf_write_17 rfl rfl rfl ?_
    refine Rn.iadd (n := 19) d_Rf_write_18 rfl ?_
    refine Rn.sipush (n := 22) (v := 200) d_Rf_write_19 rfl (by decide) ?_
    refine Rn.icmp_le (n := 25) (t := 28) d_Rf_write_22 rfl (by decide) (fun cc => ?_) (fun cc => ?_)
    · have k := k.1 cc
      refine Rn.iconst (n := 29) (v := 0) d_Rf_write_28 rfl (by decide) ?_
      refine Rn.istore (n := 31) (i := 4) (ls2 := [some (vR [1]), some (vL a1), none, some (vI a3), some (vI 0)]) d_Rf_write_29 rfl (Nat.le_of_ble_eq_true rfl) rfl ?_
      exact k
    · have k := k.2 cc
      refine Rn.bipush (n := 27) (v := (-5)) d_Rf_write_25 rfl (by decide) ?_
      exact Rn.iret d_Rf_write_27 rfl rfl k
  · have k := k.2 cc
    refine Rn.bipush (n := 12) (v := (-3)) d_Rf_write_10 rfl (by decide) ?_
    exact Rn.iret d_Rf_write_12 rfl rfl k
theorem g_Rf_write_31 {X : XS} (a1 : Int64) (a3 : Int32) (a4 : Int32) (h : Hp) (Q : Option AV → Hp → Prop)  (k : ((a3 ≤ a4 → Q (some (vI ((hsI h [1] 6 ((h.1 [1] 6) + a3)).1 [1] 6))) (hsI h [1] 6 ((h.1 [1] 6) + a3))) ∧ (¬ a3 ≤ a4 → (vp_in ((h.1 [1] 6) + a4) 200 ∧ Rn X m_Rf_write 31 [some (vR [1]), some (vL a1), none, some (vI a3), some (vI (a4 + 1))] [] (hsI h [7, 1] (((h.1 [1] 6) + a4).toNatClampNeg) (((lShr a1 (8 * a4)) &&& 255).toInt32)) Q)))) : Rn X m_Rf_write 31 [some (vR [1]), some (vL a1), none, some (vI a3), some (vI a4)] [] h Q := by
  refine Rn.iload (n := 33) (i := 4) d_Rf_write_31 rfl rfl ?_
  refine Rn.iload_n (n := 34) (i := 3) d_Rf_write_33 rfl rfl rfl ?_
  refine Rn.icmp_ge (n := 37) (t := 67) d_Rf_write_34 rfl (by decide) (fun cc => ?_) (fun cc => ?_)
  · have k := k.1 cc
    refine Rn.aload_n (n := 68) (i := 0) d_Rf_write_67 rfl rfl rfl ?_
    refine Rn.dup (n := 69) d_Rf_write_68 rfl rfl ?_
    refine Rn.getf (n := 72) (v := vI (h.1 [1] 6)) d_Rf_write_69 rfl fl_Rf_77 Lv_1 rfl ?_
    refine Rn.iload_n (n := 73) (i := 3) d_Rf_write_72 rfl rfl rfl ?_
    refine Rn.iadd (n := 74) d_Rf_write_73 rfl ?_
    refine Rn.putI (n := 77) d_Rf_write_74 rfl fl_Rf_77 pl_Rf_6 Lv_1 rfl ?_
    refine Rn.aload_n (n := 78) (i := 0) d_Rf_write_77 rfl rfl rfl ?_
    refine Rn.getf (n := 81) (v := vI ((hsI h [1] 6 ((h.1 [1] 6) + a3)).1 [1] 6)) d_Rf_write_78 rfl fl_Rf_77 Lv_1 rfl ?_
    exact Rn.iret d_Rf_write_81 rfl rfl k
  · have k := k.2 cc
    refine Rn.aload_n (n := 38) (i := 0) d_Rf_write_37 rfl rfl rfl ?_
    refine Rn.getf (n := 41) (v := vR [7, 1]) d_Rf_write_38 rfl fl_Rf_23 Lv_1 rfl ?_
    refine Rn.aload_n (n := 42) (i := 0) d_Rf_write_41 rfl rfl rfl ?_
    refine Rn.getf (n := 45) (v := vI (h.1 [1] 6)) d_Rf_write_42 rfl fl_Rf_77 Lv_1 rfl ?_
    refine Rn.iload (n := 47) (i := 4) d_Rf_write_45 rfl rfl ?_
    refine Rn.iadd (n := 48) d_Rf_write_47 rfl ?_
    refine Rn.lload_n (n := 49) (i := 1) d_Rf_write_48 rfl rfl rfl ?_
    refine Rn.bipush (n := 51) (v := 8) d_Rf_write_49 rfl (by decide) ?_
    refine Rn.iload (n := 53) (i := 4) d_Rf_write_51 rfl rfl ?_
    refine Rn.imul (n := 54) d_Rf_write_53 rfl ?_
    refine Rn.lshr (n := 55) d_Rf_write_54 rfl ?_
    refine Rn.ldc2 (n := 58) (v := 255) d_Rf_write_55 rfl cl_Rf_80 ?_
    refine Rn.land (n := 59) d_Rf_write_58 rfl ?_
    refine Rn.l2i (n := 60) d_Rf_write_59 rfl ?_
    obtain ⟨b1, k⟩ := k
    refine Rn.iast (n := 61) d_Rf_write_60 rfl Lv_7_1 b1 ?_
    refine Rn.iinc (n := 64) (i := 4) (v := a4 + 1) (ls2 := [some (vR [1]), some (vL a1), none, some (vI a3), some (vI (a4 + 1))]) d_Rf_write_61 rfl rfl rfl (Nat.le_of_ble_eq_true rfl) rfl ?_
    refine Rn.goto (n := 31) d_Rf_write_64 (by decide) ?_
    exact k
theorem e_Rf_write {X : XS} (a1 : Int64) (a3 : Int32) (h : Hp) (Q : Option AV → Hp → Prop) (k : Rn X m_Rf_write 0 [some (vR [1]), some (vL a1), none, some (vI a3), none] [] h Q) : Ev X m_Rf_write [vR [1], vL a1, vI a3] h Q := Ev.intro (plainFor_of_name (by decide +kernel)) (Nat.le_of_ble_eq_true rfl) (ls := [some (vR [1]), some (vL a1), none, some (vI a3), none]) rfl k
theorem d_Rf_erase_0 : decode m_Rf_erase.2.1 0 = .ok (.aload_n 0, 1) := by decide +kernel
theorem d_Rf_erase_1 : decode m_Rf_erase.2.1 1 = .ok (.getfield 77, 3) := by decide +kernel
theorem d_Rf_erase_4 : decode m_Rf_erase.2.1 4 = .ok (.istore_n 1, 1) := by decide +kernel
theorem d_Rf_erase_5 : decode m_Rf_erase.2.1 5 = .ok (.aload_n 0, 1) := by decide +kernel
theorem d_Rf_erase_6 : decode m_Rf_erase.2.1 6 = .ok (.iconst 0, 1) := by decide +kernel
theorem d_Rf_erase_7 : decode m_Rf_erase.2.1 7 = .ok (.putfield 77, 3) := by decide +kernel
theorem d_Rf_erase_10 : decode m_Rf_erase.2.1 10 = .ok (.iload_n 1, 1) := by decide +kernel
theorem d_Rf_erase_11 : decode m_Rf_erase.2.1 11 = .ok (.ireturn, 1) := by decide +kernel
theorem g_Rf_erase_0 {X : XS}  (h : Hp) (Q : Option AV → Hp → Prop)  (k : Q (some (vI (h.1 [1] 6))) (hsI h [1] 6 0)) : Rn X m_Rf_erase 0 [some (vR [1]), none] [] h Q := by
  refine Rn.aload_n (n := 1) (i := 0) d_Rf_erase_0 rfl rfl rfl ?_
  refine Rn.getf (n := 4) (v := vI (h.1 [1] 6)) d_Rf_erase_1 rfl fl_Rf_77 Lv_1 rfl ?_
  refine Rn.istore_n (n := 5) (i := 1) (ls2 := [some (vR [1]), some (vI (h.1 [1] 6))]) d_Rf_erase_4 rfl rfl (Nat.le_of_ble_eq_true rfl) rfl ?_
  refine Rn.aload_n (n := 6) (i := 0) d_Rf_erase_5 rfl rfl rfl ?_
  refine Rn.iconst (n := 7) (v := 0) d_Rf_erase_6 rfl (by decide) ?_
  refine Rn.putI (n := 10) d_Rf_erase_7 rfl fl_Rf_77 pl_Rf_6 Lv_1 rfl ?_
  refine Rn.iload_n (n := 11) (i := 1) d_Rf_erase_10 rfl rfl rfl ?_
  exact Rn.iret d_Rf_erase_11 rfl rfl k
theorem e_Rf_erase {X : XS}  (h : Hp) (Q : Option AV → Hp → Prop) (k : Rn X m_Rf_erase 0 [some (vR [1]), none] [] h Q) : Ev X m_Rf_erase [vR [1]] h Q := Ev.intro (plainFor_of_name (by decide +kernel)) (Nat.le_of_ble_eq_true rfl) (ls := [some (vR [1]), none]) rfl k
theorem d_Rf_nextToken_0 : decode m_Rf_nextToken.2.1 0 = .ok (.aload_n 0, 1) := by decide +kernel
theorem d_Rf_nextToken_1 : decode m_Rf_nextToken.2.1 1 = .ok (.getfield 82, 3) := by decide +kernel
theorem d_Rf_nextToken_4 : decode m_Rf_nextToken.2.1 4 = .ok (.aload_n 0, 1) := by decide +kernel
theorem d_Rf_nextToken_5 : decode m_Rf_nextToken.2.1 5 = .ok (.getfield 77, 3) := by decide +kernel
theorem d_Rf_nextToken_8 : decode m_Rf_nextToken.2.1 8 = .ok (.if_icmp .ge 30, 3) := by decide +kernel
theorem d_Rf_nextToken_11 : decode m_Rf_nextToken.2.1 11 = .ok (.aload_n 0, 1) := by decide +kernel
theorem d_Rf_nextToken_12 : decode m_Rf_nextToken.2.1 12 = .ok (.getfield 23, 3) := by decide +kernel
theorem d_Rf_nextToken_15 : decode m_Rf_nextToken.2.1 15 = .ok (.aload_n 0, 1) := by decide +kernel
theorem d_Rf_nextToken_16 : decode m_Rf_nextToken.2.1 16 = .ok (.getfield 82, 3) := by decide +kernel
theorem d_Rf_nextToken_19 : decode m_Rf_nextToken.2.1 19 = .ok (.iaload, 1) := by decide +kernel
theorem d_Rf_nextToken_20 : decode m_Rf_nextToken.2.1 20 = .ok (.bipush 32, 2) := by decide +kernel
theorem d_Rf_nextToken_22 : decode m_Rf_nextToken.2.1 22 = .ok (.if_icmp .ne 16, 3) := by decide +kernel
theorem d_Rf_nextToken_25 : decode m_Rf_nextToken.2.1 25 = .ok (.aload_n 0, 1) := by decide +kernel
theorem d_Rf_nextToken_26 : decode m_Rf_nextToken.2.1 26 = .ok (.dup, 1) := by decide +kernel
theorem d_Rf_nextToken_27 : decode m_Rf_nextToken.2.1 27 = .ok (.getfield 82, 3) := by decide +kernel
theorem d_Rf_nextToken_30 : decode m_Rf_nextToken.2.1 30 = .ok (.iconst 1, 1) := by decide +kernel
theorem d_Rf_nextToken_31 : decode m_Rf_nextToken.2.1 31 = .ok (.iadd, 1) := by decide +kernel
theorem d_Rf_nextToken_32 : decode m_Rf_nextToken.2.1 32 = .ok (.putfield 82, 3) := by decide +kernel
theorem d_Rf_nextToken_35 : decode m_Rf_nextToken.2.1 35 = .ok (.goto (-35), 3) := by decide +kernel
theorem d_Rf_nextToken_38 : decode m_Rf_nextToken.2.1 38 = .ok (.aload_n 0, 1) := by decide +kernel
theorem d_Rf_nextToken_39 : decode m_Rf_nextToken.2.1 39 = .ok (.aload_n 0, 1) := by decide +kernel
theorem d_Rf_nextToken_40 : decode m_Rf_nextToken.2.1 40 = .ok (.getfield 82, 3) := by decide +kernel
theorem d_Rf_nextToken_43 : decode m_Rf_nextToken.2.1 43 = .ok (.putfield 85, 3) := by decide +kernel
theorem d_Rf_nextToken_46 : decode m_Rf_nextToken.2.1 46 = .ok (.aload_n 0, 1) := by decide +kernel
theorem d_Rf_nextToken_47 : decode m_Rf_nextToken.2.1 47 = .ok (.iconst 0, 1) := by decide +kernel
theorem d_Rf_nextToken_48 : decode m_Rf_nextToken.2.1 48 = .ok (.putfield 88, 3) := by decide +kernel
theorem d_Rf_nextToken_51 : decode m_Rf_nextToken.2.1 51 = .ok (.aload_n 0, 1) := by decide +kernel
theorem d_Rf_nextToken_52 : decode m_Rf_nextToken.2.1 52 = .ok (.iconst 0, 1) := by decide +kernel
theorem d_Rf_nextToken_53 : decode m_Rf_nextToken.2.1 53 = .ok (.putfield 91, 3) := by decide +kernel
theorem d_Rf_nextToken_56 : decode m_Rf_nextToken.2.1 56 = .ok (.aload_n 0, 1) := by decide +kernel
theorem d_Rf_nextToken_57 : decode m_Rf_nextToken.2.1 57 = .ok (.getfield 82, 3) := by decide +kernel
theorem d_Rf_nextToken_60 : decode m_Rf_nextToken.2.1 60 = .ok (.aload_n 0, 1) := by decide +kernel
theorem d_Rf_nextToken_61 : decode m_Rf_nextToken.2.1 61 = .ok (.getfield 77, 3) := by decide +kernel
theorem d_Rf_nextToken_64 : decode m_Rf_nextToken.2.1 64 = .ok (.if_icmp .ne 13, 3) := by decide +kernel
theorem d_Rf_nextToken_67 : decode m_Rf_nextToken.2.1 67 = .ok (.aload_n 0, 1) := by decide +kernel
theorem d_Rf_nextToken_68 : decode m_Rf_nextToken.2.1 68 = .ok (.ldc2_w 94, 3) := by decide +kernel
theorem d_Rf_nextToken_71 : decode m_Rf_nextToken.2.1 71 = .ok (.putfield 96, 3) := by decide +kernel
theorem d_Rf_nextToken_74 : decode m_Rf_nextToken.2.1 74 = .ok (.goto 320, 3) := by decide +kernel
theorem d_Rf_nextToken_77 : decode m_Rf_nextToken.2.1 77 = .ok (.aload_n 0, 1) := by decide +kernel
theorem d_Rf_nextToken_78 : decode m_Rf_nextToken.2.1 78 = .ok (.getfield 23, 3) := by decide +kernel
theorem d_Rf_nextToken_81 : decode m_Rf_nextToken.2.1 81 = .ok (.aload_n 0, 1) := by decide +kernel
theorem d_Rf_nextToken_82 : decode m_Rf_nextToken.2.1 82 = .ok (.getfield 82, 3) := by decide +kernel
theorem d_Rf_nextToken_85 : decode m_Rf_nextToken.2.1 85 = .ok (.iaload, 1) := by decide +kernel
theorem d_Rf_nextToken_86 : decode m_Rf_nextToken.2.1 86 = .ok (.bipush 97, 2) := by decide +kernel
theorem d_Rf_nextToken_88 : decode m_Rf_nextToken.2.1 88 = .ok (.bipush 122, 2) := by decide +kernel
theorem d_Rf_nextToken_90 : decode m_Rf_nextToken.2.1 90 = .ok (.invokestatic 66, 3) := by decide +kernel
theorem d_Rf_nextToken_93 : decode m_Rf_nextToken.2.1 93 = .ok (.ifCond .eq 129, 3) := by decide +kernel
theorem d_Rf_nextToken_96 : decode m_Rf_nextToken.2.1 96 = .ok (.aload_n 0, 1) := by decide +kernel
theorem d_Rf_nextToken_97 : decode m_Rf_nextToken.2.1 97 = .ok (.lconst 0, 1) := by decide +kernel
theorem d_Rf_nextToken_98 : decode m_Rf_nextToken.2.1 98 = .ok (.putfield 96, 3) := by decide +kernel
theorem d_Rf_nextToken_101 : decode m_Rf_nextToken.2.1 101 = .ok (.aload_n 0, 1) := by decide +kernel
theorem d_Rf_nextToken_102 : decode m_Rf_nextToken.2.1 102 = .ok (.getfield 82, 3) := by decide +kernel
theorem d_Rf_nextToken_105 : decode m_Rf_nextToken.2.1 105 = .ok (.aload_n 0, 1) := by decide +kernel
theorem d_Rf_nextToken_106 : decode m_Rf_nextToken.2.1 106 = .ok (.getfield 77, 3) := by decide +kernel
theorem d_Rf_nextToken_109 : decode m_Rf_nextToken.2.1 109 = .ok (.if_icmp .ge 82, 3) := by decide +kernel
theorem d_Rf_nextToken_112 : decode m_Rf_nextToken.2.1 112 = .ok (.aload_n 0, 1) := by decide +kernel
theorem d_Rf_nextToken_113 : decode m_Rf_nextToken.2.1 113 = .ok (.getfield 23, 3) := by decide +kernel
theorem d_Rf_nextToken_116 : decode m_Rf_nextToken.2.1 116 = .ok (.aload_n 0, 1) := by decide +kernel
theorem d_Rf_nextToken_117 : decode m_Rf_nextToken.2.1 117 = .ok (.getfield 82, 3) := by decide +kernel
theorem d_Rf_nextToken_120 : decode m_Rf_nextToken.2.1 120 = .ok (.iaload, 1) := by decide +kernel
theorem d_Rf_nextToken_121 : decode m_Rf_nextToken.2.1 121 = .ok (.bipush 97, 2) := by decide +kernel
theorem d_Rf_nextToken_123 : decode m_Rf_nextToken.2.1 123 = .ok (.bipush 122, 2) := by decide +kernel
theorem d_Rf_nextToken_125 : decode m_Rf_nextToken.2.1 125 = .ok (.invokestatic 66, 3) := by decide +kernel
theorem d_Rf_nextToken_128 : decode m_Rf_nextToken.2.1 128 = .ok (.ifCond .eq 63, 3) := by decide +kernel
theorem d_Rf_nextToken_131 : decode m_Rf_nextToken.2.1 131 = .ok (.aload_n 0, 1) := by decide +kernel
theorem d_Rf_nextToken_132 : decode m_Rf_nextToken.2.1 132 = .ok (.aload_n 0, 1) := by decide +kernel
theorem d_Rf_nextToken_133 : decode m_Rf_nextToken.2.1 133 = .ok (.getfield 82, 3) := by decide +kernel
theorem d_Rf_nextToken_136 : decode m_Rf_nextToken.2.1 136 = .ok (.aload_n 0, 1) := by decide +kernel
theorem d_Rf_nextToken_137 : decode m_Rf_nextToken.2.1 137 = .ok (.getfield 85, 3) := by decide +kernel
theorem d_Rf_nextToken_140 : decode m_Rf_nextToken.2.1 140 = .ok (.isub, 1) := by decide +kernel
theorem d_Rf_nextToken_141 : decode m_Rf_nextToken.2.1 141 = .ok (.bipush 9, 2) := by decide +kernel
theorem d_Rf_nextToken_143 : decode m_Rf_nextToken.2.1 143 = .ok (.if_icmp .ge 29, 3) := by decide +kernel
theorem d_Rf_nextToken_146 : decode m_Rf_nextToken.2.1 146 = .ok (.ldc2_w 100, 3) := by decide +kernel
theorem d_Rf_nextToken_149 : decode m_Rf_nextToken.2.1 149 = .ok (.aload_n 0, 1) := by decide +kernel
theorem d_Rf_nextToken_150 : decode m_Rf_nextToken.2.1 150 = .ok (.getfield 96, 3) := by decide +kernel
theorem d_Rf_nextToken_153 : decode m_Rf_nextToken.2.1 153 = .ok (.lmul, 1) := by decide +kernel
theorem d_Rf_nextToken_154 : decode m_Rf_nextToken.2.1 154 = .ok (.aload_n 0, 1) := by decide +kernel
theorem d_Rf_nextToken_155 : decode m_Rf_nextToken.2.1 155 = .ok (.getfield 23, 3) := by decide +kernel
theorem d_Rf_nextToken_158 : decode m_Rf_nextToken.2.1 158 = .ok (.aload_n 0, 1) := by decide +kernel
theorem d_Rf_nextToken_159 : decode m_Rf_nextToken.2.1 159 = .ok (.getfield 82, 3) := by decide +kernel
theorem d_Rf_nextToken_162 : decode m_Rf_nextToken.2.1 162 = .ok (.iaload, 1) := by decide +kernel
theorem d_Rf_nextToken_163 : decode m_Rf_nextToken.2.1 163 = .ok (.i2l, 1) := by decide +kernel
theorem d_Rf_nextToken_164 : decode m_Rf_nextToken.2.1 164 = .ok (.ladd, 1) := by decide +kernel
theorem d_Rf_nextToken_165 : decode m_Rf_nextToken.2.1 165 = .ok (.ldc2_w 102, 3) := by decide +kernel
theorem d_Rf_nextToken_168 : decode m_Rf_nextToken.2.1 168 = .ok (.lsub, 1) := by decide +kernel
theorem d_Rf_nextToken_169 : decode m_Rf_nextToken.2.1 169 = .ok (.goto 6, 3) := by decide +kernel
theorem d_Rf_nextToken_172 : decode m_Rf_nextToken.2.1 172 = .ok (.ldc2_w 104, 3) := by decide +kernel
theorem d_Rf_nextToken_175 : decode m_Rf_nextToken.2.1 175 = .ok (.putfield 96, 3) := by decide +kernel
theorem d_Rf_nextToken_178 : decode m_Rf_nextToken.2.1 178 = .ok (.aload_n 0, 1) := by decide +kernel
theorem d_Rf_nextToken_179 : decode m_Rf_nextToken.2.1 179 = .ok (.dup, 1) := by decide +kernel
theorem d_Rf_nextToken_180 : decode m_Rf_nextToken.2.1 180 = .ok (.getfield 82, 3) := by decide +kernel
theorem d_Rf_nextToken_183 : decode m_Rf_nextToken.2.1 183 = .ok (.iconst 1, 1) := by decide +kernel
theorem d_Rf_nextToken_184 : decode m_Rf_nextToken.2.1 184 = .ok (.iadd, 1) := by decide +kernel
theorem d_Rf_nextToken_185 : decode m_Rf_nextToken.2.1 185 = .ok (.putfield 82, 3) := by decide +kernel
theorem d_Rf_nextToken_188 : decode m_Rf_nextToken.2.1 188 = .ok (.goto (-87), 3) := by decide +kernel
theorem d_Rf_nextToken_191 : decode m_Rf_nextToken.2.1 191 = .ok (.aload_n 0, 1) := by decide +kernel
theorem d_Rf_nextToken_192 : decode m_Rf_nextToken.2.1 192 = .ok (.aload_n 0, 1) := by decide +kernel
theorem d_Rf_nextToken_193 : decode m_Rf_nextToken.2.1 193 = .ok (.getfield 82, 3) := by decide +kernel
theorem d_Rf_nextToken_196 : decode m_Rf_nextToken.2.1 196 = .ok (.aload_n 0, 1) := by decide +kernel
theorem d_Rf_nextToken_197 : decode m_Rf_nextToken.2.1 197 = .ok (.getfield 85, 3) := by decide +kernel
theorem d_Rf_nextToken_200 : decode m_Rf_nextToken.2.1 200 = .ok (.isub, 1) := by decide +kernel
theorem d_Rf_nextToken_201 : decode m_Rf_nextToken.2.1 201 = .ok (.bipush 9, 2) := by decide +kernel
theorem d_Rf_nextToken_203 : decode m_Rf_nextToken.2.1 203 = .ok (.if_icmp .le 9, 3) := by decide +kernel
theorem d_Rf_nextToken_206 : decode m_Rf_nextToken.2.1 206 = .ok (.ldc2_w 104, 3) := by decide +kernel
theorem d_Rf_nextToken_209 : decode m_Rf_nextToken.2.1 209 = .ok (.goto 7, 3) := by decide +kernel
theorem d_Rf_nextToken_212 : decode m_Rf_nextToken.2.1 212 = .ok (.aload_n 0, 1) := by decide +kernel
theorem d_Rf_nextToken_213 : decode m_Rf_nextToken.2.1 213 = .ok (.getfield 96, 3) := by decide +kernel
theorem d_Rf_nextToken_216 : decode m_Rf_nextToken.2.1 216 = .ok (.putfield 96, 3) := by decide +kernel
theorem d_Rf_nextToken_219 : decode m_Rf_nextToken.2.1 219 = .ok (.goto 175, 3) := by decide +kernel
theorem d_Rf_nextToken_222 : decode m_Rf_nextToken.2.1 222 = .ok (.aload_n 0, 1) := by decide +kernel
theorem d_Rf_nextToken_223 : decode m_Rf_nextToken.2.1 223 = .ok (.getfield 23, 3) := by decide +kernel
theorem d_Rf_nextToken_226 : decode m_Rf_nextToken.2.1 226 = .ok (.aload_n 0, 1) := by decide +kernel
theorem d_Rf_nextToken_227 : decode m_Rf_nextToken.2.1 227 = .ok (.getfield 82, 3) := by decide +kernel
theorem d_Rf_nextToken_230 : decode m_Rf_nextToken.2.1 230 = .ok (.iaload, 1) := by decide +kernel
theorem d_Rf_nextToken_231 : decode m_Rf_nextToken.2.1 231 = .ok (.bipush 48, 2) := by decide +kernel
theorem d_Rf_nextToken_233 : decode m_Rf_nextToken.2.1 233 = .ok (.bipush 57, 2) := by decide +kernel
theorem d_Rf_nextToken_235 : decode m_Rf_nextToken.2.1 235 = .ok (.invokestatic 66, 3) := by decide +kernel
theorem d_Rf_nextToken_238 : decode m_Rf_nextToken.2.1 238 = .ok (.ifCond .eq 119, 3) := by decide +kernel
theorem d_Rf_nextToken_241 : decode m_Rf_nextToken.2.1 241 = .ok (.aload_n 0, 1) := by decide +kernel
theorem d_Rf_nextToken_242 : decode m_Rf_nextToken.2.1 242 = .ok (.getfield 82, 3) := by decide +kernel
theorem d_Rf_nextToken_245 : decode m_Rf_nextToken.2.1 245 = .ok (.aload_n 0, 1) := by decide +kernel
theorem d_Rf_nextToken_246 : decode m_Rf_nextToken.2.1 246 = .ok (.getfield 77, 3) := by decide +kernel
theorem d_Rf_nextToken_249 : decode m_Rf_nextToken.2.1 249 = .ok (.if_icmp .ge 84, 3) := by decide +kernel
theorem d_Rf_nextToken_252 : decode m_Rf_nextToken.2.1 252 = .ok (.aload_n 0, 1) := by decide +kernel
theorem d_Rf_nextToken_253 : decode m_Rf_nextToken.2.1 253 = .ok (.getfield 23, 3) := by decide +kernel
theorem d_Rf_nextToken_256 : decode m_Rf_nextToken.2.1 256 = .ok (.aload_n 0, 1) := by decide +kernel
theorem d_Rf_nextToken_257 : decode m_Rf_nextToken.2.1 257 = .ok (.getfield 82, 3) := by decide +kernel
theorem d_Rf_nextToken_260 : decode m_Rf_nextToken.2.1 260 = .ok (.iaload, 1) := by decide +kernel
theorem d_Rf_nextToken_261 : decode m_Rf_nextToken.2.1 261 = .ok (.bipush 48, 2) := by decide +kernel
theorem d_Rf_nextToken_263 : decode m_Rf_nextToken.2.1 263 = .ok (.bipush 57, 2) := by decide +kernel
theorem d_Rf_nextToken_265 : decode m_Rf_nextToken.2.1 265 = .ok (.invokestatic 66, 3) := by decide +kernel
theorem d_Rf_nextToken_268 : decode m_Rf_nextToken.2.1 268 = .ok (.ifCond .eq 65, 3) := by decide +kernel
theorem d_Rf_nextToken_271 : decode m_Rf_nextToken.2.1 271 = .ok (.aload_n 0, 1) := by decide +kernel
theorem d_Rf_nextToken_272 : decode m_Rf_nextToken.2.1 272 = .ok (.aload_n 0, 1) := by decide +kernel
theorem d_Rf_nextToken_273 : decode m_Rf_nextToken.2.1 273 = .ok (.getfield 88, 3) := by decide +kernel
theorem d_Rf_nextToken_276 : decode m_Rf_nextToken.2.1 276 = .ok (.iconst 2, 1) := by decide +kernel
theorem d_Rf_nextToken_277 : decode m_Rf_nextToken.2.1 277 = .ok (.if_icmp .ge 26, 3) := by decide +kernel
theorem d_Rf_nextToken_280 : decode m_Rf_nextToken.2.1 280 = .ok (.bipush 10, 2) := by decide +kernel
theorem d_Rf_nextToken_282 : decode m_Rf_nextToken.2.1 282 = .ok (.aload_n 0, 1) := by decide +kernel
theorem d_Rf_nextToken_283 : decode m_Rf_nextToken.2.1 283 = .ok (.getfield 91, 3) := by decide +kernel
theorem d_Rf_nextToken_286 : decode m_Rf_nextToken.2.1 286 = .ok (.imul, 1) := by decide +kernel
theorem d_Rf_nextToken_287 : decode m_Rf_nextToken.2.1 287 = .ok (.aload_n 0, 1) := by decide +kernel
theorem d_Rf_nextToken_288 : decode m_Rf_nextToken.2.1 288 = .ok (.getfield 23, 3) := by decide +kernel
theorem d_Rf_nextToken_291 : decode m_Rf_nextToken.2.1 291 = .ok (.aload_n 0, 1) := by decide +kernel
theorem d_Rf_nextToken_292 : decode m_Rf_nextToken.2.1 292 = .ok (.getfield 82, 3) := by decide +kernel
theorem d_Rf_nextToken_295 : decode m_Rf_nextToken.2.1 295 = .ok (.iaload, 1) := by decide +kernel
theorem d_Rf_nextToken_296 : decode m_Rf_nextToken.2.1 296 = .ok (.iadd, 1) := by decide +kernel
theorem d_Rf_nextToken_297 : decode m_Rf_nextToken.2.1 297 = .ok (.bipush 48, 2) := by decide +kernel
theorem d_Rf_nextToken_299 : decode m_Rf_nextToken.2.1 299 = .ok (.isub, 1) := by decide +kernel
theorem d_Rf_nextToken_300 : decode m_Rf_nextToken.2.1 300 = .ok (.goto 7, 3) := by decide +kernel
theorem d_Rf_nextToken_303 : decode m_Rf_nextToken.2.1 303 = .ok (.aload_n 0, 1) := by decide +kernel
theorem d_Rf_nextToken_304 : decode m_Rf_nextToken.2.1 304 = .ok (.getfield 91, 3) := by decide +kernel
theorem d_Rf_nextToken_307 : decode m_Rf_nextToken.2.1 307 = .ok (.putfield 91, 3) := by decide +kernel
theorem d_Rf_nextToken_310 : decode m_Rf_nextToken.2.1 310 = .ok (.aload_n 0, 1) := by decide +kernel
theorem d_Rf_nextToken_311 : decode m_Rf_nextToken.2.1 311 = .ok (.dup, 1) := by decide +kernel
theorem d_Rf_nextToken_312 : decode m_Rf_nextToken.2.1 312 = .ok (.getfield 88, 3) := by decide +kernel
theorem d_Rf_nextToken_315 : decode m_Rf_nextToken.2.1 315 = .ok (.iconst 1, 1) := by decide +kernel
theorem d_Rf_nextToken_316 : decode m_Rf_nextToken.2.1 316 = .ok (.iadd, 1) := by decide +kernel
theorem d_Rf_nextToken_317 : decode m_Rf_nextToken.2.1 317 = .ok (.putfield 88, 3) := by decide +kernel
theorem d_Rf_nextToken_320 : decode m_Rf_nextToken.2.1 320 = .ok (.aload_n 0, 1) := by decide +kernel
theorem d_Rf_nextToken_321 : decode m_Rf_nextToken.2.1 321 = .ok (.dup, 1) := by decide +kernel
theorem d_Rf_nextToken_322 : decode m_Rf_nextToken.2.1 322 = .ok (.getfield 82, 3) := by decide +kernel
theorem d_Rf_nextToken_325 : decode m_Rf_nextToken.2.1 325 = .ok (.iconst 1, 1) := by decide +kernel
theorem d_Rf_nextToken_326 : decode m_Rf_nextToken.2.1 326 = .ok (.iadd, 1) := by decide +kernel
theorem d_Rf_nextToken_327 : decode m_Rf_nextToken.2.1 327 = .ok (.putfield 82, 3) := by decide +kernel
theorem d_Rf_nextToken_330 : decode m_Rf_nextToken.2.1 330 = .ok (.goto (-89), 3) := by decide +kernel
theorem d_Rf_nextToken_333 : decode m_Rf_nextToken.2.1 333 = .ok (.aload_n 0, 1) := by decide +kernel
theorem d_Rf_nextToken_334 : decode m_Rf_nextToken.2.1 334 = .ok (.aload_n 0, 1) := by decide +kernel
theorem d_Rf_nextToken_335 : decode m_Rf_nextToken.2.1 335 = .ok (.getfield 88, 3) := by decide +kernel
theorem d_Rf_nextToken_338 : decode m_Rf_nextToken.2.1 338 = .ok (.iconst 2, 1) := by decide +kernel
theorem d_Rf_nextToken_339 : decode m_Rf_nextToken.2.1 339 = .ok (.if_icmp .le 9, 3) := by decide +kernel
theorem d_Rf_nextToken_342 : decode m_Rf_nextToken.2.1 342 = .ok (.ldc2_w 104, 3) := by decide +kernel
theorem d_Rf_nextToken_345 : decode m_Rf_nextToken.2.1 345 = .ok (.goto 6, 3) := by decide +kernel
theorem d_Rf_nextToken_348 : decode m_Rf_nextToken.2.1 348 = .ok (.ldc2_w 106, 3) := by decide +kernel
theorem d_Rf_nextToken_351 : decode m_Rf_nextToken.2.1 351 = .ok (.putfield 96, 3) := by decide +kernel
theorem d_Rf_nextToken_354 : decode m_Rf_nextToken.2.1 354 = .ok (.goto 40, 3) := by decide +kernel
theorem d_Rf_nextToken_357 : decode m_Rf_nextToken.2.1 357 = .ok (.aload_n 0, 1) := by decide +kernel
theorem d_Rf_nextToken_358 : decode m_Rf_nextToken.2.1 358 = .ok (.aload_n 0, 1) := by decide +kernel
theorem d_Rf_nextToken_359 : decode m_Rf_nextToken.2.1 359 = .ok (.getfield 23, 3) := by decide +kernel
theorem d_Rf_nextToken_362 : decode m_Rf_nextToken.2.1 362 = .ok (.aload_n 0, 1) := by decide +kernel
theorem d_Rf_nextToken_363 : decode m_Rf_nextToken.2.1 363 = .ok (.getfield 82, 3) := by decide +kernel
theorem d_Rf_nextToken_366 : decode m_Rf_nextToken.2.1 366 = .ok (.iaload, 1) := by decide +kernel
theorem d_Rf_nextToken_367 : decode m_Rf_nextToken.2.1 367 = .ok (.bipush 59, 2) := by decide +kernel
theorem d_Rf_nextToken_369 : decode m_Rf_nextToken.2.1 369 = .ok (.if_icmp .ne 9, 3) := by decide +kernel
theorem d_Rf_nextToken_372 : decode m_Rf_nextToken.2.1 372 = .ok (.ldc2_w 108, 3) := by decide +kernel
theorem d_Rf_nextToken_375 : decode m_Rf_nextToken.2.1 375 = .ok (.goto 6, 3) := by decide +kernel
theorem d_Rf_nextToken_378 : decode m_Rf_nextToken.2.1 378 = .ok (.ldc2_w 104, 3) := by decide +kernel
theorem d_Rf_nextToken_381 : decode m_Rf_nextToken.2.1 381 = .ok (.putfield 96, 3) := by decide +kernel
theorem d_Rf_nextToken_384 : decode m_Rf_nextToken.2.1 384 = .ok (.aload_n 0, 1) := by decide +kernel
theorem d_Rf_nextToken_385 : decode m_Rf_nextToken.2.1 385 = .ok (.dup, 1) := by decide +kernel
theorem d_Rf_nextToken_386 : decode m_Rf_nextToken.2.1 386 = .ok (.getfield 82, 3) := by decide +kernel
theorem d_Rf_nextToken_389 : decode m_Rf_nextToken.2.1 389 = .ok (.iconst 1, 1) := by decide +kernel
theorem d_Rf_nextToken_390 : decode m_Rf_nextToken.2.1 390 = .ok (.iadd, 1) := by decide +kernel
theorem d_Rf_nextToken_391 : decode m_Rf_nextToken.2.1 391 = .ok (.putfield 82, 3) := by decide +kernel
theorem d_Rf_nextToken_394 : decode m_Rf_nextToken.2.1 394 = .ok (.return_, 1) := by decide +kernel
theorem g_Rf_nextToken_0 {X : XS}  (h : Hp) (Q : Option AV → Hp → Prop)  (k : (((h.1 [1] 6) ≤ (h.1 [1] 8) → Rn X m_Rf_nextToken 38 [some (vR [1])] [] h Q) ∧ (¬ (h.1 [1] 6) ≤ (h.1 [1] 8) → (vp_in (h.1 [1] 8) 200 ∧ ((¬ (h.1 [7, 1] (h.1 [1] 8).toNatClampNeg) = 32 → Rn X m_Rf_nextToken 38 [some (vR [1])] [] h Q) ∧ ((h.1 [7, 1] (h.1 [1] 8).toNatClampNeg) = 32 → Rn X m_Rf_nextToken 0 [some (vR [1])] [] (hsI h [1] 8 ((h.1 [1] 8) + 1)) Q)))))) : Rn X m_Rf_nextToken 0 [some (vR [1])] [] h Q := by
  refine Rn.aload_n (n := 1) (i := 0) d_Rf_nextToken_0 rfl rfl rfl ?_
  refine Rn.getf (n := 4) (v := vI (h.1 [1] 8)) d_Rf_nextToken_1 rfl fl_Rf_82 Lv_1 rfl ?_
  refine Rn.aload_n (n := 5) (i := 0) d_Rf_nextToken_4 rfl rfl rfl ?_
  refine Rn.getf (n := 8) (v := vI (h.1 [1] 6)) d_Rf_nextToken_5 rfl fl_Rf_77 Lv_1 rfl ?_
  refine Rn.icmp_ge (n := 11) (t := 38) d_Rf_nextToken_8 rfl (by decide) (fun cc => ?_) (fun cc => ?_)
  · have k := k.1 cc
    exact k
  · have k := k.2 cc
    refine Rn.aload_n (n := 12) (i := 0) d_Rf_nextToken_11 rfl rfl rfl ?_
    refine Rn.getf (n := 15) (v := vR [7, 1]) d_Rf_nextToken_12 rfl fl_Rf_23 Lv_1 rfl ?_
    refine Rn.aload_n (n := 16) (i := 0) d_Rf_nextToken_15 rfl rfl rfl ?_
    refine Rn.getf (n := 19) (v := vI (h.1 [1] 8)) d_Rf_nextToken_16 rfl fl_Rf_82 Lv_1 rfl ?_
    obtain ⟨b1, k⟩ := k
    refine Rn.iald (n := 20) (v := h.1 [7, 1] (h.1 [1] 8).toNatClampNeg) d_Rf_nextToken_19 rfl Lv_7_1 b1 rfl ?_
    refine Rn.bipush (n := 22) (v := 32) d_Rf_nextToken_20 rfl (by decide) ?_
    refine Rn.icmp_ne (n := 25) (t := 38) d_Rf_nextToken_22 rfl (by decide) (fun cc => ?_) (fun cc => ?_)
    · have k := k.1 cc
      exact k
    · have k := k.2 cc
      refine Rn.aload_n (n := 26) (i := 0) d_Rf_nextToken_25 rfl rfl rfl ?_
      refine Rn.dup (n := 27) d_Rf_nextToken_26 rfl rfl ?_
      refine Rn.getf (n := 30) (v := vI (h.1 [1] 8)) d_Rf_nextToken_27 rfl fl_Rf_82 Lv_1 rfl ?_
      refine Rn.iconst (n := 31) (v := 1) d_Rf_nextToken_30 rfl (by decide) ?_
      refine Rn.iadd (n := 32) d_Rf_nextToken_31 rfl ?_
      refine Rn.putI (n := 35) d_Rf_nextToken_32 rfl fl_Rf_82 pl_Rf_8 Lv_1 rfl ?_
      refine Rn.goto (n := 0) d_Rf_nextToken_35 (by decide) ?_
      exact k
theorem g_Rf_nextToken_38 {X : XS}  (h : Hp) (Q : Option AV → Hp → Prop)  (k : ((¬ ((hsI (hsI (hsI h [1] 9 (h.1 [1] 8)) [1] 11 0) [1] 12 0).1 [1] 8) = ((hsI (hsI (hsI h [1] 9 (h.1 [1] 8)) [1] 11 0) [1] 12 0).1 [1] 6) → (vp_in ((hsI (hsI (hsI h [1] 9 (h.1 [1] 8)) [1] 11 0) [1] 12 0).1 [1] 8) 200 ∧ (∃ Q'5, EvI X m_Rf_in [vI ((hsI (hsI (hsI h [1] 9 (h.1 [1] 8)) [1] 11 0) [1] 12 0).1 [7, 1] ((hsI (hsI (hsI h [1] 9 (h.1 [1] 8)) [1] 11 0) [1] 12 0).1 [1] 8).toNatClampNeg), vI 97, vI 122] (hsI (hsI (hsI h [1] 9 (h.1 [1] 8)) [1] 11 0) [1] 12 0) Q'5 ∧ ∀ (r6 : Int32) (h4 : Hp), Q'5 r6 h4 → ((r6 = 0 → (vp_in (h4.1 [1] 8) 200 ∧ (∃ Q'11, EvI X m_Rf_in [vI (h4.1 [7, 1] (h4.1 [1] 8).toNatClampNeg), vI 48, vI 57] h4 Q'11 ∧ ∀ (r12 : Int32) (h10 : Hp), Q'11 r12 h10 → ((r12 = 0 → (vp_in (h10.1 [1] 8) 200 ∧ ((¬ (h10.1 [7, 1] (h10.1 [1] 8).toNatClampNeg) = 59 → Q none (hsI (hsL h10 [1] 10 (-4)) [1] 8 (((hsL h10 [1] 10 (-4)).1 [1] 8) + 1))) ∧ ((h10.1 [7, 1] (h10.1 [1] 8).toNatClampNeg) = 59 → Q none (hsI (hsL h10 [1] 10 (-3)) [1] 8 (((hsL h10 [1] 10 (-3)).1 [1] 8) + 1)))))) ∧ (¬ r12 = 0 → Rn X m_Rf_nextToken 241 [some (vR [1])] [] h10 Q))))) ∧ (¬ r6 = 0 → Rn X m_Rf_nextToken 101 [some (vR [1])] [] (hsL h4 [1] 10 0) Q))))) ∧ (((hsI (hsI (hsI h [1] 9 (h.1 [1] 8)) [1] 11 0) [1] 12 0).1 [1] 8) = ((hsI (hsI (hsI h [1] 9 (h.1 [1] 8)) [1] 11 0) [1] 12 0).1 [1] 6) → Q none (hsL (hsI (hsI (hsI h [1] 9 (h.1 [1] 8)) [1] 11 0) [1] 12 0) [1] 10 (-2))))) : Rn X m_Rf_nextToken 38 [some (vR [1])] [] h Q := by
  refine Rn.aload_n (n := 39) (i := 0) d_Rf_nextToken_38 rfl rfl rfl ?_
  refine Rn.aload_n (n := 40) (i := 0) d_Rf_nextToken_39 rfl rfl rfl ?_
  refine Rn.getf (n := 43) (v := vI (h.1 [1] 8)) d_Rf_nextToken_40 rfl fl_Rf_82 Lv_1 rfl ?_
  refine Rn.putI (n := 46) d_Rf_nextToken_43 rfl fl_Rf_85 pl_Rf_9 Lv_1 rfl ?_
  refine Rn.aload_n (n := 47) (i := 0) d_Rf_nextToken_46 rfl rfl rfl ?_
  refine Rn.iconst (n := 48) (v := 0) d_Rf_nextToken_47 rfl (by decide) ?_
  refine Rn.putI (n := 51) d_Rf_nextToken_48 rfl fl_Rf_88 pl_Rf_11 Lv_1 rfl ?_
  refine Rn.aload_n (n := 52) (i := 0) d_Rf_nextToken_51 rfl rfl rfl ?_
  refine Rn.iconst (n := 53) (v := 0) d_Rf_nextToken_52 rfl (by decide) ?_
  refine Rn.putI (n := 56) d_Rf_nextToken_53 rfl fl_Rf_91 pl_Rf_12 Lv_1 rfl ?_
  refine Rn.aload_n (n := 57) (i := 0) d_Rf_nextToken_56 rfl rfl rfl ?_
  refine Rn.getf (n := 60) (v := vI ((hsI (hsI (hsI h [1] 9 (h.1 [1] 8)) [1] 11 0) [1] 12 0).1 [1] 8)) d_Rf_nextToken_57 rfl fl_Rf_82 Lv_1 rfl ?_
  refine Rn.aload_n (n := 61) (i := 0) d_Rf_nextToken_60 rfl rfl rfl ?_
  refine Rn.getf (n := 64) (v := vI ((hsI (hsI (hsI h [1] 9 (h.1 [1] 8)) [1] 11 0) [1] 12 0).1 [1] 6)) d_Rf_nextToken_61 rfl fl_Rf_77 Lv_1 rfl ?_
  refine Rn.icmp_ne (n := 67) (t := 77) d_Rf_nextToken_64 rfl (by decide) (fun cc => ?_) (fun cc => ?_)
  · have k := k.1 cc
    refine Rn.aload_n (n := 78) (i := 0) d_Rf_nextToken_77 rfl rfl rfl ?_
    refine Rn.getf (n := 81) (v := vR [7, 1]) d_Rf_nextToken_78 rfl fl_Rf_23 Lv_1 rfl ?_
    refine Rn.aload_n (n := 82) (i := 0) d_Rf_nextToken_81 rfl rfl rfl ?_
    refine Rn.getf (n := 85) (v := vI ((hsI (hsI (hsI h [1] 9 (h.1 [1] 8)) [1] 11 0) [1] 12 0).1 [1] 8)) d_Rf_nextToken_82 rfl fl_Rf_82 Lv_1 rfl ?_
    obtain ⟨b1, k⟩ := k
    refine Rn.iald (n := 86) (v := (hsI (hsI (hsI h [1] 9 (h.1 [1] 8)) [1] 11 0) [1] 12 0).1 [7, 1] ((hsI (hsI (hsI h [1] 9 (h.1 [1] 8)) [1] 11 0) [1] 12 0).1 [1] 8).toNatClampNeg) d_Rf_nextToken_85 rfl Lv_7_1 b1 rfl ?_
    refine Rn.bipush (n := 88) (v := 97) d_Rf_nextToken_86 rfl (by decide) ?_
    refine Rn.bipush (n := 90) (v := 122) d_Rf_nextToken_88 rfl (by decide) ?_
    obtain ⟨Q'5, ev2, k⟩ := k
    refine Rn.callS (n := 93) (av := [vI ((hsI (hsI (hsI h [1] 9 (h.1 [1] 8)) [1] 11 0) [1] 12 0).1 [7, 1] ((hsI (hsI (hsI h [1] 9 (h.1 [1] 8)) [1] 11 0) [1] 12 0).1 [1] 8).toNatClampNeg), vI 97, vI 122]) d_Rf_nextToken_90 rfl ml_Rf_nextToken_66 ms_Rf_in rfl rfl (Nat.le_of_ble_eq_true rfl) ev2 (fun v h4 hq => ?_)
    obtain ⟨r6, rfl, hq⟩ := hq
    have k := k r6 h4 hq
    show Rn X m_Rf_nextToken 93 [some (vR [1])] [vI r6] h4 Q
    refine Rn.if_eq (n := 96) (t := 222) d_Rf_nextToken_93 rfl (by decide) (fun cc => ?_) (fun cc => ?_)
    · have k := k.1 cc
      refine Rn.aload_n (n := 223) (i := 0) d_Rf_nextToken_222 rfl rfl rfl ?_
      refine Rn.getf (n := 226) (v := vR [7, 1]) d_Rf_nextToken_223 rfl fl_Rf_23 Lv_1 rfl ?_
      refine Rn.aload_n (n := 227) (i := 0) d_Rf_nextToken_226 rfl rfl rfl ?_
      refine Rn.getf (n := 230) (v := vI (h4.1 [1] 8)) d_Rf_nextToken_227 rfl fl_Rf_82 Lv_1 rfl ?_
      obtain ⟨b7, k⟩ := k
      refine Rn.iald (n := 231) (v := h4.1 [7, 1] (h4.1 [1] 8).toNatClampNeg) d_Rf_nextToken_230 rfl Lv_7_1 b7 rfl ?_
      refine Rn.bipush (n := 233) (v := 48) d_Rf_nextToken_231 rfl (by decide) ?_
      refine Rn.bipush (n := 235) (v := 57) d_Rf_nextToken_233 rfl (by decide) ?_
      obtain ⟨Q'11, ev8, k⟩ := k
      refine Rn.callS (n := 238) (av := [vI (h4.1 [7, 1] (h4.1 [1] 8).toNatClampNeg), vI 48, vI 57]) d_Rf_nextToken_235 rfl ml_Rf_nextToken_66 ms_Rf_in rfl rfl (Nat.le_of_ble_eq_true rfl) ev8 (fun v h10 hq => ?_)
      obtain ⟨r12, rfl, hq⟩ := hq
      have k := k r12 h10 hq
      show Rn X m_Rf_nextToken 238 [some (vR [1])] [vI r12] h10 Q
      refine Rn.if_eq (n := 241) (t := 357) d_Rf_nextToken_238 rfl (by decide) (fun cc => ?_) (fun cc => ?_)
      · have k := k.1 cc
        refine Rn.aload_n (n := 358) (i := 0) d_Rf_nextToken_357 rfl rfl rfl ?_
        refine Rn.aload_n (n := 359) (i := 0) d_Rf_nextToken_358 rfl rfl rfl ?_
        refine Rn.getf (n := 362) (v := vR [7, 1]) d_Rf_nextToken_359 rfl fl_Rf_23 Lv_1 rfl ?_
        refine Rn.aload_n (n := 363) (i := 0) d_Rf_nextToken_362 rfl rfl rfl ?_
        refine Rn.getf (n := 366) (v := vI (h10.1 [1] 8)) d_Rf_nextToken_363 rfl fl_Rf_82 Lv_1 rfl ?_
        obtain ⟨b13, k⟩ := k
        refine Rn.iald (n := 367) (v := h10.1 [7, 1] (h10.1 [1] 8).toNatClampNeg) d_Rf_nextToken_366 rfl Lv_7_1 b13 rfl ?_
        refine Rn.bipush (n := 369) (v := 59) d_Rf_nextToken_367 rfl (by decide) ?_
        refine Rn.icmp_ne (n := 372) (t := 378) d_Rf_nextToken_369 rfl (by decide) (fun cc => ?_) (fun cc => ?_)
        · have k := k.1 cc
          refine Rn.ldc2 (n := 381) (v := (-4)) d_Rf_nextToken_378 rfl cl_Rf_104 ?_
          refine Rn.putL (n := 384) d_Rf_nextToken_381 rfl fl_Rf_96 pl_Rf_10 Lv_1 rfl ?_
          refine Rn.aload_n (n := 385) (i := 0) d_Rf_nextToken_384 rfl rfl rfl ?_
          refine Rn.dup (n := 386) d_Rf_nextToken_385 rfl rfl ?_
          refine Rn.getf (n := 389) (v := vI ((hsL h10 [1] 10 (-4)).1 [1] 8)) d_Rf_nextToken_386 rfl fl_Rf_82 Lv_1 rfl ?_
          refine Rn.iconst (n := 390) (v := 1) d_Rf_nextToken_389 rfl (by decide) ?_
          refine Rn.iadd (n := 391) d_Rf_nextToken_390 rfl ?_
          refine Rn.putI (n := 394) d_Rf_nextToken_391 rfl fl_Rf_82 pl_Rf_8 Lv_1 rfl ?_
          exact Rn.vret d_Rf_nextToken_394 rfl k
        · have k := k.2 cc
          refine Rn.ldc2 (n := 375) (v := (-3)) d_Rf_nextToken_372 rfl cl_Rf_108 ?_
          refine Rn.goto (n := 381) d_Rf_nextToken_375 (by decide) ?_
          refine Rn.putL (n := 384) d_Rf_nextToken_381 rfl fl_Rf_96 pl_Rf_10 Lv_1 rfl ?_
          refine Rn.aload_n (n := 385) (i := 0) d_Rf_nextToken_384 rfl rfl rfl ?_
          refine Rn.dup (n := 386) d_Rf_nextToken_385 rfl rfl ?_
          refine Rn.getf (n := 389) (v := vI ((hsL h10 [1] 10 (-3)).1 [1] 8)) d_Rf_nextToken_386 rfl fl_Rf_82 Lv_1 rfl ?_
          refine Rn.iconst (n := 390) (v := 1) d_Rf_nextToken_389 rfl (by decide) ?_
          refine Rn.iadd (n := 391) d_Rf_nextToken_390 rfl ?_
          refine Rn.putI (n := 394) d_Rf_nextToken_391 rfl fl_Rf_82 pl_Rf_8 Lv_1 rfl ?_
          exact Rn.vret d_Rf_nextToken_394 rfl k
      · have k := k.2 cc
        exact k
    · have k := k.2 cc
      refine Rn.aload_n (n := 97) (i := 0) d_Rf_nextToken_96 rfl rfl rfl ?_
      refine Rn.lconst (n := 98) (v := 0) d_Rf_nextToken_97 rfl rfl ?_
      refine Rn.putL (n := 101) d_Rf_nextToken_98 rfl fl_Rf_96 pl_Rf_10 Lv_1 rfl ?_
      exact k
  · have k := k.2 cc
    refine Rn.aload_n (n := 68) (i := 0) d_Rf_nextToken_67 rfl rfl rfl ?_
    refine Rn.ldc2 (n := 71) (v := (-2)) d_Rf_nextToken_68 rfl cl_Rf_94 ?_
    refine Rn.putL (n := 74) d_Rf_nextToken_71 rfl fl_Rf_96 pl_Rf_10 Lv_1 rfl ?_
    refine Rn.goto (n := 394) d_Rf_nextToken_74 (by decide) ?_
    exact Rn.vret d_Rf_nextToken_394 rfl k
theorem g_Rf_nextToken_101 {X : XS}  (h : Hp) (Q : Option AV → Hp → Prop)  (k : (((h.1 [1] 6) ≤ (h.1 [1] 8) → Rn X m_Rf_nextToken 191 [some (vR [1])] [] h Q) ∧ (¬ (h.1 [1] 6) ≤ (h.1 [1] 8) → (vp_in (h.1 [1] 8) 200 ∧ (∃ Q'5, EvI X m_Rf_in [vI (h.1 [7, 1] (h.1 [1] 8).toNatClampNeg), vI 97, vI 122] h Q'5 ∧ ∀ (r6 : Int32) (h4 : Hp), Q'5 r6 h4 → ((r6 = 0 → Rn X m_Rf_nextToken 191 [some (vR [1])] [] h4 Q) ∧ (¬ r6 = 0 → ((9 ≤ ((h4.1 [1] 8) - (h4.1 [1] 9)) → Rn X m_Rf_nextToken 101 [some (vR [1])] [] (hsI (hsL h4 [1] 10 (-4)) [1] 8 (((hsL h4 [1] 10 (-4)).1 [1] 8) + 1)) Q) ∧ (¬ 9 ≤ ((h4.1 [1] 8) - (h4.1 [1] 9)) → (vp_in (h4.1 [1] 8) 200 ∧ Rn X m_Rf_nextToken 101 [some (vR [1])] [] (hsI (hsL h4 [1] 10 (((27 * (h4.2 [1] 10)) + ((h4.1 [7, 1] (h4.1 [1] 8).toNatClampNeg).toInt64)) - 96)) [1] 8 (((hsL h4 [1] 10 (((27 * (h4.2 [1] 10)) + ((h4.1 [7, 1] (h4.1 [1] 8).toNatClampNeg).toInt64)) - 96)).1 [1] 8) + 1)) Q)))))))))) : Rn X m_Rf_nextToken 101 [some (vR [1])] [] h Q := by
  refine Rn.aload_n (n := 102) (i := 0) d_Rf_nextToken_101 rfl rfl rfl ?_
  refine Rn.getf (n := 105) (v := vI (h.1 [1] 8)) d_Rf_nextToken_102 rfl fl_Rf_82 Lv_1 rfl ?_
  refine Rn.aload_n (n := 106) (i := 0) d_Rf_nextToken_105 rfl rfl rfl ?_
  refine Rn.getf (n := 109) (v := vI (h.1 [1] 6)) d_Rf_nextToken_106 rfl fl_Rf_77 Lv_1 rfl ?_
  refine Rn.icmp_ge (n := 112) (t := 191) d_Rf_nextToken_109 rfl (by decide) (fun cc => ?_) (fun cc => ?_)
  · have k := k.1 cc
    exact k
  · have k := k.2 cc
    refine Rn.aload_n (n := 113) (i := 0) d_Rf_nextToken_112 rfl rfl rfl ?_
    refine Rn.getf (n := 116) (v := vR [7, 1]) d_Rf_nextToken_113 rfl fl_Rf_23 Lv_1 rfl ?_
    refine Rn.aload_n (n := 117) (i := 0) d_Rf_nextToken_116 rfl rfl rfl ?_
    refine Rn.getf (n := 120) (v := vI (h.1 [1] 8)) d_Rf_nextToken_117 rfl fl_Rf_82 Lv_1 rfl ?_
    obtain ⟨b1, k⟩ := k
    refine Rn.iald (n := 121) (v := h.1 [7, 1] (h.1 [1] 8).toNatClampNeg) d_Rf_nextToken_120 rfl Lv_7_1 b1 rfl ?_
    refine Rn.bipush (n := 123) (v := 97) d_Rf_nextToken_121 rfl (by decide) ?_
    refine Rn.bipush (n := 125) (v := 122) d_Rf_nextToken_123 rfl (by decide) ?_
    obtain ⟨Q'5, ev2, k⟩ := k
    refine Rn.callS (n := 128) (av := [vI (h.1 [7, 1] (h.1 [1] 8).toNatClampNeg), vI 97, vI 122]) d_Rf_nextToken_125 rfl ml_Rf_nextToken_66 ms_Rf_in rfl rfl (Nat.le_of_ble_eq_true rfl) ev2 (fun v h4 hq => ?_)
    obtain ⟨r6, rfl, hq⟩ := hq
    have k := k r6 h4 hq
    show Rn X m_Rf_nextToken 128 [some (vR [1])] [vI r6] h4 Q
    refine Rn.if_eq (n := 131) (t := 191) d_Rf_nextToken_128 rfl (by decide) (fun cc => ?_) (fun cc => ?_)
    · have k := k.1 cc
      exact k
    · have k := k.2 cc
      refine Rn.aload_n (n := 132) (i := 0) d_Rf_nextToken_131 rfl rfl rfl ?_
      refine Rn.aload_n (n := 133) (i := 0) d_Rf_nextToken_132 rfl rfl rfl ?_
      refine Rn.getf (n := 136) (v := vI (h4.1 [1] 8)) d_Rf_nextToken_133 rfl fl_Rf_82 Lv_1 rfl ?_
      refine Rn.aload_n (n := 137) (i := 0) d_Rf_nextToken_136 rfl rfl rfl ?_
      refine Rn.getf (n := 140) (v := vI (h4.1 [1] 9)) d_Rf_nextToken_137 rfl fl_Rf_85 Lv_1 rfl ?_
      refine Rn.isub (n := 141) d_Rf_nextToken_140 rfl ?_
      refine Rn.bipush (n := 143) (v := 9) d_Rf_nextToken_141 rfl (by decide) ?_
      refine Rn.icmp_ge (n := 146) (t := 172) d_Rf_nextToken_143 rfl (by decide) (fun cc => ?_) (fun cc => ?_)
      · have k := k.1 cc
        refine Rn.ldc2 (n := 175) (v := (-4)) d_Rf_nextToken_172 rfl cl_Rf_104 ?_
        refine Rn.putL (n := 178) d_Rf_nextToken_175 rfl fl_Rf_96 pl_Rf_10 Lv_1 rfl ?_
        refine Rn.aload_n (n := 179) (i := 0) d_Rf_nextToken_178 rfl rfl rfl ?_
        refine Rn.dup (n := 180) d_Rf_nextToken_179 rfl rfl ?_
        refine Rn.getf (n := 183) (v := vI ((hsL h4 [1] 10 (-4)).1 [1] 8)) d_Rf_nextToken_180 rfl fl_Rf_82 Lv_1 rfl ?_
        refine Rn.iconst (n := 184) (v := 1) d_Rf_nextToken_183 rfl (by decide) ?_
        refine Rn.iadd (n := 185) d_Rf_nextToken_184 rfl ?_
        refine Rn.putI (n := 188) d_Rf_nextToken_185 rfl fl_Rf_82 pl_Rf_8 Lv_1 rfl ?_
        refine Rn.goto (n := 101) d_Rf_nextToken_188 (by decide) ?_
        exact k
      · have k := k.2 cc
        refine Rn.ldc2 (n := 149) (v := 27) d_Rf_nextToken_146 rfl cl_Rf_100 ?_
        refine Rn.aload_n (n := 150) (i := 0) d_Rf_nextToken_149 rfl rfl rfl ?_
        refine Rn.getf (n := 153) (v := vL (h4.2 [1] 10)) d_Rf_nextToken_150 rfl fl_Rf_96 Lv_1 rfl ?_
        refine Rn.lmul (n := 154) d_Rf_nextToken_153 rfl ?_
        refine Rn.aload_n (n := 155) (i := 0) d_Rf_nextToken_154 rfl rfl rfl ?_
        refine Rn.getf (n := 158) (v := vR [7, 1]) d_Rf_nextToken_155 rfl fl_Rf_23 Lv_1 rfl ?_
        refine Rn.aload_n (n := 159) (i := 0) d_Rf_nextToken_158 rfl rfl rfl ?_
        refine Rn.getf (n := 162) (v := vI (h4.1 [1] 8)) d_Rf_nextToken_159 rfl fl_Rf_82 Lv_1 rfl ?_
        obtain ⟨b7, k⟩ := k
        refine Rn.iald (n := 163) (v := h4.1 [7, 1] (h4.1 [1] 8).toNatClampNeg) d_Rf_nextToken_162 rfl Lv_7_1 b7 rfl ?_
        refine Rn.i2l (n := 164) d_Rf_nextToken_163 rfl ?_
        refine Rn.ladd (n := 165) d_Rf_nextToken_164 rfl ?_
        refine Rn.ldc2 (n := 168) (v := 96) d_Rf_nextToken_165 rfl cl_Rf_102 ?_
        refine Rn.lsub (n := 169) d_Rf_nextToken_168 rfl ?_
        refine Rn.goto (n := 175) d_Rf_nextToken_169 (by decide) ?_
        refine Rn.putL (n := 178) d_Rf_nextToken_175 rfl fl_Rf_96 pl_Rf_10 Lv_1 rfl ?_
        refine Rn.aload_n (n := 179) (i := 0) d_Rf_nextToken_178 rfl rfl rfl ?_
        refine Rn.dup (n := 180) d_Rf_nextToken_179 rfl rfl ?_
        refine Rn.getf (n := 183) (v := vI ((hsL h4 [1] 10 (((27 * (h4.2 [1] 10)) + ((h4.1 [7, 1] (h4.1 [1] 8).toNatClampNeg).toInt64)) - 96)).1 [1] 8)) d_Rf_nextToken_180 rfl fl_Rf_82 Lv_1 rfl ?_
        refine Rn.iconst (n := 184) (v := 1) d_Rf_nextToken_183 rfl (by decide) ?_
        refine Rn.iadd (n := 185) d_Rf_nextToken_184 rfl ?_
        refine Rn.putI (n := 188) d_Rf_nextToken_185 rfl fl_Rf_82 pl_Rf_8 Lv_1 rfl ?_
        refine Rn.goto (n := 101) d_Rf_nextToken_188 (by decide) ?_
        exact k
theorem g_Rf_nextToken_191 {X : XS}  (h : Hp) (Q : Option AV → Hp → Prop)  (k : ((((h.1 [1] 8) - (h.1 [1] 9)) ≤ 9 → Q none (hsL h [1] 10 (h.2 [1] 10))) ∧ (¬ ((h.1 [1] 8) - (h.1 [1] 9)) ≤ 9 → Q none (hsL h [1] 10 (-4))))) : Rn X m_Rf_nextToken 191 [some (vR [1])] [] h Q := by
  refine Rn.aload_n (n := 192) (i := 0) d_Rf_nextToken_191 rfl rfl rfl ?_
  refine Rn.aload_n (n := 193) (i := 0) d_Rf_nextToken_192 rfl rfl rfl ?_
  refine Rn.getf (n := 196) (v := vI (h.1 [1] 8)) d_Rf_nextToken_193 rfl fl_Rf_82 Lv_1 rfl ?_
  refine Rn.aload_n (n := 197) (i := 0) d_Rf_nextToken_196 rfl rfl rfl ?_
  refine Rn.getf (n := 200) (v := vI (h.1 [1] 9)) d_Rf_nextToken_197 rfl fl_Rf_85 Lv_1 rfl ?_
  refine Rn.isub (n := 201) d_Rf_nextToken_200 rfl ?_
  refine Rn.bipush (n := 203) (v := 9) d_Rf_nextToken_201 rfl (by decide) ?_
  refine Rn.icmp_le (n := 206) (t := 212) d_Rf_nextToken_203 rfl (by decide) (fun cc => ?_) (fun cc => ?_)
  · have k := k.1 cc
    refine Rn.aload_n (n := 213) (i := 0) d_Rf_nextToken_212 rfl rfl rfl ?_
    refine Rn.getf (n := 216) (v := vL (h.2 [1] 10)) d_Rf_nextToken_213 rfl fl_Rf_96 Lv_1 rfl ?_
    refine Rn.putL (n := 219) d_Rf_nextToken_216 rfl fl_Rf_96 pl_Rf_10 Lv_1 rfl ?_
    refine Rn.goto (n := 394) d_Rf_nextToken_219 (by decide) ?_
    exact Rn.vret d_Rf_nextToken_394 rfl k
  · have k := k.2 cc
    refine Rn.ldc2 (n := 209) (v := (-4)) d_Rf_nextToken_206 rfl cl_Rf_104 ?_
    refine Rn.goto (n := 216) d_Rf_nextToken_209 (by decide) ?_
    refine Rn.putL (n := 219) d_Rf_nextToken_216 rfl fl_Rf_96 pl_Rf_10 Lv_1 rfl ?_
    refine Rn.goto (n := 394) d_Rf_nextToken_219 (by decide) ?_
    exact Rn.vret d_Rf_nextToken_394 rfl k
theorem g_Rf_nextToken_241 {X : XS}  (h : Hp) (Q : Option AV → Hp → Prop)  (k : (((h.1 [1] 6) ≤ (h.1 [1] 8) → Rn X m_Rf_nextToken 333 [some (vR [1])] [] h Q) ∧ (¬ (h.1 [1] 6) ≤ (h.1 [1] 8) → (vp_in (h.1 [1] 8) 200 ∧ (∃ Q'5, EvI X m_Rf_in [vI (h.1 [7, 1] (h.1 [1] 8).toNatClampNeg), vI 48, vI 57] h Q'5 ∧ ∀ (r6 : Int32) (h4 : Hp), Q'5 r6 h4 → ((r6 = 0 → Rn X m_Rf_nextToken 333 [some (vR [1])] [] h4 Q) ∧ (¬ r6 = 0 → ((2 ≤ (h4.1 [1] 11) → Rn X m_Rf_nextToken 241 [some (vR [1])] [] (hsI (hsI (hsI h4 [1] 12 (h4.1 [1] 12)) [1] 11 (((hsI h4 [1] 12 (h4.1 [1] 12)).1 [1] 11) + 1)) [1] 8 (((hsI (hsI h4 [1] 12 (h4.1 [1] 12)) [1] 11 (((hsI h4 [1] 12 (h4.1 [1] 12)).1 [1] 11) + 1)).1 [1] 8) + 1)) Q) ∧ (¬ 2 ≤ (h4.1 [1] 11) → (vp_in (h4.1 [1] 8) 200 ∧ Rn X m_Rf_nextToken 241 [some (vR [1])] [] (hsI (hsI (hsI h4 [1] 12 (((10 * (h4.1 [1] 12)) + (h4.1 [7, 1] (h4.1 [1] 8).toNatClampNeg)) - 48)) [1] 11 (((hsI h4 [1] 12 (((10 * (h4.1 [1] 12)) + (h4.1 [7, 1] (h4.1 [1] 8).toNatClampNeg)) - 48)).1 [1] 11) + 1)) [1] 8 (((hsI (hsI h4 [1] 12 (((10 * (h4.1 [1] 12)) + (h4.1 [7, 1] (h4.1 [1] 8).toNatClampNeg)) - 48)) [1] 11 (((hsI h4 [1] 12 (((10 * (h4.1 [1] 12)) + (h4.1 [7, 1] (h4.1 [1] 8).toNatClampNeg)) - 48)).1 [1] 11) + 1)).1 [1] 8) + 1)) Q)))))))))) : Rn X m_Rf_nextToken 241 [some (vR [1])] [] h Q := by
  refine Rn.aload_n (n := 242) (i := 0) d_Rf_nextToken_241 rfl rfl rfl ?_
  refine Rn.getf (n := 245) (v := vI (h.1 [1] 8)) d_Rf_nextToken_242 rfl fl_Rf_82 Lv_1 rfl ?_
  refine Rn.aload_n (n := 246) (i := 0) d_Rf_nextToken_245 rfl rfl rfl ?_
  refine Rn.getf (n := 249) (v := vI (h.1 [1] 6)) d_Rf_nextToken_246 rfl fl_Rf_77 Lv_1 rfl ?_
  refine Rn.icmp_ge (n := 252) (t := 333) d_Rf_nextToken_249 rfl (by decide) (fun cc => ?_) (fun cc => ?_)
  · have k := k.1 cc
    exact k
  · have k := k.2 cc
    refine Rn.aload_n (n := 253) (i := 0) d_Rf_nextToken_252 rfl rfl rfl ?_
    refine Rn.getf (n := 256) (v := vR [7, 1]) d_Rf_nextToken_253 rfl fl_Rf_23 Lv_1 rfl ?_
    refine Rn.aload_n (n := 257) (i := 0) d_Rf_nextToken_256 rfl rfl rfl ?_
    refine Rn.getf (n := 260) (v := vI (h.1 [1] 8)) d_Rf_nextToken_257 rfl fl_Rf_82 Lv_1 rfl ?_
    obtain ⟨b1, k⟩ := k
    refine Rn.iald (n := 261) (v := h.1 [7, 1] (h.1 [1] 8).toNatClampNeg) d_Rf_nextToken_260 rfl Lv_7_1 b1 rfl ?_
    refine Rn.bipush (n := 263) (v := 48) d_Rf_nextToken_261 rfl (by decide) ?_
    refine Rn.bipush (n := 265) (v := 57) d_Rf_nextToken_263 rfl (by decide) ?_
    obtain ⟨Q'5, ev2, k⟩ := k
    refine Rn.callS (n := 268) (av := [vI (h.1 [7, 1] (h.1 [1] 8).toNatClampNeg), vI 48, vI 57]) d_Rf_nextToken_265 rfl ml_Rf_nextToken_66 ms_Rf_in rfl rfl (Nat.le_of_ble_eq_true rfl) ev2 (fun v h4 hq => ?_)
    obtain ⟨r6, rfl, hq⟩ := hq
    have k := k r6 h4 hq
    show Rn X m_Rf_nextToken 268 [some (vR [1])] [vI r6] h4 Q
    refine Rn.if_eq (n := 271) (t := 333) d_Rf_nextToken_268 rfl (by decide) (fun cc => ?_) (fun cc => ?_)
    · have k := k.1 cc
      exact k
    · have k := k.2 cc
      refine Rn.aload_n (n := 272) (i := 0) d_Rf_nextToken_271 rfl rfl rfl ?_
      refine Rn.aload_n (n := 273) (i := 0) d_Rf_nextToken_272 rfl rfl rfl ?_
      refine Rn.getf (n := 276) (v := vI (h4.1 [1] 11)) d_Rf_nextToken_273 rfl fl_Rf_88 Lv_1 rfl ?_
      refine Rn.iconst (n := 277) (v := 2) d_Rf_nextToken_276 rfl (by decide) ?_
      refine Rn.icmp_ge (n := 280) (t := 303) d_Rf_nextToken_277 rfl (by decide) (fun cc => ?_) (fun cc => ?_)
      · have k := k.1 cc
        refine Rn.aload_n (n := 304) (i := 0) d_Rf_nextToken_303 rfl rfl rfl ?_
        refine Rn.getf (n := 307) (v := vI (h4.1 [1] 12)) d_Rf_nextToken_304 rfl fl_Rf_91 Lv_1 rfl ?_
        refine Rn.putI (n := 310) d_Rf_nextToken_307 rfl fl_Rf_91 pl_Rf_12 Lv_1 rfl ?_
        refine Rn.aload_n (n := 311) (i := 0) d_Rf_nextToken_310 rfl rfl rfl ?_
        refine Rn.dup (n := 312) d_Rf_nextToken_311 rfl rfl ?_
        refine Rn.getf (n := 315) (v := vI ((hsI h4 [1] 12 (h4.1 [1] 12)).1 [1] 11)) d_Rf_nextToken_312 rfl fl_Rf_88 Lv_1 rfl ?_
        refine Rn.iconst (n := 316) (v := 1) d_Rf_nextToken_315 rfl (by decide) ?_
        refine Rn.iadd (n := 317) d_Rf_nextToken_316 rfl ?_
        refine Rn.putI (n := 320) d_Rf_nextToken_317 rfl fl_Rf_88 pl_Rf_11 Lv_1 rfl ?_
        refine Rn.aload_n (n := 321) (i := 0) d_Rf_nextToken_320 rfl rfl rfl ?_
        refine Rn.dup (n := 322) d_Rf_nextToken_321 rfl rfl ?_
        refine Rn.getf (n := 325) (v := vI ((hsI (hsI h4 [1] 12 (h4.1 [1] 12)) [1] 11 (((hsI h4 [1] 12 (h4.1 [1] 12)).1 [1] 11) + 1)).1 [1] 8)) d_Rf_nextToken_322 rfl fl_Rf_82 Lv_1 rfl ?_
        refine Rn.iconst (n := 326) (v := 1) d_Rf_nextToken_325 rfl (by decide) ?_
        refine Rn.iadd (n := 327) d_Rf_nextToken_326 rfl ?_
        refine Rn.putI (n := 330) d_Rf_nextToken_327 rfl fl_Rf_82 pl_Rf_8 Lv_1 rfl ?_
        refine Rn.goto (n := 241) d_Rf_nextToken_330 (by decide) ?_
        exact k
      · have k := k.2 cc
        refine Rn.bipush (n := 282) (v := 10) d_Rf_nextToken_280 rfl (by decide) ?_
        refine Rn.aload_n (n := 283) (i := 0) d_Rf_nextToken_282 rfl rfl rfl ?_
        refine Rn.getf (n := 286) (v := vI (h4.1 [1] 12)) d_Rf_nextToken_283 rfl fl_Rf_91 Lv_1 rfl ?_
        refine Rn.imul (n := 287) d_Rf_nextToken_286 rfl ?_
        refine Rn.aload_n (n := 288) (i := 0) d_Rf_nextToken_287 rfl rfl rfl ?_
        refine Rn.getf (n := 291) (v := vR [7, 1]) d_Rf_nextToken_288 rfl fl_Rf_23 Lv_1 rfl ?_
        refine Rn.aload_n (n := 292) (i := 0) d_Rf_nextToken_291 rfl rfl rfl ?_
        refine Rn.getf (n := 295) (v := vI (h4.1 [1] 8)) d_Rf_nextToken_292 rfl fl_Rf_82 Lv_1 rfl ?_
        obtain ⟨b7, k⟩ := k
        refine Rn.iald (n := 296) (v := h4.1 [7, 1] (h4.1 [1] 8).toNatClampNeg) d_Rf_nextToken_295 rfl Lv_7_1 b7 rfl ?_
        refine Rn.iadd (n := 297) d_Rf_nextToken_296 rfl ?_
        refine Rn.bipush (n := 299) (v := 48) d_Rf_nextToken_297 rfl (by decide) ?_
        refine Rn.isub (n := 300) d_Rf_nextToken_299 rfl ?_
        refine Rn.goto (n := 307) d_Rf_nextToken_300 (by decide) ?_
        refine Rn.putI (n := 310) d_Rf_nextToken_307 rfl fl_Rf_91 pl_Rf_12 Lv_1 rfl ?_
        refine Rn.aload_n (n := 311) (i := 0) d_Rf_nextToken_310 rfl rfl rfl ?_
        refine Rn.dup (n := 312) d_Rf_nextToken_311 rfl rfl ?_
        refine Rn.getf (n := 315) (v := vI ((hsI h4 [1] 12 (((10 * (h4.1 [1] 12)) + (h4.1 [7, 1] (h4.1 [1] 8).toNatClampNeg)) - 48)).1 [1] 11)) d_Rf_nextToken_312 rfl fl_Rf_88 Lv_1 rfl ?_
        refine Rn.iconst (n := 316) (v := 1) d_Rf_nextToken_315 rfl (by decide) ?_
        refine Rn.iadd (n := 317) d_Rf_nextToken_316 rfl ?_
        refine Rn.putI (n := 320) d_Rf_nextToken_317 rfl fl_Rf_88 pl_Rf_11 Lv_1 rfl ?_
        refine Rn.aload_n (n := 321) (i := 0) d_Rf_nextToken_320 rfl rfl rfl ?_
        refine Rn.dup (n := 322) d_Rf_nextToken_321 rfl rfl ?_
        refine Rn.getf (n := 325) (v := vI ((hsI (hsI h4 [1] 12 (((10 * (h4.1 [1] 12)) + (h4.1 [7, 1] (h4.1 [1] 8).toNatClampNeg)) - 48)) [1] 11 (((hsI h4 [1] 12 (((10 * (h4.1 [1] 12)) + (h4.1 [7, 1] (h4.1 [1] 8).toNatClampNeg)) - 48)).1 [1] 11) + 1)).1 [1] 8)) d_Rf_nextToken_322 rfl fl_Rf_82 Lv_1 rfl ?_
        refine Rn.iconst (n := 326) (v := 1) d_Rf_nextToken_325 rfl (by decide) ?_
        refine Rn.iadd (n := 327) d_Rf_nextToken_326 rfl ?_
        refine Rn.putI (n := 330) d_Rf_nextToken_327 rfl fl_Rf_82 pl_Rf_8 Lv_1 rfl ?_
        refine Rn.goto (n := 241) d_Rf_nextToken_330 (by decide) ?_
        exact k
theorem g_Rf_nextToken_333 {X : XS}  (h : Hp) (Q : Option AV → Hp → Prop)  (k : (((h.1 [1] 11) ≤ 2 → Q none (hsL h [1] 10 (-1))) ∧ (¬ (h.1 [1] 11) ≤ 2 → Q none (hsL h [1] 10 (-4))))) : Rn X m_Rf_nextToken 333 [some (vR [1])] [] h Q := by
  refine Rn.aload_n (n := 334) (i := 0) d_Rf_nextToken_333 rfl rfl rfl ?_
  refine Rn.aload_n (n := 335) (i := 0) d_Rf_nextToken_334 rfl rfl rfl ?_
  refine Rn.getf (n := 338) (v := vI (h.1 [1] 11)) d_Rf_nextToken_335 rfl fl_Rf_88 Lv_1 rfl ?_
  refine Rn.iconst (n := 339) (v := 2) d_Rf_nextToken_338 rfl (by decide) ?_
  refine Rn.icmp_le (n := 342) (t := 348) d_Rf_nextToken_339 rfl (by decide) (fun cc => ?_) (fun cc => ?_)
  · have k := k.1 cc
    refine Rn.ldc2 (n := 351) (v := (-1)) d_Rf_nextToken_348 rfl cl_Rf_106 ?_
    refine Rn.putL (n := 354) d_Rf_nextToken_351 rfl fl_Rf_96 pl_Rf_10 Lv_1 rfl ?_
    refine Rn.goto (n := 394) d_Rf_nextToken_354 (by decide) ?_
    exact Rn.vret d_Rf_nextToken_394 rfl k
  · have k := k.2 cc
    refine Rn.ldc2 (n := 345) (v := (-4)) d_Rf_nextToken_342 rfl cl_Rf_104 ?_
    refine Rn.goto (n := 351) d_Rf_nextToken_345 (by decide) ?_
    refine Rn.putL (n := 354) d_Rf_nextToken_351 rfl fl_Rf_96 pl_Rf_10 Lv_1 rfl ?_
    refine Rn.goto (n := 394) d_Rf_nextToken_354 (by decide) ?_
    exact Rn.vret d_Rf_nextToken_394 rfl k
theorem e_Rf_nextToken {X : XS}  (h : Hp) (Q : Option AV → Hp → Prop) (k : Rn X m_Rf_nextToken 0 [some (vR [1])] [] h Q) : Ev X m_Rf_nextToken [vR [1]] h Q := Ev.intro (plainFor_of_name (by decide +kernel)) (Nat.le_of_ble_eq_true rfl) (ls := [some (vR [1])]) rfl k
theorem d_Rf_fails_0 : decode m_Rf_fails.2.1 0 = .ok (.aload_n 0, 1) := by decide +kernel
theorem d_Rf_fails_1 : decode m_Rf_fails.2.1 1 = .ok (.aload_n 0, 1) := by decide +kernel
theorem d_Rf_fails_2 : decode m_Rf_fails.2.1 2 = .ok (.getfield 85, 3) := by decide +kernel
theorem d_Rf_fails_5 : decode m_Rf_fails.2.1 5 = .ok (.putfield 110, 3) := by decide +kernel
theorem d_Rf_fails_8 : decode m_Rf_fails.2.1 8 = .ok (.iconst 0, 1) := by decide +kernel
theorem d_Rf_fails_9 : decode m_Rf_fails.2.1 9 = .ok (.ireturn, 1) := by decide +kernel
theorem g_Rf_fails_0 {X : XS}  (h : Hp) (Q : Option AV → Hp → Prop)  (k : Q (some (vI 0)) (hsI h [1] 13 (h.1 [1] 9))) : Rn X m_Rf_fails 0 [some (vR [1])] [] h Q := by
  refine Rn.aload_n (n := 1) (i := 0) d_Rf_fails_0 rfl rfl rfl ?_
  refine Rn.aload_n (n := 2) (i := 0) d_Rf_fails_1 rfl rfl rfl ?_
  refine Rn.getf (n := 5) (v := vI (h.1 [1] 9)) d_Rf_fails_2 rfl fl_Rf_85 Lv_1 rfl ?_
  refine Rn.putI (n := 8) d_Rf_fails_5 rfl fl_Rf_110 pl_Rf_13 Lv_1 rfl ?_
  refine Rn.iconst (n := 9) (v := 0) d_Rf_fails_8 rfl (by decide) ?_
  exact Rn.iret d_Rf_fails_9 rfl rfl k
theorem e_Rf_fails {X : XS}  (h : Hp) (Q : Option AV → Hp → Prop) (k : Rn X m_Rf_fails 0 [some (vR [1])] [] h Q) : Ev X m_Rf_fails [vR [1]] h Q := Ev.intro (plainFor_of_name (by decide +kernel)) (Nat.le_of_ble_eq_true rfl) (ls := [some (vR [1])]) rfl k
theorem d_Rf_isNumber_0 : decode m_Rf_isNumber.2.1 0 = .ok (.aload_n 0, 1) := by decide +kernel
theorem d_Rf_isNumber_1 : decode m_Rf_isNumber.2.1 1 = .ok (.invokevirtual 113, 3) := by decide +kernel
theorem d_Rf_isNumber_4 : decode m_Rf_isNumber.2.1 4 = .ok (.aload_n 0, 1) := by decide +kernel
theorem d_Rf_isNumber_5 : decode m_Rf_isNumber.2.1 5 = .ok (.getfield 96, 3) := by decide +kernel
theorem d_Rf_isNumber_8 : decode m_Rf_isNumber.2.1 8 = .ok (.ldc2_w 106, 3) := by decide +kernel
theorem d_Rf_isNumber_11 : decode m_Rf_isNumber.2.1 11 = .ok (.lcmp, 1) := by decide +kernel
theorem d_Rf_isNumber_12 : decode m_Rf_isNumber.2.1 12 = .ok (.ifCond .ne 15, 3) := by decide +kernel
theorem d_Rf_isNumber_15 : decode m_Rf_isNumber.2.1 15 = .ok (.aload_n 0, 1) := by decide +kernel
theorem d_Rf_isNumber_16 : decode m_Rf_isNumber.2.1 16 = .ok (.getfield 91, 3) := by decide +kernel
theorem d_Rf_isNumber_19 : decode m_Rf_isNumber.2.1 19 = .ok (.iload_n 2, 1) := by decide +kernel
theorem d_Rf_isNumber_20 : decode m_Rf_isNumber.2.1 20 = .ok (.iload_n 3, 1) := by decide +kernel
theorem d_Rf_isNumber_21 : decode m_Rf_isNumber.2.1 21 = .ok (.invokestatic 66, 3) := by decide +kernel
theorem d_Rf_isNumber_24 : decode m_Rf_isNumber.2.1 24 = .ok (.ifCond .ne 8, 3) := by decide +kernel
theorem d_Rf_isNumber_27 : decode m_Rf_isNumber.2.1 27 = .ok (.aload_n 0, 1) := by decide +kernel
theorem d_Rf_isNumber_28 : decode m_Rf_isNumber.2.1 28 = .ok (.invokevirtual 116, 3) := by decide +kernel
theorem d_Rf_isNumber_31 : decode m_Rf_isNumber.2.1 31 = .ok (.ireturn, 1) := by decide +kernel
theorem d_Rf_isNumber_32 : decode m_Rf_isNumber.2.1 32 = .ok (.aload_n 0, 1) := by decide +kernel
theorem d_Rf_isNumber_33 : decode m_Rf_isNumber.2.1 33 = .ok (.getfield 26, 3) := by decide +kernel
theorem d_Rf_isNumber_36 : decode m_Rf_isNumber.2.1 36 = .ok (.iload_n 1, 1) := by decide +kernel
theorem d_Rf_isNumber_37 : decode m_Rf_isNumber.2.1 37 = .ok (.aload_n 0, 1) := by decide +kernel
theorem d_Rf_isNumber_38 : decode m_Rf_isNumber.2.1 38 = .ok (.getfield 91, 3) := by decide +kernel
theorem d_Rf_isNumber_41 : decode m_Rf_isNumber.2.1 41 = .ok (.iastore, 1) := by decide +kernel
theorem d_Rf_isNumber_42 : decode m_Rf_isNumber.2.1 42 = .ok (.iconst 1, 1) := by decide +kernel
theorem d_Rf_isNumber_43 : decode m_Rf_isNumber.2.1 43 = .ok (.ireturn, 1) := by decide +kernel
theorem g_Rf_isNumber_0 {X : XS} (a1 : Int32) (a2 : Int32) (a3 : Int32) (h : Hp) (Q : Option AV → Hp → Prop)  (k : (∃ Q'4, EvV X m_Rf_nextToken [vR [1]] h Q'4 ∧ ∀ (h3 : Hp), Q'4 h3 → ((¬ (lg_cmp (h3.2 [1] 10) (-1)) = 0 → Rn X m_Rf_isNumber 27 [some (vR [1]), some (vI a1), some (vI a2), some (vI a3)] [] h3 Q) ∧ ((lg_cmp (h3.2 [1] 10) (-1)) = 0 → (∃ Q'8, EvI X m_Rf_in [vI (h3.1 [1] 12), vI a2, vI a3] h3 Q'8 ∧ ∀ (r9 : Int32) (h7 : Hp), Q'8 r9 h7 → ((¬ r9 = 0 → (vp_in a1 64 ∧ Q (some (vI 1)) (hsI h7 [15, 1] a1.toNatClampNeg (h7.1 [1] 12)))) ∧ (r9 = 0 → Rn X m_Rf_isNumber 27 [some (vR [1]), some (vI a1), some (vI a2), some (vI a3)] [] h7 Q))))))) : Rn X m_Rf_isNumber 0 [some (vR [1]), some (vI a1), some (vI a2), some (vI a3)] [] h Q := by
  refine Rn.aload_n (n := 1) (i := 0) d_Rf_isNumber_0 rfl rfl rfl ?_
  obtain ⟨Q'4, ev1, k⟩ := k
  refine Rn.callV (n := 4) (av := []) d_Rf_isNumber_1 rfl ml_Rf_isNumber_113 mi_Rf_nextToken Lv_1 rfl rfl rfl rfl (Nat.le_of_ble_eq_true rfl) ev1 (fun v h3 hq => ?_)
  obtain ⟨rfl, hq⟩ := hq
  have k := k h3 hq
  show Rn X m_Rf_isNumber 4 [some (vR [1]), some (vI a1), some (vI a2), some (vI a3)] [] h3 Q
  refine Rn.aload_n (n := 5) (i := 0) d_Rf_isNumber_4 rfl rfl rfl ?_
  refine Rn.getf (n := 8) (v := vL (h3.2 [1] 10)) d_Rf_isNumber_5 rfl fl_Rf_96 Lv_1 rfl ?_
  refine Rn.ldc2 (n := 11) (v := (-1)) d_Rf_isNumber_8 rfl cl_Rf_106 ?_
  refine Rn.lcmp (n := 12) d_Rf_isNumber_11 rfl ?_
  refine Rn.if_ne (n := 15) (t := 27) d_Rf_isNumber_12 rfl (by decide) (fun cc => ?_) (fun cc => ?_)
  · have k := k.1 cc
    exact k
  · have k := k.2 cc
    refine Rn.aload_n (n := 16) (i := 0) d_Rf_isNumber_15 rfl rfl rfl ?_
    refine Rn.getf (n := 19) (v := vI (h3.1 [1] 12)) d_Rf_isNumber_16 rfl fl_Rf_91 Lv_1 rfl ?_
    refine Rn.iload_n (n := 20) (i := 2) d_Rf_isNumber_19 rfl rfl rfl ?_
    refine Rn.iload_n (n := 21) (i := 3) d_Rf_isNumber_20 rfl rfl rfl ?_
    obtain ⟨Q'8, ev5, k⟩ := k
    refine Rn.callS (n := 24) (av := [vI (h3.1 [1] 12), vI a2, vI a3]) d_Rf_isNumber_21 rfl ml_Rf_isNumber_66 ms_Rf_in rfl rfl (Nat.le_of_ble_eq_true rfl) ev5 (fun v h7 hq => ?_)
    obtain ⟨r9, rfl, hq⟩ := hq
    have k := k r9 h7 hq
    show Rn X m_Rf_isNumber 24 [some (vR [1]), some (vI a1), some (vI a2), some (vI a3)] [vI r9] h7 Q
    refine Rn.if_ne (n := 27) (t := 32) d_Rf_isNumber_24 rfl (by decide) (fun cc => ?_) (fun cc => ?_)
    · have k := k.1 cc
      refine Rn.aload_n (n := 33) (i := 0) d_Rf_isNumber_32 rfl rfl rfl ?_
      refine Rn.getf (n := 36) (v := vR [15, 1]) d_Rf_isNumber_33 rfl fl_Rf_26 Lv_1 rfl ?_
      refine Rn.iload_n (n := 37) (i := 1) d_Rf_isNumber_36 rfl rfl rfl ?_
      refine Rn.aload_n (n := 38) (i := 0) d_Rf_isNumber_37 rfl rfl rfl ?_
      refine Rn.getf (n := 41) (v := vI (h7.1 [1] 12)) d_Rf_isNumber_38 rfl fl_Rf_91 Lv_1 rfl ?_
      obtain ⟨b10, k⟩ := k
      refine Rn.iast (n := 42) d_Rf_isNumber_41 rfl Lv_15_1 b10 ?_
      refine Rn.iconst (n := 43) (v := 1) d_Rf_isNumber_42 rfl (by decide) ?_
      exact Rn.iret d_Rf_isNumber_43 rfl rfl k
    · have k := k.2 cc
      exact k
theorem g_Rf_isNumber_27 {X : XS} (a1 : Int32) (a2 : Int32) (a3 : Int32) (h : Hp) (Q : Option AV → Hp → Prop)  (k : (∃ Q'4, EvI X m_Rf_fails [vR [1]] h Q'4 ∧ ∀ (r5 : Int32) (h3 : Hp), Q'4 r5 h3 → ((r5 = 0 ∨ r5 = 1) ∧ Q (some (vI r5)) h3))) : Rn X m_Rf_isNumber 27 [some (vR [1]), some (vI a1), some (vI a2), some (vI a3)] [] h Q := by
  refine Rn.aload_n (n := 28) (i := 0) d_Rf_isNumber_27 rfl rfl rfl ?_
  obtain ⟨Q'4, ev1, k⟩ := k
  refine Rn.callV (n := 31) (av := []) d_Rf_isNumber_28 rfl ml_Rf_isNumber_116 mi_Rf_fails Lv_1 rfl rfl rfl rfl (Nat.le_of_ble_eq_true rfl) ev1 (fun v h3 hq => ?_)
  obtain ⟨r5, rfl, hq⟩ := hq
  have k := k r5 h3 hq
  show Rn X m_Rf_isNumber 31 [some (vR [1]), some (vI a1), some (vI a2), some (vI a3)] [vI r5] h3 Q
  obtain ⟨hz, k⟩ := k
  exact Rn.iret d_Rf_isNumber_31 rfl (nar_z hz) k
theorem e_Rf_isNumber {X : XS} (a1 : Int32) (a2 : Int32) (a3 : Int32) (h : Hp) (Q : Option AV → Hp → Prop) (k : Rn X m_Rf_isNumber 0 [some (vR [1]), some (vI a1), some (vI a2), some (vI a3)] [] h Q) : Ev X m_Rf_isNumber [vR [1], vI a1, vI a2, vI a3] h Q := Ev.intro (plainFor_of_name (by decide +kernel)) (Nat.le_of_ble_eq_true rfl) (ls := [some (vR [1]), some (vI a1), some (vI a2), some (vI a3)]) rfl k
theorem d_Rf_isStreet_0 : decode m_Rf_isStreet.2.1 0 = .ok (.aload_n 0, 1) := by decide +kernel
theorem d_Rf_isStreet_1 : decode m_Rf_isStreet.2.1 1 = .ok (.iload_n 1, 1) := by decide +kernel
theorem d_Rf_isStreet_2 : decode m_Rf_isStreet.2.1 2 = .ok (.iconst 1, 1) := by decide +kernel
theorem d_Rf_isStreet_3 : decode m_Rf_isStreet.2.1 3 = .ok (.iadd, 1) := by decide +kernel
theorem d_Rf_isStreet_4 : decode m_Rf_isStreet.2.1 4 = .ok (.iconst 1, 1) := by decide +kernel
theorem d_Rf_isStreet_5 : decode m_Rf_isStreet.2.1 5 = .ok (.iconst 4, 1) := by decide +kernel
theorem d_Rf_isStreet_6 : decode m_Rf_isStreet.2.1 6 = .ok (.invokevirtual 120, 3) := by decide +kernel
theorem d_Rf_isStreet_9 : decode m_Rf_isStreet.2.1 9 = .ok (.ifCond .eq 16, 3) := by decide +kernel
theorem d_Rf_isStreet_12 : decode m_Rf_isStreet.2.1 12 = .ok (.aload_n 0, 1) := by decide +kernel
theorem d_Rf_isStreet_13 : decode m_Rf_isStreet.2.1 13 = .ok (.iload_n 1, 1) := by decide +kernel
theorem d_Rf_isStreet_14 : decode m_Rf_isStreet.2.1 14 = .ok (.iconst 2, 1) := by decide +kernel
theorem d_Rf_isStreet_15 : decode m_Rf_isStreet.2.1 15 = .ok (.iadd, 1) := by decide +kernel
theorem d_Rf_isStreet_16 : decode m_Rf_isStreet.2.1 16 = .ok (.iconst 1, 1) := by decide +kernel
theorem d_Rf_isStreet_17 : decode m_Rf_isStreet.2.1 17 = .ok (.bipush 12, 2) := by decide +kernel
theorem d_Rf_isStreet_19 : decode m_Rf_isStreet.2.1 19 = .ok (.invokevirtual 120, 3) := by decide +kernel
theorem d_Rf_isStreet_22 : decode m_Rf_isStreet.2.1 22 = .ok (.ifCond .ne 5, 3) := by decide +kernel
theorem d_Rf_isStreet_25 : decode m_Rf_isStreet.2.1 25 = .ok (.iconst 0, 1) := by decide +kernel
theorem d_Rf_isStreet_26 : decode m_Rf_isStreet.2.1 26 = .ok (.ireturn, 1) := by decide +kernel
theorem d_Rf_isStreet_27 : decode m_Rf_isStreet.2.1 27 = .ok (.aload_n 0, 1) := by decide +kernel
theorem d_Rf_isStreet_28 : decode m_Rf_isStreet.2.1 28 = .ok (.aload_n 0, 1) := by decide +kernel
theorem d_Rf_isStreet_29 : decode m_Rf_isStreet.2.1 29 = .ok (.getfield 26, 3) := by decide +kernel
theorem d_Rf_isStreet_32 : decode m_Rf_isStreet.2.1 32 = .ok (.iload_n 1, 1) := by decide +kernel
theorem d_Rf_isStreet_33 : decode m_Rf_isStreet.2.1 33 = .ok (.iconst 1, 1) := by decide +kernel
theorem d_Rf_isStreet_34 : decode m_Rf_isStreet.2.1 34 = .ok (.iadd, 1) := by decide +kernel
theorem d_Rf_isStreet_35 : decode m_Rf_isStreet.2.1 35 = .ok (.iaload, 1) := by decide +kernel
theorem d_Rf_isStreet_36 : decode m_Rf_isStreet.2.1 36 = .ok (.putfield 123, 3) := by decide +kernel
theorem d_Rf_isStreet_39 : decode m_Rf_isStreet.2.1 39 = .ok (.aload_n 0, 1) := by decide +kernel
theorem d_Rf_isStreet_40 : decode m_Rf_isStreet.2.1 40 = .ok (.aload_n 0, 1) := by decide +kernel
theorem d_Rf_isStreet_41 : decode m_Rf_isStreet.2.1 41 = .ok (.getfield 26, 3) := by decide +kernel
theorem d_Rf_isStreet_44 : decode m_Rf_isStreet.2.1 44 = .ok (.iload_n 1, 1) := by decide +kernel
theorem d_Rf_isStreet_45 : decode m_Rf_isStreet.2.1 45 = .ok (.iconst 2, 1) := by decide +kernel
theorem d_Rf_isStreet_46 : decode m_Rf_isStreet.2.1 46 = .ok (.iadd, 1) := by decide +kernel
theorem d_Rf_isStreet_47 : decode m_Rf_isStreet.2.1 47 = .ok (.iaload, 1) := by decide +kernel
theorem d_Rf_isStreet_48 : decode m_Rf_isStreet.2.1 48 = .ok (.putfield 126, 3) := by decide +kernel
theorem d_Rf_isStreet_51 : decode m_Rf_isStreet.2.1 51 = .ok (.iconst 1, 1) := by decide +kernel
theorem d_Rf_isStreet_52 : decode m_Rf_isStreet.2.1 52 = .ok (.ireturn, 1) := by decide +kernel
theorem g_Rf_isStreet_0 {X : XS} (a1 : Int32) (h : Hp) (Q : Option AV → Hp → Prop)  (k : (∃ Q'4, EvI X m_Rf_isNumber [vR [1], vI (a1 + 1), vI 1, vI 4] h Q'4 ∧ ∀ (r5 : Int32) (h3 : Hp), Q'4 r5 h3 → ((r5 = 0 → Q (some (vI 0)) h3) ∧ (¬ r5 = 0 → (∃ Q'9, EvI X m_Rf_isNumber [vR [1], vI (a1 + 2), vI 1, vI 12] h3 Q'9 ∧ ∀ (r10 : Int32) (h8 : Hp), Q'9 r10 h8 → ((¬ r10 = 0 → (vp_in (a1 + 1) 64 ∧ (vp_in (a1 + 2) 64 ∧ Q (some (vI 1)) (hsI (hsI h8 [1] 16 (h8.1 [15, 1] (a1 + 1).toNatClampNeg)) [1] 17 ((hsI h8 [1] 16 (h8.1 [15, 1] (a1 + 1).toNatClampNeg)).1 [15, 1] (a1 + 2).toNatClampNeg))))) ∧ (r10 = 0 → Q (some (vI 0)) h8))))))) : Rn X m_Rf_isStreet 0 [some (vR [1]), some (vI a1)] [] h Q := by
  refine Rn.aload_n (n := 1) (i := 0) d_Rf_isStreet_0 rfl rfl rfl ?_
  refine Rn.iload_n (n := 2) (i := 1) d_Rf_isStreet_1 rfl rfl rfl ?_
  refine Rn.iconst (n := 3) (v := 1) d_Rf_isStreet_2 rfl (by decide) ?_
  refine Rn.iadd (n := 4) d_Rf_isStreet_3 rfl ?_
  refine Rn.iconst (n := 5) (v := 1) d_Rf_isStreet_4 rfl (by decide) ?_
  refine Rn.iconst (n := 6) (v := 4) d_Rf_isStreet_5 rfl (by decide) ?_
  obtain ⟨Q'4, ev1, k⟩ := k
  refine Rn.callV (n := 9) (av := [vI (a1 + 1), vI 1, vI 4]) d_Rf_isStreet_6 rfl ml_Rf_isStreet_120 mi_Rf_isNumber Lv_1 rfl rfl rfl rfl (Nat.le_of_ble_eq_true rfl) ev1 (fun v h3 hq => ?_)
  obtain ⟨r5, rfl, hq⟩ := hq
  have k := k r5 h3 hq
  show Rn X m_Rf_isStreet 9 [some (vR [1]), some (vI a1)] [vI r5] h3 Q
  refine Rn.if_eq (n := 12) (t := 25) d_Rf_isStreet_9 rfl (by decide) (fun cc => ?_) (fun cc => ?_)
  · have k := k.1 cc
    refine Rn.iconst (n := 26) (v := 0) d_Rf_isStreet_25 rfl (by decide) ?_
    exact Rn.iret d_Rf_isStreet_26 rfl rfl k
  · have k := k.2 cc
    refine Rn.aload_n (n := 13) (i := 0) d_Rf_isStreet_12 rfl rfl rfl ?_
    refine Rn.iload_n (n := 14) (i := 1) d_Rf_isStreet_13 rfl rfl rfl ?_
    refine Rn.iconst (n := 15) (v := 2) d_Rf_isStreet_14 rfl (by decide) ?_
    refine Rn.iadd (n := 16) d_Rf_isStreet_15 rfl ?_
    refine Rn.iconst (n := 17) (v := 1) d_Rf_isStreet_16 rfl (by decide) ?_
    refine Rn.bipush (n := 19) (v := 12) d_Rf_isStreet_17 rfl (by decide) ?_
    obtain ⟨Q'9, ev6, k⟩ := k
    refine Rn.callV (n := 22) (av := [vI (a1 + 2), vI 1, vI 12]) d_Rf_isStreet_19 rfl ml_Rf_isStreet_120 mi_Rf_isNumber Lv_1 rfl rfl rfl rfl (Nat.le_of_ble_eq_true rfl) ev6 (fun v h8 hq => ?_)
    obtain ⟨r10, rfl, hq⟩ := hq
    have k := k r10 h8 hq
    show Rn X m_Rf_isStreet 22 [some (vR [1]), some (vI a1)] [vI r10] h8 Q
    refine Rn.if_ne (n := 25) (t := 27) d_Rf_isStreet_22 rfl (by decide) (fun cc => ?_) (fun cc => ?_)
    · have k := k.1 cc
      refine Rn.aload_n (n := 28) (i := 0) d_Rf_isStreet_27 rfl rfl rfl ?_
      refine Rn.aload_n (n := 29) (i := 0) d_Rf_isStreet_28 rfl rfl rfl ?_
      refine Rn.getf (n := 32) (v := vR [15, 1]) d_Rf_isStreet_29 rfl fl_Rf_26 Lv_1 rfl ?_
      refine Rn.iload_n (n := 33) (i := 1) d_Rf_isStreet_32 rfl rfl rfl ?_
      refine Rn.iconst (n := 34) (v := 1) d_Rf_isStreet_33 rfl (by decide) ?_
      refine Rn.iadd (n := 35) d_Rf_isStreet_34 rfl ?_
      obtain ⟨b11, k⟩ := k
      refine Rn.iald (n := 36) (v := h8.1 [15, 1] (a1 + 1).toNatClampNeg) d_Rf_isStreet_35 rfl Lv_15_1 b11 rfl ?_
      refine Rn.putI (n := 39) d_Rf_isStreet_36 rfl fl_Rf_123 pl_Rf_16 Lv_1 rfl ?_
      refine Rn.aload_n (n := 40) (i := 0) d_Rf_isStreet_39 rfl rfl rfl ?_
      refine Rn.aload_n (n := 41) (i := 0) d_Rf_isStreet_40 rfl rfl rfl ?_
      refine Rn.getf (n := 44) (v := vR [15, 1]) d_Rf_isStreet_41 rfl fl_Rf_26 Lv_1 rfl ?_
      refine Rn.iload_n (n := 45) (i := 1) d_Rf_isStreet_44 rfl rfl rfl ?_
      refine Rn.iconst (n := 46) (v := 2) d_Rf_isStreet_45 rfl (by decide) ?_
      refine Rn.iadd (n := 47) d_Rf_isStreet_46 rfl ?_
      obtain ⟨b12, k⟩ := k
      refine Rn.iald (n := 48) (v := (hsI h8 [1] 16 (h8.1 [15, 1] (a1 + 1).toNatClampNeg)).1 [15, 1] (a1 + 2).toNatClampNeg) d_Rf_isStreet_47 rfl Lv_15_1 b12 rfl ?_
      refine Rn.putI (n := 51) d_Rf_isStreet_48 rfl fl_Rf_126 pl_Rf_17 Lv_1 rfl ?_
      refine Rn.iconst (n := 52) (v := 1) d_Rf_isStreet_51 rfl (by decide) ?_
      exact Rn.iret d_Rf_isStreet_52 rfl rfl k
    · have k := k.2 cc
      refine Rn.iconst (n := 26) (v := 0) d_Rf_isStreet_25 rfl (by decide) ?_
      exact Rn.iret d_Rf_isStreet_26 rfl rfl k
theorem e_Rf_isStreet {X : XS} (a1 : Int32) (h : Hp) (Q : Option AV → Hp → Prop) (k : Rn X m_Rf_isStreet 0 [some (vR [1]), some (vI a1)] [] h Q) : Ev X m_Rf_isStreet [vR [1], vI a1] h Q := Ev.intro (plainFor_of_name (by decide +kernel)) (Nat.le_of_ble_eq_true rfl) (ls := [some (vR [1]), some (vI a1)]) rfl k
theorem d_Rf_isWalkerLine_0 : decode m_Rf_isWalkerLine.2.1 0 = .ok (.aload_n 0, 1) := by decide +kernel
theorem d_Rf_isWalkerLine_1 : decode m_Rf_isWalkerLine.2.1 1 = .ok (.iload_n 1, 1) := by decide +kernel
theorem d_Rf_isWalkerLine_2 : decode m_Rf_isWalkerLine.2.1 2 = .ok (.iconst 1, 1) := by decide +kernel
theorem d_Rf_isWalkerLine_3 : decode m_Rf_isWalkerLine.2.1 3 = .ok (.iadd, 1) := by decide +kernel
theorem d_Rf_isWalkerLine_4 : decode m_Rf_isWalkerLine.2.1 4 = .ok (.iconst 0, 1) := by decide +kernel
theorem d_Rf_isWalkerLine_5 : decode m_Rf_isWalkerLine.2.1 5 = .ok (.iconst 5, 1) := by decide +kernel
theorem d_Rf_isWalkerLine_6 : decode m_Rf_isWalkerLine.2.1 6 = .ok (.invokevirtual 120, 3) := by decide +kernel
theorem d_Rf_isWalkerLine_9 : decode m_Rf_isWalkerLine.2.1 9 = .ok (.ifCond .eq 88, 3) := by decide +kernel
theorem d_Rf_isWalkerLine_12 : decode m_Rf_isWalkerLine.2.1 12 = .ok (.aload_n 0, 1) := by decide +kernel
theorem d_Rf_isWalkerLine_13 : decode m_Rf_isWalkerLine.2.1 13 = .ok (.iload_n 1, 1) := by decide +kernel
theorem d_Rf_isWalkerLine_14 : decode m_Rf_isWalkerLine.2.1 14 = .ok (.iconst 2, 1) := by decide +kernel
theorem d_Rf_isWalkerLine_15 : decode m_Rf_isWalkerLine.2.1 15 = .ok (.iadd, 1) := by decide +kernel
theorem d_Rf_isWalkerLine_16 : decode m_Rf_isWalkerLine.2.1 16 = .ok (.iconst 0, 1) := by decide +kernel
theorem d_Rf_isWalkerLine_17 : decode m_Rf_isWalkerLine.2.1 17 = .ok (.aload_n 0, 1) := by decide +kernel
theorem d_Rf_isWalkerLine_18 : decode m_Rf_isWalkerLine.2.1 18 = .ok (.getfield 123, 3) := by decide +kernel
theorem d_Rf_isWalkerLine_21 : decode m_Rf_isWalkerLine.2.1 21 = .ok (.iconst 1, 1) := by decide +kernel
theorem d_Rf_isWalkerLine_22 : decode m_Rf_isWalkerLine.2.1 22 = .ok (.isub, 1) := by decide +kernel
theorem d_Rf_isWalkerLine_23 : decode m_Rf_isWalkerLine.2.1 23 = .ok (.invokevirtual 120, 3) := by decide +kernel
theorem d_Rf_isWalkerLine_26 : decode m_Rf_isWalkerLine.2.1 26 = .ok (.ifCond .eq 71, 3) := by decide +kernel
theorem d_Rf_isWalkerLine_29 : decode m_Rf_isWalkerLine.2.1 29 = .ok (.aload_n 0, 1) := by decide +kernel
theorem d_Rf_isWalkerLine_30 : decode m_Rf_isWalkerLine.2.1 30 = .ok (.iload_n 1, 1) := by decide +kernel
theorem d_Rf_isWalkerLine_31 : decode m_Rf_isWalkerLine.2.1 31 = .ok (.iconst 3, 1) := by decide +kernel
theorem d_Rf_isWalkerLine_32 : decode m_Rf_isWalkerLine.2.1 32 = .ok (.iadd, 1) := by decide +kernel
theorem d_Rf_isWalkerLine_33 : decode m_Rf_isWalkerLine.2.1 33 = .ok (.iconst 0, 1) := by decide +kernel
theorem d_Rf_isWalkerLine_34 : decode m_Rf_isWalkerLine.2.1 34 = .ok (.iconst 1, 1) := by decide +kernel
theorem d_Rf_isWalkerLine_35 : decode m_Rf_isWalkerLine.2.1 35 = .ok (.invokevirtual 120, 3) := by decide +kernel
theorem d_Rf_isWalkerLine_38 : decode m_Rf_isWalkerLine.2.1 38 = .ok (.ifCond .eq 59, 3) := by decide +kernel
theorem d_Rf_isWalkerLine_41 : decode m_Rf_isWalkerLine.2.1 41 = .ok (.aload_n 0, 1) := by decide +kernel
theorem d_Rf_isWalkerLine_42 : decode m_Rf_isWalkerLine.2.1 42 = .ok (.iload_n 1, 1) := by decide +kernel
theorem d_Rf_isWalkerLine_43 : decode m_Rf_isWalkerLine.2.1 43 = .ok (.iconst 4, 1) := by decide +kernel
theorem d_Rf_isWalkerLine_44 : decode m_Rf_isWalkerLine.2.1 44 = .ok (.iadd, 1) := by decide +kernel
theorem d_Rf_isWalkerLine_45 : decode m_Rf_isWalkerLine.2.1 45 = .ok (.iconst 0, 1) := by decide +kernel
theorem d_Rf_isWalkerLine_46 : decode m_Rf_isWalkerLine.2.1 46 = .ok (.bipush 20, 2) := by decide +kernel
theorem d_Rf_isWalkerLine_48 : decode m_Rf_isWalkerLine.2.1 48 = .ok (.invokevirtual 120, 3) := by decide +kernel
theorem d_Rf_isWalkerLine_51 : decode m_Rf_isWalkerLine.2.1 51 = .ok (.ifCond .eq 46, 3) := by decide +kernel
theorem d_Rf_isWalkerLine_54 : decode m_Rf_isWalkerLine.2.1 54 = .ok (.aload_n 0, 1) := by decide +kernel
theorem d_Rf_isWalkerLine_55 : decode m_Rf_isWalkerLine.2.1 55 = .ok (.iload_n 1, 1) := by decide +kernel
theorem d_Rf_isWalkerLine_56 : decode m_Rf_isWalkerLine.2.1 56 = .ok (.iconst 5, 1) := by decide +kernel
theorem d_Rf_isWalkerLine_57 : decode m_Rf_isWalkerLine.2.1 57 = .ok (.iadd, 1) := by decide +kernel
theorem d_Rf_isWalkerLine_58 : decode m_Rf_isWalkerLine.2.1 58 = .ok (.iconst 1, 1) := by decide +kernel
theorem d_Rf_isWalkerLine_59 : decode m_Rf_isWalkerLine.2.1 59 = .ok (.bipush 9, 2) := by decide +kernel
theorem d_Rf_isWalkerLine_61 : decode m_Rf_isWalkerLine.2.1 61 = .ok (.invokevirtual 120, 3) := by decide +kernel
theorem d_Rf_isWalkerLine_64 : decode m_Rf_isWalkerLine.2.1 64 = .ok (.ifCond .eq 33, 3) := by decide +kernel
theorem d_Rf_isWalkerLine_67 : decode m_Rf_isWalkerLine.2.1 67 = .ok (.aload_n 0, 1) := by decide +kernel
theorem d_Rf_isWalkerLine_68 : decode m_Rf_isWalkerLine.2.1 68 = .ok (.iload_n 1, 1) := by decide +kernel
theorem d_Rf_isWalkerLine_69 : decode m_Rf_isWalkerLine.2.1 69 = .ok (.bipush 6, 2) := by decide +kernel
theorem d_Rf_isWalkerLine_71 : decode m_Rf_isWalkerLine.2.1 71 = .ok (.iadd, 1) := by decide +kernel
theorem d_Rf_isWalkerLine_72 : decode m_Rf_isWalkerLine.2.1 72 = .ok (.iconst 0, 1) := by decide +kernel
theorem d_Rf_isWalkerLine_73 : decode m_Rf_isWalkerLine.2.1 73 = .ok (.iconst 2, 1) := by decide +kernel
theorem d_Rf_isWalkerLine_74 : decode m_Rf_isWalkerLine.2.1 74 = .ok (.invokevirtual 120, 3) := by decide +kernel
theorem d_Rf_isWalkerLine_77 : decode m_Rf_isWalkerLine.2.1 77 = .ok (.ifCond .eq 20, 3) := by decide +kernel
theorem d_Rf_isWalkerLine_80 : decode m_Rf_isWalkerLine.2.1 80 = .ok (.aload_n 0, 1) := by decide +kernel
theorem d_Rf_isWalkerLine_81 : decode m_Rf_isWalkerLine.2.1 81 = .ok (.iload_n 1, 1) := by decide +kernel
theorem d_Rf_isWalkerLine_82 : decode m_Rf_isWalkerLine.2.1 82 = .ok (.bipush 7, 2) := by decide +kernel
theorem d_Rf_isWalkerLine_84 : decode m_Rf_isWalkerLine.2.1 84 = .ok (.iadd, 1) := by decide +kernel
theorem d_Rf_isWalkerLine_85 : decode m_Rf_isWalkerLine.2.1 85 = .ok (.iconst 0, 1) := by decide +kernel
theorem d_Rf_isWalkerLine_86 : decode m_Rf_isWalkerLine.2.1 86 = .ok (.iconst 2, 1) := by decide +kernel
theorem d_Rf_isWalkerLine_87 : decode m_Rf_isWalkerLine.2.1 87 = .ok (.invokevirtual 120, 3) := by decide +kernel
theorem d_Rf_isWalkerLine_90 : decode m_Rf_isWalkerLine.2.1 90 = .ok (.ifCond .eq 7, 3) := by decide +kernel
theorem d_Rf_isWalkerLine_93 : decode m_Rf_isWalkerLine.2.1 93 = .ok (.iconst 1, 1) := by decide +kernel
theorem d_Rf_isWalkerLine_94 : decode m_Rf_isWalkerLine.2.1 94 = .ok (.goto 4, 3) := by decide +kernel
theorem d_Rf_isWalkerLine_97 : decode m_Rf_isWalkerLine.2.1 97 = .ok (.iconst 0, 1) := by decide +kernel
theorem d_Rf_isWalkerLine_98 : decode m_Rf_isWalkerLine.2.1 98 = .ok (.ireturn, 1) := by decide +kernel
theorem g_Rf_isWalkerLine_0 {X : XS} (a1 : Int32) (h : Hp) (Q : Option AV → Hp → Prop)  (k : (∃ Q'4, EvI X m_Rf_isNumber [vR [1], vI (a1 + 1), vI 0, vI 5] h Q'4 ∧ ∀ (r5 : Int32) (h3 : Hp), Q'4 r5 h3 → ((r5 = 0 → Q (some (vI 0)) h3) ∧ (¬ r5 = 0 → (∃ Q'9, EvI X m_Rf_isNumber [vR [1], vI (a1 + 2), vI 0, vI ((h3.1 [1] 16) - 1)] h3 Q'9 ∧ ∀ (r10 : Int32) (h8 : Hp), Q'9 r10 h8 → ((r10 = 0 → Q (some (vI 0)) h8) ∧ (¬ r10 = 0 → (∃ Q'14, EvI X m_Rf_isNumber [vR [1], vI (a1 + 3), vI 0, vI 1] h8 Q'14 ∧ ∀ (r15 : Int32) (h13 : Hp), Q'14 r15 h13 → ((r15 = 0 → Q (some (vI 0)) h13) ∧ (¬ r15 = 0 → (∃ Q'19, EvI X m_Rf_isNumber [vR [1], vI (a1 + 4), vI 0, vI 20] h13 Q'19 ∧ ∀ (r20 : Int32) (h18 : Hp), Q'19 r20 h18 → ((r20 = 0 → Q (some (vI 0)) h18) ∧ (¬ r20 = 0 → (∃ Q'24, EvI X m_Rf_isNumber [vR [1], vI (a1 + 5), vI 1, vI 9] h18 Q'24 ∧ ∀ (r25 : Int32) (h23 : Hp), Q'24 r25 h23 → ((r25 = 0 → Q (some (vI 0)) h23) ∧ (¬ r25 = 0 → (∃ Q'29, EvI X m_Rf_isNumber [vR [1], vI (a1 + 6), vI 0, vI 2] h23 Q'29 ∧ ∀ (r30 : Int32) (h28 : Hp), Q'29 r30 h28 → ((r30 = 0 → Q (some (vI 0)) h28) ∧ (¬ r30 = 0 → (∃ Q'34, EvI X m_Rf_isNumber [vR [1], vI (a1 + 7), vI 0, vI 2] h28 Q'34 ∧ ∀ (r35 : Int32) (h33 : Hp), Q'34 r35 h33 → ((r35 = 0 → Q (some (vI 0)) h33) ∧ (¬ r35 = 0 → Q (some (vI 1)) h33)))))))))))))))))))))) : Rn X m_Rf_isWalkerLine 0 [some (vR [1]), some (vI a1)] [] h Q := by
  refine Rn.aload_n (n := 1) (i := 0) d_Rf_isWalkerLine_0 rfl rfl rfl ?_
  refine Rn.iload_n (n := 2) (i := 1) d_Rf_isWalkerLine_1 rfl rfl rfl ?_
  refine Rn.iconst (n := 3) (v := 1) d_Rf_isWalkerLine_2 rfl (by decide) ?_
  refine Rn.iadd (n := 4) d_Rf_isWalkerLine_3 rfl ?_
  refine Rn.iconst (n := 5) (v := 0) d_Rf_isWalkerLine_4 rfl (by decide) ?_
  refine Rn.iconst (n := 6) (v := 5) d_Rf_isWalkerLine_5 rfl (by decide) ?_
  obtain ⟨Q'4, ev1, k⟩ := k
  refine Rn.callV (n := 9) (av := [vI (a1 + 1), vI 0, vI 5]) d_Rf_isWalkerLine_6 rfl ml_Rf_isWalkerLine_120 mi_Rf_isNumber Lv_1 rfl rfl rfl rfl (Nat.le_of_ble_eq_true rfl) ev1 (fun v h3 hq => ?_)
  obtain ⟨r5, rfl, hq⟩ := hq
  have k := k r5 h3 hq
  show Rn X m_Rf_isWalkerLine 9 [some (vR [1]), some (vI a1)] [vI r5] h3 Q
  refine Rn.if_eq (n := 12) (t := 97) d_Rf_isWalkerLine_9 rfl (by decide) (fun cc => ?_) (fun cc => ?_)
  · have k := k.1 cc
    refine Rn.iconst (n := 98) (v := 0) d_Rf_isWalkerLine_97 rfl (by decide) ?_
    exact Rn.iret d_Rf_isWalkerLine_98 rfl rfl k
  · have k := k.2 cc
    refine Rn.aload_n (n := 13) (i := 0) d_Rf_isWalkerLine_12 rfl rfl rfl ?_
    refine Rn.iload_n (n := 14) (i := 1) d_Rf_isWalkerLine_13 rfl rfl rfl ?_
    refine Rn.iconst (n := 15) (v := 2) d_Rf_isWalkerLine_14 rfl (by decide) ?_
    refine Rn.iadd (n := 16) d_Rf_isWalkerLine_15 rfl ?_
    refine Rn.iconst (n := 17) (v := 0) d_Rf_isWalkerLine_16 rfl (by decide) ?_
    refine Rn.aload_n (n := 18) (i := 0) d_Rf_isWalkerLine_17 rfl rfl rfl ?_
    refine Rn.getf (n := 21) (v := vI (h3.1 [1] 16)) d_Rf_isWalkerLine_18 rfl fl_Rf_123 Lv_1 rfl ?_
    refine Rn.iconst (n := 22) (v := 1) d_Rf_isWalkerLine_21 rfl (by decide) ?_
    refine Rn.isub (n := 23) d_Rf_isWalkerLine_22 rfl ?_
    obtain ⟨Q'9, ev6, k⟩ := k
    refine Rn.callV (n := 26) (av := [vI (a1 + 2), vI 0, vI ((h3.1 [1] 16) - 1)]) d_Rf_isWalkerLine_23 rfl ml_Rf_isWalkerLine_120 mi_Rf_isNumber Lv_1 rfl rfl rfl rfl (Nat.le_of_ble_eq_true rfl) ev6 (fun v h8 hq => ?_)
    obtain ⟨r10, rfl, hq⟩ := hq
    have k := k r10 h8 hq
    show Rn X m_Rf_isWalkerLine 26 [some (vR [1]), some (vI a1)] [vI r10] h8 Q
    refine Rn.if_eq (n := 29) (t := 97) d_Rf_isWalkerLine_26 rfl (by decide) (fun cc => ?_) (fun cc => ?_)
    · have k := k.1 cc
      refine Rn.iconst (n := 98) (v := 0) d_Rf_isWalkerLine_97 rfl (by decide) ?_
      exact Rn.iret d_Rf_isWalkerLine_98 rfl rfl k
    · have k := k.2 cc
      refine Rn.aload_n (n := 30) (i := 0) d_Rf_isWalkerLine_29 rfl rfl rfl ?_
      refine Rn.iload_n (n := 31) (i := 1) d_Rf_isWalkerLine_30 rfl rfl rfl ?_
      refine Rn.iconst (n := 32) (v := 3) d_Rf_isWalkerLine_31 rfl (by decide) ?_
      refine Rn.iadd (n := 33) d_Rf_isWalkerLine_32 rfl ?_
      refine Rn.iconst (n := 34) (v := 0) d_Rf_isWalkerLine_33 rfl (by decide) ?_
      refine Rn.iconst (n := 35) (v := 1) d_Rf_isWalkerLine_34 rfl (by decide) ?_
      obtain ⟨Q'14, ev11, k⟩ := k
      refine Rn.callV (n := 38) (av := [vI (a1 + 3), vI 0, vI 1]) d_Rf_isWalkerLine_35 rfl ml_Rf_isWalkerLine_120 mi_Rf_isNumber Lv_1 rfl rfl rfl rfl (Nat.le_of_ble_eq_true rfl) ev11 (fun v h13 hq => ?_)
      obtain ⟨r15, rfl, hq⟩ := hq
      have k := k r15 h13 hq
      show Rn X m_Rf_isWalkerLine 38 [some (vR [1]), some (vI a1)] [vI r15] h13 Q
      refine Rn.if_eq (n := 41) (t := 97) d_Rf_isWalkerLine_38 rfl (by decide) (fun cc => ?_) (fun cc => ?_)
      · have k := k.1 cc
        refine Rn.iconst (n := 98) (v := 0) d_Rf_isWalkerLine_97 rfl (by decide) ?_
        exact Rn.iret d_Rf_isWalkerLine_98 rfl rfl k
      · have k := k.2 cc
        refine Rn.aload_n (n := 42) (i := 0) d_Rf_isWalkerLine_41 rfl rfl rfl ?_
        refine Rn.iload_n (n := 43) (i := 1) d_Rf_isWalkerLine_42 rfl rfl rfl ?_
        refine Rn.iconst (n := 44) (v := 4) d_Rf_isWalkerLine_43 rfl (by decide) ?_
        refine Rn.iadd (n := 45) d_Rf_isWalkerLine_44 rfl ?_
        refine Rn.iconst (n := 46) (v := 0) d_Rf_isWalkerLine_45 rfl (by decide) ?_
        refine Rn.bipush (n := 48) (v := 20) d_Rf_isWalkerLine_46 rfl (by decide) ?_
        obtain ⟨Q'19, ev16, k⟩ := k
        refine Rn.callV (n := 51) (av := [vI (a1 + 4), vI 0, vI 20]) d_Rf_isWalkerLine_48 rfl ml_Rf_isWalkerLine_120 mi_Rf_isNumber Lv_1 rfl rfl rfl rfl (Nat.le_of_ble_eq_true rfl) ev16 (fun v h18 hq => ?_)
        obtain ⟨r20, rfl, hq⟩ := hq
        have k := k r20 h18 hq
        show Rn X m_Rf_isWalkerLine 51 [some (vR [1]), some (vI a1)] [vI r20] h18 Q
        refine Rn.if_eq (n := 54) (t := 97) d_Rf_isWalkerLine_51 rfl (by decide) (fun cc => ?_) (fun cc => ?_)
        · have k := k.1 cc
          refine Rn.iconst (n := 98) (v := 0) d_Rf_isWalkerLine_97 rfl (by decide) ?_
          exact Rn.iret d_Rf_isWalkerLine_98 rfl rfl k
        · have k := k.2 cc
          refine Rn.aload_n (n := 55) (i := 0) d_Rf_isWalkerLine_54 rfl rfl rfl ?_
          refine Rn.iload_n (n := 56) (i := 1) d_Rf_isWalkerLine_55 rfl rfl rfl ?_
          refine Rn.iconst (n := 57) (v := 5) d_Rf_isWalkerLine_56 rfl (by decide) ?_
          refine Rn.iadd (n := 58) d_Rf_isWalkerLine_57 rfl ?_
          refine Rn.iconst (n := 59) (v := 1) d_Rf_isWalkerLine_58 rfl (by decide) ?_
          refine Rn.bipush (n := 61) (v := 9) d_Rf_isWalkerLine_59 rfl (by decide) ?_
          obtain ⟨Q'24, ev21, k⟩ := k
          refine Rn.callV (n := 64) (av := [vI (a1 + 5), vI 1, vI 9]) d_Rf_isWalkerLine_61 rfl ml_Rf_isWalkerLine_120 mi_Rf_isNumber Lv_1 rfl rfl rfl rfl (Nat.le_of_ble_eq_true rfl) ev21 (fun v h23 hq => ?_)
          obtain ⟨r25, rfl, hq⟩ := hq
          have k := k r25 h23 hq
          show Rn X m_Rf_isWalkerLine 64 [some (vR [1]), some (vI a1)] [vI r25] h23 Q
          refine Rn.if_eq (n := 67) (t := 97) d_Rf_isWalkerLine_64 rfl (by decide) (fun cc => ?_) (fun cc => ?_)
          · have k := k.1 cc
            refine Rn.iconst (n := 98) (v := 0) d_Rf_isWalkerLine_97 rfl (by decide) ?_
            exact Rn.iret d_Rf_isWalkerLine_98 rfl rfl k
          · have k := k.2 cc
            refine Rn.aload_n (n := 68) (i := 0) d_Rf_isWalkerLine_67 rfl rfl rfl ?_
            refine Rn.iload_n (n := 69) (i := 1) d_Rf_isWalkerLine_68 rfl rfl rfl ?_
            refine Rn.bipush (n := 71) (v := 6) d_Rf_isWalkerLine_69 rfl (by decide) ?_
            refine Rn.iadd (n := 72) d_Rf_isWalkerLine_71 rfl ?_
            refine Rn.iconst (n := 73) (v := 0) d_Rf_isWalkerLine_72 rfl (by decide) ?_
            refine Rn.iconst (n := 74) (v := 2) d_Rf_isWalkerLine_73 rfl (by decide) ?_
            obtain ⟨Q'29, ev26, k⟩ := k
            refine Rn.callV (n := 77) (av := [vI (a1 + 6), vI 0, vI 2]) d_Rf_isWalkerLine_74 rfl ml_Rf_isWalkerLine_120 mi_Rf_isNumber Lv_1 rfl rfl rfl rfl (Nat.le_of_ble_eq_true rfl) ev26 (fun v h28 hq => ?_)
            obtain ⟨r30, rfl, hq⟩ := hq
            have k := k r30 h28 hq
            show Rn X m_Rf_isWalkerLine 77 [some (vR [1]), some (vI a1)] [vI r30] h28 Q
            refine Rn.if_eq (n := 80) (t := 97) d_Rf_isWalkerLine_77 rfl (by decide) (fun cc => ?_) (fun cc => ?_)
            · have k := k.1 cc
              refine Rn.iconst (n := 98) (v := 0) d_Rf_isWalkerLine_97 rfl (by decide) ?_
              exact Rn.iret d_Rf_isWalkerLine_98 rfl rfl k
            · have k := k.2 cc
              refine Rn.aload_n (n := 81) (i := 0) d_Rf_isWalkerLine_80 rfl rfl rfl ?_
              refine Rn.iload_n (n := 82) (i := 1) d_Rf_isWalkerLine_81 rfl rfl rfl ?_
              refine Rn.bipush (n := 84) (v := 7) d_Rf_isWalkerLine_82 rfl (by decide) ?_
              refine Rn.iadd (n := 85) d_Rf_isWalkerLine_84 rfl ?_
              refine Rn.iconst (n := 86) (v := 0) d_Rf_isWalkerLine_85 rfl (by decide) ?_
              refine Rn.iconst (n := 87) (v := 2) d_Rf_isWalkerLine_86 rfl (by decide) ?_
              obtain ⟨Q'34, ev31, k⟩ := k
              refine Rn.callV (n := 90) (av := [vI (a1 + 7), vI 0, vI 2]) d_Rf_isWalkerLine_87 rfl ml_Rf_isWalkerLine_120 mi_Rf_isNumber Lv_1 rfl rfl rfl rfl (Nat.le_of_ble_eq_true rfl) ev31 (fun v h33 hq => ?_)
              obtain ⟨r35, rfl, hq⟩ := hq
              have k := k r35 h33 hq
              show Rn X m_Rf_isWalkerLine 90 [some (vR [1]), some (vI a1)] [vI r35] h33 Q
              refine Rn.if_eq (n := 93) (t := 97) d_Rf_isWalkerLine_90 rfl (by decide) (fun cc => ?_) (fun cc => ?_)
              · have k := k.1 cc
                refine Rn.iconst (n := 98) (v := 0) d_Rf_isWalkerLine_97 rfl (by decide) ?_
                exact Rn.iret d_Rf_isWalkerLine_98 rfl rfl k
              · have k := k.2 cc
                refine Rn.iconst (n := 94) (v := 1) d_Rf_isWalkerLine_93 rfl (by decide) ?_
                refine Rn.goto (n := 98) d_Rf_isWalkerLine_94 (by decide) ?_
                exact Rn.iret d_Rf_isWalkerLine_98 rfl rfl k
theorem e_Rf_isWalkerLine {X : XS} (a1 : Int32) (h : Hp) (Q : Option AV → Hp → Prop) (k : Rn X m_Rf_isWalkerLine 0 [some (vR [1]), some (vI a1)] [] h Q) : Ev X m_Rf_isWalkerLine [vR [1], vI a1] h Q := Ev.intro (plainFor_of_name (by decide +kernel)) (Nat.le_of_ble_eq_true rfl) (ls := [some (vR [1]), some (vI a1)]) rfl k
theorem d_Rf_isRain_0 : decode m_Rf_isRain.2.1 0 = .ok (.aload_n 0, 1) := by decide +kernel
theorem d_Rf_isRain_1 : decode m_Rf_isRain.2.1 1 = .ok (.iload_n 1, 1) := by decide +kernel
theorem d_Rf_isRain_2 : decode m_Rf_isRain.2.1 2 = .ok (.iconst 1, 1) := by decide +kernel
theorem d_Rf_isRain_3 : decode m_Rf_isRain.2.1 3 = .ok (.iadd, 1) := by decide +kernel
theorem d_Rf_isRain_4 : decode m_Rf_isRain.2.1 4 = .ok (.iconst 0, 1) := by decide +kernel
theorem d_Rf_isRain_5 : decode m_Rf_isRain.2.1 5 = .ok (.bipush 59, 2) := by decide +kernel
theorem d_Rf_isRain_7 : decode m_Rf_isRain.2.1 7 = .ok (.invokevirtual 120, 3) := by decide +kernel
theorem d_Rf_isRain_10 : decode m_Rf_isRain.2.1 10 = .ok (.ifCond .eq 40, 3) := by decide +kernel
theorem d_Rf_isRain_13 : decode m_Rf_isRain.2.1 13 = .ok (.aload_n 0, 1) := by decide +kernel
theorem d_Rf_isRain_14 : decode m_Rf_isRain.2.1 14 = .ok (.iload_n 1, 1) := by decide +kernel
theorem d_Rf_isRain_15 : decode m_Rf_isRain.2.1 15 = .ok (.iconst 2, 1) := by decide +kernel
theorem d_Rf_isRain_16 : decode m_Rf_isRain.2.1 16 = .ok (.iadd, 1) := by decide +kernel
theorem d_Rf_isRain_17 : decode m_Rf_isRain.2.1 17 = .ok (.aload_n 0, 1) := by decide +kernel
theorem d_Rf_isRain_18 : decode m_Rf_isRain.2.1 18 = .ok (.getfield 26, 3) := by decide +kernel
theorem d_Rf_isRain_21 : decode m_Rf_isRain.2.1 21 = .ok (.iload_n 1, 1) := by decide +kernel
theorem d_Rf_isRain_22 : decode m_Rf_isRain.2.1 22 = .ok (.iconst 1, 1) := by decide +kernel
theorem d_Rf_isRain_23 : decode m_Rf_isRain.2.1 23 = .ok (.iadd, 1) := by decide +kernel
theorem d_Rf_isRain_24 : decode m_Rf_isRain.2.1 24 = .ok (.iaload, 1) := by decide +kernel
theorem d_Rf_isRain_25 : decode m_Rf_isRain.2.1 25 = .ok (.bipush 59, 2) := by decide +kernel
theorem d_Rf_isRain_27 : decode m_Rf_isRain.2.1 27 = .ok (.invokevirtual 120, 3) := by decide +kernel
theorem d_Rf_isRain_30 : decode m_Rf_isRain.2.1 30 = .ok (.ifCond .eq 20, 3) := by decide +kernel
theorem d_Rf_isRain_33 : decode m_Rf_isRain.2.1 33 = .ok (.aload_n 0, 1) := by decide +kernel
theorem d_Rf_isRain_34 : decode m_Rf_isRain.2.1 34 = .ok (.iload_n 1, 1) := by decide +kernel
theorem d_Rf_isRain_35 : decode m_Rf_isRain.2.1 35 = .ok (.iconst 3, 1) := by decide +kernel
theorem d_Rf_isRain_36 : decode m_Rf_isRain.2.1 36 = .ok (.iadd, 1) := by decide +kernel
theorem d_Rf_isRain_37 : decode m_Rf_isRain.2.1 37 = .ok (.iconst 0, 1) := by decide +kernel
theorem d_Rf_isRain_38 : decode m_Rf_isRain.2.1 38 = .ok (.bipush 99, 2) := by decide +kernel
theorem d_Rf_isRain_40 : decode m_Rf_isRain.2.1 40 = .ok (.invokevirtual 120, 3) := by decide +kernel
theorem d_Rf_isRain_43 : decode m_Rf_isRain.2.1 43 = .ok (.ifCond .eq 7, 3) := by decide +kernel
theorem d_Rf_isRain_46 : decode m_Rf_isRain.2.1 46 = .ok (.iconst 1, 1) := by decide +kernel
theorem d_Rf_isRain_47 : decode m_Rf_isRain.2.1 47 = .ok (.goto 4, 3) := by decide +kernel
theorem d_Rf_isRain_50 : decode m_Rf_isRain.2.1 50 = .ok (.iconst 0, 1) := by decide +kernel
theorem d_Rf_isRain_51 : decode m_Rf_isRain.2.1 51 = .ok (.ireturn, 1) := by decide +kernel
theorem g_Rf_isRain_0 {X : XS} (a1 : Int32) (h : Hp) (Q : Option AV → Hp → Prop)  (k : (∃ Q'4, EvI X m_Rf_isNumber [vR [1], vI (a1 + 1), vI 0, vI 59] h Q'4 ∧ ∀ (r5 : Int32) (h3 : Hp), Q'4 r5 h3 → ((r5 = 0 → Q (some (vI 0)) h3) ∧ (¬ r5 = 0 → (vp_in (a1 + 1) 64 ∧ (∃ Q'10, EvI X m_Rf_isNumber [vR [1], vI (a1 + 2), vI (h3.1 [15, 1] (a1 + 1).toNatClampNeg), vI 59] h3 Q'10 ∧ ∀ (r11 : Int32) (h9 : Hp), Q'10 r11 h9 → ((r11 = 0 → Q (some (vI 0)) h9) ∧ (¬ r11 = 0 → (∃ Q'15, EvI X m_Rf_isNumber [vR [1], vI (a1 + 3), vI 0, vI 99] h9 Q'15 ∧ ∀ (r16 : Int32) (h14 : Hp), Q'15 r16 h14 → ((r16 = 0 → Q (some (vI 0)) h14) ∧ (¬ r16 = 0 → Q (some (vI 1)) h14))))))))))) : Rn X m_Rf_isRain 0 [some (vR [1]), some (vI a1)] [] h Q := by
  refine Rn.aload_n (n := 1) (i := 0) d_Rf_isRain_0 rfl rfl rfl ?_
  refine Rn.iload_n (n := 2) (i := 1) d_Rf_isRain_1 rfl rfl rfl ?_
  refine Rn.iconst (n := 3) (v := 1) d_Rf_isRain_2 rfl (by decide) ?_
  refine Rn.iadd (n := 4) d_Rf_isRain_3 rfl ?_
  refine Rn.iconst (n := 5) (v := 0) d_Rf_isRain_4 rfl (by decide) ?_
  refine Rn.bipush (n := 7) (v := 59) d_Rf_isRain_5 rfl (by decide) ?_
  obtain ⟨Q'4, ev1, k⟩ := k
  refine Rn.callV (n := 10) (av := [vI (a1 + 1), vI 0, vI 59]) d_Rf_isRain_7 rfl ml_Rf_isRain_120 mi_Rf_isNumber Lv_1 rfl rfl rfl rfl (Nat.le_of_ble_eq_true rfl) ev1 (fun v h3 hq => ?_)
  obtain ⟨r5, rfl, hq⟩ := hq
  have k := k r5 h3 hq
  show Rn X m_Rf_isRain 10 [some (vR [1]), some (vI a1)] [vI r5] h3 Q
  refine Rn.if_eq (n := 13) (t := 50) d_Rf_isRain_10 rfl (by decide) (fun cc => ?_) (fun cc => ?_)
  · have k := k.1 cc
    refine Rn.iconst (n := 51) (v := 0) d_Rf_isRain_50 rfl (by decide) ?_
    exact Rn.iret d_Rf_isRain_51 rfl rfl k
  · have k := k.2 cc
    refine Rn.aload_n (n := 14) (i := 0) d_Rf_isRain_13 rfl rfl rfl ?_
    refine Rn.iload_n (n := 15) (i := 1) d_Rf_isRain_14 rfl rfl rfl ?_
    refine Rn.iconst (n := 16) (v := 2) d_Rf_isRain_15 rfl (by decide) ?_
    refine Rn.iadd (n := 17) d_Rf_isRain_16 rfl ?_
    refine Rn.aload_n (n := 18) (i := 0) d_Rf_isRain_17 rfl rfl rfl ?_
    refine Rn.getf (n := 21) (v := vR [15, 1]) d_Rf_isRain_18 rfl fl_Rf_26 Lv_1 rfl ?_
    refine Rn.iload_n (n := 22) (i := 1) d_Rf_isRain_21 rfl rfl rfl ?_
    refine Rn.iconst (n := 23) (v := 1) d_Rf_isRain_22 rfl (by decide) ?_
    refine Rn.iadd (n := 24) d_Rf_isRain_23 rfl ?_
    obtain ⟨b6, k⟩ := k
    refine Rn.iald (n := 25) (v := h3.1 [15, 1] (a1 + 1).toNatClampNeg) d_Rf_isRain_24 rfl Lv_15_1 b6 rfl ?_
    refine Rn.bipush (n := 27) (v := 59) d_Rf_isRain_25 rfl (by decide) ?_
    obtain ⟨Q'10, ev7, k⟩ := k
    refine Rn.callV (n := 30) (av := [vI (a1 + 2), vI (h3.1 [15, 1] (a1 + 1).toNatClampNeg), vI 59]) d_Rf_isRain_27 rfl ml_Rf_isRain_120 mi_Rf_isNumber Lv_1 rfl rfl rfl rfl (Nat.le_of_ble_eq_true rfl) ev7 (fun v h9 hq => ?_)
    obtain ⟨r11, rfl, hq⟩ := hq
    have k := k r11 h9 hq
    show Rn X m_Rf_isRain 30 [some (vR [1]), some (vI a1)] [vI r11] h9 Q
    refine Rn.if_eq (n := 33) (t := 50) d_Rf_isRain_30 rfl (by decide) (fun cc => ?_) (fun cc => ?_)
    · have k := k.1 cc
      refine Rn.iconst (n := 51) (v := 0) d_Rf_isRain_50 rfl (by decide) ?_
      exact Rn.iret d_Rf_isRain_51 rfl rfl k
    · have k := k.2 cc
      refine Rn.aload_n (n := 34) (i := 0) d_Rf_isRain_33 rfl rfl rfl ?_
      refine Rn.iload_n (n := 35) (i := 1) d_Rf_isRain_34 rfl rfl rfl ?_
      refine Rn.iconst (n := 36) (v := 3) d_Rf_isRain_35 rfl (by decide) ?_
      refine Rn.iadd (n := 37) d_Rf_isRain_36 rfl ?_
      refine Rn.iconst (n := 38) (v := 0) d_Rf_isRain_37 rfl (by decide) ?_
      refine Rn.bipush (n := 40) (v := 99) d_Rf_isRain_38 rfl (by decide) ?_
      obtain ⟨Q'15, ev12, k⟩ := k
      refine Rn.callV (n := 43) (av := [vI (a1 + 3), vI 0, vI 99]) d_Rf_isRain_40 rfl ml_Rf_isRain_120 mi_Rf_isNumber Lv_1 rfl rfl rfl rfl (Nat.le_of_ble_eq_true rfl) ev12 (fun v h14 hq => ?_)
      obtain ⟨r16, rfl, hq⟩ := hq
      have k := k r16 h14 hq
      show Rn X m_Rf_isRain 43 [some (vR [1]), some (vI a1)] [vI r16] h14 Q
      refine Rn.if_eq (n := 46) (t := 50) d_Rf_isRain_43 rfl (by decide) (fun cc => ?_) (fun cc => ?_)
      · have k := k.1 cc
        refine Rn.iconst (n := 51) (v := 0) d_Rf_isRain_50 rfl (by decide) ?_
        exact Rn.iret d_Rf_isRain_51 rfl rfl k
      · have k := k.2 cc
        refine Rn.iconst (n := 47) (v := 1) d_Rf_isRain_46 rfl (by decide) ?_
        refine Rn.goto (n := 51) d_Rf_isRain_47 (by decide) ?_
        exact Rn.iret d_Rf_isRain_51 rfl rfl k
theorem e_Rf_isRain {X : XS} (a1 : Int32) (h : Hp) (Q : Option AV → Hp → Prop) (k : Rn X m_Rf_isRain 0 [some (vR [1]), some (vI a1)] [] h Q) : Ev X m_Rf_isRain [vR [1], vI a1] h Q := Ev.intro (plainFor_of_name (by decide +kernel)) (Nat.le_of_ble_eq_true rfl) (ls := [some (vR [1]), some (vI a1)]) rfl k
theorem d_Rf_isLine_0 : decode m_Rf_isLine.2.1 0 = .ok (.aload_n 0, 1) := by decide +kernel
theorem d_Rf_isLine_1 : decode m_Rf_isLine.2.1 1 = .ok (.invokevirtual 113, 3) := by decide +kernel
theorem d_Rf_isLine_4 : decode m_Rf_isLine.2.1 4 = .ok (.aload_n 0, 1) := by decide +kernel
theorem d_Rf_isLine_5 : decode m_Rf_isLine.2.1 5 = .ok (.getfield 26, 3) := by decide +kernel
theorem d_Rf_isLine_8 : decode m_Rf_isLine.2.1 8 = .ok (.iload_n 1, 1) := by decide +kernel
theorem d_Rf_isLine_9 : decode m_Rf_isLine.2.1 9 = .ok (.aload_n 0, 1) := by decide +kernel
theorem d_Rf_isLine_10 : decode m_Rf_isLine.2.1 10 = .ok (.getfield 96, 3) := by decide +kernel
theorem d_Rf_isLine_13 : decode m_Rf_isLine.2.1 13 = .ok (.ldc2_w 129, 3) := by decide +kernel
theorem d_Rf_isLine_16 : decode m_Rf_isLine.2.1 16 = .ok (.lcmp, 1) := by decide +kernel
theorem d_Rf_isLine_17 : decode m_Rf_isLine.2.1 17 = .ok (.ifCond .ne 7, 3) := by decide +kernel
theorem d_Rf_isLine_20 : decode m_Rf_isLine.2.1 20 = .ok (.iconst 0, 1) := by decide +kernel
theorem d_Rf_isLine_21 : decode m_Rf_isLine.2.1 21 = .ok (.goto 64, 3) := by decide +kernel
theorem d_Rf_isLine_24 : decode m_Rf_isLine.2.1 24 = .ok (.aload_n 0, 1) := by decide +kernel
theorem d_Rf_isLine_25 : decode m_Rf_isLine.2.1 25 = .ok (.getfield 96, 3) := by decide +kernel
theorem d_Rf_isLine_28 : decode m_Rf_isLine.2.1 28 = .ok (.ldc2_w 131, 3) := by decide +kernel
theorem d_Rf_isLine_31 : decode m_Rf_isLine.2.1 31 = .ok (.lcmp, 1) := by decide +kernel
theorem d_Rf_isLine_32 : decode m_Rf_isLine.2.1 32 = .ok (.ifCond .ne 7, 3) := by decide +kernel
theorem d_Rf_isLine_35 : decode m_Rf_isLine.2.1 35 = .ok (.iconst 1, 1) := by decide +kernel
theorem d_Rf_isLine_36 : decode m_Rf_isLine.2.1 36 = .ok (.goto 49, 3) := by decide +kernel
theorem d_Rf_isLine_39 : decode m_Rf_isLine.2.1 39 = .ok (.aload_n 0, 1) := by decide +kernel
theorem d_Rf_isLine_40 : decode m_Rf_isLine.2.1 40 = .ok (.getfield 96, 3) := by decide +kernel
theorem d_Rf_isLine_43 : decode m_Rf_isLine.2.1 43 = .ok (.ldc2_w 133, 3) := by decide +kernel
theorem d_Rf_isLine_46 : decode m_Rf_isLine.2.1 46 = .ok (.lcmp, 1) := by decide +kernel
theorem d_Rf_isLine_47 : decode m_Rf_isLine.2.1 47 = .ok (.ifCond .ne 7, 3) := by decide +kernel
theorem d_Rf_isLine_50 : decode m_Rf_isLine.2.1 50 = .ok (.iconst 2, 1) := by decide +kernel
theorem d_Rf_isLine_51 : decode m_Rf_isLine.2.1 51 = .ok (.goto 34, 3) := by decide +kernel
theorem d_Rf_isLine_54 : decode m_Rf_isLine.2.1 54 = .ok (.aload_n 0, 1) := by decide +kernel
theorem d_Rf_isLine_55 : decode m_Rf_isLine.2.1 55 = .ok (.getfield 96, 3) := by decide +kernel
theorem d_Rf_isLine_58 : decode m_Rf_isLine.2.1 58 = .ok (.ldc2_w 135, 3) := by decide +kernel
theorem d_Rf_isLine_61 : decode m_Rf_isLine.2.1 61 = .ok (.lcmp, 1) := by decide +kernel
theorem d_Rf_isLine_62 : decode m_Rf_isLine.2.1 62 = .ok (.ifCond .ne 7, 3) := by decide +kernel
theorem d_Rf_isLine_65 : decode m_Rf_isLine.2.1 65 = .ok (.iconst 3, 1) := by decide +kernel
theorem d_Rf_isLine_66 : decode m_Rf_isLine.2.1 66 = .ok (.goto 19, 3) := by decide +kernel
theorem d_Rf_isLine_69 : decode m_Rf_isLine.2.1 69 = .ok (.aload_n 0, 1) := by decide +kernel
theorem d_Rf_isLine_70 : decode m_Rf_isLine.2.1 70 = .ok (.getfield 96, 3) := by decide +kernel
theorem d_Rf_isLine_73 : decode m_Rf_isLine.2.1 73 = .ok (.ldc2_w 137, 3) := by decide +kernel
theorem d_Rf_isLine_76 : decode m_Rf_isLine.2.1 76 = .ok (.lcmp, 1) := by decide +kernel
theorem d_Rf_isLine_77 : decode m_Rf_isLine.2.1 77 = .ok (.ifCond .ne 7, 3) := by decide +kernel
theorem d_Rf_isLine_80 : decode m_Rf_isLine.2.1 80 = .ok (.iconst 4, 1) := by decide +kernel
theorem d_Rf_isLine_81 : decode m_Rf_isLine.2.1 81 = .ok (.goto 4, 3) := by decide +kernel
theorem d_Rf_isLine_84 : decode m_Rf_isLine.2.1 84 = .ok (.iconst (-1), 1) := by decide +kernel
theorem d_Rf_isLine_85 : decode m_Rf_isLine.2.1 85 = .ok (.iastore, 1) := by decide +kernel
theorem d_Rf_isLine_86 : decode m_Rf_isLine.2.1 86 = .ok (.aload_n 0, 1) := by decide +kernel
theorem d_Rf_isLine_87 : decode m_Rf_isLine.2.1 87 = .ok (.getfield 26, 3) := by decide +kernel
theorem d_Rf_isLine_90 : decode m_Rf_isLine.2.1 90 = .ok (.iload_n 1, 1) := by decide +kernel
theorem d_Rf_isLine_91 : decode m_Rf_isLine.2.1 91 = .ok (.iaload, 1) := by decide +kernel
theorem d_Rf_isLine_92 : decode m_Rf_isLine.2.1 92 = .ok (.tableswitch 104 0 4 #[36, 42, 82, 88, 98], 36) := by decide +kernel
theorem d_Rf_isLine_128 : decode m_Rf_isLine.2.1 128 = .ok (.aload_n 0, 1) := by decide +kernel
theorem d_Rf_isLine_129 : decode m_Rf_isLine.2.1 129 = .ok (.iload_n 1, 1) := by decide +kernel
theorem d_Rf_isLine_130 : decode m_Rf_isLine.2.1 130 = .ok (.invokevirtual 139, 3) := by decide +kernel
theorem d_Rf_isLine_133 : decode m_Rf_isLine.2.1 133 = .ok (.ireturn, 1) := by decide +kernel
theorem d_Rf_isLine_134 : decode m_Rf_isLine.2.1 134 = .ok (.aload_n 0, 1) := by decide +kernel
theorem d_Rf_isLine_135 : decode m_Rf_isLine.2.1 135 = .ok (.iload_n 1, 1) := by decide +kernel
theorem d_Rf_isLine_136 : decode m_Rf_isLine.2.1 136 = .ok (.iconst 1, 1) := by decide +kernel
theorem d_Rf_isLine_137 : decode m_Rf_isLine.2.1 137 = .ok (.iadd, 1) := by decide +kernel
theorem d_Rf_isLine_138 : decode m_Rf_isLine.2.1 138 = .ok (.iconst 0, 1) := by decide +kernel
theorem d_Rf_isLine_139 : decode m_Rf_isLine.2.1 139 = .ok (.aload_n 0, 1) := by decide +kernel
theorem d_Rf_isLine_140 : decode m_Rf_isLine.2.1 140 = .ok (.getfield 126, 3) := by decide +kernel
theorem d_Rf_isLine_143 : decode m_Rf_isLine.2.1 143 = .ok (.iconst 1, 1) := by decide +kernel
theorem d_Rf_isLine_144 : decode m_Rf_isLine.2.1 144 = .ok (.isub, 1) := by decide +kernel
theorem d_Rf_isLine_145 : decode m_Rf_isLine.2.1 145 = .ok (.invokevirtual 120, 3) := by decide +kernel
theorem d_Rf_isLine_148 : decode m_Rf_isLine.2.1 148 = .ok (.ifCond .eq 24, 3) := by decide +kernel
theorem d_Rf_isLine_151 : decode m_Rf_isLine.2.1 151 = .ok (.aload_n 0, 1) := by decide +kernel
theorem d_Rf_isLine_152 : decode m_Rf_isLine.2.1 152 = .ok (.iload_n 1, 1) := by decide +kernel
theorem d_Rf_isLine_153 : decode m_Rf_isLine.2.1 153 = .ok (.iconst 2, 1) := by decide +kernel
theorem d_Rf_isLine_154 : decode m_Rf_isLine.2.1 154 = .ok (.iadd, 1) := by decide +kernel
theorem d_Rf_isLine_155 : decode m_Rf_isLine.2.1 155 = .ok (.iconst 0, 1) := by decide +kernel
theorem d_Rf_isLine_156 : decode m_Rf_isLine.2.1 156 = .ok (.aload_n 0, 1) := by decide +kernel
theorem d_Rf_isLine_157 : decode m_Rf_isLine.2.1 157 = .ok (.getfield 123, 3) := by decide +kernel
theorem d_Rf_isLine_160 : decode m_Rf_isLine.2.1 160 = .ok (.iconst 1, 1) := by decide +kernel
theorem d_Rf_isLine_161 : decode m_Rf_isLine.2.1 161 = .ok (.isub, 1) := by decide +kernel
theorem d_Rf_isLine_162 : decode m_Rf_isLine.2.1 162 = .ok (.invokevirtual 120, 3) := by decide +kernel
theorem d_Rf_isLine_165 : decode m_Rf_isLine.2.1 165 = .ok (.ifCond .eq 7, 3) := by decide +kernel
theorem d_Rf_isLine_168 : decode m_Rf_isLine.2.1 168 = .ok (.iconst 1, 1) := by decide +kernel
theorem d_Rf_isLine_169 : decode m_Rf_isLine.2.1 169 = .ok (.goto 4, 3) := by decide +kernel
theorem d_Rf_isLine_172 : decode m_Rf_isLine.2.1 172 = .ok (.iconst 0, 1) := by decide +kernel
theorem d_Rf_isLine_173 : decode m_Rf_isLine.2.1 173 = .ok (.ireturn, 1) := by decide +kernel
theorem d_Rf_isLine_174 : decode m_Rf_isLine.2.1 174 = .ok (.aload_n 0, 1) := by decide +kernel
theorem d_Rf_isLine_175 : decode m_Rf_isLine.2.1 175 = .ok (.iload_n 1, 1) := by decide +kernel
theorem d_Rf_isLine_176 : decode m_Rf_isLine.2.1 176 = .ok (.invokevirtual 143, 3) := by decide +kernel
theorem d_Rf_isLine_179 : decode m_Rf_isLine.2.1 179 = .ok (.ireturn, 1) := by decide +kernel
theorem d_Rf_isLine_180 : decode m_Rf_isLine.2.1 180 = .ok (.aload_n 0, 1) := by decide +kernel
theorem d_Rf_isLine_181 : decode m_Rf_isLine.2.1 181 = .ok (.iload_n 1, 1) := by decide +kernel
theorem d_Rf_isLine_182 : decode m_Rf_isLine.2.1 182 = .ok (.iconst 1, 1) := by decide +kernel
theorem d_Rf_isLine_183 : decode m_Rf_isLine.2.1 183 = .ok (.iadd, 1) := by decide +kernel
theorem d_Rf_isLine_184 : decode m_Rf_isLine.2.1 184 = .ok (.iconst 0, 1) := by decide +kernel
theorem d_Rf_isLine_185 : decode m_Rf_isLine.2.1 185 = .ok (.iconst 5, 1) := by decide +kernel
theorem d_Rf_isLine_186 : decode m_Rf_isLine.2.1 186 = .ok (.invokevirtual 120, 3) := by decide +kernel
theorem d_Rf_isLine_189 : decode m_Rf_isLine.2.1 189 = .ok (.ireturn, 1) := by decide +kernel
theorem d_Rf_isLine_190 : decode m_Rf_isLine.2.1 190 = .ok (.aload_n 0, 1) := by decide +kernel
theorem d_Rf_isLine_191 : decode m_Rf_isLine.2.1 191 = .ok (.iload_n 1, 1) := by decide +kernel
theorem d_Rf_isLine_192 : decode m_Rf_isLine.2.1 192 = .ok (.invokevirtual 146, 3) := by decide +kernel
theorem d_Rf_isLine_195 : decode m_Rf_isLine.2.1 195 = .ok (.ireturn, 1) := by decide +kernel
theorem d_Rf_isLine_196 : decode m_Rf_isLine.2.1 196 = .ok (.aload_n 0, 1) := by decide +kernel
theorem d_Rf_isLine_197 : decode m_Rf_isLine.2.1 197 = .ok (.invokevirtual 116, 3) := by decide +kernel
theorem d_Rf_isLine_200 : decode m_Rf_isLine.2.1 200 = .ok (.ireturn, 1) := by decide +kernel
theorem g_Rf_isLine_0 {X : XS} (a1 : Int32) (h : Hp) (Q : Option AV → Hp → Prop)  (k : (∃ Q'4, EvV X m_Rf_nextToken [vR [1]] h Q'4 ∧ ∀ (h3 : Hp), Q'4 h3 → ((¬ (lg_cmp (h3.2 [1] 10) 283616147) = 0 → ((¬ (lg_cmp (h3.2 [1] 10) 26854558) = 0 → ((¬ (lg_cmp (h3.2 [1] 10) 330800670) = 0 → ((¬ (lg_cmp (h3.2 [1] 10) 149099) = 0 → ((¬ (lg_cmp (h3.2 [1] 10) 355280) = 0 → Rn X m_Rf_isLine 85 [some (vR [1]), some (vI a1)] [vI (-1), vI a1, vR [15, 1]] h3 Q) ∧ ((lg_cmp (h3.2 [1] 10) 355280) = 0 → Rn X m_Rf_isLine 85 [some (vR [1]), some (vI a1)] [vI 4, vI a1, vR [15, 1]] h3 Q))) ∧ ((lg_cmp (h3.2 [1] 10) 149099) = 0 → Rn X m_Rf_isLine 85 [some (vR [1]), some (vI a1)] [vI 3, vI a1, vR [15, 1]] h3 Q))) ∧ ((lg_cmp (h3.2 [1] 10) 330800670) = 0 → Rn X m_Rf_isLine 85 [some (vR [1]), some (vI a1)] [vI 2, vI a1, vR [15, 1]] h3 Q))) ∧ ((lg_cmp (h3.2 [1] 10) 26854558) = 0 → Rn X m_Rf_isLine 85 [some (vR [1]), some (vI a1)] [vI 1, vI a1, vR [15, 1]] h3 Q))) ∧ ((lg_cmp (h3.2 [1] 10) 283616147) = 0 → Rn X m_Rf_isLine 85 [some (vR [1]), some (vI a1)] [vI 0, vI a1, vR [15, 1]] h3 Q)))) : Rn X m_Rf_isLine 0 [some (vR [1]), some (vI a1)] [] h Q := by
  refine Rn.aload_n (n := 1) (i := 0) d_Rf_isLine_0 rfl rfl rfl ?_
  obtain ⟨Q'4, ev1, k⟩ := k
  refine Rn.callV (n := 4) (av := []) d_Rf_isLine_1 rfl ml_Rf_isLine_113 mi_Rf_nextToken Lv_1 rfl rfl rfl rfl (Nat.le_of_ble_eq_true rfl) ev1 (fun v h3 hq => ?_)
  obtain ⟨rfl, hq⟩ := hq
  have k := k h3 hq
  show Rn X m_Rf_isLine 4 [some (vR [1]), some (vI a1)] [] h3 Q
  refine Rn.aload_n (n := 5) (i := 0) d_Rf_isLine_4 rfl rfl rfl ?_
  refine Rn.getf (n := 8) (v := vR [15, 1]) d_Rf_isLine_5 rfl fl_Rf_26 Lv_1 rfl ?_
  refine Rn.iload_n (n := 9) (i := 1) d_Rf_isLine_8 rfl rfl rfl ?_
  refine Rn.aload_n (n := 10) (i := 0) d_Rf_isLine_9 rfl rfl rfl ?_
  refine Rn.getf (n := 13) (v := vL (h3.2 [1] 10)) d_Rf_isLine_10 rfl fl_Rf_96 Lv_1 rfl ?_
  refine Rn.ldc2 (n := 16) (v := 283616147) d_Rf_isLine_13 rfl cl_Rf_129 ?_
  refine Rn.lcmp (n := 17) d_Rf_isLine_16 rfl ?_
  refine Rn.if_ne (n := 20) (t := 24) d_Rf_isLine_17 rfl (by decide) (fun cc => ?_) (fun cc => ?_)
  · have k := k.1 cc
    refine Rn.aload_n (n := 25) (i := 0) d_Rf_isLine_24 rfl rfl rfl ?_
    refine Rn.getf (n := 28) (v := vL (h3.2 [1] 10)) d_Rf_isLine_25 rfl fl_Rf_96 Lv_1 rfl ?_
    refine Rn.ldc2 (n := 31) (v := 26854558) d_Rf_isLine_28 rfl cl_Rf_131 ?_
    refine Rn.lcmp (n := 32) d_Rf_isLine_31 rfl ?_
    refine Rn.if_ne (n := 35) (t := 39) d_Rf_isLine_32 rfl (by decide) (fun cc => ?_) (fun cc => ?_)
    · have k := k.1 cc
      refine Rn.aload_n (n := 40) (i := 0) d_Rf_isLine_39 rfl rfl rfl ?_
      refine Rn.getf (n := 43) (v := vL (h3.2 [1] 10)) d_Rf_isLine_40 rfl fl_Rf_96 Lv_1 rfl ?_
      refine Rn.ldc2 (n := 46) (v := 330800670) d_Rf_isLine_43 rfl cl_Rf_133 ?_
      refine Rn.lcmp (n := 47) d_Rf_isLine_46 rfl ?_
      refine Rn.if_ne (n := 50) (t := 54) d_Rf_isLine_47 rfl (by decide) (fun cc => ?_) (fun cc => ?_)
      · have k := k.1 cc
        refine Rn.aload_n (n := 55) (i := 0) d_Rf_isLine_54 rfl rfl rfl ?_
        refine Rn.getf (n := 58) (v := vL (h3.2 [1] 10)) d_Rf_isLine_55 rfl fl_Rf_96 Lv_1 rfl ?_
        refine Rn.ldc2 (n := 61) (v := 149099) d_Rf_isLine_58 rfl cl_Rf_135 ?_
        refine Rn.lcmp (n := 62) d_Rf_isLine_61 rfl ?_
        refine Rn.if_ne (n := 65) (t := 69) d_Rf_isLine_62 rfl (by decide) (fun cc => ?_) (fun cc => ?_)
        · have k := k.1 cc
          refine Rn.aload_n (n := 70) (i := 0) d_Rf_isLine_69 rfl rfl rfl ?_
          refine Rn.getf (n := 73) (v := vL (h3.2 [1] 10)) d_Rf_isLine_70 rfl fl_Rf_96 Lv_1 rfl ?_
          refine Rn.ldc2 (n := 76) (v := 355280) d_Rf_isLine_73 rfl cl_Rf_137 ?_
          refine Rn.lcmp (n := 77) d_Rf_isLine_76 rfl ?_
          refine Rn.if_ne (n := 80) (t := 84) d_Rf_isLine_77 rfl (by decide) (fun cc => ?_) (fun cc => ?_)
          · have k := k.1 cc
            refine Rn.iconst (n := 85) (v := (-1)) d_Rf_isLine_84 rfl (by decide) ?_
            exact k
          · have k := k.2 cc
            refine Rn.iconst (n := 81) (v := 4) d_Rf_isLine_80 rfl (by decide) ?_
            refine Rn.goto (n := 85) d_Rf_isLine_81 (by decide) ?_
            exact k
        · have k := k.2 cc
          refine Rn.iconst (n := 66) (v := 3) d_Rf_isLine_65 rfl (by decide) ?_
          refine Rn.goto (n := 85) d_Rf_isLine_66 (by decide) ?_
          exact k
      · have k := k.2 cc
        refine Rn.iconst (n := 51) (v := 2) d_Rf_isLine_50 rfl (by decide) ?_
        refine Rn.goto (n := 85) d_Rf_isLine_51 (by decide) ?_
        exact k
    · have k := k.2 cc
      refine Rn.iconst (n := 36) (v := 1) d_Rf_isLine_35 rfl (by decide) ?_
      refine Rn.goto (n := 85) d_Rf_isLine_36 (by decide) ?_
      exact k
  · have k := k.2 cc
    refine Rn.iconst (n := 21) (v := 0) d_Rf_isLine_20 rfl (by decide) ?_
    refine Rn.goto (n := 85) d_Rf_isLine_21 (by decide) ?_
    exact k
theorem g_Rf_isLine_85 {X : XS} (a1 : Int32) (s0 : Int32) (s1 : Int32) (h : Hp) (Q : Option AV → Hp → Prop)  (k : (vp_in s1 64 ∧ (vp_in a1 64 ∧ ((((hsI h [15, 1] s1.toNatClampNeg s0).1 [15, 1] a1.toNatClampNeg).toInt < 0 ∨ 4 < ((hsI h [15, 1] s1.toNatClampNeg s0).1 [15, 1] a1.toNatClampNeg).toInt → (∃ Q'6, EvI X m_Rf_fails [vR [1]] (hsI h [15, 1] s1.toNatClampNeg s0) Q'6 ∧ ∀ (r7 : Int32) (h5 : Hp), Q'6 r7 h5 → ((r7 = 0 ∨ r7 = 1) ∧ Q (some (vI r7)) h5))) ∧ (((hsI h [15, 1] s1.toNatClampNeg s0).1 [15, 1] a1.toNatClampNeg) = 0 → (∃ Q'11, EvI X m_Rf_isStreet [vR [1], vI a1] (hsI h [15, 1] s1.toNatClampNeg s0) Q'11 ∧ ∀ (r12 : Int32) (h10 : Hp), Q'11 r12 h10 → ((r12 = 0 ∨ r12 = 1) ∧ Q (some (vI r12)) h10))) ∧ (((hsI h [15, 1] s1.toNatClampNeg s0).1 [15, 1] a1.toNatClampNeg) = 1 → (∃ Q'16, EvI X m_Rf_isNumber [vR [1], vI (a1 + 1), vI 0, vI (((hsI h [15, 1] s1.toNatClampNeg s0).1 [1] 17) - 1)] (hsI h [15, 1] s1.toNatClampNeg s0) Q'16 ∧ ∀ (r17 : Int32) (h15 : Hp), Q'16 r17 h15 → ((r17 = 0 → Q (some (vI 0)) h15) ∧ (¬ r17 = 0 → (∃ Q'21, EvI X m_Rf_isNumber [vR [1], vI (a1 + 2), vI 0, vI ((h15.1 [1] 16) - 1)] h15 Q'21 ∧ ∀ (r22 : Int32) (h20 : Hp), Q'21 r22 h20 → ((r22 = 0 → Q (some (vI 0)) h20) ∧ (¬ r22 = 0 → Q (some (vI 1)) h20))))))) ∧ (((hsI h [15, 1] s1.toNatClampNeg s0).1 [15, 1] a1.toNatClampNeg) = 2 → (∃ Q'26, EvI X m_Rf_isWalkerLine [vR [1], vI a1] (hsI h [15, 1] s1.toNatClampNeg s0) Q'26 ∧ ∀ (r27 : Int32) (h25 : Hp), Q'26 r27 h25 → ((r27 = 0 ∨ r27 = 1) ∧ Q (some (vI r27)) h25))) ∧ (((hsI h [15, 1] s1.toNatClampNeg s0).1 [15, 1] a1.toNatClampNeg) = 3 → (∃ Q'31, EvI X m_Rf_isNumber [vR [1], vI (a1 + 1), vI 0, vI 5] (hsI h [15, 1] s1.toNatClampNeg s0) Q'31 ∧ ∀ (r32 : Int32) (h30 : Hp), Q'31 r32 h30 → ((r32 = 0 ∨ r32 = 1) ∧ Q (some (vI r32)) h30))) ∧ (((hsI h [15, 1] s1.toNatClampNeg s0).1 [15, 1] a1.toNatClampNeg) = 4 → (∃ Q'36, EvI X m_Rf_isRain [vR [1], vI a1] (hsI h [15, 1] s1.toNatClampNeg s0) Q'36 ∧ ∀ (r37 : Int32) (h35 : Hp), Q'36 r37 h35 → ((r37 = 0 ∨ r37 = 1) ∧ Q (some (vI r37)) h35))))))) : Rn X m_Rf_isLine 85 [some (vR [1]), some (vI a1)] [vI s0, vI s1, vR [15, 1]] h Q := by
  obtain ⟨b1, k⟩ := k
  refine Rn.iast (n := 86) d_Rf_isLine_85 rfl Lv_15_1 b1 ?_
  refine Rn.aload_n (n := 87) (i := 0) d_Rf_isLine_86 rfl rfl rfl ?_
  refine Rn.getf (n := 90) (v := vR [15, 1]) d_Rf_isLine_87 rfl fl_Rf_26 Lv_1 rfl ?_
  refine Rn.iload_n (n := 91) (i := 1) d_Rf_isLine_90 rfl rfl rfl ?_
  obtain ⟨b2, k⟩ := k
  refine Rn.iald (n := 92) (v := (hsI h [15, 1] s1.toNatClampNeg s0).1 [15, 1] a1.toNatClampNeg) d_Rf_isLine_91 rfl Lv_15_1 b2 rfl ?_
  refine Rn.tsw (n := 0) d_Rf_isLine_92 (fun cc => ⟨196, by decide, ?_⟩) (fun j hz1 hz2 hz3 => ?_)
  · have k := k.1 cc
    refine Rn.aload_n (n := 197) (i := 0) d_Rf_isLine_196 rfl rfl rfl ?_
    obtain ⟨Q'6, ev3, k⟩ := k
    refine Rn.callV (n := 200) (av := []) d_Rf_isLine_197 rfl ml_Rf_isLine_116 mi_Rf_fails Lv_1 rfl rfl rfl rfl (Nat.le_of_ble_eq_true rfl) ev3 (fun v h5 hq => ?_)
    obtain ⟨r7, rfl, hq⟩ := hq
    have k := k r7 h5 hq
    show Rn X m_Rf_isLine 200 [some (vR [1]), some (vI a1)] [vI r7] h5 Q
    obtain ⟨hz, k⟩ := k
    exact Rn.iret d_Rf_isLine_200 rfl (nar_z hz) k
  · have k := k.2
    have hj : j < 5 := by omega
    match j, hj, hz3 with
    | 0, _, hz3 =>
      have cc : ((hsI h [15, 1] s1.toNatClampNeg s0).1 [15, 1] a1.toNatClampNeg) = 0 := Int32.toInt_inj.mp hz3
      have k := k.1 cc
      refine ⟨36, 128, rfl, by decide, ?_⟩
      refine Rn.aload_n (n := 129) (i := 0) d_Rf_isLine_128 rfl rfl rfl ?_
      refine Rn.iload_n (n := 130) (i := 1) d_Rf_isLine_129 rfl rfl rfl ?_
      obtain ⟨Q'11, ev8, k⟩ := k
      refine Rn.callV (n := 133) (av := [vI a1]) d_Rf_isLine_130 rfl ml_Rf_isLine_139 mi_Rf_isStreet Lv_1 rfl rfl rfl rfl (Nat.le_of_ble_eq_true rfl) ev8 (fun v h10 hq => ?_)
      obtain ⟨r12, rfl, hq⟩ := hq
      have k := k r12 h10 hq
      show Rn X m_Rf_isLine 133 [some (vR [1]), some (vI a1)] [vI r12] h10 Q
      obtain ⟨hz, k⟩ := k
      exact Rn.iret d_Rf_isLine_133 rfl (nar_z hz) k
    | 1, _, hz3 =>
      have cc : ((hsI h [15, 1] s1.toNatClampNeg s0).1 [15, 1] a1.toNatClampNeg) = 1 := Int32.toInt_inj.mp hz3
      have k := k.2.1 cc
      refine ⟨42, 134, rfl, by decide, ?_⟩
      refine Rn.aload_n (n := 135) (i := 0) d_Rf_isLine_134 rfl rfl rfl ?_
      refine Rn.iload_n (n := 136) (i := 1) d_Rf_isLine_135 rfl rfl rfl ?_
      refine Rn.iconst (n := 137) (v := 1) d_Rf_isLine_136 rfl (by decide) ?_
      refine Rn.iadd (n := 138) d_Rf_isLine_137 rfl ?_
      refine Rn.iconst (n := 139) (v := 0) d_Rf_isLine_138 rfl (by decide) ?_
      refine Rn.aload_n (n := 140) (i := 0) d_Rf_isLine_139 rfl rfl rfl ?_
      refine Rn.getf (n := 143) (v := vI ((hsI h [15, 1] s1.toNatClampNeg s0).1 [1] 17)) d_Rf_isLine_140 rfl fl_Rf_126 Lv_1 rfl ?_
      refine Rn.iconst (n := 144) (v := 1) d_Rf_isLine_143 rfl (by decide) ?_
      refine Rn.isub (n := 145) d_Rf_isLine_144 rfl ?_
      obtain ⟨Q'16, ev13, k⟩ := k
      refine Rn.callV (n := 148) (av := [vI (a1 + 1), vI 0, vI (((hsI h [15, 1] s1.toNatClampNeg s0).1 [1] 17) - 1)]) d_Rf_isLine_145 rfl ml_Rf_isLine_120 mi_Rf_isNumber Lv_1 rfl rfl rfl rfl (Nat.le_of_ble_eq_true rfl) ev13 (fun v h15 hq => ?_)
      obtain ⟨r17, rfl, hq⟩ := hq
      have k := k r17 h15 hq
      show Rn X m_Rf_isLine 148 [some (vR [1]), some (vI a1)] [vI r17] h15 Q
      refine Rn.if_eq (n := 151) (t := 172) d_Rf_isLine_148 rfl (by decide) (fun cc => ?_) (fun cc => ?_)
      · have k := k.1 cc
        refine Rn.iconst (n := 173) (v := 0) d_Rf_isLine_172 rfl (by decide) ?_
        exact Rn.iret d_Rf_isLine_173 rfl rfl k
      · have k := k.2 cc
        refine Rn.aload_n (n := 152) (i := 0) d_Rf_isLine_151 rfl rfl rfl ?_
        refine Rn.iload_n (n := 153) (i := 1) d_Rf_isLine_152 rfl rfl rfl ?_
        refine Rn.iconst (n := 154) (v := 2) d_Rf_isLine_153 rfl (by decide) ?_
        refine Rn.iadd (n := 155) d_Rf_isLine_154 rfl ?_
        refine Rn.iconst (n := 156) (v := 0) d_Rf_isLine_155 rfl (by decide) ?_
        refine Rn.aload_n (n := 157) (i := 0) d_Rf_isLine_156 rfl rfl rfl ?_
        refine Rn.getf (n := 160) (v := vI (h15.1 [1] 16)) d_Rf_isLine_157 rfl fl_Rf_123 Lv_1 rfl ?_
        refine Rn.iconst (n := 161) (v := 1) d_Rf_isLine_160 rfl (by decide) ?_
        refine Rn.isub (n := 162) d_Rf_isLine_161 rfl ?_
        obtain ⟨Q'21, ev18, k⟩ := k
        refine Rn.callV (n := 165) (av := [vI (a1 + 2), vI 0, vI ((h15.1 [1] 16) - 1)]) d_Rf_isLine_162 rfl ml_Rf_isLine_120 mi_Rf_isNumber Lv_1 rfl rfl rfl rfl (Nat.le_of_ble_eq_true rfl) ev18 (fun v h20 hq => ?_)
        obtain ⟨r22, rfl, hq⟩ := hq
        have k := k r22 h20 hq
        show Rn X m_Rf_isLine 165 [some (vR [1]), some (vI a1)] [vI r22] h20 Q
        refine Rn.if_eq (n := 168) (t := 172) d_Rf_isLine_165 rfl (by decide) (fun cc => ?_) (fun cc => ?_)
        · have k := k.1 cc
          refine Rn.iconst (n := 173) (v := 0) d_Rf_isLine_172 rfl (by decide) ?_
          exact Rn.iret d_Rf_isLine_173 rfl rfl k
        · have k := k.2 cc
          refine Rn.iconst (n := 169) (v := 1) d_Rf_isLine_168 rfl (by decide) ?_
          refine Rn.goto (n := 173) d_Rf_isLine_169 (by decide) ?_
          exact Rn.iret d_Rf_isLine_173 rfl rfl k
    | 2, _, hz3 =>
      have cc : ((hsI h [15, 1] s1.toNatClampNeg s0).1 [15, 1] a1.toNatClampNeg) = 2 := Int32.toInt_inj.mp hz3
      have k := k.2.2.1 cc
      refine ⟨82, 174, rfl, by decide, ?_⟩
      refine Rn.aload_n (n := 175) (i := 0) d_Rf_isLine_174 rfl rfl rfl ?_
      refine Rn.iload_n (n := 176) (i := 1) d_Rf_isLine_175 rfl rfl rfl ?_
      obtain ⟨Q'26, ev23, k⟩ := k
      refine Rn.callV (n := 179) (av := [vI a1]) d_Rf_isLine_176 rfl ml_Rf_isLine_143 mi_Rf_isWalkerLine Lv_1 rfl rfl rfl rfl (Nat.le_of_ble_eq_true rfl) ev23 (fun v h25 hq => ?_)
      obtain ⟨r27, rfl, hq⟩ := hq
      have k := k r27 h25 hq
      show Rn X m_Rf_isLine 179 [some (vR [1]), some (vI a1)] [vI r27] h25 Q
      obtain ⟨hz, k⟩ := k
      exact Rn.iret d_Rf_isLine_179 rfl (nar_z hz) k
    | 3, _, hz3 =>
      have cc : ((hsI h [15, 1] s1.toNatClampNeg s0).1 [15, 1] a1.toNatClampNeg) = 3 := Int32.toInt_inj.mp hz3
      have k := k.2.2.2.1 cc
      refine ⟨88, 180, rfl, by decide, ?_⟩
      refine Rn.aload_n (n := 181) (i := 0) d_Rf_isLine_180 rfl rfl rfl ?_
      refine Rn.iload_n (n := 182) (i := 1) d_Rf_isLine_181 rfl rfl rfl ?_
      refine Rn.iconst (n := 183) (v := 1) d_Rf_isLine_182 rfl (by decide) ?_
      refine Rn.iadd (n := 184) d_Rf_isLine_183 rfl ?_
      refine Rn.iconst (n := 185) (v := 0) d_Rf_isLine_184 rfl (by decide) ?_
      refine Rn.iconst (n := 186) (v := 5) d_Rf_isLine_185 rfl (by decide) ?_
      obtain ⟨Q'31, ev28, k⟩ := k
      refine Rn.callV (n := 189) (av := [vI (a1 + 1), vI 0, vI 5]) d_Rf_isLine_186 rfl ml_Rf_isLine_120 mi_Rf_isNumber Lv_1 rfl rfl rfl rfl (Nat.le_of_ble_eq_true rfl) ev28 (fun v h30 hq => ?_)
      obtain ⟨r32, rfl, hq⟩ := hq
      have k := k r32 h30 hq
      show Rn X m_Rf_isLine 189 [some (vR [1]), some (vI a1)] [vI r32] h30 Q
      obtain ⟨hz, k⟩ := k
      exact Rn.iret d_Rf_isLine_189 rfl (nar_z hz) k
    | 4, _, hz3 =>
      have cc : ((hsI h [15, 1] s1.toNatClampNeg s0).1 [15, 1] a1.toNatClampNeg) = 4 := Int32.toInt_inj.mp hz3
      have k := k.2.2.2.2 cc
      refine ⟨98, 190, rfl, by decide, ?_⟩
      refine Rn.aload_n (n := 191) (i := 0) d_Rf_isLine_190 rfl rfl rfl ?_
      refine Rn.iload_n (n := 192) (i := 1) d_Rf_isLine_191 rfl rfl rfl ?_
      obtain ⟨Q'36, ev33, k⟩ := k
      refine Rn.callV (n := 195) (av := [vI a1]) d_Rf_isLine_192 rfl ml_Rf_isLine_146 mi_Rf_isRain Lv_1 rfl rfl rfl rfl (Nat.le_of_ble_eq_true rfl) ev33 (fun v h35 hq => ?_)
      obtain ⟨r37, rfl, hq⟩ := hq
      have k := k r37 h35 hq
      show Rn X m_Rf_isLine 195 [some (vR [1]), some (vI a1)] [vI r37] h35 Q
      obtain ⟨hz, k⟩ := k
      exact Rn.iret d_Rf_isLine_195 rfl (nar_z hz) k
    | j + 5, hj, _ => exact absurd hj (by omega)
theorem e_Rf_isLine {X : XS} (a1 : Int32) (h : Hp) (Q : Option AV → Hp → Prop) (k : Rn X m_Rf_isLine 0 [some (vR [1]), some (vI a1)] [] h Q) : Ev X m_Rf_isLine [vR [1], vI a1] h Q := Ev.intro (plainFor_of_name (by decide +kernel)) (Nat.le_of_ble_eq_true rfl) (ls := [some (vR [1]), some (vI a1)]) rfl k
theorem d_Rf_isRead_0 : decode m_Rf_isRead.2.1 0 = .ok (.aload_n 0, 1) := by decide +kernel
theorem d_Rf_isRead_1 : decode m_Rf_isRead.2.1 1 = .ok (.iconst 0, 1) := by decide +kernel
theorem d_Rf_isRead_2 : decode m_Rf_isRead.2.1 2 = .ok (.putfield 82, 3) := by decide +kernel
theorem d_Rf_isRead_5 : decode m_Rf_isRead.2.1 5 = .ok (.aload_n 0, 1) := by decide +kernel
theorem d_Rf_isRead_6 : decode m_Rf_isRead.2.1 6 = .ok (.iconst 0, 1) := by decide +kernel
theorem d_Rf_isRead_7 : decode m_Rf_isRead.2.1 7 = .ok (.putfield 149, 3) := by decide +kernel
theorem d_Rf_isRead_10 : decode m_Rf_isRead.2.1 10 = .ok (.aload_n 0, 1) := by decide +kernel
theorem d_Rf_isRead_11 : decode m_Rf_isRead.2.1 11 = .ok (.aload_n 0, 1) := by decide +kernel
theorem d_Rf_isRead_12 : decode m_Rf_isRead.2.1 12 = .ok (.getfield 7, 3) := by decide +kernel
theorem d_Rf_isRead_15 : decode m_Rf_isRead.2.1 15 = .ok (.putfield 123, 3) := by decide +kernel
theorem d_Rf_isRead_18 : decode m_Rf_isRead.2.1 18 = .ok (.aload_n 0, 1) := by decide +kernel
theorem d_Rf_isRead_19 : decode m_Rf_isRead.2.1 19 = .ok (.aload_n 0, 1) := by decide +kernel
theorem d_Rf_isRead_20 : decode m_Rf_isRead.2.1 20 = .ok (.getfield 13, 3) := by decide +kernel
theorem d_Rf_isRead_23 : decode m_Rf_isRead.2.1 23 = .ok (.putfield 126, 3) := by decide +kernel
theorem d_Rf_isRead_26 : decode m_Rf_isRead.2.1 26 = .ok (.iconst 1, 1) := by decide +kernel
theorem d_Rf_isRead_27 : decode m_Rf_isRead.2.1 27 = .ok (.istore_n 1, 1) := by decide +kernel
theorem d_Rf_isRead_28 : decode m_Rf_isRead.2.1 28 = .ok (.iload_n 1, 1) := by decide +kernel
theorem d_Rf_isRead_29 : decode m_Rf_isRead.2.1 29 = .ok (.ifCond .eq 62, 3) := by decide +kernel
theorem d_Rf_isRead_32 : decode m_Rf_isRead.2.1 32 = .ok (.aload_n 0, 1) := by decide +kernel
theorem d_Rf_isRead_33 : decode m_Rf_isRead.2.1 33 = .ok (.bipush 8, 2) := by decide +kernel
theorem d_Rf_isRead_35 : decode m_Rf_isRead.2.1 35 = .ok (.aload_n 0, 1) := by decide +kernel
theorem d_Rf_isRead_36 : decode m_Rf_isRead.2.1 36 = .ok (.getfield 149, 3) := by decide +kernel
theorem d_Rf_isRead_39 : decode m_Rf_isRead.2.1 39 = .ok (.imul, 1) := by decide +kernel
theorem d_Rf_isRead_40 : decode m_Rf_isRead.2.1 40 = .ok (.invokevirtual 152, 3) := by decide +kernel
theorem d_Rf_isRead_43 : decode m_Rf_isRead.2.1 43 = .ok (.ifCond .ne 5, 3) := by decide +kernel
theorem d_Rf_isRead_46 : decode m_Rf_isRead.2.1 46 = .ok (.iconst 0, 1) := by decide +kernel
theorem d_Rf_isRead_47 : decode m_Rf_isRead.2.1 47 = .ok (.ireturn, 1) := by decide +kernel
theorem d_Rf_isRead_48 : decode m_Rf_isRead.2.1 48 = .ok (.aload_n 0, 1) := by decide +kernel
theorem d_Rf_isRead_49 : decode m_Rf_isRead.2.1 49 = .ok (.dup, 1) := by decide +kernel
theorem d_Rf_isRead_50 : decode m_Rf_isRead.2.1 50 = .ok (.getfield 149, 3) := by decide +kernel
theorem d_Rf_isRead_53 : decode m_Rf_isRead.2.1 53 = .ok (.iconst 1, 1) := by decide +kernel
theorem d_Rf_isRead_54 : decode m_Rf_isRead.2.1 54 = .ok (.iadd, 1) := by decide +kernel
theorem d_Rf_isRead_55 : decode m_Rf_isRead.2.1 55 = .ok (.putfield 149, 3) := by decide +kernel
theorem d_Rf_isRead_58 : decode m_Rf_isRead.2.1 58 = .ok (.aload_n 0, 1) := by decide +kernel
theorem d_Rf_isRead_59 : decode m_Rf_isRead.2.1 59 = .ok (.invokevirtual 113, 3) := by decide +kernel
theorem d_Rf_isRead_62 : decode m_Rf_isRead.2.1 62 = .ok (.aload_n 0, 1) := by decide +kernel
theorem d_Rf_isRead_63 : decode m_Rf_isRead.2.1 63 = .ok (.getfield 96, 3) := by decide +kernel
theorem d_Rf_isRead_66 : decode m_Rf_isRead.2.1 66 = .ok (.ldc2_w 108, 3) := by decide +kernel
theorem d_Rf_isRead_69 : decode m_Rf_isRead.2.1 69 = .ok (.lcmp, 1) := by decide +kernel
theorem d_Rf_isRead_70 : decode m_Rf_isRead.2.1 70 = .ok (.ifCond .ne 16, 3) := by decide +kernel
theorem d_Rf_isRead_73 : decode m_Rf_isRead.2.1 73 = .ok (.aload_n 0, 1) := by decide +kernel
theorem d_Rf_isRead_74 : decode m_Rf_isRead.2.1 74 = .ok (.getfield 149, 3) := by decide +kernel
theorem d_Rf_isRead_77 : decode m_Rf_isRead.2.1 77 = .ok (.bipush 8, 2) := by decide +kernel
theorem d_Rf_isRead_79 : decode m_Rf_isRead.2.1 79 = .ok (.if_icmp .ge 7, 3) := by decide +kernel
theorem d_Rf_isRead_82 : decode m_Rf_isRead.2.1 82 = .ok (.iconst 1, 1) := by decide +kernel
theorem d_Rf_isRead_83 : decode m_Rf_isRead.2.1 83 = .ok (.goto 4, 3) := by decide +kernel
theorem d_Rf_isRead_86 : decode m_Rf_isRead.2.1 86 = .ok (.iconst 0, 1) := by decide +kernel
theorem d_Rf_isRead_87 : decode m_Rf_isRead.2.1 87 = .ok (.istore_n 1, 1) := by decide +kernel
theorem d_Rf_isRead_88 : decode m_Rf_isRead.2.1 88 = .ok (.goto (-60), 3) := by decide +kernel
theorem d_Rf_isRead_91 : decode m_Rf_isRead.2.1 91 = .ok (.aload_n 0, 1) := by decide +kernel
theorem d_Rf_isRead_92 : decode m_Rf_isRead.2.1 92 = .ok (.getfield 96, 3) := by decide +kernel
theorem d_Rf_isRead_95 : decode m_Rf_isRead.2.1 95 = .ok (.ldc2_w 94, 3) := by decide +kernel
theorem d_Rf_isRead_98 : decode m_Rf_isRead.2.1 98 = .ok (.lcmp, 1) := by decide +kernel
theorem d_Rf_isRead_99 : decode m_Rf_isRead.2.1 99 = .ok (.ifCond .eq 10, 3) := by decide +kernel
theorem d_Rf_isRead_102 : decode m_Rf_isRead.2.1 102 = .ok (.aload_n 0, 1) := by decide +kernel
theorem d_Rf_isRead_103 : decode m_Rf_isRead.2.1 103 = .ok (.invokevirtual 116, 3) := by decide +kernel
theorem d_Rf_isRead_106 : decode m_Rf_isRead.2.1 106 = .ok (.ifCond .eq 7, 3) := by decide +kernel
theorem d_Rf_isRead_109 : decode m_Rf_isRead.2.1 109 = .ok (.iconst 1, 1) := by decide +kernel
theorem d_Rf_isRead_110 : decode m_Rf_isRead.2.1 110 = .ok (.goto 4, 3) := by decide +kernel
theorem d_Rf_isRead_113 : decode m_Rf_isRead.2.1 113 = .ok (.iconst 0, 1) := by decide +kernel
theorem d_Rf_isRead_114 : decode m_Rf_isRead.2.1 114 = .ok (.ireturn, 1) := by decide +kernel
theorem g_Rf_isRead_0 {X : XS}  (h : Hp) (Q : Option AV → Hp → Prop)  (k : Rn X m_Rf_isRead 28 [some (vR [1]), some (vI 1)] [] (hsI (hsI (hsI (hsI h [1] 8 0) [1] 14 0) [1] 16 ((hsI (hsI h [1] 8 0) [1] 14 0).1 [1] 0)) [1] 17 ((hsI (hsI (hsI h [1] 8 0) [1] 14 0) [1] 16 ((hsI (hsI h [1] 8 0) [1] 14 0).1 [1] 0)).1 [1] 1)) Q) : Rn X m_Rf_isRead 0 [some (vR [1]), none] [] h Q := by
  refine Rn.aload_n (n := 1) (i := 0) d_Rf_isRead_0 rfl rfl rfl ?_
  refine Rn.iconst (n := 2) (v := 0) d_Rf_isRead_1 rfl (by decide) ?_
  refine Rn.putI (n := 5) d_Rf_isRead_2 rfl fl_Rf_82 pl_Rf_8 Lv_1 rfl ?_
  refine Rn.aload_n (n := 6) (i := 0) d_Rf_isRead_5 rfl rfl rfl ?_
  refine Rn.iconst (n := 7) (v := 0) d_Rf_isRead_6 rfl (by decide) ?_
  refine Rn.putI (n := 10) d_Rf_isRead_7 rfl fl_Rf_149 pl_Rf_14 Lv_1 rfl ?_
  refine Rn.aload_n (n := 11) (i := 0) d_Rf_isRead_10 rfl rfl rfl ?_
  refine Rn.aload_n (n := 12) (i := 0) d_Rf_isRead_11 rfl rfl rfl ?_
  refine Rn.getf (n := 15) (v := vI ((hsI (hsI h [1] 8 0) [1] 14 0).1 [1] 0)) d_Rf_isRead_12 rfl fl_Rf_7 Lv_1 rfl ?_
  refine Rn.putI (n := 18) d_Rf_isRead_15 rfl fl_Rf_123 pl_Rf_16 Lv_1 rfl ?_
  refine Rn.aload_n (n := 19) (i := 0) d_Rf_isRead_18 rfl rfl rfl ?_
  refine Rn.aload_n (n := 20) (i := 0) d_Rf_isRead_19 rfl rfl rfl ?_
  refine Rn.getf (n := 23) (v := vI ((hsI (hsI (hsI h [1] 8 0) [1] 14 0) [1] 16 ((hsI (hsI h [1] 8 0) [1] 14 0).1 [1] 0)).1 [1] 1)) d_Rf_isRead_20 rfl fl_Rf_13 Lv_1 rfl ?_
  refine Rn.putI (n := 26) d_Rf_isRead_23 rfl fl_Rf_126 pl_Rf_17 Lv_1 rfl ?_
  refine Rn.iconst (n := 27) (v := 1) d_Rf_isRead_26 rfl (by decide) ?_
  refine Rn.istore_n (n := 28) (i := 1) (ls2 := [some (vR [1]), some (vI 1)]) d_Rf_isRead_27 rfl rfl (Nat.le_of_ble_eq_true rfl) rfl ?_
  exact k
theorem g_Rf_isRead_28 {X : XS} (a1 : Int32) (h : Hp) (Q : Option AV → Hp → Prop)  (k : ((a1 = 0 → (((lg_cmp (h.2 [1] 10) (-2)) = 0 → Q (some (vI 1)) h) ∧ (¬ (lg_cmp (h.2 [1] 10) (-2)) = 0 → (∃ Q'4, EvI X m_Rf_fails [vR [1]] h Q'4 ∧ ∀ (r5 : Int32) (h3 : Hp), Q'4 r5 h3 → ((r5 = 0 → Q (some (vI 0)) h3) ∧ (¬ r5 = 0 → Q (some (vI 1)) h3)))))) ∧ (¬ a1 = 0 → (∃ Q'9, EvI X m_Rf_isLine [vR [1], vI (8 * (h.1 [1] 14))] h Q'9 ∧ ∀ (r10 : Int32) (h8 : Hp), Q'9 r10 h8 → ((¬ r10 = 0 → (∃ Q'14, EvV X m_Rf_nextToken [vR [1]] (hsI h8 [1] 14 ((h8.1 [1] 14) + 1)) Q'14 ∧ ∀ (h13 : Hp), Q'14 h13 → ((¬ (lg_cmp (h13.2 [1] 10) (-3)) = 0 → Rn X m_Rf_isRead 28 [some (vR [1]), some (vI 0)] [] h13 Q) ∧ ((lg_cmp (h13.2 [1] 10) (-3)) = 0 → ((8 ≤ (h13.1 [1] 14) → Rn X m_Rf_isRead 28 [some (vR [1]), some (vI 0)] [] h13 Q) ∧ (¬ 8 ≤ (h13.1 [1] 14) → Rn X m_Rf_isRead 28 [some (vR [1]), some (vI 1)] [] h13 Q)))))) ∧ (r10 = 0 → Q (some (vI 0)) h8)))))) : Rn X m_Rf_isRead 28 [some (vR [1]), some (vI a1)] [] h Q := by
  refine Rn.iload_n (n := 29) (i := 1) d_Rf_isRead_28 rfl rfl rfl ?_
  refine Rn.if_eq (n := 32) (t := 91) d_Rf_isRead_29 rfl (by decide) (fun cc => ?_) (fun cc => ?_)
  · have k := k.1 cc
    refine Rn.aload_n (n := 92) (i := 0) d_Rf_isRead_91 rfl rfl rfl ?_
    refine Rn.getf (n := 95) (v := vL (h.2 [1] 10)) d_Rf_isRead_92 rfl fl_Rf_96 Lv_1 rfl ?_
    refine Rn.ldc2 (n := 98) (v := (-2)) d_Rf_isRead_95 rfl cl_Rf_94 ?_
    refine Rn.lcmp (n := 99) d_Rf_isRead_98 rfl ?_
    refine Rn.if_eq (n := 102) (t := 109) d_Rf_isRead_99 rfl (by decide) (fun cc => ?_) (fun cc => ?_)
    · have k := k.1 cc
      refine Rn.iconst (n := 110) (v := 1) d_Rf_isRead_109 rfl (by decide) ?_
      refine Rn.goto (n := 114) d_Rf_isRead_110 (by decide) ?_
      exact Rn.iret d_Rf_isRead_114 rfl rfl k
    · have k := k.2 cc
      refine Rn.aload_n (n := 103) (i := 0) d_Rf_isRead_102 rfl rfl rfl ?_
      obtain ⟨Q'4, ev1, k⟩ := k
      refine Rn.callV (n := 106) (av := []) d_Rf_isRead_103 rfl ml_Rf_isRead_116 mi_Rf_fails Lv_1 rfl rfl rfl rfl (Nat.le_of_ble_eq_true rfl) ev1 (fun v h3 hq => ?_)
      obtain ⟨r5, rfl, hq⟩ := hq
      have k := k r5 h3 hq
      show Rn X m_Rf_isRead 106 [some (vR [1]), some (vI a1)] [vI r5] h3 Q
      refine Rn.if_eq (n := 109) (t := 113) d_Rf_isRead_106 rfl (by decide) (fun cc => ?_) (fun cc => ?_)
      · have k := k.1 cc
        refine Rn.iconst (n := 114) (v := 0) d_Rf_isRead_113 rfl (by decide) ?_
        exact Rn.iret d_Rf_isRead_114 rfl rfl k
      · have k := k.2 cc
        refine Rn.iconst (n := 110) (v := 1) d_Rf_isRead_109 rfl (by decide) ?_
        refine Rn.goto (n := 114) d_Rf_isRead_110 (by decide) ?_
        exact Rn.iret d_Rf_isRead_114 rfl rfl k
  · have k := k.2 cc
    refine Rn.aload_n (n := 33) (i := 0) d_Rf_isRead_32 rfl rfl rfl ?_
    refine Rn.bipush (n := 35) (v := 8) d_Rf_isRead_33 rfl (by decide) ?_
    refine Rn.aload_n (n := 36) (i := 0) d_Rf_isRead_35 rfl rfl rfl ?_
    refine Rn.getf (n := 39) (v := vI (h.1 [1] 14)) d_Rf_isRead_36 rfl fl_Rf_149 Lv_1 rfl ?_
    refine Rn.imul (n := 40) d_Rf_isRead_39 rfl ?_
    obtain ⟨Q'9, ev6, k⟩ := k
    refine Rn.callV (n := 43) (av := [vI (8 * (h.1 [1] 14))]) d_Rf_isRead_40 rfl ml_Rf_isRead_152 mi_Rf_isLine Lv_1 rfl rfl rfl rfl (Nat.le_of_ble_eq_true rfl) ev6 (fun v h8 hq => ?_)
    obtain ⟨r10, rfl, hq⟩ := hq
    have k := k r10 h8 hq
    show Rn X m_Rf_isRead 43 [some (vR [1]), some (vI a1)] [vI r10] h8 Q
    refine Rn.if_ne (n := 46) (t := 48) d_Rf_isRead_43 rfl (by decide) (fun cc => ?_) (fun cc => ?_)
    · have k := k.1 cc
      refine Rn.aload_n (n := 49) (i := 0) d_Rf_isRead_48 rfl rfl rfl ?_
      refine Rn.dup (n := 50) d_Rf_isRead_49 rfl rfl ?_
      refine Rn.getf (n := 53) (v := vI (h8.1 [1] 14)) d_Rf_isRead_50 rfl fl_Rf_149 Lv_1 rfl ?_
      refine Rn.iconst (n := 54) (v := 1) d_Rf_isRead_53 rfl (by decide) ?_
      refine Rn.iadd (n := 55) d_Rf_isRead_54 rfl ?_
      refine Rn.putI (n := 58) d_Rf_isRead_55 rfl fl_Rf_149 pl_Rf_14 Lv_1 rfl ?_
      refine Rn.aload_n (n := 59) (i := 0) d_Rf_isRead_58 rfl rfl rfl ?_
      obtain ⟨Q'14, ev11, k⟩ := k
      refine Rn.callV (n := 62) (av := []) d_Rf_isRead_59 rfl ml_Rf_isRead_113 mi_Rf_nextToken Lv_1 rfl rfl rfl rfl (Nat.le_of_ble_eq_true rfl) ev11 (fun v h13 hq => ?_)
      obtain ⟨rfl, hq⟩ := hq
      have k := k h13 hq
      show Rn X m_Rf_isRead 62 [some (vR [1]), some (vI a1)] [] h13 Q
      refine Rn.aload_n (n := 63) (i := 0) d_Rf_isRead_62 rfl rfl rfl ?_
      refine Rn.getf (n := 66) (v := vL (h13.2 [1] 10)) d_Rf_isRead_63 rfl fl_Rf_96 Lv_1 rfl ?_
      refine Rn.ldc2 (n := 69) (v := (-3)) d_Rf_isRead_66 rfl cl_Rf_108 ?_
      refine Rn.lcmp (n := 70) d_Rf_isRead_69 rfl ?_
      refine Rn.if_ne (n := 73) (t := 86) d_Rf_isRead_70 rfl (by decide) (fun cc => ?_) (fun cc => ?_)
      · have k := k.1 cc
        refine Rn.iconst (n := 87) (v := 0) d_Rf_isRead_86 rfl (by decide) ?_
        refine Rn.istore_n (n := 88) (i := 1) (ls2 := [some (vR [1]), some (vI 0)]) d_Rf_isRead_87 rfl rfl (Nat.le_of_ble_eq_true rfl) rfl ?_
        refine Rn.goto (n := 28) d_Rf_isRead_88 (by decide) ?_
        exact k
      · have k := k.2 cc
        refine Rn.aload_n (n := 74) (i := 0) d_Rf_isRead_73 rfl rfl rfl ?_
        refine Rn.getf (n := 77) (v := vI (h13.1 [1] 14)) d_Rf_isRead_74 rfl fl_Rf_149 Lv_1 rfl ?_
        refine Rn.bipush (n := 79) (v := 8) d_Rf_isRead_77 rfl (by decide) ?_
        refine Rn.icmp_ge (n := 82) (t := 86) d_Rf_isRead_79 rfl (by decide) (fun cc => ?_) (fun cc => ?_)
        · have k := k.1 cc
          refine Rn.iconst (n := 87) (v := 0) d_Rf_isRead_86 rfl (by decide) ?_
          refine Rn.istore_n (n := 88) (i := 1) (ls2 := [some (vR [1]), some (vI 0)]) d_Rf_isRead_87 rfl rfl (Nat.le_of_ble_eq_true rfl) rfl ?_
          refine Rn.goto (n := 28) d_Rf_isRead_88 (by decide) ?_
          exact k
        · have k := k.2 cc
          refine Rn.iconst (n := 83) (v := 1) d_Rf_isRead_82 rfl (by decide) ?_
          refine Rn.goto (n := 87) d_Rf_isRead_83 (by decide) ?_
          refine Rn.istore_n (n := 88) (i := 1) (ls2 := [some (vR [1]), some (vI 1)]) d_Rf_isRead_87 rfl rfl (Nat.le_of_ble_eq_true rfl) rfl ?_
          refine Rn.goto (n := 28) d_Rf_isRead_88 (by decide) ?_
          exact k
    · have k := k.2 cc
      refine Rn.iconst (n := 47) (v := 0) d_Rf_isRead_46 rfl (by decide) ?_
      exact Rn.iret d_Rf_isRead_47 rfl rfl k
theorem e_Rf_isRead {X : XS}  (h : Hp) (Q : Option AV → Hp → Prop) (k : Rn X m_Rf_isRead 0 [some (vR [1]), none] [] h Q) : Ev X m_Rf_isRead [vR [1]] h Q := Ev.intro (plainFor_of_name (by decide +kernel)) (Nat.le_of_ble_eq_true rfl) (ls := [some (vR [1]), none]) rfl k
theorem d_Rf_fault_0 : decode m_Rf_fault.2.1 0 = .ok (.aload_n 0, 1) := by decide +kernel
theorem d_Rf_fault_1 : decode m_Rf_fault.2.1 1 = .ok (.invokevirtual 155, 3) := by decide +kernel
theorem d_Rf_fault_4 : decode m_Rf_fault.2.1 4 = .ok (.ifCond .eq 7, 3) := by decide +kernel
theorem d_Rf_fault_7 : decode m_Rf_fault.2.1 7 = .ok (.iconst (-1), 1) := by decide +kernel
theorem d_Rf_fault_8 : decode m_Rf_fault.2.1 8 = .ok (.goto 7, 3) := by decide +kernel
theorem d_Rf_fault_11 : decode m_Rf_fault.2.1 11 = .ok (.aload_n 0, 1) := by decide +kernel
theorem d_Rf_fault_12 : decode m_Rf_fault.2.1 12 = .ok (.getfield 110, 3) := by decide +kernel
theorem d_Rf_fault_15 : decode m_Rf_fault.2.1 15 = .ok (.ireturn, 1) := by decide +kernel
theorem g_Rf_fault_0 {X : XS}  (h : Hp) (Q : Option AV → Hp → Prop)  (k : (∃ Q'4, EvI X m_Rf_isRead [vR [1]] h Q'4 ∧ ∀ (r5 : Int32) (h3 : Hp), Q'4 r5 h3 → ((r5 = 0 → Q (some (vI (h3.1 [1] 13))) h3) ∧ (¬ r5 = 0 → Q (some (vI (-1))) h3)))) : Rn X m_Rf_fault 0 [some (vR [1])] [] h Q := by
  refine Rn.aload_n (n := 1) (i := 0) d_Rf_fault_0 rfl rfl rfl ?_
  obtain ⟨Q'4, ev1, k⟩ := k
  refine Rn.callV (n := 4) (av := []) d_Rf_fault_1 rfl ml_Rf_fault_155 mi_Rf_isRead Lv_1 rfl rfl rfl rfl (Nat.le_of_ble_eq_true rfl) ev1 (fun v h3 hq => ?_)
  obtain ⟨r5, rfl, hq⟩ := hq
  have k := k r5 h3 hq
  show Rn X m_Rf_fault 4 [some (vR [1])] [vI r5] h3 Q
  refine Rn.if_eq (n := 7) (t := 11) d_Rf_fault_4 rfl (by decide) (fun cc => ?_) (fun cc => ?_)
  · have k := k.1 cc
    refine Rn.aload_n (n := 12) (i := 0) d_Rf_fault_11 rfl rfl rfl ?_
    refine Rn.getf (n := 15) (v := vI (h3.1 [1] 13)) d_Rf_fault_12 rfl fl_Rf_110 Lv_1 rfl ?_
    exact Rn.iret d_Rf_fault_15 rfl rfl k
  · have k := k.2 cc
    refine Rn.iconst (n := 8) (v := (-1)) d_Rf_fault_7 rfl (by decide) ?_
    refine Rn.goto (n := 15) d_Rf_fault_8 (by decide) ?_
    exact Rn.iret d_Rf_fault_15 rfl rfl k
theorem e_Rf_fault {X : XS}  (h : Hp) (Q : Option AV → Hp → Prop) (k : Rn X m_Rf_fault 0 [some (vR [1])] [] h Q) : Ev X m_Rf_fault [vR [1]] h Q := Ev.intro (plainFor_of_name (by decide +kernel)) (Nat.le_of_ble_eq_true rfl) (ls := [some (vR [1])]) rfl k
theorem d_Rf_doLine_0 : decode m_Rf_doLine.2.1 0 = .ok (.aload_n 0, 1) := by decide +kernel
theorem d_Rf_doLine_1 : decode m_Rf_doLine.2.1 1 = .ok (.getfield 26, 3) := by decide +kernel
theorem d_Rf_doLine_4 : decode m_Rf_doLine.2.1 4 = .ok (.iload_n 1, 1) := by decide +kernel
theorem d_Rf_doLine_5 : decode m_Rf_doLine.2.1 5 = .ok (.iconst 1, 1) := by decide +kernel
theorem d_Rf_doLine_6 : decode m_Rf_doLine.2.1 6 = .ok (.iadd, 1) := by decide +kernel
theorem d_Rf_doLine_7 : decode m_Rf_doLine.2.1 7 = .ok (.iaload, 1) := by decide +kernel
theorem d_Rf_doLine_8 : decode m_Rf_doLine.2.1 8 = .ok (.istore_n 2, 1) := by decide +kernel
theorem d_Rf_doLine_9 : decode m_Rf_doLine.2.1 9 = .ok (.aload_n 0, 1) := by decide +kernel
theorem d_Rf_doLine_10 : decode m_Rf_doLine.2.1 10 = .ok (.getfield 26, 3) := by decide +kernel
theorem d_Rf_doLine_13 : decode m_Rf_doLine.2.1 13 = .ok (.iload_n 1, 1) := by decide +kernel
theorem d_Rf_doLine_14 : decode m_Rf_doLine.2.1 14 = .ok (.iaload, 1) := by decide +kernel
theorem d_Rf_doLine_15 : decode m_Rf_doLine.2.1 15 = .ok (.tableswitch 152 0 3 #[29, 59, 85, 135], 29) := by decide +kernel
theorem d_Rf_doLine_44 : decode m_Rf_doLine.2.1 44 = .ok (.aload_n 0, 1) := by decide +kernel
theorem d_Rf_doLine_45 : decode m_Rf_doLine.2.1 45 = .ok (.iload_n 2, 1) := by decide +kernel
theorem d_Rf_doLine_46 : decode m_Rf_doLine.2.1 46 = .ok (.putfield 7, 3) := by decide +kernel
theorem d_Rf_doLine_49 : decode m_Rf_doLine.2.1 49 = .ok (.aload_n 0, 1) := by decide +kernel
theorem d_Rf_doLine_50 : decode m_Rf_doLine.2.1 50 = .ok (.aload_n 0, 1) := by decide +kernel
theorem d_Rf_doLine_51 : decode m_Rf_doLine.2.1 51 = .ok (.getfield 26, 3) := by decide +kernel
theorem d_Rf_doLine_54 : decode m_Rf_doLine.2.1 54 = .ok (.iload_n 1, 1) := by decide +kernel
theorem d_Rf_doLine_55 : decode m_Rf_doLine.2.1 55 = .ok (.iconst 2, 1) := by decide +kernel
theorem d_Rf_doLine_56 : decode m_Rf_doLine.2.1 56 = .ok (.iadd, 1) := by decide +kernel
theorem d_Rf_doLine_57 : decode m_Rf_doLine.2.1 57 = .ok (.iaload, 1) := by decide +kernel
theorem d_Rf_doLine_58 : decode m_Rf_doLine.2.1 58 = .ok (.putfield 13, 3) := by decide +kernel
theorem d_Rf_doLine_61 : decode m_Rf_doLine.2.1 61 = .ok (.aload_n 0, 1) := by decide +kernel
theorem d_Rf_doLine_62 : decode m_Rf_doLine.2.1 62 = .ok (.lconst 0, 1) := by decide +kernel
theorem d_Rf_doLine_63 : decode m_Rf_doLine.2.1 63 = .ok (.putfield 158, 3) := by decide +kernel
theorem d_Rf_doLine_66 : decode m_Rf_doLine.2.1 66 = .ok (.aload_n 0, 1) := by decide +kernel
theorem d_Rf_doLine_67 : decode m_Rf_doLine.2.1 67 = .ok (.iconst 0, 1) := by decide +kernel
theorem d_Rf_doLine_68 : decode m_Rf_doLine.2.1 68 = .ok (.putfield 70, 3) := by decide +kernel
theorem d_Rf_doLine_71 : decode m_Rf_doLine.2.1 71 = .ok (.goto 130, 3) := by decide +kernel
theorem d_Rf_doLine_74 : decode m_Rf_doLine.2.1 74 = .ok (.aload_n 0, 1) := by decide +kernel
theorem d_Rf_doLine_75 : decode m_Rf_doLine.2.1 75 = .ok (.aload_n 0, 1) := by decide +kernel
theorem d_Rf_doLine_76 : decode m_Rf_doLine.2.1 76 = .ok (.getfield 158, 3) := by decide +kernel
theorem d_Rf_doLine_79 : decode m_Rf_doLine.2.1 79 = .ok (.lconst 1, 1) := by decide +kernel
theorem d_Rf_doLine_80 : decode m_Rf_doLine.2.1 80 = .ok (.iconst 4, 1) := by decide +kernel
theorem d_Rf_doLine_81 : decode m_Rf_doLine.2.1 81 = .ok (.iload_n 2, 1) := by decide +kernel
theorem d_Rf_doLine_82 : decode m_Rf_doLine.2.1 82 = .ok (.imul, 1) := by decide +kernel
theorem d_Rf_doLine_83 : decode m_Rf_doLine.2.1 83 = .ok (.aload_n 0, 1) := by decide +kernel
theorem d_Rf_doLine_84 : decode m_Rf_doLine.2.1 84 = .ok (.getfield 26, 3) := by decide +kernel
theorem d_Rf_doLine_87 : decode m_Rf_doLine.2.1 87 = .ok (.iload_n 1, 1) := by decide +kernel
theorem d_Rf_doLine_88 : decode m_Rf_doLine.2.1 88 = .ok (.iconst 2, 1) := by decide +kernel
theorem d_Rf_doLine_89 : decode m_Rf_doLine.2.1 89 = .ok (.iadd, 1) := by decide +kernel
theorem d_Rf_doLine_90 : decode m_Rf_doLine.2.1 90 = .ok (.iaload, 1) := by decide +kernel
theorem d_Rf_doLine_91 : decode m_Rf_doLine.2.1 91 = .ok (.iadd, 1) := by decide +kernel
theorem d_Rf_doLine_92 : decode m_Rf_doLine.2.1 92 = .ok (.lshl, 1) := by decide +kernel
theorem d_Rf_doLine_93 : decode m_Rf_doLine.2.1 93 = .ok (.lor, 1) := by decide +kernel
theorem d_Rf_doLine_94 : decode m_Rf_doLine.2.1 94 = .ok (.putfield 158, 3) := by decide +kernel
theorem d_Rf_doLine_97 : decode m_Rf_doLine.2.1 97 = .ok (.goto 104, 3) := by decide +kernel
theorem d_Rf_doLine_100 : decode m_Rf_doLine.2.1 100 = .ok (.aload_n 0, 1) := by decide +kernel
theorem d_Rf_doLine_101 : decode m_Rf_doLine.2.1 101 = .ok (.aload_n 0, 1) := by decide +kernel
theorem d_Rf_doLine_102 : decode m_Rf_doLine.2.1 102 = .ok (.getfield 70, 3) := by decide +kernel
theorem d_Rf_doLine_105 : decode m_Rf_doLine.2.1 105 = .ok (.iconst 1, 1) := by decide +kernel
theorem d_Rf_doLine_106 : decode m_Rf_doLine.2.1 106 = .ok (.iload_n 2, 1) := by decide +kernel
theorem d_Rf_doLine_107 : decode m_Rf_doLine.2.1 107 = .ok (.ishl, 1) := by decide +kernel
theorem d_Rf_doLine_108 : decode m_Rf_doLine.2.1 108 = .ok (.ior, 1) := by decide +kernel
theorem d_Rf_doLine_109 : decode m_Rf_doLine.2.1 109 = .ok (.putfield 70, 3) := by decide +kernel
theorem d_Rf_doLine_112 : decode m_Rf_doLine.2.1 112 = .ok (.iconst 0, 1) := by decide +kernel
theorem d_Rf_doLine_113 : decode m_Rf_doLine.2.1 113 = .ok (.istore_n 3, 1) := by decide +kernel
theorem d_Rf_doLine_114 : decode m_Rf_doLine.2.1 114 = .ok (.iload_n 3, 1) := by decide +kernel
theorem d_Rf_doLine_115 : decode m_Rf_doLine.2.1 115 = .ok (.bipush 6, 2) := by decide +kernel
theorem d_Rf_doLine_117 : decode m_Rf_doLine.2.1 117 = .ok (.if_icmp .ge 30, 3) := by decide +kernel
theorem d_Rf_doLine_120 : decode m_Rf_doLine.2.1 120 = .ok (.aload_n 0, 1) := by decide +kernel
theorem d_Rf_doLine_121 : decode m_Rf_doLine.2.1 121 = .ok (.getfield 16, 3) := by decide +kernel
theorem d_Rf_doLine_124 : decode m_Rf_doLine.2.1 124 = .ok (.bipush 6, 2) := by decide +kernel
theorem d_Rf_doLine_126 : decode m_Rf_doLine.2.1 126 = .ok (.iload_n 2, 1) := by decide +kernel
theorem d_Rf_doLine_127 : decode m_Rf_doLine.2.1 127 = .ok (.imul, 1) := by decide +kernel
theorem d_Rf_doLine_128 : decode m_Rf_doLine.2.1 128 = .ok (.iload_n 3, 1) := by decide +kernel
theorem d_Rf_doLine_129 : decode m_Rf_doLine.2.1 129 = .ok (.iadd, 1) := by decide +kernel
theorem d_Rf_doLine_130 : decode m_Rf_doLine.2.1 130 = .ok (.aload_n 0, 1) := by decide +kernel
theorem d_Rf_doLine_131 : decode m_Rf_doLine.2.1 131 = .ok (.getfield 26, 3) := by decide +kernel
theorem d_Rf_doLine_134 : decode m_Rf_doLine.2.1 134 = .ok (.iload_n 1, 1) := by decide +kernel
theorem d_Rf_doLine_135 : decode m_Rf_doLine.2.1 135 = .ok (.iconst 2, 1) := by decide +kernel
theorem d_Rf_doLine_136 : decode m_Rf_doLine.2.1 136 = .ok (.iadd, 1) := by decide +kernel
theorem d_Rf_doLine_137 : decode m_Rf_doLine.2.1 137 = .ok (.iload_n 3, 1) := by decide +kernel
theorem d_Rf_doLine_138 : decode m_Rf_doLine.2.1 138 = .ok (.iadd, 1) := by decide +kernel
theorem d_Rf_doLine_139 : decode m_Rf_doLine.2.1 139 = .ok (.iaload, 1) := by decide +kernel
theorem d_Rf_doLine_140 : decode m_Rf_doLine.2.1 140 = .ok (.iastore, 1) := by decide +kernel
theorem d_Rf_doLine_141 : decode m_Rf_doLine.2.1 141 = .ok (.iinc 3 1, 3) := by decide +kernel
theorem d_Rf_doLine_144 : decode m_Rf_doLine.2.1 144 = .ok (.goto (-30), 3) := by decide +kernel
theorem d_Rf_doLine_147 : decode m_Rf_doLine.2.1 147 = .ok (.goto 54, 3) := by decide +kernel
theorem d_Rf_doLine_150 : decode m_Rf_doLine.2.1 150 = .ok (.aload_n 0, 1) := by decide +kernel
theorem d_Rf_doLine_151 : decode m_Rf_doLine.2.1 151 = .ok (.aload_n 0, 1) := by decide +kernel
theorem d_Rf_doLine_152 : decode m_Rf_doLine.2.1 152 = .ok (.getfield 70, 3) := by decide +kernel
theorem d_Rf_doLine_155 : decode m_Rf_doLine.2.1 155 = .ok (.iconst 1, 1) := by decide +kernel
theorem d_Rf_doLine_156 : decode m_Rf_doLine.2.1 156 = .ok (.iload_n 2, 1) := by decide +kernel
theorem d_Rf_doLine_157 : decode m_Rf_doLine.2.1 157 = .ok (.ishl, 1) := by decide +kernel
theorem d_Rf_doLine_158 : decode m_Rf_doLine.2.1 158 = .ok (.iconst (-1), 1) := by decide +kernel
theorem d_Rf_doLine_159 : decode m_Rf_doLine.2.1 159 = .ok (.ixor, 1) := by decide +kernel
theorem d_Rf_doLine_160 : decode m_Rf_doLine.2.1 160 = .ok (.iand, 1) := by decide +kernel
theorem d_Rf_doLine_161 : decode m_Rf_doLine.2.1 161 = .ok (.putfield 70, 3) := by decide +kernel
theorem d_Rf_doLine_164 : decode m_Rf_doLine.2.1 164 = .ok (.goto 37, 3) := by decide +kernel
theorem d_Rf_doLine_167 : decode m_Rf_doLine.2.1 167 = .ok (.iload_n 2, 1) := by decide +kernel
theorem d_Rf_doLine_168 : decode m_Rf_doLine.2.1 168 = .ok (.istore_n 3, 1) := by decide +kernel
theorem d_Rf_doLine_169 : decode m_Rf_doLine.2.1 169 = .ok (.iload_n 3, 1) := by decide +kernel
theorem d_Rf_doLine_170 : decode m_Rf_doLine.2.1 170 = .ok (.aload_n 0, 1) := by decide +kernel
theorem d_Rf_doLine_171 : decode m_Rf_doLine.2.1 171 = .ok (.getfield 26, 3) := by decide +kernel
theorem d_Rf_doLine_174 : decode m_Rf_doLine.2.1 174 = .ok (.iload_n 1, 1) := by decide +kernel
theorem d_Rf_doLine_175 : decode m_Rf_doLine.2.1 175 = .ok (.iconst 2, 1) := by decide +kernel
theorem d_Rf_doLine_176 : decode m_Rf_doLine.2.1 176 = .ok (.iadd, 1) := by decide +kernel
theorem d_Rf_doLine_177 : decode m_Rf_doLine.2.1 177 = .ok (.iaload, 1) := by decide +kernel
theorem d_Rf_doLine_178 : decode m_Rf_doLine.2.1 178 = .ok (.if_icmp .gt 23, 3) := by decide +kernel
theorem d_Rf_doLine_181 : decode m_Rf_doLine.2.1 181 = .ok (.aload_n 0, 1) := by decide +kernel
theorem d_Rf_doLine_182 : decode m_Rf_doLine.2.1 182 = .ok (.getfield 20, 3) := by decide +kernel
theorem d_Rf_doLine_185 : decode m_Rf_doLine.2.1 185 = .ok (.iload_n 3, 1) := by decide +kernel
theorem d_Rf_doLine_186 : decode m_Rf_doLine.2.1 186 = .ok (.aload_n 0, 1) := by decide +kernel
theorem d_Rf_doLine_187 : decode m_Rf_doLine.2.1 187 = .ok (.getfield 26, 3) := by decide +kernel
theorem d_Rf_doLine_190 : decode m_Rf_doLine.2.1 190 = .ok (.iload_n 1, 1) := by decide +kernel
theorem d_Rf_doLine_191 : decode m_Rf_doLine.2.1 191 = .ok (.iconst 3, 1) := by decide +kernel
theorem d_Rf_doLine_192 : decode m_Rf_doLine.2.1 192 = .ok (.iadd, 1) := by decide +kernel
theorem d_Rf_doLine_193 : decode m_Rf_doLine.2.1 193 = .ok (.iaload, 1) := by decide +kernel
theorem d_Rf_doLine_194 : decode m_Rf_doLine.2.1 194 = .ok (.iastore, 1) := by decide +kernel
theorem d_Rf_doLine_195 : decode m_Rf_doLine.2.1 195 = .ok (.iinc 3 1, 3) := by decide +kernel
theorem d_Rf_doLine_198 : decode m_Rf_doLine.2.1 198 = .ok (.goto (-29), 3) := by decide +kernel
theorem d_Rf_doLine_201 : decode m_Rf_doLine.2.1 201 = .ok (.return_, 1) := by decide +kernel
theorem g_Rf_doLine_0 {X : XS} (a1 : Int32) (h : Hp) (Q : Option AV → Hp → Prop)  (k : (vp_in (a1 + 1) 64 ∧ (vp_in a1 64 ∧ (((h.1 [15, 1] a1.toNatClampNeg).toInt < 0 ∨ 3 < (h.1 [15, 1] a1.toNatClampNeg).toInt → Rn X m_Rf_doLine 169 [some (vR [1]), some (vI a1), some (vI (h.1 [15, 1] (a1 + 1).toNatClampNeg)), some (vI (h.1 [15, 1] (a1 + 1).toNatClampNeg))] [] h Q) ∧ ((h.1 [15, 1] a1.toNatClampNeg) = 0 → (vp_in (a1 + 2) 64 ∧ Q none (hsI (hsL (hsI (hsI h [1] 0 (h.1 [15, 1] (a1 + 1).toNatClampNeg)) [1] 1 ((hsI h [1] 0 (h.1 [15, 1] (a1 + 1).toNatClampNeg)).1 [15, 1] (a1 + 2).toNatClampNeg)) [1] 2 0) [1] 3 0))) ∧ ((h.1 [15, 1] a1.toNatClampNeg) = 1 → (vp_in (a1 + 2) 64 ∧ Q none (hsL h [1] 2 ((h.2 [1] 2) ||| (lShl 1 ((4 * (h.1 [15, 1] (a1 + 1).toNatClampNeg)) + (h.1 [15, 1] (a1 + 2).toNatClampNeg))))))) ∧ ((h.1 [15, 1] a1.toNatClampNeg) = 2 → Rn X m_Rf_doLine 114 [some (vR [1]), some (vI a1), some (vI (h.1 [15, 1] (a1 + 1).toNatClampNeg)), some (vI 0)] [] (hsI h [1] 3 ((h.1 [1] 3) ||| (iShl 1 (h.1 [15, 1] (a1 + 1).toNatClampNeg)))) Q) ∧ ((h.1 [15, 1] a1.toNatClampNeg) = 3 → Q none (hsI h [1] 3 ((h.1 [1] 3) &&& ((iShl 1 (h.1 [15, 1] (a1 + 1).toNatClampNeg)) ^^^ (-1))))))))) : Rn X m_Rf_doLine 0 [some (vR [1]), some (vI a1), none, none] [] h Q := by
  refine Rn.aload_n (n := 1) (i := 0) d_Rf_doLine_0 rfl rfl rfl ?_
  refine Rn.getf (n := 4) (v := vR [15, 1]) d_Rf_doLine_1 rfl fl_Rf_26 Lv_1 rfl ?_
  refine Rn.iload_n (n := 5) (i := 1) d_Rf_doLine_4 rfl rfl rfl ?_
  refine Rn.iconst (n := 6) (v := 1) d_Rf_doLine_5 rfl (by decide) ?_
  refine Rn.iadd (n := 7) d_Rf_doLine_6 rfl ?_
  obtain ⟨b1, k⟩ := k
  refine Rn.iald (n := 8) (v := h.1 [15, 1] (a1 + 1).toNatClampNeg) d_Rf_doLine_7 rfl Lv_15_1 b1 rfl ?_
  refine Rn.istore_n (n := 9) (i := 2) (ls2 := [some (vR [1]), some (vI a1), some (vI (h.1 [15, 1] (a1 + 1).toNatClampNeg)), none]) d_Rf_doLine_8 rfl rfl (Nat.le_of_ble_eq_true rfl) rfl ?_
  refine Rn.aload_n (n := 10) (i := 0) d_Rf_doLine_9 rfl rfl rfl ?_
  refine Rn.getf (n := 13) (v := vR [15, 1]) d_Rf_doLine_10 rfl fl_Rf_26 Lv_1 rfl ?_
  refine Rn.iload_n (n := 14) (i := 1) d_Rf_doLine_13 rfl rfl rfl ?_
  obtain ⟨b2, k⟩ := k
  refine Rn.iald (n := 15) (v := h.1 [15, 1] a1.toNatClampNeg) d_Rf_doLine_14 rfl Lv_15_1 b2 rfl ?_
  refine Rn.tsw (n := 0) d_Rf_doLine_15 (fun cc => ⟨167, by decide, ?_⟩) (fun j hz1 hz2 hz3 => ?_)
  · have k := k.1 cc
    refine Rn.iload_n (n := 168) (i := 2) d_Rf_doLine_167 rfl rfl rfl ?_
    refine Rn.istore_n (n := 169) (i := 3) (ls2 := [some (vR [1]), some (vI a1), some (vI (h.1 [15, 1] (a1 + 1).toNatClampNeg)), some (vI (h.1 [15, 1] (a1 + 1).toNatClampNeg))]) d_Rf_doLine_168 rfl rfl (Nat.le_of_ble_eq_true rfl) rfl ?_
    exact k
  · have k := k.2
    have hj : j < 4 := by omega
    match j, hj, hz3 with
    | 0, _, hz3 =>
      have cc : (h.1 [15, 1] a1.toNatClampNeg) = 0 := Int32.toInt_inj.mp hz3
      have k := k.1 cc
      refine ⟨29, 44, rfl, by decide, ?_⟩
      refine Rn.aload_n (n := 45) (i := 0) d_Rf_doLine_44 rfl rfl rfl ?_
      refine Rn.iload_n (n := 46) (i := 2) d_Rf_doLine_45 rfl rfl rfl ?_
      refine Rn.putI (n := 49) d_Rf_doLine_46 rfl fl_Rf_7 pl_Rf_0 Lv_1 rfl ?_
      refine Rn.aload_n (n := 50) (i := 0) d_Rf_doLine_49 rfl rfl rfl ?_
      refine Rn.aload_n (n := 51) (i := 0) d_Rf_doLine_50 rfl rfl rfl ?_
      refine Rn.getf (n := 54) (v := vR [15, 1]) d_Rf_doLine_51 rfl fl_Rf_26 Lv_1 rfl ?_
      refine Rn.iload_n (n := 55) (i := 1) d_Rf_doLine_54 rfl rfl rfl ?_
      refine Rn.iconst (n := 56) (v := 2) d_Rf_doLine_55 rfl (by decide) ?_
      refine Rn.iadd (n := 57) d_Rf_doLine_56 rfl ?_
      obtain ⟨b3, k⟩ := k
      refine Rn.iald (n := 58) (v := (hsI h [1] 0 (h.1 [15, 1] (a1 + 1).toNatClampNeg)).1 [15, 1] (a1 + 2).toNatClampNeg) d_Rf_doLine_57 rfl Lv_15_1 b3 rfl ?_
      refine Rn.putI (n := 61) d_Rf_doLine_58 rfl fl_Rf_13 pl_Rf_1 Lv_1 rfl ?_
      refine Rn.aload_n (n := 62) (i := 0) d_Rf_doLine_61 rfl rfl rfl ?_
      refine Rn.lconst (n := 63) (v := 0) d_Rf_doLine_62 rfl rfl ?_
      refine Rn.putL (n := 66) d_Rf_doLine_63 rfl fl_Rf_158 pl_Rf_2 Lv_1 rfl ?_
      refine Rn.aload_n (n := 67) (i := 0) d_Rf_doLine_66 rfl rfl rfl ?_
      refine Rn.iconst (n := 68) (v := 0) d_Rf_doLine_67 rfl (by decide) ?_
      refine Rn.putI (n := 71) d_Rf_doLine_68 rfl fl_Rf_70 pl_Rf_3 Lv_1 rfl ?_
      refine Rn.goto (n := 201) d_Rf_doLine_71 (by decide) ?_
      exact Rn.vret d_Rf_doLine_201 rfl k
    | 1, _, hz3 =>
      have cc : (h.1 [15, 1] a1.toNatClampNeg) = 1 := Int32.toInt_inj.mp hz3
      have k := k.2.1 cc
      refine ⟨59, 74, rfl, by decide, ?_⟩
      refine Rn.aload_n (n := 75) (i := 0) d_Rf_doLine_74 rfl rfl rfl ?_
      refine Rn.aload_n (n := 76) (i := 0) d_Rf_doLine_75 rfl rfl rfl ?_
      refine Rn.getf (n := 79) (v := vL (h.2 [1] 2)) d_Rf_doLine_76 rfl fl_Rf_158 Lv_1 rfl ?_
      refine Rn.lconst (n := 80) (v := 1) d_Rf_doLine_79 rfl rfl ?_
      refine Rn.iconst (n := 81) (v := 4) d_Rf_doLine_80 rfl (by decide) ?_
      refine Rn.iload_n (n := 82) (i := 2) d_Rf_doLine_81 rfl rfl rfl ?_
      refine Rn.imul (n := 83) d_Rf_doLine_82 rfl ?_
      refine Rn.aload_n (n := 84) (i := 0) d_Rf_doLine_83 rfl rfl rfl ?_
      refine Rn.getf (n := 87) (v := vR [15, 1]) d_Rf_doLine_84 rfl fl_Rf_26 Lv_1 rfl ?_
      refine Rn.iload_n (n := 88) (i := 1) d_Rf_doLine_87 rfl rfl rfl ?_
      refine Rn.iconst (n := 89) (v := 2) d_Rf_doLine_88 rfl (by decide) ?_
      refine Rn.iadd (n := 90) d_Rf_doLine_89 rfl ?_
      obtain ⟨b4, k⟩ := k
      refine Rn.iald (n := 91) (v := h.1 [15, 1] (a1 + 2).toNatClampNeg) d_Rf_doLine_90 rfl Lv_15_1 b4 rfl ?_
      refine Rn.iadd (n := 92) d_Rf_doLine_91 rfl ?_
      refine Rn.lshl (n := 93) d_Rf_doLine_92 rfl ?_
      refine Rn.lor (n := 94) d_Rf_doLine_93 rfl ?_
      refine Rn.putL (n := 97) d_Rf_doLine_94 rfl fl_Rf_158 pl_Rf_2 Lv_1 rfl ?_
      refine Rn.goto (n := 201) d_Rf_doLine_97 (by decide) ?_
      exact Rn.vret d_Rf_doLine_201 rfl k
    | 2, _, hz3 =>
      have cc : (h.1 [15, 1] a1.toNatClampNeg) = 2 := Int32.toInt_inj.mp hz3
      have k := k.2.2.1 cc
      refine ⟨85, 100, rfl, by decide, ?_⟩
      refine Rn.aload_n (n := 101) (i := 0) d_Rf_doLine_100 rfl rfl rfl ?_
      refine Rn.aload_n (n := 102) (i := 0) d_Rf_doLine_101 rfl rfl rfl ?_
      refine Rn.getf (n := 105) (v := vI (h.1 [1] 3)) d_Rf_doLine_102 rfl fl_Rf_70 Lv_1 rfl ?_
      refine Rn.iconst (n := 106) (v := 1) d_Rf_doLine_105 rfl (by decide) ?_
      refine Rn.iload_n (n := 107) (i := 2) d_Rf_doLine_106 rfl rfl rfl ?_
      refine Rn.ishl (n := 108) d_Rf_doLine_107 rfl ?_
      refine Rn.ior (n := 109) d_Rf_doLine_108 rfl ?_
      refine Rn.putI (n := 112) d_Rf_doLine_109 rfl fl_Rf_70 pl_Rf_3 Lv_1 rfl ?_
      refine Rn.iconst (n := 113) (v := 0) d_Rf_doLine_112 rfl (by decide) ?_
      refine Rn.istore_n (n := 114) (i := 3) (ls2 := [some (vR [1]), some (vI a1), some (vI (h.1 [15, 1] (a1 + 1).toNatClampNeg)), some (vI 0)]) d_Rf_doLine_113 rfl rfl (Nat.le_of_ble_eq_true rfl) rfl ?_
      exact k
    | 3, _, hz3 =>
      have cc : (h.1 [15, 1] a1.toNatClampNeg) = 3 := Int32.toInt_inj.mp hz3
      have k := k.2.2.2 cc
      refine ⟨135, 150, rfl, by decide, ?_⟩
      refine Rn.aload_n (n := 151) (i := 0) d_Rf_doLine_150 rfl rfl rfl ?_
      refine Rn.aload_n (n := 152) (i := 0) d_Rf_doLine_151 rfl rfl rfl ?_
      refine Rn.getf (n := 155) (v := vI (h.1 [1] 3)) d_Rf_doLine_152 rfl fl_Rf_70 Lv_1 rfl ?_
      refine Rn.iconst (n := 156) (v := 1) d_Rf_doLine_155 rfl (by decide) ?_
      refine Rn.iload_n (n := 157) (i := 2) d_Rf_doLine_156 rfl rfl rfl ?_
      refine Rn.ishl (n := 158) d_Rf_doLine_157 rfl ?_
      refine Rn.iconst (n := 159) (v := (-1)) d_Rf_doLine_158 rfl (by decide) ?_
      refine Rn.ixor (n := 160) d_Rf_doLine_159 rfl ?_
      refine Rn.iand (n := 161) d_Rf_doLine_160 rfl ?_
      refine Rn.putI (n := 164) d_Rf_doLine_161 rfl fl_Rf_70 pl_Rf_3 Lv_1 rfl ?_
      refine Rn.goto (n := 201) d_Rf_doLine_164 (by decide) ?_
      exact Rn.vret d_Rf_doLine_201 rfl k
    | j + 4, hj, _ => exact absurd hj (by omega)
theorem g_Rf_doLine_114 {X : XS} (a1 : Int32) (a2 : Int32) (a3 : Int32) (h : Hp) (Q : Option AV → Hp → Prop)  (k : ((6 ≤ a3 → Q none h) ∧ (¬ 6 ≤ a3 → (vp_in ((a1 + 2) + a3) 64 ∧ (vp_in ((6 * a2) + a3) 36 ∧ Rn X m_Rf_doLine 114 [some (vR [1]), some (vI a1), some (vI a2), some (vI (a3 + 1))] [] (hsI h [4, 1] (((6 * a2) + a3).toNatClampNeg) (h.1 [15, 1] ((a1 + 2) + a3).toNatClampNeg)) Q))))) : Rn X m_Rf_doLine 114 [some (vR [1]), some (vI a1), some (vI a2), some (vI a3)] [] h Q := by
  refine Rn.iload_n (n := 115) (i := 3) d_Rf_doLine_114 rfl rfl rfl ?_
  refine Rn.bipush (n := 117) (v := 6) d_Rf_doLine_115 rfl (by decide) ?_
  refine Rn.icmp_ge (n := 120) (t := 147) d_Rf_doLine_117 rfl (by decide) (fun cc => ?_) (fun cc => ?_)
  · have k := k.1 cc
    refine Rn.goto (n := 201) d_Rf_doLine_147 (by decide) ?_
    exact Rn.vret d_Rf_doLine_201 rfl k
  · have k := k.2 cc
    refine Rn.aload_n (n := 121) (i := 0) d_Rf_doLine_120 rfl rfl rfl ?_
    refine Rn.getf (n := 124) (v := vR [4, 1]) d_Rf_doLine_121 rfl fl_Rf_16 Lv_1 rfl ?_
    refine Rn.bipush (n := 126) (v := 6) d_Rf_doLine_124 rfl (by decide) ?_
    refine Rn.iload_n (n := 127) (i := 2) d_Rf_doLine_126 rfl rfl rfl ?_
    refine Rn.imul (n := 128) d_Rf_doLine_127 rfl ?_
    refine Rn.iload_n (n := 129) (i := 3) d_Rf_doLine_128 rfl rfl rfl ?_
    refine Rn.iadd (n := 130) d_Rf_doLine_129 rfl ?_
    refine Rn.aload_n (n := 131) (i := 0) d_Rf_doLine_130 rfl rfl rfl ?_
    refine Rn.getf (n := 134) (v := vR [15, 1]) d_Rf_doLine_131 rfl fl_Rf_26 Lv_1 rfl ?_
    refine Rn.iload_n (n := 135) (i := 1) d_Rf_doLine_134 rfl rfl rfl ?_
    refine Rn.iconst (n := 136) (v := 2) d_Rf_doLine_135 rfl (by decide) ?_
    refine Rn.iadd (n := 137) d_Rf_doLine_136 rfl ?_
    refine Rn.iload_n (n := 138) (i := 3) d_Rf_doLine_137 rfl rfl rfl ?_
    refine Rn.iadd (n := 139) d_Rf_doLine_138 rfl ?_
    obtain ⟨b1, k⟩ := k
    refine Rn.iald (n := 140) (v := h.1 [15, 1] ((a1 + 2) + a3).toNatClampNeg) d_Rf_doLine_139 rfl Lv_15_1 b1 rfl ?_
    obtain ⟨b2, k⟩ := k
    refine Rn.iast (n := 141) d_Rf_doLine_140 rfl Lv_4_1 b2 ?_
    refine Rn.iinc (n := 144) (i := 3) (v := a3 + 1) (ls2 := [some (vR [1]), some (vI a1), some (vI a2), some (vI (a3 + 1))]) d_Rf_doLine_141 rfl rfl rfl (Nat.le_of_ble_eq_true rfl) rfl ?_
    refine Rn.goto (n := 114) d_Rf_doLine_144 (by decide) ?_
    exact k
theorem g_Rf_doLine_169 {X : XS} (a1 : Int32) (a2 : Int32) (a3 : Int32) (h : Hp) (Q : Option AV → Hp → Prop)  (k : (vp_in (a1 + 2) 64 ∧ (((h.1 [15, 1] (a1 + 2).toNatClampNeg) < a3 → Q none h) ∧ (¬ (h.1 [15, 1] (a1 + 2).toNatClampNeg) < a3 → (vp_in (a1 + 3) 64 ∧ (vp_in a3 60 ∧ Rn X m_Rf_doLine 169 [some (vR [1]), some (vI a1), some (vI a2), some (vI (a3 + 1))] [] (hsI h [5, 1] a3.toNatClampNeg (h.1 [15, 1] (a1 + 3).toNatClampNeg)) Q)))))) : Rn X m_Rf_doLine 169 [some (vR [1]), some (vI a1), some (vI a2), some (vI a3)] [] h Q := by
  refine Rn.iload_n (n := 170) (i := 3) d_Rf_doLine_169 rfl rfl rfl ?_
  refine Rn.aload_n (n := 171) (i := 0) d_Rf_doLine_170 rfl rfl rfl ?_
  refine Rn.getf (n := 174) (v := vR [15, 1]) d_Rf_doLine_171 rfl fl_Rf_26 Lv_1 rfl ?_
  refine Rn.iload_n (n := 175) (i := 1) d_Rf_doLine_174 rfl rfl rfl ?_
  refine Rn.iconst (n := 176) (v := 2) d_Rf_doLine_175 rfl (by decide) ?_
  refine Rn.iadd (n := 177) d_Rf_doLine_176 rfl ?_
  obtain ⟨b1, k⟩ := k
  refine Rn.iald (n := 178) (v := h.1 [15, 1] (a1 + 2).toNatClampNeg) d_Rf_doLine_177 rfl Lv_15_1 b1 rfl ?_
  refine Rn.icmp_gt (n := 181) (t := 201) d_Rf_doLine_178 rfl (by decide) (fun cc => ?_) (fun cc => ?_)
  · have k := k.1 cc
    exact Rn.vret d_Rf_doLine_201 rfl k
  · have k := k.2 cc
    refine Rn.aload_n (n := 182) (i := 0) d_Rf_doLine_181 rfl rfl rfl ?_
    refine Rn.getf (n := 185) (v := vR [5, 1]) d_Rf_doLine_182 rfl fl_Rf_20 Lv_1 rfl ?_
    refine Rn.iload_n (n := 186) (i := 3) d_Rf_doLine_185 rfl rfl rfl ?_
    refine Rn.aload_n (n := 187) (i := 0) d_Rf_doLine_186 rfl rfl rfl ?_
    refine Rn.getf (n := 190) (v := vR [15, 1]) d_Rf_doLine_187 rfl fl_Rf_26 Lv_1 rfl ?_
    refine Rn.iload_n (n := 191) (i := 1) d_Rf_doLine_190 rfl rfl rfl ?_
    refine Rn.iconst (n := 192) (v := 3) d_Rf_doLine_191 rfl (by decide) ?_
    refine Rn.iadd (n := 193) d_Rf_doLine_192 rfl ?_
    obtain ⟨b2, k⟩ := k
    refine Rn.iald (n := 194) (v := h.1 [15, 1] (a1 + 3).toNatClampNeg) d_Rf_doLine_193 rfl Lv_15_1 b2 rfl ?_
    obtain ⟨b3, k⟩ := k
    refine Rn.iast (n := 195) d_Rf_doLine_194 rfl Lv_5_1 b3 ?_
    refine Rn.iinc (n := 198) (i := 3) (v := a3 + 1) (ls2 := [some (vR [1]), some (vI a1), some (vI a2), some (vI (a3 + 1))]) d_Rf_doLine_195 rfl rfl rfl (Nat.le_of_ble_eq_true rfl) rfl ?_
    refine Rn.goto (n := 169) d_Rf_doLine_198 (by decide) ?_
    exact k
theorem e_Rf_doLine {X : XS} (a1 : Int32) (h : Hp) (Q : Option AV → Hp → Prop) (k : Rn X m_Rf_doLine 0 [some (vR [1]), some (vI a1), none, none] [] h Q) : Ev X m_Rf_doLine [vR [1], vI a1] h Q := Ev.intro (plainFor_of_name (by decide +kernel)) (Nat.le_of_ble_eq_true rfl) (ls := [some (vR [1]), some (vI a1), none, none]) rfl k
theorem d_Rf_begin_0 : decode m_Rf_begin.2.1 0 = .ok (.iconst 0, 1) := by decide +kernel
theorem d_Rf_begin_1 : decode m_Rf_begin.2.1 1 = .ok (.istore_n 1, 1) := by decide +kernel
theorem d_Rf_begin_2 : decode m_Rf_begin.2.1 2 = .ok (.iload_n 1, 1) := by decide +kernel
theorem d_Rf_begin_3 : decode m_Rf_begin.2.1 3 = .ok (.bipush 26, 2) := by decide +kernel
theorem d_Rf_begin_5 : decode m_Rf_begin.2.1 5 = .ok (.if_icmp .ge 16, 3) := by decide +kernel
theorem d_Rf_begin_8 : decode m_Rf_begin.2.1 8 = .ok (.aload_n 0, 1) := by decide +kernel
theorem d_Rf_begin_9 : decode m_Rf_begin.2.1 9 = .ok (.getfield 29, 3) := by decide +kernel
theorem d_Rf_begin_12 : decode m_Rf_begin.2.1 12 = .ok (.iload_n 1, 1) := by decide +kernel
theorem d_Rf_begin_13 : decode m_Rf_begin.2.1 13 = .ok (.iconst 0, 1) := by decide +kernel
theorem d_Rf_begin_14 : decode m_Rf_begin.2.1 14 = .ok (.iastore, 1) := by decide +kernel
theorem d_Rf_begin_15 : decode m_Rf_begin.2.1 15 = .ok (.iinc 1 1, 3) := by decide +kernel
theorem d_Rf_begin_18 : decode m_Rf_begin.2.1 18 = .ok (.goto (-16), 3) := by decide +kernel
theorem d_Rf_begin_21 : decode m_Rf_begin.2.1 21 = .ok (.return_, 1) := by decide +kernel
theorem g_Rf_begin_0 {X : XS}  (h : Hp) (Q : Option AV → Hp → Prop)  (k : Rn X m_Rf_begin 2 [some (vR [1]), some (vI 0)] [] h Q) : Rn X m_Rf_begin 0 [some (vR [1]), none] [] h Q := by
  refine Rn.iconst (n := 1) (v := 0) d_Rf_begin_0 rfl (by decide) ?_
  refine Rn.istore_n (n := 2) (i := 1) (ls2 := [some (vR [1]), some (vI 0)]) d_Rf_begin_1 rfl rfl (Nat.le_of_ble_eq_true rfl) rfl ?_
  exact k
theorem g_Rf_begin_2 {X : XS} (a1 : Int32) (h : Hp) (Q : Option AV → Hp → Prop)  (k : ((26 ≤ a1 → Q none h) ∧ (¬ 26 ≤ a1 → (vp_in a1 26 ∧ Rn X m_Rf_begin 2 [some (vR [1]), some (vI (a1 + 1))] [] (hsI h [18, 1] a1.toNatClampNeg 0) Q)))) : Rn X m_Rf_begin 2 [some (vR [1]), some (vI a1)] [] h Q := by
  refine Rn.iload_n (n := 3) (i := 1) d_Rf_begin_2 rfl rfl rfl ?_
  refine Rn.bipush (n := 5) (v := 26) d_Rf_begin_3 rfl (by decide) ?_
  refine Rn.icmp_ge (n := 8) (t := 21) d_Rf_begin_5 rfl (by decide) (fun cc => ?_) (fun cc => ?_)
  · have k := k.1 cc
    exact Rn.vret d_Rf_begin_21 rfl k
  · have k := k.2 cc
    refine Rn.aload_n (n := 9) (i := 0) d_Rf_begin_8 rfl rfl rfl ?_
    refine Rn.getf (n := 12) (v := vR [18, 1]) d_Rf_begin_9 rfl fl_Rf_29 Lv_1 rfl ?_
    refine Rn.iload_n (n := 13) (i := 1) d_Rf_begin_12 rfl rfl rfl ?_
    refine Rn.iconst (n := 14) (v := 0) d_Rf_begin_13 rfl (by decide) ?_
    obtain ⟨b1, k⟩ := k
    refine Rn.iast (n := 15) d_Rf_begin_14 rfl Lv_18_1 b1 ?_
    refine Rn.iinc (n := 18) (i := 1) (v := a1 + 1) (ls2 := [some (vR [1]), some (vI (a1 + 1))]) d_Rf_begin_15 rfl rfl rfl (Nat.le_of_ble_eq_true rfl) rfl ?_
    refine Rn.goto (n := 2) d_Rf_begin_18 (by decide) ?_
    exact k
theorem e_Rf_begin {X : XS}  (h : Hp) (Q : Option AV → Hp → Prop) (k : Rn X m_Rf_begin 0 [some (vR [1]), none] [] h Q) : Ev X m_Rf_begin [vR [1]] h Q := Ev.intro (plainFor_of_name (by decide +kernel)) (Nat.le_of_ble_eq_true rfl) (ls := [some (vR [1]), none]) rfl k
theorem d_Rf_shower_0 : decode m_Rf_shower.2.1 0 = .ok (.aload_n 0, 1) := by decide +kernel
theorem d_Rf_shower_1 : decode m_Rf_shower.2.1 1 = .ok (.invokevirtual 155, 3) := by decide +kernel
theorem d_Rf_shower_4 : decode m_Rf_shower.2.1 4 = .ok (.ifCond .ne 6, 3) := by decide +kernel
theorem d_Rf_shower_7 : decode m_Rf_shower.2.1 7 = .ok (.bipush (-4), 2) := by decide +kernel
theorem d_Rf_shower_9 : decode m_Rf_shower.2.1 9 = .ok (.ireturn, 1) := by decide +kernel
theorem d_Rf_shower_10 : decode m_Rf_shower.2.1 10 = .ok (.iconst 0, 1) := by decide +kernel
theorem d_Rf_shower_11 : decode m_Rf_shower.2.1 11 = .ok (.istore_n 1, 1) := by decide +kernel
theorem d_Rf_shower_12 : decode m_Rf_shower.2.1 12 = .ok (.iload_n 1, 1) := by decide +kernel
theorem d_Rf_shower_13 : decode m_Rf_shower.2.1 13 = .ok (.aload_n 0, 1) := by decide +kernel
theorem d_Rf_shower_14 : decode m_Rf_shower.2.1 14 = .ok (.getfield 149, 3) := by decide +kernel
theorem d_Rf_shower_17 : decode m_Rf_shower.2.1 17 = .ok (.if_icmp .ge 17, 3) := by decide +kernel
theorem d_Rf_shower_20 : decode m_Rf_shower.2.1 20 = .ok (.aload_n 0, 1) := by decide +kernel
theorem d_Rf_shower_21 : decode m_Rf_shower.2.1 21 = .ok (.bipush 8, 2) := by decide +kernel
theorem d_Rf_shower_23 : decode m_Rf_shower.2.1 23 = .ok (.iload_n 1, 1) := by decide +kernel
theorem d_Rf_shower_24 : decode m_Rf_shower.2.1 24 = .ok (.imul, 1) := by decide +kernel
theorem d_Rf_shower_25 : decode m_Rf_shower.2.1 25 = .ok (.invokevirtual 161, 3) := by decide +kernel
theorem d_Rf_shower_28 : decode m_Rf_shower.2.1 28 = .ok (.iinc 1 1, 3) := by decide +kernel
theorem d_Rf_shower_31 : decode m_Rf_shower.2.1 31 = .ok (.goto (-19), 3) := by decide +kernel
theorem d_Rf_shower_34 : decode m_Rf_shower.2.1 34 = .ok (.aload_n 0, 1) := by decide +kernel
theorem d_Rf_shower_35 : decode m_Rf_shower.2.1 35 = .ok (.iconst 0, 1) := by decide +kernel
theorem d_Rf_shower_36 : decode m_Rf_shower.2.1 36 = .ok (.putfield 77, 3) := by decide +kernel
theorem d_Rf_shower_39 : decode m_Rf_shower.2.1 39 = .ok (.aload_n 0, 1) := by decide +kernel
theorem d_Rf_shower_40 : decode m_Rf_shower.2.1 40 = .ok (.invokevirtual 165, 3) := by decide +kernel
theorem d_Rf_shower_43 : decode m_Rf_shower.2.1 43 = .ok (.aload_n 0, 1) := by decide +kernel
theorem d_Rf_shower_44 : decode m_Rf_shower.2.1 44 = .ok (.getfield 38, 3) := by decide +kernel
theorem d_Rf_shower_47 : decode m_Rf_shower.2.1 47 = .ok (.iconst 0, 1) := by decide +kernel
theorem d_Rf_shower_48 : decode m_Rf_shower.2.1 48 = .ok (.iconst 0, 1) := by decide +kernel
theorem d_Rf_shower_49 : decode m_Rf_shower.2.1 49 = .ok (.bastore, 1) := by decide +kernel
theorem d_Rf_shower_50 : decode m_Rf_shower.2.1 50 = .ok (.aload_n 0, 1) := by decide +kernel
theorem d_Rf_shower_51 : decode m_Rf_shower.2.1 51 = .ok (.getfield 38, 3) := by decide +kernel
theorem d_Rf_shower_54 : decode m_Rf_shower.2.1 54 = .ok (.iconst 1, 1) := by decide +kernel
theorem d_Rf_shower_55 : decode m_Rf_shower.2.1 55 = .ok (.iconst 0, 1) := by decide +kernel
theorem d_Rf_shower_56 : decode m_Rf_shower.2.1 56 = .ok (.bastore, 1) := by decide +kernel
theorem d_Rf_shower_57 : decode m_Rf_shower.2.1 57 = .ok (.aload_n 0, 1) := by decide +kernel
theorem d_Rf_shower_58 : decode m_Rf_shower.2.1 58 = .ok (.getfield 149, 3) := by decide +kernel
theorem d_Rf_shower_61 : decode m_Rf_shower.2.1 61 = .ok (.ireturn, 1) := by decide +kernel
theorem g_Rf_shower_0 {X : XS}  (h : Hp) (Q : Option AV → Hp → Prop)  (k : (∃ Q'4, EvI X m_Rf_isRead [vR [1]] h Q'4 ∧ ∀ (r5 : Int32) (h3 : Hp), Q'4 r5 h3 → ((¬ r5 = 0 → Rn X m_Rf_shower 12 [some (vR [1]), some (vI 0)] [] h3 Q) ∧ (r5 = 0 → Q (some (vI (-4))) h3)))) : Rn X m_Rf_shower 0 [some (vR [1]), none] [] h Q := by
  refine Rn.aload_n (n := 1) (i := 0) d_Rf_shower_0 rfl rfl rfl ?_
  obtain ⟨Q'4, ev1, k⟩ := k
  refine Rn.callV (n := 4) (av := []) d_Rf_shower_1 rfl ml_Rf_shower_155 mi_Rf_isRead Lv_1 rfl rfl rfl rfl (Nat.le_of_ble_eq_true rfl) ev1 (fun v h3 hq => ?_)
  obtain ⟨r5, rfl, hq⟩ := hq
  have k := k r5 h3 hq
  show Rn X m_Rf_shower 4 [some (vR [1]), none] [vI r5] h3 Q
  refine Rn.if_ne (n := 7) (t := 10) d_Rf_shower_4 rfl (by decide) (fun cc => ?_) (fun cc => ?_)
  · have k := k.1 cc
    refine Rn.iconst (n := 11) (v := 0) d_Rf_shower_10 rfl (by decide) ?_
    refine Rn.istore_n (n := 12) (i := 1) (ls2 := [some (vR [1]), some (vI 0)]) d_Rf_shower_11 rfl rfl (Nat.le_of_ble_eq_true rfl) rfl ?_
    exact k
  · have k := k.2 cc
    refine Rn.bipush (n := 9) (v := (-4)) d_Rf_shower_7 rfl (by decide) ?_
    exact Rn.iret d_Rf_shower_9 rfl rfl k
theorem g_Rf_shower_12 {X : XS} (a1 : Int32) (h : Hp) (Q : Option AV → Hp → Prop)  (k : (((h.1 [1] 14) ≤ a1 → (∃ Q'4, EvV X m_Rf_begin [vR [1]] (hsI h [1] 6 0) Q'4 ∧ ∀ (h3 : Hp), Q'4 h3 → Q (some (vI ((hsI (hsI h3 [21, 1] 0 0) [21, 1] 1 0).1 [1] 14))) (hsI (hsI h3 [21, 1] 0 0) [21, 1] 1 0))) ∧ (¬ (h.1 [1] 14) ≤ a1 → (∃ Q'8, EvV X m_Rf_doLine [vR [1], vI (8 * a1)] h Q'8 ∧ ∀ (h7 : Hp), Q'8 h7 → Rn X m_Rf_shower 12 [some (vR [1]), some (vI (a1 + 1))] [] h7 Q)))) : Rn X m_Rf_shower 12 [some (vR [1]), some (vI a1)] [] h Q := by
  refine Rn.iload_n (n := 13) (i := 1) d_Rf_shower_12 rfl rfl rfl ?_
  refine Rn.aload_n (n := 14) (i := 0) d_Rf_shower_13 rfl rfl rfl ?_
  refine Rn.getf (n := 17) (v := vI (h.1 [1] 14)) d_Rf_shower_14 rfl fl_Rf_149 Lv_1 rfl ?_
  refine Rn.icmp_ge (n := 20) (t := 34) d_Rf_shower_17 rfl (by decide) (fun cc => ?_) (fun cc => ?_)
  · have k := k.1 cc
    refine Rn.aload_n (n := 35) (i := 0) d_Rf_shower_34 rfl rfl rfl ?_
    refine Rn.iconst (n := 36) (v := 0) d_Rf_shower_35 rfl (by decide) ?_
    refine Rn.putI (n := 39) d_Rf_shower_36 rfl fl_Rf_77 pl_Rf_6 Lv_1 rfl ?_
    refine Rn.aload_n (n := 40) (i := 0) d_Rf_shower_39 rfl rfl rfl ?_
    obtain ⟨Q'4, ev1, k⟩ := k
    refine Rn.callV (n := 43) (av := []) d_Rf_shower_40 rfl ml_Rf_shower_165 mi_Rf_begin Lv_1 rfl rfl rfl rfl (Nat.le_of_ble_eq_true rfl) ev1 (fun v h3 hq => ?_)
    obtain ⟨rfl, hq⟩ := hq
    have k := k h3 hq
    show Rn X m_Rf_shower 43 [some (vR [1]), some (vI a1)] [] h3 Q
    refine Rn.aload_n (n := 44) (i := 0) d_Rf_shower_43 rfl rfl rfl ?_
    refine Rn.getf (n := 47) (v := vR [21, 1]) d_Rf_shower_44 rfl fl_Rf_38 Lv_1 rfl ?_
    refine Rn.iconst (n := 48) (v := 0) d_Rf_shower_47 rfl (by decide) ?_
    refine Rn.iconst (n := 49) (v := 0) d_Rf_shower_48 rfl (by decide) ?_
    refine Rn.zast (n := 50) (y := 0) d_Rf_shower_49 rfl Lv_21_1 (by unfold vp_in; decide) rfl ?_
    show Rn X m_Rf_shower 50 [some (vR [1]), some (vI a1)] [] (hsI h3 [21, 1] 0 0) Q
    refine Rn.aload_n (n := 51) (i := 0) d_Rf_shower_50 rfl rfl rfl ?_
    refine Rn.getf (n := 54) (v := vR [21, 1]) d_Rf_shower_51 rfl fl_Rf_38 Lv_1 rfl ?_
    refine Rn.iconst (n := 55) (v := 1) d_Rf_shower_54 rfl (by decide) ?_
    refine Rn.iconst (n := 56) (v := 0) d_Rf_shower_55 rfl (by decide) ?_
    refine Rn.zast (n := 57) (y := 0) d_Rf_shower_56 rfl Lv_21_1 (by unfold vp_in; decide) rfl ?_
    show Rn X m_Rf_shower 57 [some (vR [1]), some (vI a1)] [] (hsI (hsI h3 [21, 1] 0 0) [21, 1] 1 0) Q
    refine Rn.aload_n (n := 58) (i := 0) d_Rf_shower_57 rfl rfl rfl ?_
    refine Rn.getf (n := 61) (v := vI ((hsI (hsI h3 [21, 1] 0 0) [21, 1] 1 0).1 [1] 14)) d_Rf_shower_58 rfl fl_Rf_149 Lv_1 rfl ?_
    exact Rn.iret d_Rf_shower_61 rfl rfl k
  · have k := k.2 cc
    refine Rn.aload_n (n := 21) (i := 0) d_Rf_shower_20 rfl rfl rfl ?_
    refine Rn.bipush (n := 23) (v := 8) d_Rf_shower_21 rfl (by decide) ?_
    refine Rn.iload_n (n := 24) (i := 1) d_Rf_shower_23 rfl rfl rfl ?_
    refine Rn.imul (n := 25) d_Rf_shower_24 rfl ?_
    obtain ⟨Q'8, ev5, k⟩ := k
    refine Rn.callV (n := 28) (av := [vI (8 * a1)]) d_Rf_shower_25 rfl ml_Rf_shower_161 mi_Rf_doLine Lv_1 rfl rfl rfl rfl (Nat.le_of_ble_eq_true rfl) ev5 (fun v h7 hq => ?_)
    obtain ⟨rfl, hq⟩ := hq
    have k := k h7 hq
    show Rn X m_Rf_shower 28 [some (vR [1]), some (vI a1)] [] h7 Q
    refine Rn.iinc (n := 31) (i := 1) (v := a1 + 1) (ls2 := [some (vR [1]), some (vI (a1 + 1))]) d_Rf_shower_28 rfl rfl rfl (Nat.le_of_ble_eq_true rfl) rfl ?_
    refine Rn.goto (n := 12) d_Rf_shower_31 (by decide) ?_
    exact k
theorem e_Rf_shower {X : XS}  (h : Hp) (Q : Option AV → Hp → Prop) (k : Rn X m_Rf_shower 0 [some (vR [1]), none] [] h Q) : Ev X m_Rf_shower [vR [1]] h Q := Ev.intro (plainFor_of_name (by decide +kernel)) (Nat.le_of_ble_eq_true rfl) (ls := [some (vR [1]), none]) rfl k
theorem d_Rf_whoAt_0 : decode m_Rf_whoAt.2.1 0 = .ok (.iconst 0, 1) := by decide +kernel
theorem d_Rf_whoAt_1 : decode m_Rf_whoAt.2.1 1 = .ok (.istore_n 2, 1) := by decide +kernel
theorem d_Rf_whoAt_2 : decode m_Rf_whoAt.2.1 2 = .ok (.iload_n 2, 1) := by decide +kernel
theorem d_Rf_whoAt_3 : decode m_Rf_whoAt.2.1 3 = .ok (.bipush 6, 2) := by decide +kernel
theorem d_Rf_whoAt_5 : decode m_Rf_whoAt.2.1 5 = .ok (.if_icmp .ge 34, 3) := by decide +kernel
theorem d_Rf_whoAt_8 : decode m_Rf_whoAt.2.1 8 = .ok (.aload_n 0, 1) := by decide +kernel
theorem d_Rf_whoAt_9 : decode m_Rf_whoAt.2.1 9 = .ok (.getfield 70, 3) := by decide +kernel
theorem d_Rf_whoAt_12 : decode m_Rf_whoAt.2.1 12 = .ok (.iload_n 2, 1) := by decide +kernel
theorem d_Rf_whoAt_13 : decode m_Rf_whoAt.2.1 13 = .ok (.invokestatic 73, 3) := by decide +kernel
theorem d_Rf_whoAt_16 : decode m_Rf_whoAt.2.1 16 = .ok (.ifCond .eq 17, 3) := by decide +kernel
theorem d_Rf_whoAt_19 : decode m_Rf_whoAt.2.1 19 = .ok (.aload_n 0, 1) := by decide +kernel
theorem d_Rf_whoAt_20 : decode m_Rf_whoAt.2.1 20 = .ok (.getfield 29, 3) := by decide +kernel
theorem d_Rf_whoAt_23 : decode m_Rf_whoAt.2.1 23 = .ok (.iload_n 2, 1) := by decide +kernel
theorem d_Rf_whoAt_24 : decode m_Rf_whoAt.2.1 24 = .ok (.iaload, 1) := by decide +kernel
theorem d_Rf_whoAt_25 : decode m_Rf_whoAt.2.1 25 = .ok (.iload_n 1, 1) := by decide +kernel
theorem d_Rf_whoAt_26 : decode m_Rf_whoAt.2.1 26 = .ok (.iconst 1, 1) := by decide +kernel
theorem d_Rf_whoAt_27 : decode m_Rf_whoAt.2.1 27 = .ok (.iadd, 1) := by decide +kernel
theorem d_Rf_whoAt_28 : decode m_Rf_whoAt.2.1 28 = .ok (.if_icmp .ne 5, 3) := by decide +kernel
theorem d_Rf_whoAt_31 : decode m_Rf_whoAt.2.1 31 = .ok (.iload_n 2, 1) := by decide +kernel
theorem d_Rf_whoAt_32 : decode m_Rf_whoAt.2.1 32 = .ok (.ireturn, 1) := by decide +kernel
theorem d_Rf_whoAt_33 : decode m_Rf_whoAt.2.1 33 = .ok (.iinc 2 1, 3) := by decide +kernel
theorem d_Rf_whoAt_36 : decode m_Rf_whoAt.2.1 36 = .ok (.goto (-34), 3) := by decide +kernel
theorem d_Rf_whoAt_39 : decode m_Rf_whoAt.2.1 39 = .ok (.iconst (-1), 1) := by decide +kernel
theorem d_Rf_whoAt_40 : decode m_Rf_whoAt.2.1 40 = .ok (.ireturn, 1) := by decide +kernel
theorem g_Rf_whoAt_0 {X : XS} (a1 : Int32) (h : Hp) (Q : Option AV → Hp → Prop)  (k : Rn X m_Rf_whoAt 2 [some (vR [1]), some (vI a1), some (vI 0)] [] h Q) : Rn X m_Rf_whoAt 0 [some (vR [1]), some (vI a1), none] [] h Q := by
  refine Rn.iconst (n := 1) (v := 0) d_Rf_whoAt_0 rfl (by decide) ?_
  refine Rn.istore_n (n := 2) (i := 2) (ls2 := [some (vR [1]), some (vI a1), some (vI 0)]) d_Rf_whoAt_1 rfl rfl (Nat.le_of_ble_eq_true rfl) rfl ?_
  exact k
theorem g_Rf_whoAt_2 {X : XS} (a1 : Int32) (a2 : Int32) (h : Hp) (Q : Option AV → Hp → Prop)  (k : ((6 ≤ a2 → Q (some (vI (-1))) h) ∧ (¬ 6 ≤ a2 → (∃ Q'4, EvI X m_Rf_has [vI (h.1 [1] 3), vI a2] h Q'4 ∧ ∀ (r5 : Int32) (h3 : Hp), Q'4 r5 h3 → ((r5 = 0 → Rn X m_Rf_whoAt 2 [some (vR [1]), some (vI a1), some (vI (a2 + 1))] [] h3 Q) ∧ (¬ r5 = 0 → (vp_in a2 26 ∧ ((¬ (h3.1 [18, 1] a2.toNatClampNeg) = (a1 + 1) → Rn X m_Rf_whoAt 2 [some (vR [1]), some (vI a1), some (vI (a2 + 1))] [] h3 Q) ∧ ((h3.1 [18, 1] a2.toNatClampNeg) = (a1 + 1) → Q (some (vI a2)) h3))))))))) : Rn X m_Rf_whoAt 2 [some (vR [1]), some (vI a1), some (vI a2)] [] h Q := by
  refine Rn.iload_n (n := 3) (i := 2) d_Rf_whoAt_2 rfl rfl rfl ?_
  refine Rn.bipush (n := 5) (v := 6) d_Rf_whoAt_3 rfl (by decide) ?_
  refine Rn.icmp_ge (n := 8) (t := 39) d_Rf_whoAt_5 rfl (by decide) (fun cc => ?_) (fun cc => ?_)
  · have k := k.1 cc
    refine Rn.iconst (n := 40) (v := (-1)) d_Rf_whoAt_39 rfl (by decide) ?_
    exact Rn.iret d_Rf_whoAt_40 rfl rfl k
  · have k := k.2 cc
    refine Rn.aload_n (n := 9) (i := 0) d_Rf_whoAt_8 rfl rfl rfl ?_
    refine Rn.getf (n := 12) (v := vI (h.1 [1] 3)) d_Rf_whoAt_9 rfl fl_Rf_70 Lv_1 rfl ?_
    refine Rn.iload_n (n := 13) (i := 2) d_Rf_whoAt_12 rfl rfl rfl ?_
    obtain ⟨Q'4, ev1, k⟩ := k
    refine Rn.callS (n := 16) (av := [vI (h.1 [1] 3), vI a2]) d_Rf_whoAt_13 rfl ml_Rf_whoAt_73 ms_Rf_has rfl rfl (Nat.le_of_ble_eq_true rfl) ev1 (fun v h3 hq => ?_)
    obtain ⟨r5, rfl, hq⟩ := hq
    have k := k r5 h3 hq
    show Rn X m_Rf_whoAt 16 [some (vR [1]), some (vI a1), some (vI a2)] [vI r5] h3 Q
    refine Rn.if_eq (n := 19) (t := 33) d_Rf_whoAt_16 rfl (by decide) (fun cc => ?_) (fun cc => ?_)
    · have k := k.1 cc
      refine Rn.iinc (n := 36) (i := 2) (v := a2 + 1) (ls2 := [some (vR [1]), some (vI a1), some (vI (a2 + 1))]) d_Rf_whoAt_33 rfl rfl rfl (Nat.le_of_ble_eq_true rfl) rfl ?_
      refine Rn.goto (n := 2) d_Rf_whoAt_36 (by decide) ?_
      exact k
    · have k := k.2 cc
      refine Rn.aload_n (n := 20) (i := 0) d_Rf_whoAt_19 rfl rfl rfl ?_
      refine Rn.getf (n := 23) (v := vR [18, 1]) d_Rf_whoAt_20 rfl fl_Rf_29 Lv_1 rfl ?_
      refine Rn.iload_n (n := 24) (i := 2) d_Rf_whoAt_23 rfl rfl rfl ?_
      obtain ⟨b6, k⟩ := k
      refine Rn.iald (n := 25) (v := h3.1 [18, 1] a2.toNatClampNeg) d_Rf_whoAt_24 rfl Lv_18_1 b6 rfl ?_
      refine Rn.iload_n (n := 26) (i := 1) d_Rf_whoAt_25 rfl rfl rfl ?_
      refine Rn.iconst (n := 27) (v := 1) d_Rf_whoAt_26 rfl (by decide) ?_
      refine Rn.iadd (n := 28) d_Rf_whoAt_27 rfl ?_
      refine Rn.icmp_ne (n := 31) (t := 33) d_Rf_whoAt_28 rfl (by decide) (fun cc => ?_) (fun cc => ?_)
      · have k := k.1 cc
        refine Rn.iinc (n := 36) (i := 2) (v := a2 + 1) (ls2 := [some (vR [1]), some (vI a1), some (vI (a2 + 1))]) d_Rf_whoAt_33 rfl rfl rfl (Nat.le_of_ble_eq_true rfl) rfl ?_
        refine Rn.goto (n := 2) d_Rf_whoAt_36 (by decide) ?_
        exact k
      · have k := k.2 cc
        refine Rn.iload_n (n := 32) (i := 2) d_Rf_whoAt_31 rfl rfl rfl ?_
        exact Rn.iret d_Rf_whoAt_32 rfl rfl k
theorem e_Rf_whoAt {X : XS} (a1 : Int32) (h : Hp) (Q : Option AV → Hp → Prop) (k : Rn X m_Rf_whoAt 0 [some (vR [1]), some (vI a1), none] [] h Q) : Ev X m_Rf_whoAt [vR [1], vI a1] h Q := Ev.intro (plainFor_of_name (by decide +kernel)) (Nat.le_of_ble_eq_true rfl) (ls := [some (vR [1]), some (vI a1), none]) rfl k
theorem d_Rf_cell_0 : decode m_Rf_cell.2.1 0 = .ok (.iload_n 1, 1) := by decide +kernel
theorem d_Rf_cell_1 : decode m_Rf_cell.2.1 1 = .ok (.iconst 0, 1) := by decide +kernel
theorem d_Rf_cell_2 : decode m_Rf_cell.2.1 2 = .ok (.iconst 4, 1) := by decide +kernel
theorem d_Rf_cell_3 : decode m_Rf_cell.2.1 3 = .ok (.aload_n 0, 1) := by decide +kernel
theorem d_Rf_cell_4 : decode m_Rf_cell.2.1 4 = .ok (.getfield 13, 3) := by decide +kernel
theorem d_Rf_cell_7 : decode m_Rf_cell.2.1 7 = .ok (.imul, 1) := by decide +kernel
theorem d_Rf_cell_8 : decode m_Rf_cell.2.1 8 = .ok (.iconst 1, 1) := by decide +kernel
theorem d_Rf_cell_9 : decode m_Rf_cell.2.1 9 = .ok (.isub, 1) := by decide +kernel
theorem d_Rf_cell_10 : decode m_Rf_cell.2.1 10 = .ok (.invokestatic 66, 3) := by decide +kernel
theorem d_Rf_cell_13 : decode m_Rf_cell.2.1 13 = .ok (.ifCond .eq 13, 3) := by decide +kernel
theorem d_Rf_cell_16 : decode m_Rf_cell.2.1 16 = .ok (.iload_n 1, 1) := by decide +kernel
theorem d_Rf_cell_17 : decode m_Rf_cell.2.1 17 = .ok (.iconst 4, 1) := by decide +kernel
theorem d_Rf_cell_18 : decode m_Rf_cell.2.1 18 = .ok (.irem, 1) := by decide +kernel
theorem d_Rf_cell_19 : decode m_Rf_cell.2.1 19 = .ok (.aload_n 0, 1) := by decide +kernel
theorem d_Rf_cell_20 : decode m_Rf_cell.2.1 20 = .ok (.getfield 7, 3) := by decide +kernel
theorem d_Rf_cell_23 : decode m_Rf_cell.2.1 23 = .ok (.if_icmp .lt 6, 3) := by decide +kernel
theorem d_Rf_cell_26 : decode m_Rf_cell.2.1 26 = .ok (.bipush (-2), 2) := by decide +kernel
theorem d_Rf_cell_28 : decode m_Rf_cell.2.1 28 = .ok (.ireturn, 1) := by decide +kernel
theorem d_Rf_cell_29 : decode m_Rf_cell.2.1 29 = .ok (.iload_n 2, 1) := by decide +kernel
theorem d_Rf_cell_30 : decode m_Rf_cell.2.1 30 = .ok (.ifCond .ne 15, 3) := by decide +kernel
theorem d_Rf_cell_33 : decode m_Rf_cell.2.1 33 = .ok (.aload_n 0, 1) := by decide +kernel
theorem d_Rf_cell_34 : decode m_Rf_cell.2.1 34 = .ok (.getfield 158, 3) := by decide +kernel
theorem d_Rf_cell_37 : decode m_Rf_cell.2.1 37 = .ok (.iload_n 1, 1) := by decide +kernel
theorem d_Rf_cell_38 : decode m_Rf_cell.2.1 38 = .ok (.lshr, 1) := by decide +kernel
theorem d_Rf_cell_39 : decode m_Rf_cell.2.1 39 = .ok (.lconst 1, 1) := by decide +kernel
theorem d_Rf_cell_40 : decode m_Rf_cell.2.1 40 = .ok (.land, 1) := by decide +kernel
theorem d_Rf_cell_41 : decode m_Rf_cell.2.1 41 = .ok (.l2i, 1) := by decide +kernel
theorem d_Rf_cell_42 : decode m_Rf_cell.2.1 42 = .ok (.goto 18, 3) := by decide +kernel
theorem d_Rf_cell_45 : decode m_Rf_cell.2.1 45 = .ok (.iload_n 2, 1) := by decide +kernel
theorem d_Rf_cell_46 : decode m_Rf_cell.2.1 46 = .ok (.iconst 1, 1) := by decide +kernel
theorem d_Rf_cell_47 : decode m_Rf_cell.2.1 47 = .ok (.if_icmp .ne 11, 3) := by decide +kernel
theorem d_Rf_cell_50 : decode m_Rf_cell.2.1 50 = .ok (.aload_n 0, 1) := by decide +kernel
theorem d_Rf_cell_51 : decode m_Rf_cell.2.1 51 = .ok (.iload_n 1, 1) := by decide +kernel
theorem d_Rf_cell_52 : decode m_Rf_cell.2.1 52 = .ok (.invokevirtual 168, 3) := by decide +kernel
theorem d_Rf_cell_55 : decode m_Rf_cell.2.1 55 = .ok (.goto 5, 3) := by decide +kernel
theorem d_Rf_cell_58 : decode m_Rf_cell.2.1 58 = .ok (.bipush (-3), 2) := by decide +kernel
theorem d_Rf_cell_60 : decode m_Rf_cell.2.1 60 = .ok (.ireturn, 1) := by decide +kernel
theorem g_Rf_cell_0 {X : XS} (a1 : Int32) (a2 : Int32) (h : Hp) (Q : Option AV → Hp → Prop)  (k : (∃ Q'4, EvI X m_Rf_in [vI a1, vI 0, vI ((4 * (h.1 [1] 1)) - 1)] h Q'4 ∧ ∀ (r5 : Int32) (h3 : Hp), Q'4 r5 h3 → ((r5 = 0 → Q (some (vI (-2))) h3) ∧ (¬ r5 = 0 → (((iR a1 4) < (h3.1 [1] 0) → ((¬ a2 = 0 → ((¬ a2 = 1 → Q (some (vI (-3))) h3) ∧ (a2 = 1 → (∃ Q'9, EvI X m_Rf_whoAt [vR [1], vI a1] h3 Q'9 ∧ ∀ (r10 : Int32) (h8 : Hp), Q'9 r10 h8 → Q (some (vI r10)) h8)))) ∧ (a2 = 0 → Q (some (vI (((lShr (h3.2 [1] 2) a1) &&& 1).toInt32))) h3))) ∧ (¬ (iR a1 4) < (h3.1 [1] 0) → Q (some (vI (-2))) h3)))))) : Rn X m_Rf_cell 0 [some (vR [1]), some (vI a1), some (vI a2)] [] h Q := by
  refine Rn.iload_n (n := 1) (i := 1) d_Rf_cell_0 rfl rfl rfl ?_
  refine Rn.iconst (n := 2) (v := 0) d_Rf_cell_1 rfl (by decide) ?_
  refine Rn.iconst (n := 3) (v := 4) d_Rf_cell_2 rfl (by decide) ?_
  refine Rn.aload_n (n := 4) (i := 0) d_Rf_cell_3 rfl rfl rfl ?_
  refine Rn.getf (n := 7) (v := vI (h.1 [1] 1)) d_Rf_cell_4 rfl fl_Rf_13 Lv_1 rfl ?_
  refine Rn.imul (n := 8) d_Rf_cell_7 rfl ?_
  refine Rn.iconst (n := 9) (v := 1) d_Rf_cell_8 rfl (by decide) ?_
  refine Rn.isub (n := 10) d_Rf_cell_9 rfl ?_
  obtain ⟨Q'4, ev1, k⟩ := k
  refine Rn.callS (n := 13) (av := [vI a1, vI 0, vI ((4 * (h.1 [1] 1)) - 1)]) d_Rf_cell_10 rfl ml_Rf_cell_66 ms_Rf_in rfl rfl (Nat.le_of_ble_eq_true rfl) ev1 (fun v h3 hq => ?_)
  obtain ⟨r5, rfl, hq⟩ := hq
  have k := k r5 h3 hq
  show Rn X m_Rf_cell 13 [some (vR [1]), some (vI a1), some (vI a2)] [vI r5] h3 Q
  refine Rn.if_eq (n := 16) (t := 26) d_Rf_cell_13 rfl (by decide) (fun cc => ?_) (fun cc => ?_)
  · have k := k.1 cc
    refine Rn.bipush (n := 28) (v := (-2)) d_Rf_cell_26 rfl (by decide) ?_
    exact Rn.iret d_Rf_cell_28 rfl rfl k
  · have k := k.2 cc
    refine Rn.iload_n (n := 17) (i := 1) d_Rf_cell_16 rfl rfl rfl ?_
    refine Rn.iconst (n := 18) (v := 4) d_Rf_cell_17 rfl (by decide) ?_
    refine Rn.irem (n := 19) d_Rf_cell_18 rfl (by decide) ?_
    refine Rn.aload_n (n := 20) (i := 0) d_Rf_cell_19 rfl rfl rfl ?_
    refine Rn.getf (n := 23) (v := vI (h3.1 [1] 0)) d_Rf_cell_20 rfl fl_Rf_7 Lv_1 rfl ?_
    refine Rn.icmp_lt (n := 26) (t := 29) d_Rf_cell_23 rfl (by decide) (fun cc => ?_) (fun cc => ?_)
    · have k := k.1 cc
      refine Rn.iload_n (n := 30) (i := 2) d_Rf_cell_29 rfl rfl rfl ?_
      refine Rn.if_ne (n := 33) (t := 45) d_Rf_cell_30 rfl (by decide) (fun cc => ?_) (fun cc => ?_)
      · have k := k.1 cc
        refine Rn.iload_n (n := 46) (i := 2) d_Rf_cell_45 rfl rfl rfl ?_
        refine Rn.iconst (n := 47) (v := 1) d_Rf_cell_46 rfl (by decide) ?_
        refine Rn.icmp_ne (n := 50) (t := 58) d_Rf_cell_47 rfl (by decide) (fun cc => ?_) (fun cc => ?_)
        · have k := k.1 cc
          refine Rn.bipush (n := 60) (v := (-3)) d_Rf_cell_58 rfl (by decide) ?_
          exact Rn.iret d_Rf_cell_60 rfl rfl k
        · have k := k.2 cc
          refine Rn.aload_n (n := 51) (i := 0) d_Rf_cell_50 rfl rfl rfl ?_
          refine Rn.iload_n (n := 52) (i := 1) d_Rf_cell_51 rfl rfl rfl ?_
          obtain ⟨Q'9, ev6, k⟩ := k
          refine Rn.callV (n := 55) (av := [vI a1]) d_Rf_cell_52 rfl ml_Rf_cell_168 mi_Rf_whoAt Lv_1 rfl rfl rfl rfl (Nat.le_of_ble_eq_true rfl) ev6 (fun v h8 hq => ?_)
          obtain ⟨r10, rfl, hq⟩ := hq
          have k := k r10 h8 hq
          show Rn X m_Rf_cell 55 [some (vR [1]), some (vI a1), some (vI a2)] [vI r10] h8 Q
          refine Rn.goto (n := 60) d_Rf_cell_55 (by decide) ?_
          exact Rn.iret d_Rf_cell_60 rfl rfl k
      · have k := k.2 cc
        refine Rn.aload_n (n := 34) (i := 0) d_Rf_cell_33 rfl rfl rfl ?_
        refine Rn.getf (n := 37) (v := vL (h3.2 [1] 2)) d_Rf_cell_34 rfl fl_Rf_158 Lv_1 rfl ?_
        refine Rn.iload_n (n := 38) (i := 1) d_Rf_cell_37 rfl rfl rfl ?_
        refine Rn.lshr (n := 39) d_Rf_cell_38 rfl ?_
        refine Rn.lconst (n := 40) (v := 1) d_Rf_cell_39 rfl rfl ?_
        refine Rn.land (n := 41) d_Rf_cell_40 rfl ?_
        refine Rn.l2i (n := 42) d_Rf_cell_41 rfl ?_
        refine Rn.goto (n := 60) d_Rf_cell_42 (by decide) ?_
        exact Rn.iret d_Rf_cell_60 rfl rfl k
    · have k := k.2 cc
      refine Rn.bipush (n := 28) (v := (-2)) d_Rf_cell_26 rfl (by decide) ?_
      exact Rn.iret d_Rf_cell_28 rfl rfl k
theorem e_Rf_cell {X : XS} (a1 : Int32) (a2 : Int32) (h : Hp) (Q : Option AV → Hp → Prop) (k : Rn X m_Rf_cell 0 [some (vR [1]), some (vI a1), some (vI a2)] [] h Q) : Ev X m_Rf_cell [vR [1], vI a1, vI a2] h Q := Ev.intro (plainFor_of_name (by decide +kernel)) (Nat.le_of_ble_eq_true rfl) (ls := [some (vR [1]), some (vI a1), some (vI a2)]) rfl k
theorem d_Rf_walker_0 : decode m_Rf_walker.2.1 0 = .ok (.aload_n 0, 1) := by decide +kernel
theorem d_Rf_walker_1 : decode m_Rf_walker.2.1 1 = .ok (.iload_n 1, 1) := by decide +kernel
theorem d_Rf_walker_2 : decode m_Rf_walker.2.1 2 = .ok (.invokevirtual 172, 3) := by decide +kernel
theorem d_Rf_walker_5 : decode m_Rf_walker.2.1 5 = .ok (.ifCond .ne 6, 3) := by decide +kernel
theorem d_Rf_walker_8 : decode m_Rf_walker.2.1 8 = .ok (.bipush (-2), 2) := by decide +kernel
theorem d_Rf_walker_10 : decode m_Rf_walker.2.1 10 = .ok (.ireturn, 1) := by decide +kernel
theorem d_Rf_walker_11 : decode m_Rf_walker.2.1 11 = .ok (.iload_n 2, 1) := by decide +kernel
theorem d_Rf_walker_12 : decode m_Rf_walker.2.1 12 = .ok (.tableswitch 103 0 4 #[36, 58, 68, 78, 88], 36) := by decide +kernel
theorem d_Rf_walker_48 : decode m_Rf_walker.2.1 48 = .ok (.aload_n 0, 1) := by decide +kernel
theorem d_Rf_walker_49 : decode m_Rf_walker.2.1 49 = .ok (.getfield 29, 3) := by decide +kernel
theorem d_Rf_walker_52 : decode m_Rf_walker.2.1 52 = .ok (.iload_n 1, 1) := by decide +kernel
theorem d_Rf_walker_53 : decode m_Rf_walker.2.1 53 = .ok (.iaload, 1) := by decide +kernel
theorem d_Rf_walker_54 : decode m_Rf_walker.2.1 54 = .ok (.ifCond .le 14, 3) := by decide +kernel
theorem d_Rf_walker_57 : decode m_Rf_walker.2.1 57 = .ok (.aload_n 0, 1) := by decide +kernel
theorem d_Rf_walker_58 : decode m_Rf_walker.2.1 58 = .ok (.getfield 29, 3) := by decide +kernel
theorem d_Rf_walker_61 : decode m_Rf_walker.2.1 61 = .ok (.iload_n 1, 1) := by decide +kernel
theorem d_Rf_walker_62 : decode m_Rf_walker.2.1 62 = .ok (.iaload, 1) := by decide +kernel
theorem d_Rf_walker_63 : decode m_Rf_walker.2.1 63 = .ok (.iconst 1, 1) := by decide +kernel
theorem d_Rf_walker_64 : decode m_Rf_walker.2.1 64 = .ok (.isub, 1) := by decide +kernel
theorem d_Rf_walker_65 : decode m_Rf_walker.2.1 65 = .ok (.goto 4, 3) := by decide +kernel
theorem d_Rf_walker_68 : decode m_Rf_walker.2.1 68 = .ok (.iconst (-1), 1) := by decide +kernel
theorem d_Rf_walker_69 : decode m_Rf_walker.2.1 69 = .ok (.ireturn, 1) := by decide +kernel
theorem d_Rf_walker_70 : decode m_Rf_walker.2.1 70 = .ok (.aload_n 0, 1) := by decide +kernel
theorem d_Rf_walker_71 : decode m_Rf_walker.2.1 71 = .ok (.getfield 29, 3) := by decide +kernel
theorem d_Rf_walker_74 : decode m_Rf_walker.2.1 74 = .ok (.bipush 6, 2) := by decide +kernel
theorem d_Rf_walker_76 : decode m_Rf_walker.2.1 76 = .ok (.iload_n 1, 1) := by decide +kernel
theorem d_Rf_walker_77 : decode m_Rf_walker.2.1 77 = .ok (.iadd, 1) := by decide +kernel
theorem d_Rf_walker_78 : decode m_Rf_walker.2.1 78 = .ok (.iaload, 1) := by decide +kernel
theorem d_Rf_walker_79 : decode m_Rf_walker.2.1 79 = .ok (.ireturn, 1) := by decide +kernel
theorem d_Rf_walker_80 : decode m_Rf_walker.2.1 80 = .ok (.aload_n 0, 1) := by decide +kernel
theorem d_Rf_walker_81 : decode m_Rf_walker.2.1 81 = .ok (.getfield 29, 3) := by decide +kernel
theorem d_Rf_walker_84 : decode m_Rf_walker.2.1 84 = .ok (.bipush 12, 2) := by decide +kernel
theorem d_Rf_walker_86 : decode m_Rf_walker.2.1 86 = .ok (.iload_n 1, 1) := by decide +kernel
theorem d_Rf_walker_87 : decode m_Rf_walker.2.1 87 = .ok (.iadd, 1) := by decide +kernel
theorem d_Rf_walker_88 : decode m_Rf_walker.2.1 88 = .ok (.iaload, 1) := by decide +kernel
theorem d_Rf_walker_89 : decode m_Rf_walker.2.1 89 = .ok (.ireturn, 1) := by decide +kernel
theorem d_Rf_walker_90 : decode m_Rf_walker.2.1 90 = .ok (.aload_n 0, 1) := by decide +kernel
theorem d_Rf_walker_91 : decode m_Rf_walker.2.1 91 = .ok (.getfield 29, 3) := by decide +kernel
theorem d_Rf_walker_94 : decode m_Rf_walker.2.1 94 = .ok (.bipush 18, 2) := by decide +kernel
theorem d_Rf_walker_96 : decode m_Rf_walker.2.1 96 = .ok (.iload_n 1, 1) := by decide +kernel
theorem d_Rf_walker_97 : decode m_Rf_walker.2.1 97 = .ok (.iadd, 1) := by decide +kernel
theorem d_Rf_walker_98 : decode m_Rf_walker.2.1 98 = .ok (.iaload, 1) := by decide +kernel
theorem d_Rf_walker_99 : decode m_Rf_walker.2.1 99 = .ok (.ireturn, 1) := by decide +kernel
theorem d_Rf_walker_100 : decode m_Rf_walker.2.1 100 = .ok (.aload_n 0, 1) := by decide +kernel
theorem d_Rf_walker_101 : decode m_Rf_walker.2.1 101 = .ok (.getfield 29, 3) := by decide +kernel
theorem d_Rf_walker_104 : decode m_Rf_walker.2.1 104 = .ok (.iload_n 1, 1) := by decide +kernel
theorem d_Rf_walker_105 : decode m_Rf_walker.2.1 105 = .ok (.iaload, 1) := by decide +kernel
theorem d_Rf_walker_106 : decode m_Rf_walker.2.1 106 = .ok (.ifCond .ge 7, 3) := by decide +kernel
theorem d_Rf_walker_109 : decode m_Rf_walker.2.1 109 = .ok (.iconst 1, 1) := by decide +kernel
theorem d_Rf_walker_110 : decode m_Rf_walker.2.1 110 = .ok (.goto 4, 3) := by decide +kernel
theorem d_Rf_walker_113 : decode m_Rf_walker.2.1 113 = .ok (.iconst 0, 1) := by decide +kernel
theorem d_Rf_walker_114 : decode m_Rf_walker.2.1 114 = .ok (.ireturn, 1) := by decide +kernel
theorem d_Rf_walker_115 : decode m_Rf_walker.2.1 115 = .ok (.bipush (-3), 2) := by decide +kernel
theorem d_Rf_walker_117 : decode m_Rf_walker.2.1 117 = .ok (.ireturn, 1) := by decide +kernel
theorem g_Rf_walker_0 {X : XS} (a1 : Int32) (a2 : Int32) (h : Hp) (Q : Option AV → Hp → Prop)  (k : (∃ Q'4, EvI X m_Rf_isWalker [vR [1], vI a1] h Q'4 ∧ ∀ (r5 : Int32) (h3 : Hp), Q'4 r5 h3 → ((¬ r5 = 0 → ((a2.toInt < 0 ∨ 4 < a2.toInt → Q (some (vI (-3))) h3) ∧ (a2 = 0 → (vp_in a1 26 ∧ (((h3.1 [18, 1] a1.toNatClampNeg) ≤ 0 → Q (some (vI (-1))) h3) ∧ (¬ (h3.1 [18, 1] a1.toNatClampNeg) ≤ 0 → (vp_in a1 26 ∧ Q (some (vI ((h3.1 [18, 1] a1.toNatClampNeg) - 1))) h3))))) ∧ (a2 = 1 → (vp_in (6 + a1) 26 ∧ Q (some (vI (h3.1 [18, 1] (6 + a1).toNatClampNeg))) h3)) ∧ (a2 = 2 → (vp_in (12 + a1) 26 ∧ Q (some (vI (h3.1 [18, 1] (12 + a1).toNatClampNeg))) h3)) ∧ (a2 = 3 → (vp_in (18 + a1) 26 ∧ Q (some (vI (h3.1 [18, 1] (18 + a1).toNatClampNeg))) h3)) ∧ (a2 = 4 → (vp_in a1 26 ∧ ((0 ≤ (h3.1 [18, 1] a1.toNatClampNeg) → Q (some (vI 0)) h3) ∧ (¬ 0 ≤ (h3.1 [18, 1] a1.toNatClampNeg) → Q (some (vI 1)) h3)))))) ∧ (r5 = 0 → Q (some (vI (-2))) h3)))) : Rn X m_Rf_walker 0 [some (vR [1]), some (vI a1), some (vI a2)] [] h Q := by
  refine Rn.aload_n (n := 1) (i := 0) d_Rf_walker_0 rfl rfl rfl ?_
  refine Rn.iload_n (n := 2) (i := 1) d_Rf_walker_1 rfl rfl rfl ?_
  obtain ⟨Q'4, ev1, k⟩ := k
  refine Rn.callV (n := 5) (av := [vI a1]) d_Rf_walker_2 rfl ml_Rf_walker_172 mi_Rf_isWalker Lv_1 rfl rfl rfl rfl (Nat.le_of_ble_eq_true rfl) ev1 (fun v h3 hq => ?_)
  obtain ⟨r5, rfl, hq⟩ := hq
  have k := k r5 h3 hq
  show Rn X m_Rf_walker 5 [some (vR [1]), some (vI a1), some (vI a2)] [vI r5] h3 Q
  refine Rn.if_ne (n := 8) (t := 11) d_Rf_walker_5 rfl (by decide) (fun cc => ?_) (fun cc => ?_)
  · have k := k.1 cc
    refine Rn.iload_n (n := 12) (i := 2) d_Rf_walker_11 rfl rfl rfl ?_
    refine Rn.tsw (n := 0) d_Rf_walker_12 (fun cc => ⟨115, by decide, ?_⟩) (fun j hz1 hz2 hz3 => ?_)
    · have k := k.1 cc
      refine Rn.bipush (n := 117) (v := (-3)) d_Rf_walker_115 rfl (by decide) ?_
      exact Rn.iret d_Rf_walker_117 rfl rfl k
    · have k := k.2
      have hj : j < 5 := by omega
      match j, hj, hz3 with
      | 0, _, hz3 =>
        have cc : a2 = 0 := Int32.toInt_inj.mp hz3
        have k := k.1 cc
        refine ⟨36, 48, rfl, by decide, ?_⟩
        refine Rn.aload_n (n := 49) (i := 0) d_Rf_walker_48 rfl rfl rfl ?_
        refine Rn.getf (n := 52) (v := vR [18, 1]) d_Rf_walker_49 rfl fl_Rf_29 Lv_1 rfl ?_
        refine Rn.iload_n (n := 53) (i := 1) d_Rf_walker_52 rfl rfl rfl ?_
        obtain ⟨b6, k⟩ := k
        refine Rn.iald (n := 54) (v := h3.1 [18, 1] a1.toNatClampNeg) d_Rf_walker_53 rfl Lv_18_1 b6 rfl ?_
        refine Rn.if_le (n := 57) (t := 68) d_Rf_walker_54 rfl (by decide) (fun cc => ?_) (fun cc => ?_)
        · have k := k.1 cc
          refine Rn.iconst (n := 69) (v := (-1)) d_Rf_walker_68 rfl (by decide) ?_
          exact Rn.iret d_Rf_walker_69 rfl rfl k
        · have k := k.2 cc
          refine Rn.aload_n (n := 58) (i := 0) d_Rf_walker_57 rfl rfl rfl ?_
          refine Rn.getf (n := 61) (v := vR [18, 1]) d_Rf_walker_58 rfl fl_Rf_29 Lv_1 rfl ?_
          refine Rn.iload_n (n := 62) (i := 1) d_Rf_walker_61 rfl rfl rfl ?_
          obtain ⟨b7, k⟩ := k
          refine Rn.iald (n := 63) (v := h3.1 [18, 1] a1.toNatClampNeg) d_Rf_walker_62 rfl Lv_18_1 b7 rfl ?_
          refine Rn.iconst (n := 64) (v := 1) d_Rf_walker_63 rfl (by decide) ?_
          refine Rn.isub (n := 65) d_Rf_walker_64 rfl ?_
          refine Rn.goto (n := 69) d_Rf_walker_65 (by decide) ?_
          exact Rn.iret d_Rf_walker_69 rfl rfl k
      | 1, _, hz3 =>
        have cc : a2 = 1 := Int32.toInt_inj.mp hz3
        have k := k.2.1 cc
        refine ⟨58, 70, rfl, by decide, ?_⟩
        refine Rn.aload_n (n := 71) (i := 0) d_Rf_walker_70 rfl rfl rfl ?_
        refine Rn.getf (n := 74) (v := vR [18, 1]) d_Rf_walker_71 rfl fl_Rf_29 Lv_1 rfl ?_
        refine Rn.bipush (n := 76) (v := 6) d_Rf_walker_74 rfl (by decide) ?_
        refine Rn.iload_n (n := 77) (i := 1) d_Rf_walker_76 rfl rfl rfl ?_
        refine Rn.iadd (n := 78) d_Rf_walker_77 rfl ?_
        obtain ⟨b8, k⟩ := k
        refine Rn.iald (n := 79) (v := h3.1 [18, 1] (6 + a1).toNatClampNeg) d_Rf_walker_78 rfl Lv_18_1 b8 rfl ?_
        exact Rn.iret d_Rf_walker_79 rfl rfl k
      | 2, _, hz3 =>
        have cc : a2 = 2 := Int32.toInt_inj.mp hz3
        have k := k.2.2.1 cc
        refine ⟨68, 80, rfl, by decide, ?_⟩
        refine Rn.aload_n (n := 81) (i := 0) d_Rf_walker_80 rfl rfl rfl ?_
        refine Rn.getf (n := 84) (v := vR [18, 1]) d_Rf_walker_81 rfl fl_Rf_29 Lv_1 rfl ?_
        refine Rn.bipush (n := 86) (v := 12) d_Rf_walker_84 rfl (by decide) ?_
        refine Rn.iload_n (n := 87) (i := 1) d_Rf_walker_86 rfl rfl rfl ?_
        refine Rn.iadd (n := 88) d_Rf_walker_87 rfl ?_
        obtain ⟨b9, k⟩ := k
        refine Rn.iald (n := 89) (v := h3.1 [18, 1] (12 + a1).toNatClampNeg) d_Rf_walker_88 rfl Lv_18_1 b9 rfl ?_
        exact Rn.iret d_Rf_walker_89 rfl rfl k
      | 3, _, hz3 =>
        have cc : a2 = 3 := Int32.toInt_inj.mp hz3
        have k := k.2.2.2.1 cc
        refine ⟨78, 90, rfl, by decide, ?_⟩
        refine Rn.aload_n (n := 91) (i := 0) d_Rf_walker_90 rfl rfl rfl ?_
        refine Rn.getf (n := 94) (v := vR [18, 1]) d_Rf_walker_91 rfl fl_Rf_29 Lv_1 rfl ?_
        refine Rn.bipush (n := 96) (v := 18) d_Rf_walker_94 rfl (by decide) ?_
        refine Rn.iload_n (n := 97) (i := 1) d_Rf_walker_96 rfl rfl rfl ?_
        refine Rn.iadd (n := 98) d_Rf_walker_97 rfl ?_
        obtain ⟨b10, k⟩ := k
        refine Rn.iald (n := 99) (v := h3.1 [18, 1] (18 + a1).toNatClampNeg) d_Rf_walker_98 rfl Lv_18_1 b10 rfl ?_
        exact Rn.iret d_Rf_walker_99 rfl rfl k
      | 4, _, hz3 =>
        have cc : a2 = 4 := Int32.toInt_inj.mp hz3
        have k := k.2.2.2.2 cc
        refine ⟨88, 100, rfl, by decide, ?_⟩
        refine Rn.aload_n (n := 101) (i := 0) d_Rf_walker_100 rfl rfl rfl ?_
        refine Rn.getf (n := 104) (v := vR [18, 1]) d_Rf_walker_101 rfl fl_Rf_29 Lv_1 rfl ?_
        refine Rn.iload_n (n := 105) (i := 1) d_Rf_walker_104 rfl rfl rfl ?_
        obtain ⟨b11, k⟩ := k
        refine Rn.iald (n := 106) (v := h3.1 [18, 1] a1.toNatClampNeg) d_Rf_walker_105 rfl Lv_18_1 b11 rfl ?_
        refine Rn.if_ge (n := 109) (t := 113) d_Rf_walker_106 rfl (by decide) (fun cc => ?_) (fun cc => ?_)
        · have k := k.1 cc
          refine Rn.iconst (n := 114) (v := 0) d_Rf_walker_113 rfl (by decide) ?_
          exact Rn.iret d_Rf_walker_114 rfl rfl k
        · have k := k.2 cc
          refine Rn.iconst (n := 110) (v := 1) d_Rf_walker_109 rfl (by decide) ?_
          refine Rn.goto (n := 114) d_Rf_walker_110 (by decide) ?_
          exact Rn.iret d_Rf_walker_114 rfl rfl k
      | j + 5, hj, _ => exact absurd hj (by omega)
  · have k := k.2 cc
    refine Rn.bipush (n := 10) (v := (-2)) d_Rf_walker_8 rfl (by decide) ?_
    exact Rn.iret d_Rf_walker_10 rfl rfl k
theorem e_Rf_walker {X : XS} (a1 : Int32) (a2 : Int32) (h : Hp) (Q : Option AV → Hp → Prop) (k : Rn X m_Rf_walker 0 [some (vR [1]), some (vI a1), some (vI a2)] [] h Q) : Ev X m_Rf_walker [vR [1], vI a1, vI a2] h Q := Ev.intro (plainFor_of_name (by decide +kernel)) (Nat.le_of_ble_eq_true rfl) (ls := [some (vR [1]), some (vI a1), some (vI a2)]) rfl k
theorem d_Rf_sizesAsTold_0 : decode m_Rf_sizesAsTold.2.1 0 = .ok (.iconst 0, 1) := by decide +kernel
theorem d_Rf_sizesAsTold_1 : decode m_Rf_sizesAsTold.2.1 1 = .ok (.istore_n 1, 1) := by decide +kernel
theorem d_Rf_sizesAsTold_2 : decode m_Rf_sizesAsTold.2.1 2 = .ok (.iload_n 1, 1) := by decide +kernel
theorem d_Rf_sizesAsTold_3 : decode m_Rf_sizesAsTold.2.1 3 = .ok (.bipush 6, 2) := by decide +kernel
theorem d_Rf_sizesAsTold_5 : decode m_Rf_sizesAsTold.2.1 5 = .ok (.if_icmp .ge 26, 3) := by decide +kernel
theorem d_Rf_sizesAsTold_8 : decode m_Rf_sizesAsTold.2.1 8 = .ok (.aload_n 0, 1) := by decide +kernel
theorem d_Rf_sizesAsTold_9 : decode m_Rf_sizesAsTold.2.1 9 = .ok (.getfield 42, 3) := by decide +kernel
theorem d_Rf_sizesAsTold_12 : decode m_Rf_sizesAsTold.2.1 12 = .ok (.iload_n 1, 1) := by decide +kernel
theorem d_Rf_sizesAsTold_13 : decode m_Rf_sizesAsTold.2.1 13 = .ok (.aload_n 0, 1) := by decide +kernel
theorem d_Rf_sizesAsTold_14 : decode m_Rf_sizesAsTold.2.1 14 = .ok (.getfield 16, 3) := by decide +kernel
theorem d_Rf_sizesAsTold_17 : decode m_Rf_sizesAsTold.2.1 17 = .ok (.bipush 6, 2) := by decide +kernel
theorem d_Rf_sizesAsTold_19 : decode m_Rf_sizesAsTold.2.1 19 = .ok (.iload_n 1, 1) := by decide +kernel
theorem d_Rf_sizesAsTold_20 : decode m_Rf_sizesAsTold.2.1 20 = .ok (.imul, 1) := by decide +kernel
theorem d_Rf_sizesAsTold_21 : decode m_Rf_sizesAsTold.2.1 21 = .ok (.iconst 4, 1) := by decide +kernel
theorem d_Rf_sizesAsTold_22 : decode m_Rf_sizesAsTold.2.1 22 = .ok (.iadd, 1) := by decide +kernel
theorem d_Rf_sizesAsTold_23 : decode m_Rf_sizesAsTold.2.1 23 = .ok (.iaload, 1) := by decide +kernel
theorem d_Rf_sizesAsTold_24 : decode m_Rf_sizesAsTold.2.1 24 = .ok (.iastore, 1) := by decide +kernel
theorem d_Rf_sizesAsTold_25 : decode m_Rf_sizesAsTold.2.1 25 = .ok (.iinc 1 1, 3) := by decide +kernel
theorem d_Rf_sizesAsTold_28 : decode m_Rf_sizesAsTold.2.1 28 = .ok (.goto (-26), 3) := by decide +kernel
theorem d_Rf_sizesAsTold_31 : decode m_Rf_sizesAsTold.2.1 31 = .ok (.return_, 1) := by decide +kernel
theorem g_Rf_sizesAsTold_0 {X : XS}  (h : Hp) (Q : Option AV → Hp → Prop)  (k : Rn X m_Rf_sizesAsTold 2 [some (vR [1]), some (vI 0)] [] h Q) : Rn X m_Rf_sizesAsTold 0 [some (vR [1]), none] [] h Q := by
  refine Rn.iconst (n := 1) (v := 0) d_Rf_sizesAsTold_0 rfl (by decide) ?_
  refine Rn.istore_n (n := 2) (i := 1) (ls2 := [some (vR [1]), some (vI 0)]) d_Rf_sizesAsTold_1 rfl rfl (Nat.le_of_ble_eq_true rfl) rfl ?_
  exact k
theorem g_Rf_sizesAsTold_2 {X : XS} (a1 : Int32) (h : Hp) (Q : Option AV → Hp → Prop)  (k : ((6 ≤ a1 → Q none h) ∧ (¬ 6 ≤ a1 → (vp_in ((6 * a1) + 4) 36 ∧ (vp_in a1 6 ∧ Rn X m_Rf_sizesAsTold 2 [some (vR [1]), some (vI (a1 + 1))] [] (hsI h [22, 1] a1.toNatClampNeg (h.1 [4, 1] ((6 * a1) + 4).toNatClampNeg)) Q))))) : Rn X m_Rf_sizesAsTold 2 [some (vR [1]), some (vI a1)] [] h Q := by
  refine Rn.iload_n (n := 3) (i := 1) d_Rf_sizesAsTold_2 rfl rfl rfl ?_
  refine Rn.bipush (n := 5) (v := 6) d_Rf_sizesAsTold_3 rfl (by decide) ?_
  refine Rn.icmp_ge (n := 8) (t := 31) d_Rf_sizesAsTold_5 rfl (by decide) (fun cc => ?_) (fun cc => ?_)
  · have k := k.1 cc
    exact Rn.vret d_Rf_sizesAsTold_31 rfl k
  · have k := k.2 cc
    refine Rn.aload_n (n := 9) (i := 0) d_Rf_sizesAsTold_8 rfl rfl rfl ?_
    refine Rn.getf (n := 12) (v := vR [22, 1]) d_Rf_sizesAsTold_9 rfl fl_Rf_42 Lv_1 rfl ?_
    refine Rn.iload_n (n := 13) (i := 1) d_Rf_sizesAsTold_12 rfl rfl rfl ?_
    refine Rn.aload_n (n := 14) (i := 0) d_Rf_sizesAsTold_13 rfl rfl rfl ?_
    refine Rn.getf (n := 17) (v := vR [4, 1]) d_Rf_sizesAsTold_14 rfl fl_Rf_16 Lv_1 rfl ?_
    refine Rn.bipush (n := 19) (v := 6) d_Rf_sizesAsTold_17 rfl (by decide) ?_
    refine Rn.iload_n (n := 20) (i := 1) d_Rf_sizesAsTold_19 rfl rfl rfl ?_
    refine Rn.imul (n := 21) d_Rf_sizesAsTold_20 rfl ?_
    refine Rn.iconst (n := 22) (v := 4) d_Rf_sizesAsTold_21 rfl (by decide) ?_
    refine Rn.iadd (n := 23) d_Rf_sizesAsTold_22 rfl ?_
    obtain ⟨b1, k⟩ := k
    refine Rn.iald (n := 24) (v := h.1 [4, 1] ((6 * a1) + 4).toNatClampNeg) d_Rf_sizesAsTold_23 rfl Lv_4_1 b1 rfl ?_
    obtain ⟨b2, k⟩ := k
    refine Rn.iast (n := 25) d_Rf_sizesAsTold_24 rfl Lv_22_1 b2 ?_
    refine Rn.iinc (n := 28) (i := 1) (v := a1 + 1) (ls2 := [some (vR [1]), some (vI (a1 + 1))]) d_Rf_sizesAsTold_25 rfl rfl rfl (Nat.le_of_ble_eq_true rfl) rfl ?_
    refine Rn.goto (n := 2) d_Rf_sizesAsTold_28 (by decide) ?_
    exact k
theorem e_Rf_sizesAsTold {X : XS}  (h : Hp) (Q : Option AV → Hp → Prop) (k : Rn X m_Rf_sizesAsTold 0 [some (vR [1]), none] [] h Q) : Ev X m_Rf_sizesAsTold [vR [1]] h Q := Ev.intro (plainFor_of_name (by decide +kernel)) (Nat.le_of_ble_eq_true rfl) (ls := [some (vR [1]), none]) rfl k
theorem d_Rf_isOn_0 : decode m_Rf_isOn.2.1 0 = .ok (.aload_n 0, 1) := by decide +kernel
theorem d_Rf_isOn_1 : decode m_Rf_isOn.2.1 1 = .ok (.getfield 70, 3) := by decide +kernel
theorem d_Rf_isOn_4 : decode m_Rf_isOn.2.1 4 = .ok (.iload_n 1, 1) := by decide +kernel
theorem d_Rf_isOn_5 : decode m_Rf_isOn.2.1 5 = .ok (.invokestatic 73, 3) := by decide +kernel
theorem d_Rf_isOn_8 : decode m_Rf_isOn.2.1 8 = .ok (.ifCond .eq 16, 3) := by decide +kernel
theorem d_Rf_isOn_11 : decode m_Rf_isOn.2.1 11 = .ok (.aload_n 0, 1) := by decide +kernel
theorem d_Rf_isOn_12 : decode m_Rf_isOn.2.1 12 = .ok (.getfield 29, 3) := by decide +kernel
theorem d_Rf_isOn_15 : decode m_Rf_isOn.2.1 15 = .ok (.iload_n 1, 1) := by decide +kernel
theorem d_Rf_isOn_16 : decode m_Rf_isOn.2.1 16 = .ok (.iaload, 1) := by decide +kernel
theorem d_Rf_isOn_17 : decode m_Rf_isOn.2.1 17 = .ok (.ifCond .le 7, 3) := by decide +kernel
theorem d_Rf_isOn_20 : decode m_Rf_isOn.2.1 20 = .ok (.iconst 1, 1) := by decide +kernel
theorem d_Rf_isOn_21 : decode m_Rf_isOn.2.1 21 = .ok (.goto 4, 3) := by decide +kernel
theorem d_Rf_isOn_24 : decode m_Rf_isOn.2.1 24 = .ok (.iconst 0, 1) := by decide +kernel
theorem d_Rf_isOn_25 : decode m_Rf_isOn.2.1 25 = .ok (.ireturn, 1) := by decide +kernel
theorem g_Rf_isOn_0 {X : XS} (a1 : Int32) (h : Hp) (Q : Option AV → Hp → Prop)  (k : (∃ Q'4, EvI X m_Rf_has [vI (h.1 [1] 3), vI a1] h Q'4 ∧ ∀ (r5 : Int32) (h3 : Hp), Q'4 r5 h3 → ((r5 = 0 → Q (some (vI 0)) h3) ∧ (¬ r5 = 0 → (vp_in a1 26 ∧ (((h3.1 [18, 1] a1.toNatClampNeg) ≤ 0 → Q (some (vI 0)) h3) ∧ (¬ (h3.1 [18, 1] a1.toNatClampNeg) ≤ 0 → Q (some (vI 1)) h3))))))) : Rn X m_Rf_isOn 0 [some (vR [1]), some (vI a1)] [] h Q := by
  refine Rn.aload_n (n := 1) (i := 0) d_Rf_isOn_0 rfl rfl rfl ?_
  refine Rn.getf (n := 4) (v := vI (h.1 [1] 3)) d_Rf_isOn_1 rfl fl_Rf_70 Lv_1 rfl ?_
  refine Rn.iload_n (n := 5) (i := 1) d_Rf_isOn_4 rfl rfl rfl ?_
  obtain ⟨Q'4, ev1, k⟩ := k
  refine Rn.callS (n := 8) (av := [vI (h.1 [1] 3), vI a1]) d_Rf_isOn_5 rfl ml_Rf_isOn_73 ms_Rf_has rfl rfl (Nat.le_of_ble_eq_true rfl) ev1 (fun v h3 hq => ?_)
  obtain ⟨r5, rfl, hq⟩ := hq
  have k := k r5 h3 hq
  show Rn X m_Rf_isOn 8 [some (vR [1]), some (vI a1)] [vI r5] h3 Q
  refine Rn.if_eq (n := 11) (t := 24) d_Rf_isOn_8 rfl (by decide) (fun cc => ?_) (fun cc => ?_)
  · have k := k.1 cc
    refine Rn.iconst (n := 25) (v := 0) d_Rf_isOn_24 rfl (by decide) ?_
    exact Rn.iret d_Rf_isOn_25 rfl rfl k
  · have k := k.2 cc
    refine Rn.aload_n (n := 12) (i := 0) d_Rf_isOn_11 rfl rfl rfl ?_
    refine Rn.getf (n := 15) (v := vR [18, 1]) d_Rf_isOn_12 rfl fl_Rf_29 Lv_1 rfl ?_
    refine Rn.iload_n (n := 16) (i := 1) d_Rf_isOn_15 rfl rfl rfl ?_
    obtain ⟨b6, k⟩ := k
    refine Rn.iald (n := 17) (v := h3.1 [18, 1] a1.toNatClampNeg) d_Rf_isOn_16 rfl Lv_18_1 b6 rfl ?_
    refine Rn.if_le (n := 20) (t := 24) d_Rf_isOn_17 rfl (by decide) (fun cc => ?_) (fun cc => ?_)
    · have k := k.1 cc
      refine Rn.iconst (n := 25) (v := 0) d_Rf_isOn_24 rfl (by decide) ?_
      exact Rn.iret d_Rf_isOn_25 rfl rfl k
    · have k := k.2 cc
      refine Rn.iconst (n := 21) (v := 1) d_Rf_isOn_20 rfl (by decide) ?_
      refine Rn.goto (n := 25) d_Rf_isOn_21 (by decide) ?_
      exact Rn.iret d_Rf_isOn_25 rfl rfl k
theorem e_Rf_isOn {X : XS} (a1 : Int32) (h : Hp) (Q : Option AV → Hp → Prop) (k : Rn X m_Rf_isOn 0 [some (vR [1]), some (vI a1)] [] h Q) : Ev X m_Rf_isOn [vR [1], vI a1] h Q := Ev.intro (plainFor_of_name (by decide +kernel)) (Nat.le_of_ble_eq_true rfl) (ls := [some (vR [1]), some (vI a1)]) rfl k
theorem d_Rf_placeOf_0 : decode m_Rf_placeOf.2.1 0 = .ok (.aload_n 0, 1) := by decide +kernel
theorem d_Rf_placeOf_1 : decode m_Rf_placeOf.2.1 1 = .ok (.getfield 29, 3) := by decide +kernel
theorem d_Rf_placeOf_4 : decode m_Rf_placeOf.2.1 4 = .ok (.iload_n 1, 1) := by decide +kernel
theorem d_Rf_placeOf_5 : decode m_Rf_placeOf.2.1 5 = .ok (.iaload, 1) := by decide +kernel
theorem d_Rf_placeOf_6 : decode m_Rf_placeOf.2.1 6 = .ok (.iconst 1, 1) := by decide +kernel
theorem d_Rf_placeOf_7 : decode m_Rf_placeOf.2.1 7 = .ok (.isub, 1) := by decide +kernel
theorem d_Rf_placeOf_8 : decode m_Rf_placeOf.2.1 8 = .ok (.iconst 4, 1) := by decide +kernel
theorem d_Rf_placeOf_9 : decode m_Rf_placeOf.2.1 9 = .ok (.idiv, 1) := by decide +kernel
theorem d_Rf_placeOf_10 : decode m_Rf_placeOf.2.1 10 = .ok (.ireturn, 1) := by decide +kernel
theorem g_Rf_placeOf_0 {X : XS} (a1 : Int32) (h : Hp) (Q : Option AV → Hp → Prop)  (k : (vp_in a1 26 ∧ Q (some (vI (((h.1 [18, 1] a1.toNatClampNeg) - 1) / 4))) h)) : Rn X m_Rf_placeOf 0 [some (vR [1]), some (vI a1)] [] h Q := by
  refine Rn.aload_n (n := 1) (i := 0) d_Rf_placeOf_0 rfl rfl rfl ?_
  refine Rn.getf (n := 4) (v := vR [18, 1]) d_Rf_placeOf_1 rfl fl_Rf_29 Lv_1 rfl ?_
  refine Rn.iload_n (n := 5) (i := 1) d_Rf_placeOf_4 rfl rfl rfl ?_
  obtain ⟨b1, k⟩ := k
  refine Rn.iald (n := 6) (v := h.1 [18, 1] a1.toNatClampNeg) d_Rf_placeOf_5 rfl Lv_18_1 b1 rfl ?_
  refine Rn.iconst (n := 7) (v := 1) d_Rf_placeOf_6 rfl (by decide) ?_
  refine Rn.isub (n := 8) d_Rf_placeOf_7 rfl ?_
  refine Rn.iconst (n := 9) (v := 4) d_Rf_placeOf_8 rfl (by decide) ?_
  refine Rn.idiv (n := 10) d_Rf_placeOf_9 rfl (by decide) ?_
  exact Rn.iret d_Rf_placeOf_10 rfl rfl k
theorem e_Rf_placeOf {X : XS} (a1 : Int32) (h : Hp) (Q : Option AV → Hp → Prop) (k : Rn X m_Rf_placeOf 0 [some (vR [1]), some (vI a1)] [] h Q) : Ev X m_Rf_placeOf [vR [1], vI a1] h Q := Ev.intro (plainFor_of_name (by decide +kernel)) (Nat.le_of_ble_eq_true rfl) (ls := [some (vR [1]), some (vI a1)]) rfl k
theorem d_Rf_laneOf_0 : decode m_Rf_laneOf.2.1 0 = .ok (.aload_n 0, 1) := by decide +kernel
theorem d_Rf_laneOf_1 : decode m_Rf_laneOf.2.1 1 = .ok (.getfield 29, 3) := by decide +kernel
theorem d_Rf_laneOf_4 : decode m_Rf_laneOf.2.1 4 = .ok (.iload_n 1, 1) := by decide +kernel
theorem d_Rf_laneOf_5 : decode m_Rf_laneOf.2.1 5 = .ok (.iaload, 1) := by decide +kernel
theorem d_Rf_laneOf_6 : decode m_Rf_laneOf.2.1 6 = .ok (.iconst 1, 1) := by decide +kernel
theorem d_Rf_laneOf_7 : decode m_Rf_laneOf.2.1 7 = .ok (.isub, 1) := by decide +kernel
theorem d_Rf_laneOf_8 : decode m_Rf_laneOf.2.1 8 = .ok (.iconst 4, 1) := by decide +kernel
theorem d_Rf_laneOf_9 : decode m_Rf_laneOf.2.1 9 = .ok (.irem, 1) := by decide +kernel
theorem d_Rf_laneOf_10 : decode m_Rf_laneOf.2.1 10 = .ok (.ireturn, 1) := by decide +kernel
theorem g_Rf_laneOf_0 {X : XS} (a1 : Int32) (h : Hp) (Q : Option AV → Hp → Prop)  (k : (vp_in a1 26 ∧ Q (some (vI (iR ((h.1 [18, 1] a1.toNatClampNeg) - 1) 4))) h)) : Rn X m_Rf_laneOf 0 [some (vR [1]), some (vI a1)] [] h Q := by
  refine Rn.aload_n (n := 1) (i := 0) d_Rf_laneOf_0 rfl rfl rfl ?_
  refine Rn.getf (n := 4) (v := vR [18, 1]) d_Rf_laneOf_1 rfl fl_Rf_29 Lv_1 rfl ?_
  refine Rn.iload_n (n := 5) (i := 1) d_Rf_laneOf_4 rfl rfl rfl ?_
  obtain ⟨b1, k⟩ := k
  refine Rn.iald (n := 6) (v := h.1 [18, 1] a1.toNatClampNeg) d_Rf_laneOf_5 rfl Lv_18_1 b1 rfl ?_
  refine Rn.iconst (n := 7) (v := 1) d_Rf_laneOf_6 rfl (by decide) ?_
  refine Rn.isub (n := 8) d_Rf_laneOf_7 rfl ?_
  refine Rn.iconst (n := 9) (v := 4) d_Rf_laneOf_8 rfl (by decide) ?_
  refine Rn.irem (n := 10) d_Rf_laneOf_9 rfl (by decide) ?_
  exact Rn.iret d_Rf_laneOf_10 rfl rfl k
theorem e_Rf_laneOf {X : XS} (a1 : Int32) (h : Hp) (Q : Option AV → Hp → Prop) (k : Rn X m_Rf_laneOf 0 [some (vR [1]), some (vI a1)] [] h Q) : Ev X m_Rf_laneOf [vR [1], vI a1] h Q := Ev.intro (plainFor_of_name (by decide +kernel)) (Nat.le_of_ble_eq_true rfl) (ls := [some (vR [1]), some (vI a1)]) rfl k
theorem d_Rf_goOne_0 : decode m_Rf_goOne.2.1 0 = .ok (.aload_n 0, 1) := by decide +kernel
theorem d_Rf_goOne_1 : decode m_Rf_goOne.2.1 1 = .ok (.getfield 16, 3) := by decide +kernel
theorem d_Rf_goOne_4 : decode m_Rf_goOne.2.1 4 = .ok (.bipush 6, 2) := by decide +kernel
theorem d_Rf_goOne_6 : decode m_Rf_goOne.2.1 6 = .ok (.iload_n 1, 1) := by decide +kernel
theorem d_Rf_goOne_7 : decode m_Rf_goOne.2.1 7 = .ok (.imul, 1) := by decide +kernel
theorem d_Rf_goOne_8 : decode m_Rf_goOne.2.1 8 = .ok (.iconst 1, 1) := by decide +kernel
theorem d_Rf_goOne_9 : decode m_Rf_goOne.2.1 9 = .ok (.iadd, 1) := by decide +kernel
theorem d_Rf_goOne_10 : decode m_Rf_goOne.2.1 10 = .ok (.iaload, 1) := by decide +kernel
theorem d_Rf_goOne_11 : decode m_Rf_goOne.2.1 11 = .ok (.istore_n 2, 1) := by decide +kernel
theorem d_Rf_goOne_12 : decode m_Rf_goOne.2.1 12 = .ok (.aload_n 0, 1) := by decide +kernel
theorem d_Rf_goOne_13 : decode m_Rf_goOne.2.1 13 = .ok (.getfield 16, 3) := by decide +kernel
theorem d_Rf_goOne_16 : decode m_Rf_goOne.2.1 16 = .ok (.bipush 6, 2) := by decide +kernel
theorem d_Rf_goOne_18 : decode m_Rf_goOne.2.1 18 = .ok (.iload_n 1, 1) := by decide +kernel
theorem d_Rf_goOne_19 : decode m_Rf_goOne.2.1 19 = .ok (.imul, 1) := by decide +kernel
theorem d_Rf_goOne_20 : decode m_Rf_goOne.2.1 20 = .ok (.iconst 5, 1) := by decide +kernel
theorem d_Rf_goOne_21 : decode m_Rf_goOne.2.1 21 = .ok (.iadd, 1) := by decide +kernel
theorem d_Rf_goOne_22 : decode m_Rf_goOne.2.1 22 = .ok (.iaload, 1) := by decide +kernel
theorem d_Rf_goOne_23 : decode m_Rf_goOne.2.1 23 = .ok (.istore_n 3, 1) := by decide +kernel
theorem d_Rf_goOne_24 : decode m_Rf_goOne.2.1 24 = .ok (.aload_n 0, 1) := by decide +kernel
theorem d_Rf_goOne_25 : decode m_Rf_goOne.2.1 25 = .ok (.iload_n 1, 1) := by decide +kernel
theorem d_Rf_goOne_26 : decode m_Rf_goOne.2.1 26 = .ok (.invokevirtual 175, 3) := by decide +kernel
theorem d_Rf_goOne_29 : decode m_Rf_goOne.2.1 29 = .ok (.iload_n 2, 1) := by decide +kernel
theorem d_Rf_goOne_30 : decode m_Rf_goOne.2.1 30 = .ok (.ifCond .ne 7, 3) := by decide +kernel
theorem d_Rf_goOne_33 : decode m_Rf_goOne.2.1 33 = .ok (.iconst 1, 1) := by decide +kernel
theorem d_Rf_goOne_34 : decode m_Rf_goOne.2.1 34 = .ok (.goto 4, 3) := by decide +kernel
theorem d_Rf_goOne_37 : decode m_Rf_goOne.2.1 37 = .ok (.iconst (-1), 1) := by decide +kernel
theorem d_Rf_goOne_38 : decode m_Rf_goOne.2.1 38 = .ok (.iadd, 1) := by decide +kernel
theorem d_Rf_goOne_39 : decode m_Rf_goOne.2.1 39 = .ok (.istore 4, 2) := by decide +kernel
theorem d_Rf_goOne_41 : decode m_Rf_goOne.2.1 41 = .ok (.iload 4, 2) := by decide +kernel
theorem d_Rf_goOne_43 : decode m_Rf_goOne.2.1 43 = .ok (.iconst 0, 1) := by decide +kernel
theorem d_Rf_goOne_44 : decode m_Rf_goOne.2.1 44 = .ok (.aload_n 0, 1) := by decide +kernel
theorem d_Rf_goOne_45 : decode m_Rf_goOne.2.1 45 = .ok (.getfield 13, 3) := by decide +kernel
theorem d_Rf_goOne_48 : decode m_Rf_goOne.2.1 48 = .ok (.iconst 1, 1) := by decide +kernel
theorem d_Rf_goOne_49 : decode m_Rf_goOne.2.1 49 = .ok (.isub, 1) := by decide +kernel
theorem d_Rf_goOne_50 : decode m_Rf_goOne.2.1 50 = .ok (.invokestatic 66, 3) := by decide +kernel
theorem d_Rf_goOne_53 : decode m_Rf_goOne.2.1 53 = .ok (.ifCond .ne 11, 3) := by decide +kernel
theorem d_Rf_goOne_56 : decode m_Rf_goOne.2.1 56 = .ok (.aload_n 0, 1) := by decide +kernel
theorem d_Rf_goOne_57 : decode m_Rf_goOne.2.1 57 = .ok (.getfield 29, 3) := by decide +kernel
theorem d_Rf_goOne_60 : decode m_Rf_goOne.2.1 60 = .ok (.iload_n 1, 1) := by decide +kernel
theorem d_Rf_goOne_61 : decode m_Rf_goOne.2.1 61 = .ok (.iconst (-1), 1) := by decide +kernel
theorem d_Rf_goOne_62 : decode m_Rf_goOne.2.1 62 = .ok (.iastore, 1) := by decide +kernel
theorem d_Rf_goOne_63 : decode m_Rf_goOne.2.1 63 = .ok (.return_, 1) := by decide +kernel
theorem d_Rf_goOne_64 : decode m_Rf_goOne.2.1 64 = .ok (.aload_n 0, 1) := by decide +kernel
theorem d_Rf_goOne_65 : decode m_Rf_goOne.2.1 65 = .ok (.iconst 4, 1) := by decide +kernel
theorem d_Rf_goOne_66 : decode m_Rf_goOne.2.1 66 = .ok (.iload 4, 2) := by decide +kernel
theorem d_Rf_goOne_68 : decode m_Rf_goOne.2.1 68 = .ok (.imul, 1) := by decide +kernel
theorem d_Rf_goOne_69 : decode m_Rf_goOne.2.1 69 = .ok (.aload_n 0, 1) := by decide +kernel
theorem d_Rf_goOne_70 : decode m_Rf_goOne.2.1 70 = .ok (.iload_n 1, 1) := by decide +kernel
theorem d_Rf_goOne_71 : decode m_Rf_goOne.2.1 71 = .ok (.invokevirtual 178, 3) := by decide +kernel
theorem d_Rf_goOne_74 : decode m_Rf_goOne.2.1 74 = .ok (.iadd, 1) := by decide +kernel
theorem d_Rf_goOne_75 : decode m_Rf_goOne.2.1 75 = .ok (.invokevirtual 168, 3) := by decide +kernel
theorem d_Rf_goOne_78 : decode m_Rf_goOne.2.1 78 = .ok (.iconst (-1), 1) := by decide +kernel
theorem d_Rf_goOne_79 : decode m_Rf_goOne.2.1 79 = .ok (.if_icmp .ne 22, 3) := by decide +kernel
theorem d_Rf_goOne_82 : decode m_Rf_goOne.2.1 82 = .ok (.aload_n 0, 1) := by decide +kernel
theorem d_Rf_goOne_83 : decode m_Rf_goOne.2.1 83 = .ok (.getfield 29, 3) := by decide +kernel
theorem d_Rf_goOne_86 : decode m_Rf_goOne.2.1 86 = .ok (.iload_n 1, 1) := by decide +kernel
theorem d_Rf_goOne_87 : decode m_Rf_goOne.2.1 87 = .ok (.iconst 4, 1) := by decide +kernel
theorem d_Rf_goOne_88 : decode m_Rf_goOne.2.1 88 = .ok (.iload 4, 2) := by decide +kernel
theorem d_Rf_goOne_90 : decode m_Rf_goOne.2.1 90 = .ok (.imul, 1) := by decide +kernel
theorem d_Rf_goOne_91 : decode m_Rf_goOne.2.1 91 = .ok (.aload_n 0, 1) := by decide +kernel
theorem d_Rf_goOne_92 : decode m_Rf_goOne.2.1 92 = .ok (.iload_n 1, 1) := by decide +kernel
theorem d_Rf_goOne_93 : decode m_Rf_goOne.2.1 93 = .ok (.invokevirtual 178, 3) := by decide +kernel
theorem d_Rf_goOne_96 : decode m_Rf_goOne.2.1 96 = .ok (.iadd, 1) := by decide +kernel
theorem d_Rf_goOne_97 : decode m_Rf_goOne.2.1 97 = .ok (.iconst 1, 1) := by decide +kernel
theorem d_Rf_goOne_98 : decode m_Rf_goOne.2.1 98 = .ok (.iadd, 1) := by decide +kernel
theorem d_Rf_goOne_99 : decode m_Rf_goOne.2.1 99 = .ok (.iastore, 1) := by decide +kernel
theorem d_Rf_goOne_100 : decode m_Rf_goOne.2.1 100 = .ok (.return_, 1) := by decide +kernel
theorem d_Rf_goOne_101 : decode m_Rf_goOne.2.1 101 = .ok (.aload_n 0, 1) := by decide +kernel
theorem d_Rf_goOne_102 : decode m_Rf_goOne.2.1 102 = .ok (.iload_n 1, 1) := by decide +kernel
theorem d_Rf_goOne_103 : decode m_Rf_goOne.2.1 103 = .ok (.invokevirtual 178, 3) := by decide +kernel
theorem d_Rf_goOne_106 : decode m_Rf_goOne.2.1 106 = .ok (.iload_n 3, 1) := by decide +kernel
theorem d_Rf_goOne_107 : decode m_Rf_goOne.2.1 107 = .ok (.iconst 1, 1) := by decide +kernel
theorem d_Rf_goOne_108 : decode m_Rf_goOne.2.1 108 = .ok (.if_icmp .ne 7, 3) := by decide +kernel
theorem d_Rf_goOne_111 : decode m_Rf_goOne.2.1 111 = .ok (.iconst 1, 1) := by decide +kernel
theorem d_Rf_goOne_112 : decode m_Rf_goOne.2.1 112 = .ok (.goto 4, 3) := by decide +kernel
theorem d_Rf_goOne_115 : decode m_Rf_goOne.2.1 115 = .ok (.iconst 0, 1) := by decide +kernel
theorem d_Rf_goOne_116 : decode m_Rf_goOne.2.1 116 = .ok (.iload_n 2, 1) := by decide +kernel
theorem d_Rf_goOne_117 : decode m_Rf_goOne.2.1 117 = .ok (.ifCond .ne 7, 3) := by decide +kernel
theorem d_Rf_goOne_120 : decode m_Rf_goOne.2.1 120 = .ok (.iconst 1, 1) := by decide +kernel
theorem d_Rf_goOne_121 : decode m_Rf_goOne.2.1 121 = .ok (.goto 4, 3) := by decide +kernel
theorem d_Rf_goOne_124 : decode m_Rf_goOne.2.1 124 = .ok (.iconst 0, 1) := by decide +kernel
theorem d_Rf_goOne_125 : decode m_Rf_goOne.2.1 125 = .ok (.if_icmp .ne 7, 3) := by decide +kernel
theorem d_Rf_goOne_128 : decode m_Rf_goOne.2.1 128 = .ok (.iconst (-1), 1) := by decide +kernel
theorem d_Rf_goOne_129 : decode m_Rf_goOne.2.1 129 = .ok (.goto 4, 3) := by decide +kernel
theorem d_Rf_goOne_132 : decode m_Rf_goOne.2.1 132 = .ok (.iconst 1, 1) := by decide +kernel
theorem d_Rf_goOne_133 : decode m_Rf_goOne.2.1 133 = .ok (.iadd, 1) := by decide +kernel
theorem d_Rf_goOne_134 : decode m_Rf_goOne.2.1 134 = .ok (.istore 5, 2) := by decide +kernel
theorem d_Rf_goOne_136 : decode m_Rf_goOne.2.1 136 = .ok (.iload_n 3, 1) := by decide +kernel
theorem d_Rf_goOne_137 : decode m_Rf_goOne.2.1 137 = .ok (.ifCond .le 57, 3) := by decide +kernel
theorem d_Rf_goOne_140 : decode m_Rf_goOne.2.1 140 = .ok (.iload 5, 2) := by decide +kernel
theorem d_Rf_goOne_142 : decode m_Rf_goOne.2.1 142 = .ok (.iconst 0, 1) := by decide +kernel
theorem d_Rf_goOne_143 : decode m_Rf_goOne.2.1 143 = .ok (.aload_n 0, 1) := by decide +kernel
theorem d_Rf_goOne_144 : decode m_Rf_goOne.2.1 144 = .ok (.getfield 7, 3) := by decide +kernel
theorem d_Rf_goOne_147 : decode m_Rf_goOne.2.1 147 = .ok (.iconst 1, 1) := by decide +kernel
theorem d_Rf_goOne_148 : decode m_Rf_goOne.2.1 148 = .ok (.isub, 1) := by decide +kernel
theorem d_Rf_goOne_149 : decode m_Rf_goOne.2.1 149 = .ok (.invokestatic 66, 3) := by decide +kernel
theorem d_Rf_goOne_152 : decode m_Rf_goOne.2.1 152 = .ok (.ifCond .eq 42, 3) := by decide +kernel
theorem d_Rf_goOne_155 : decode m_Rf_goOne.2.1 155 = .ok (.aload_n 0, 1) := by decide +kernel
theorem d_Rf_goOne_156 : decode m_Rf_goOne.2.1 156 = .ok (.iconst 4, 1) := by decide +kernel
theorem d_Rf_goOne_157 : decode m_Rf_goOne.2.1 157 = .ok (.aload_n 0, 1) := by decide +kernel
theorem d_Rf_goOne_158 : decode m_Rf_goOne.2.1 158 = .ok (.iload_n 1, 1) := by decide +kernel
theorem d_Rf_goOne_159 : decode m_Rf_goOne.2.1 159 = .ok (.invokevirtual 175, 3) := by decide +kernel
theorem d_Rf_goOne_162 : decode m_Rf_goOne.2.1 162 = .ok (.imul, 1) := by decide +kernel
theorem d_Rf_goOne_163 : decode m_Rf_goOne.2.1 163 = .ok (.iload 5, 2) := by decide +kernel
theorem d_Rf_goOne_165 : decode m_Rf_goOne.2.1 165 = .ok (.iadd, 1) := by decide +kernel
theorem d_Rf_goOne_166 : decode m_Rf_goOne.2.1 166 = .ok (.invokevirtual 168, 3) := by decide +kernel
theorem d_Rf_goOne_169 : decode m_Rf_goOne.2.1 169 = .ok (.iconst (-1), 1) := by decide +kernel
theorem d_Rf_goOne_170 : decode m_Rf_goOne.2.1 170 = .ok (.if_icmp .ne 24, 3) := by decide +kernel
theorem d_Rf_goOne_173 : decode m_Rf_goOne.2.1 173 = .ok (.aload_n 0, 1) := by decide +kernel
theorem d_Rf_goOne_174 : decode m_Rf_goOne.2.1 174 = .ok (.getfield 29, 3) := by decide +kernel
theorem d_Rf_goOne_177 : decode m_Rf_goOne.2.1 177 = .ok (.iload_n 1, 1) := by decide +kernel
theorem d_Rf_goOne_178 : decode m_Rf_goOne.2.1 178 = .ok (.iconst 4, 1) := by decide +kernel
theorem d_Rf_goOne_179 : decode m_Rf_goOne.2.1 179 = .ok (.aload_n 0, 1) := by decide +kernel
theorem d_Rf_goOne_180 : decode m_Rf_goOne.2.1 180 = .ok (.iload_n 1, 1) := by decide +kernel
theorem d_Rf_goOne_181 : decode m_Rf_goOne.2.1 181 = .ok (.invokevirtual 175, 3) := by decide +kernel
theorem d_Rf_goOne_184 : decode m_Rf_goOne.2.1 184 = .ok (.imul, 1) := by decide +kernel
theorem d_Rf_goOne_185 : decode m_Rf_goOne.2.1 185 = .ok (.iload 5, 2) := by decide +kernel
theorem d_Rf_goOne_187 : decode m_Rf_goOne.2.1 187 = .ok (.iadd, 1) := by decide +kernel
theorem d_Rf_goOne_188 : decode m_Rf_goOne.2.1 188 = .ok (.iconst 1, 1) := by decide +kernel
theorem d_Rf_goOne_189 : decode m_Rf_goOne.2.1 189 = .ok (.iadd, 1) := by decide +kernel
theorem d_Rf_goOne_190 : decode m_Rf_goOne.2.1 190 = .ok (.iastore, 1) := by decide +kernel
theorem d_Rf_goOne_191 : decode m_Rf_goOne.2.1 191 = .ok (.goto 16, 3) := by decide +kernel
theorem d_Rf_goOne_194 : decode m_Rf_goOne.2.1 194 = .ok (.aload_n 0, 1) := by decide +kernel
theorem d_Rf_goOne_195 : decode m_Rf_goOne.2.1 195 = .ok (.getfield 29, 3) := by decide +kernel
theorem d_Rf_goOne_198 : decode m_Rf_goOne.2.1 198 = .ok (.bipush 18, 2) := by decide +kernel
theorem d_Rf_goOne_200 : decode m_Rf_goOne.2.1 200 = .ok (.iload_n 1, 1) := by decide +kernel
theorem d_Rf_goOne_201 : decode m_Rf_goOne.2.1 201 = .ok (.iadd, 1) := by decide +kernel
theorem d_Rf_goOne_202 : decode m_Rf_goOne.2.1 202 = .ok (.dup2, 1) := by decide +kernel
theorem d_Rf_goOne_203 : decode m_Rf_goOne.2.1 203 = .ok (.iaload, 1) := by decide +kernel
theorem d_Rf_goOne_204 : decode m_Rf_goOne.2.1 204 = .ok (.iconst 1, 1) := by decide +kernel
theorem d_Rf_goOne_205 : decode m_Rf_goOne.2.1 205 = .ok (.iadd, 1) := by decide +kernel
theorem d_Rf_goOne_206 : decode m_Rf_goOne.2.1 206 = .ok (.iastore, 1) := by decide +kernel
theorem d_Rf_goOne_207 : decode m_Rf_goOne.2.1 207 = .ok (.return_, 1) := by decide +kernel
theorem g_Rf_goOne_0 {X : XS} (a1 : Int32) (h : Hp) (Q : Option AV → Hp → Prop)  (k : (vp_in ((6 * a1) + 1) 36 ∧ (vp_in ((6 * a1) + 5) 36 ∧ (∃ Q'6, EvI X m_Rf_placeOf [vR [1], vI a1] h Q'6 ∧ ∀ (r7 : Int32) (h5 : Hp), Q'6 r7 h5 → ((¬ (h.1 [4, 1] ((6 * a1) + 1).toNatClampNeg) = 0 → Rn X m_Rf_goOne 38 [some (vR [1]), some (vI a1), some (vI (h.1 [4, 1] ((6 * a1) + 1).toNatClampNeg)), some (vI (h.1 [4, 1] ((6 * a1) + 5).toNatClampNeg)), none, none] [vI (-1), vI r7] h5 Q) ∧ ((h.1 [4, 1] ((6 * a1) + 1).toNatClampNeg) = 0 → Rn X m_Rf_goOne 38 [some (vR [1]), some (vI a1), some (vI (h.1 [4, 1] ((6 * a1) + 1).toNatClampNeg)), some (vI (h.1 [4, 1] ((6 * a1) + 5).toNatClampNeg)), none, none] [vI 1, vI r7] h5 Q)))))) : Rn X m_Rf_goOne 0 [some (vR [1]), some (vI a1), none, none, none, none] [] h Q := by
  refine Rn.aload_n (n := 1) (i := 0) d_Rf_goOne_0 rfl rfl rfl ?_
  refine Rn.getf (n := 4) (v := vR [4, 1]) d_Rf_goOne_1 rfl fl_Rf_16 Lv_1 rfl ?_
  refine Rn.bipush (n := 6) (v := 6) d_Rf_goOne_4 rfl (by decide) ?_
  refine Rn.iload_n (n := 7) (i := 1) d_Rf_goOne_6 rfl rfl rfl ?_
  refine Rn.imul (n := 8) d_Rf_goOne_7 rfl ?_
  refine Rn.iconst (n := 9) (v := 1) d_Rf_goOne_8 rfl (by decide) ?_
  refine Rn.iadd (n := 10) d_Rf_goOne_9 rfl ?_
  obtain ⟨b1, k⟩ := k
  refine Rn.iald (n := 11) (v := h.1 [4, 1] ((6 * a1) + 1).toNatClampNeg) d_Rf_goOne_10 rfl Lv_4_1 b1 rfl ?_
  refine Rn.istore_n (n := 12) (i := 2) (ls2 := [some (vR [1]), some (vI a1), some (vI (h.1 [4, 1] ((6 * a1) + 1).toNatClampNeg)), none, none, none]) d_Rf_goOne_11 rfl rfl (Nat.le_of_ble_eq_true rfl) rfl ?_
  refine Rn.aload_n (n := 13) (i := 0) d_Rf_goOne_12 rfl rfl rfl ?_
  refine Rn.getf (n := 16) (v := vR [4, 1]) d_Rf_goOne_13 rfl fl_Rf_16 Lv_1 rfl ?_
  refine Rn.bipush (n := 18) (v := 6) d_Rf_goOne_16 rfl (by decide) ?_
  refine Rn.iload_n (n := 19) (i := 1) d_Rf_goOne_18 rfl rfl rfl ?_
  refine Rn.imul (n := 20) d_Rf_goOne_19 rfl ?_
  refine Rn.iconst (n := 21) (v := 5) d_Rf_goOne_20 rfl (by decide) ?_
  refine Rn.iadd (n := 22) d_Rf_goOne_21 rfl ?_
  obtain ⟨b2, k⟩ := k
  refine Rn.iald (n := 23) (v := h.1 [4, 1] ((6 * a1) + 5).toNatClampNeg) d_Rf_goOne_22 rfl Lv_4_1 b2 rfl ?_
  refine Rn.istore_n (n := 24) (i := 3) (ls2 := [some (vR [1]), some (vI a1), some (vI (h.1 [4, 1] ((6 * a1) + 1).toNatClampNeg)), some (vI (h.1 [4, 1] ((6 * a1) + 5).toNatClampNeg)), none, none]) d_Rf_goOne_23 rfl rfl (Nat.le_of_ble_eq_true rfl) rfl ?_
  refine Rn.aload_n (n := 25) (i := 0) d_Rf_goOne_24 rfl rfl rfl ?_
  refine Rn.iload_n (n := 26) (i := 1) d_Rf_goOne_25 rfl rfl rfl ?_
  obtain ⟨Q'6, ev3, k⟩ := k
  refine Rn.callV (n := 29) (av := [vI a1]) d_Rf_goOne_26 rfl ml_Rf_goOne_175 mi_Rf_placeOf Lv_1 rfl rfl rfl rfl (Nat.le_of_ble_eq_true rfl) ev3 (fun v h5 hq => ?_)
  obtain ⟨r7, rfl, hq⟩ := hq
  have k := k r7 h5 hq
  show Rn X m_Rf_goOne 29 [some (vR [1]), some (vI a1), some (vI (h.1 [4, 1] ((6 * a1) + 1).toNatClampNeg)), some (vI (h.1 [4, 1] ((6 * a1) + 5).toNatClampNeg)), none, none] [vI r7] h5 Q
  refine Rn.iload_n (n := 30) (i := 2) d_Rf_goOne_29 rfl rfl rfl ?_
  refine Rn.if_ne (n := 33) (t := 37) d_Rf_goOne_30 rfl (by decide) (fun cc => ?_) (fun cc => ?_)
  · have k := k.1 cc
    refine Rn.iconst (n := 38) (v := (-1)) d_Rf_goOne_37 rfl (by decide) ?_
    exact k
  · have k := k.2 cc
    refine Rn.iconst (n := 34) (v := 1) d_Rf_goOne_33 rfl (by decide) ?_
    refine Rn.goto (n := 38) d_Rf_goOne_34 (by decide) ?_
    exact k
theorem g_Rf_goOne_38 {X : XS} (a1 : Int32) (a2 : Int32) (a3 : Int32) (s0 : Int32) (s1 : Int32) (h : Hp) (Q : Option AV → Hp → Prop)  (k : (∃ Q'4, EvI X m_Rf_in [vI (s1 + s0), vI 0, vI ((h.1 [1] 1) - 1)] h Q'4 ∧ ∀ (r5 : Int32) (h3 : Hp), Q'4 r5 h3 → ((¬ r5 = 0 → (∃ Q'9, EvI X m_Rf_laneOf [vR [1], vI a1] h3 Q'9 ∧ ∀ (r10 : Int32) (h8 : Hp), Q'9 r10 h8 → (∃ Q'14, EvI X m_Rf_whoAt [vR [1], vI ((4 * (s1 + s0)) + r10)] h8 Q'14 ∧ ∀ (r15 : Int32) (h13 : Hp), Q'14 r15 h13 → ((¬ r15 = (-1) → (∃ Q'19, EvI X m_Rf_laneOf [vR [1], vI a1] h13 Q'19 ∧ ∀ (r20 : Int32) (h18 : Hp), Q'19 r20 h18 → ((¬ a3 = 1 → Rn X m_Rf_goOne 116 [some (vR [1]), some (vI a1), some (vI a2), some (vI a3), some (vI (s1 + s0)), none] [vI 0, vI r20] h18 Q) ∧ (a3 = 1 → Rn X m_Rf_goOne 116 [some (vR [1]), some (vI a1), some (vI a2), some (vI a3), some (vI (s1 + s0)), none] [vI 1, vI r20] h18 Q)))) ∧ (r15 = (-1) → (∃ Q'24, EvI X m_Rf_laneOf [vR [1], vI a1] h13 Q'24 ∧ ∀ (r25 : Int32) (h23 : Hp), Q'24 r25 h23 → (vp_in a1 26 ∧ Q none (hsI h23 [18, 1] a1.toNatClampNeg (((4 * (s1 + s0)) + r25) + 1))))))))) ∧ (r5 = 0 → (vp_in a1 26 ∧ Q none (hsI h3 [18, 1] a1.toNatClampNeg (-1))))))) : Rn X m_Rf_goOne 38 [some (vR [1]), some (vI a1), some (vI a2), some (vI a3), none, none] [vI s0, vI s1] h Q := by
  refine Rn.iadd (n := 39) d_Rf_goOne_38 rfl ?_
  refine Rn.istore (n := 41) (i := 4) (ls2 := [some (vR [1]), some (vI a1), some (vI a2), some (vI a3), some (vI (s1 + s0)), none]) d_Rf_goOne_39 rfl (Nat.le_of_ble_eq_true rfl) rfl ?_
  refine Rn.iload (n := 43) (i := 4) d_Rf_goOne_41 rfl rfl ?_
  refine Rn.iconst (n := 44) (v := 0) d_Rf_goOne_43 rfl (by decide) ?_
  refine Rn.aload_n (n := 45) (i := 0) d_Rf_goOne_44 rfl rfl rfl ?_
  refine Rn.getf (n := 48) (v := vI (h.1 [1] 1)) d_Rf_goOne_45 rfl fl_Rf_13 Lv_1 rfl ?_
  refine Rn.iconst (n := 49) (v := 1) d_Rf_goOne_48 rfl (by decide) ?_
  refine Rn.isub (n := 50) d_Rf_goOne_49 rfl ?_
  obtain ⟨Q'4, ev1, k⟩ := k
  refine Rn.callS (n := 53) (av := [vI (s1 + s0), vI 0, vI ((h.1 [1] 1) - 1)]) d_Rf_goOne_50 rfl ml_Rf_goOne_66 ms_Rf_in rfl rfl (Nat.le_of_ble_eq_true rfl) ev1 (fun v h3 hq => ?_)
  obtain ⟨r5, rfl, hq⟩ := hq
  have k := k r5 h3 hq
  show Rn X m_Rf_goOne 53 [some (vR [1]), some (vI a1), some (vI a2), some (vI a3), some (vI (s1 + s0)), none] [vI r5] h3 Q
  refine Rn.if_ne (n := 56) (t := 64) d_Rf_goOne_53 rfl (by decide) (fun cc => ?_) (fun cc => ?_)
  · have k := k.1 cc
    refine Rn.aload_n (n := 65) (i := 0) d_Rf_goOne_64 rfl rfl rfl ?_
    refine Rn.iconst (n := 66) (v := 4) d_Rf_goOne_65 rfl (by decide) ?_
    refine Rn.iload (n := 68) (i := 4) d_Rf_goOne_66 rfl rfl ?_
    refine Rn.imul (n := 69) d_Rf_goOne_68 rfl ?_
    refine Rn.aload_n (n := 70) (i := 0) d_Rf_goOne_69 rfl rfl rfl ?_
    refine Rn.iload_n (n := 71) (i := 1) d_Rf_goOne_70 rfl rfl rfl ?_
    obtain ⟨Q'9, ev6, k⟩ := k
    refine Rn.callV (n := 74) (av := [vI a1]) d_Rf_goOne_71 rfl ml_Rf_goOne_178 mi_Rf_laneOf Lv_1 rfl rfl rfl rfl (Nat.le_of_ble_eq_true rfl) ev6 (fun v h8 hq => ?_)
    obtain ⟨r10, rfl, hq⟩ := hq
    have k := k r10 h8 hq
    show Rn X m_Rf_goOne 74 [some (vR [1]), some (vI a1), some (vI a2), some (vI a3), some (vI (s1 + s0)), none] [vI r10, vI (4 * (s1 + s0)), vR [1]] h8 Q
    refine Rn.iadd (n := 75) d_Rf_goOne_74 rfl ?_
    obtain ⟨Q'14, ev11, k⟩ := k
    refine Rn.callV (n := 78) (av := [vI ((4 * (s1 + s0)) + r10)]) d_Rf_goOne_75 rfl ml_Rf_goOne_168 mi_Rf_whoAt Lv_1 rfl rfl rfl rfl (Nat.le_of_ble_eq_true rfl) ev11 (fun v h13 hq => ?_)
    obtain ⟨r15, rfl, hq⟩ := hq
    have k := k r15 h13 hq
    show Rn X m_Rf_goOne 78 [some (vR [1]), some (vI a1), some (vI a2), some (vI a3), some (vI (s1 + s0)), none] [vI r15] h13 Q
    refine Rn.iconst (n := 79) (v := (-1)) d_Rf_goOne_78 rfl (by decide) ?_
    refine Rn.icmp_ne (n := 82) (t := 101) d_Rf_goOne_79 rfl (by decide) (fun cc => ?_) (fun cc => ?_)
    · have k := k.1 cc
      refine Rn.aload_n (n := 102) (i := 0) d_Rf_goOne_101 rfl rfl rfl ?_
      refine Rn.iload_n (n := 103) (i := 1) d_Rf_goOne_102 rfl rfl rfl ?_
      obtain ⟨Q'19, ev16, k⟩ := k
      refine Rn.callV (n := 106) (av := [vI a1]) d_Rf_goOne_103 rfl ml_Rf_goOne_178 mi_Rf_laneOf Lv_1 rfl rfl rfl rfl (Nat.le_of_ble_eq_true rfl) ev16 (fun v h18 hq => ?_)
      obtain ⟨r20, rfl, hq⟩ := hq
      have k := k r20 h18 hq
      show Rn X m_Rf_goOne 106 [some (vR [1]), some (vI a1), some (vI a2), some (vI a3), some (vI (s1 + s0)), none] [vI r20] h18 Q
      refine Rn.iload_n (n := 107) (i := 3) d_Rf_goOne_106 rfl rfl rfl ?_
      refine Rn.iconst (n := 108) (v := 1) d_Rf_goOne_107 rfl (by decide) ?_
      refine Rn.icmp_ne (n := 111) (t := 115) d_Rf_goOne_108 rfl (by decide) (fun cc => ?_) (fun cc => ?_)
      · have k := k.1 cc
        refine Rn.iconst (n := 116) (v := 0) d_Rf_goOne_115 rfl (by decide) ?_
        exact k
      · have k := k.2 cc
        refine Rn.iconst (n := 112) (v := 1) d_Rf_goOne_111 rfl (by decide) ?_
        refine Rn.goto (n := 116) d_Rf_goOne_112 (by decide) ?_
        exact k
    · have k := k.2 cc
      refine Rn.aload_n (n := 83) (i := 0) d_Rf_goOne_82 rfl rfl rfl ?_
      refine Rn.getf (n := 86) (v := vR [18, 1]) d_Rf_goOne_83 rfl fl_Rf_29 Lv_1 rfl ?_
      refine Rn.iload_n (n := 87) (i := 1) d_Rf_goOne_86 rfl rfl rfl ?_
      refine Rn.iconst (n := 88) (v := 4) d_Rf_goOne_87 rfl (by decide) ?_
      refine Rn.iload (n := 90) (i := 4) d_Rf_goOne_88 rfl rfl ?_
      refine Rn.imul (n := 91) d_Rf_goOne_90 rfl ?_
      refine Rn.aload_n (n := 92) (i := 0) d_Rf_goOne_91 rfl rfl rfl ?_
      refine Rn.iload_n (n := 93) (i := 1) d_Rf_goOne_92 rfl rfl rfl ?_
      obtain ⟨Q'24, ev21, k⟩ := k
      refine Rn.callV (n := 96) (av := [vI a1]) d_Rf_goOne_93 rfl ml_Rf_goOne_178 mi_Rf_laneOf Lv_1 rfl rfl rfl rfl (Nat.le_of_ble_eq_true rfl) ev21 (fun v h23 hq => ?_)
      obtain ⟨r25, rfl, hq⟩ := hq
      have k := k r25 h23 hq
      show Rn X m_Rf_goOne 96 [some (vR [1]), some (vI a1), some (vI a2), some (vI a3), some (vI (s1 + s0)), none] [vI r25, vI (4 * (s1 + s0)), vI a1, vR [18, 1]] h23 Q
      refine Rn.iadd (n := 97) d_Rf_goOne_96 rfl ?_
      refine Rn.iconst (n := 98) (v := 1) d_Rf_goOne_97 rfl (by decide) ?_
      refine Rn.iadd (n := 99) d_Rf_goOne_98 rfl ?_
      obtain ⟨b26, k⟩ := k
      refine Rn.iast (n := 100) d_Rf_goOne_99 rfl Lv_18_1 b26 ?_
      exact Rn.vret d_Rf_goOne_100 rfl k
  · have k := k.2 cc
    refine Rn.aload_n (n := 57) (i := 0) d_Rf_goOne_56 rfl rfl rfl ?_
    refine Rn.getf (n := 60) (v := vR [18, 1]) d_Rf_goOne_57 rfl fl_Rf_29 Lv_1 rfl ?_
    refine Rn.iload_n (n := 61) (i := 1) d_Rf_goOne_60 rfl rfl rfl ?_
    refine Rn.iconst (n := 62) (v := (-1)) d_Rf_goOne_61 rfl (by decide) ?_
    obtain ⟨b27, k⟩ := k
    refine Rn.iast (n := 63) d_Rf_goOne_62 rfl Lv_18_1 b27 ?_
    exact Rn.vret d_Rf_goOne_63 rfl k
theorem g_Rf_goOne_116 {X : XS} (a1 : Int32) (a2 : Int32) (a3 : Int32) (a4 : Int32) (s0 : Int32) (s1 : Int32) (h : Hp) (Q : Option AV → Hp → Prop)  (k : ((¬ a2 = 0 → Rn X m_Rf_goOne 125 [some (vR [1]), some (vI a1), some (vI a2), some (vI a3), some (vI a4), none] [vI 0, vI s0, vI s1] h Q) ∧ (a2 = 0 → Rn X m_Rf_goOne 125 [some (vR [1]), some (vI a1), some (vI a2), some (vI a3), some (vI a4), none] [vI 1, vI s0, vI s1] h Q))) : Rn X m_Rf_goOne 116 [some (vR [1]), some (vI a1), some (vI a2), some (vI a3), some (vI a4), none] [vI s0, vI s1] h Q := by
  refine Rn.iload_n (n := 117) (i := 2) d_Rf_goOne_116 rfl rfl rfl ?_
  refine Rn.if_ne (n := 120) (t := 124) d_Rf_goOne_117 rfl (by decide) (fun cc => ?_) (fun cc => ?_)
  · have k := k.1 cc
    refine Rn.iconst (n := 125) (v := 0) d_Rf_goOne_124 rfl (by decide) ?_
    exact k
  · have k := k.2 cc
    refine Rn.iconst (n := 121) (v := 1) d_Rf_goOne_120 rfl (by decide) ?_
    refine Rn.goto (n := 125) d_Rf_goOne_121 (by decide) ?_
    exact k
theorem g_Rf_goOne_125 {X : XS} (a1 : Int32) (a2 : Int32) (a3 : Int32) (a4 : Int32) (s0 : Int32) (s1 : Int32) (s2 : Int32) (h : Hp) (Q : Option AV → Hp → Prop)  (k : ((¬ s1 = s0 → Rn X m_Rf_goOne 133 [some (vR [1]), some (vI a1), some (vI a2), some (vI a3), some (vI a4), none] [vI 1, vI s2] h Q) ∧ (s1 = s0 → Rn X m_Rf_goOne 133 [some (vR [1]), some (vI a1), some (vI a2), some (vI a3), some (vI a4), none] [vI (-1), vI s2] h Q))) : Rn X m_Rf_goOne 125 [some (vR [1]), some (vI a1), some (vI a2), some (vI a3), some (vI a4), none] [vI s0, vI s1, vI s2] h Q := by
  refine Rn.icmp_ne (n := 128) (t := 132) d_Rf_goOne_125 rfl (by decide) (fun cc => ?_) (fun cc => ?_)
  · have k := k.1 cc
    refine Rn.iconst (n := 133) (v := 1) d_Rf_goOne_132 rfl (by decide) ?_
    exact k
  · have k := k.2 cc
    refine Rn.iconst (n := 129) (v := (-1)) d_Rf_goOne_128 rfl (by decide) ?_
    refine Rn.goto (n := 133) d_Rf_goOne_129 (by decide) ?_
    exact k
theorem g_Rf_goOne_133 {X : XS} (a1 : Int32) (a2 : Int32) (a3 : Int32) (a4 : Int32) (s0 : Int32) (s1 : Int32) (h : Hp) (Q : Option AV → Hp → Prop)  (k : ((a3 ≤ 0 → (vp_in (18 + a1) 26 ∧ (vp_in (18 + a1) 26 ∧ Q none (hsI h [18, 1] ((18 + a1).toNatClampNeg) ((h.1 [18, 1] (18 + a1).toNatClampNeg) + 1))))) ∧ (¬ a3 ≤ 0 → (∃ Q'6, EvI X m_Rf_in [vI (s1 + s0), vI 0, vI ((h.1 [1] 0) - 1)] h Q'6 ∧ ∀ (r7 : Int32) (h5 : Hp), Q'6 r7 h5 → ((r7 = 0 → (vp_in (18 + a1) 26 ∧ (vp_in (18 + a1) 26 ∧ Q none (hsI h5 [18, 1] ((18 + a1).toNatClampNeg) ((h5.1 [18, 1] (18 + a1).toNatClampNeg) + 1))))) ∧ (¬ r7 = 0 → (∃ Q'13, EvI X m_Rf_placeOf [vR [1], vI a1] h5 Q'13 ∧ ∀ (r14 : Int32) (h12 : Hp), Q'13 r14 h12 → (∃ Q'18, EvI X m_Rf_whoAt [vR [1], vI ((4 * r14) + (s1 + s0))] h12 Q'18 ∧ ∀ (r19 : Int32) (h17 : Hp), Q'18 r19 h17 → ((¬ r19 = (-1) → (vp_in (18 + a1) 26 ∧ (vp_in (18 + a1) 26 ∧ Q none (hsI h17 [18, 1] ((18 + a1).toNatClampNeg) ((h17.1 [18, 1] (18 + a1).toNatClampNeg) + 1))))) ∧ (r19 = (-1) → (∃ Q'25, EvI X m_Rf_placeOf [vR [1], vI a1] h17 Q'25 ∧ ∀ (r26 : Int32) (h24 : Hp), Q'25 r26 h24 → (vp_in a1 26 ∧ Q none (hsI h24 [18, 1] a1.toNatClampNeg (((4 * r26) + (s1 + s0)) + 1)))))))))))))) : Rn X m_Rf_goOne 133 [some (vR [1]), some (vI a1), some (vI a2), some (vI a3), some (vI a4), none] [vI s0, vI s1] h Q := by
  refine Rn.iadd (n := 134) d_Rf_goOne_133 rfl ?_
  refine Rn.istore (n := 136) (i := 5) (ls2 := [some (vR [1]), some (vI a1), some (vI a2), some (vI a3), some (vI a4), some (vI (s1 + s0))]) d_Rf_goOne_134 rfl (Nat.le_of_ble_eq_true rfl) rfl ?_
  refine Rn.iload_n (n := 137) (i := 3) d_Rf_goOne_136 rfl rfl rfl ?_
  refine Rn.if_le (n := 140) (t := 194) d_Rf_goOne_137 rfl (by decide) (fun cc => ?_) (fun cc => ?_)
  · have k := k.1 cc
    refine Rn.aload_n (n := 195) (i := 0) d_Rf_goOne_194 rfl rfl rfl ?_
    refine Rn.getf (n := 198) (v := vR [18, 1]) d_Rf_goOne_195 rfl fl_Rf_29 Lv_1 rfl ?_
    refine Rn.bipush (n := 200) (v := 18) d_Rf_goOne_198 rfl (by decide) ?_
    refine Rn.iload_n (n := 201) (i := 1) d_Rf_goOne_200 rfl rfl rfl ?_
    refine Rn.iadd (n := 202) d_Rf_goOne_201 rfl ?_
    refine Rn.dup2 (n := 203) d_Rf_goOne_202 rfl rfl rfl ?_
    obtain ⟨b1, k⟩ := k
    refine Rn.iald (n := 204) (v := h.1 [18, 1] (18 + a1).toNatClampNeg) d_Rf_goOne_203 rfl Lv_18_1 b1 rfl ?_
    refine Rn.iconst (n := 205) (v := 1) d_Rf_goOne_204 rfl (by decide) ?_
    refine Rn.iadd (n := 206) d_Rf_goOne_205 rfl ?_
    obtain ⟨b2, k⟩ := k
    refine Rn.iast (n := 207) d_Rf_goOne_206 rfl Lv_18_1 b2 ?_
    exact Rn.vret d_Rf_goOne_207 rfl k
  · have k := k.2 cc
    refine Rn.iload (n := 142) (i := 5) d_Rf_goOne_140 rfl rfl ?_
    refine Rn.iconst (n := 143) (v := 0) d_Rf_goOne_142 rfl (by decide) ?_
    refine Rn.aload_n (n := 144) (i := 0) d_Rf_goOne_143 rfl rfl rfl ?_
    refine Rn.getf (n := 147) (v := vI (h.1 [1] 0)) d_Rf_goOne_144 rfl fl_Rf_7 Lv_1 rfl ?_
    refine Rn.iconst (n := 148) (v := 1) d_Rf_goOne_147 rfl (by decide) ?_
    refine Rn.isub (n := 149) d_Rf_goOne_148 rfl ?_
    obtain ⟨Q'6, ev3, k⟩ := k
    refine Rn.callS (n := 152) (av := [vI (s1 + s0), vI 0, vI ((h.1 [1] 0) - 1)]) d_Rf_goOne_149 rfl ml_Rf_goOne_66 ms_Rf_in rfl rfl (Nat.le_of_ble_eq_true rfl) ev3 (fun v h5 hq => ?_)
    obtain ⟨r7, rfl, hq⟩ := hq
    have k := k r7 h5 hq
    show Rn X m_Rf_goOne 152 [some (vR [1]), some (vI a1), some (vI a2), some (vI a3), some (vI a4), some (vI (s1 + s0))] [vI r7] h5 Q
    refine Rn.if_eq (n := 155) (t := 194) d_Rf_goOne_152 rfl (by decide) (fun cc => ?_) (fun cc => ?_)
    · have k := k.1 cc
      refine Rn.aload_n (n := 195) (i := 0) d_Rf_goOne_194 rfl rfl rfl ?_
      refine Rn.getf (n := 198) (v := vR [18, 1]) d_Rf_goOne_195 rfl fl_Rf_29 Lv_1 rfl ?_
      refine Rn.bipush (n := 200) (v := 18) d_Rf_goOne_198 rfl (by decide) ?_
      refine Rn.iload_n (n := 201) (i := 1) d_Rf_goOne_200 rfl rfl rfl ?_
      refine Rn.iadd (n := 202) d_Rf_goOne_201 rfl ?_
      refine Rn.dup2 (n := 203) d_Rf_goOne_202 rfl rfl rfl ?_
      obtain ⟨b8, k⟩ := k
      refine Rn.iald (n := 204) (v := h5.1 [18, 1] (18 + a1).toNatClampNeg) d_Rf_goOne_203 rfl Lv_18_1 b8 rfl ?_
      refine Rn.iconst (n := 205) (v := 1) d_Rf_goOne_204 rfl (by decide) ?_
      refine Rn.iadd (n := 206) d_Rf_goOne_205 rfl ?_
      obtain ⟨b9, k⟩ := k
      refine Rn.iast (n := 207) d_Rf_goOne_206 rfl Lv_18_1 b9 ?_
      exact Rn.vret d_Rf_goOne_207 rfl k
    · have k := k.2 cc
      refine Rn.aload_n (n := 156) (i := 0) d_Rf_goOne_155 rfl rfl rfl ?_
      refine Rn.iconst (n := 157) (v := 4) d_Rf_goOne_156 rfl (by decide) ?_
      refine Rn.aload_n (n := 158) (i := 0) d_Rf_goOne_157 rfl rfl rfl ?_
      refine Rn.iload_n (n := 159) (i := 1) d_Rf_goOne_158 rfl rfl rfl ?_
      obtain ⟨Q'13, ev10, k⟩ := k
      refine Rn.callV (n := 162) (av := [vI a1]) d_Rf_goOne_159 rfl ml_Rf_goOne_175 mi_Rf_placeOf Lv_1 rfl rfl rfl rfl (Nat.le_of_ble_eq_true rfl) ev10 (fun v h12 hq => ?_)
      obtain ⟨r14, rfl, hq⟩ := hq
      have k := k r14 h12 hq
      show Rn X m_Rf_goOne 162 [some (vR [1]), some (vI a1), some (vI a2), some (vI a3), some (vI a4), some (vI (s1 + s0))] [vI r14, vI 4, vR [1]] h12 Q
      refine Rn.imul (n := 163) d_Rf_goOne_162 rfl ?_
      refine Rn.iload (n := 165) (i := 5) d_Rf_goOne_163 rfl rfl ?_
      refine Rn.iadd (n := 166) d_Rf_goOne_165 rfl ?_
      obtain ⟨Q'18, ev15, k⟩ := k
      refine Rn.callV (n := 169) (av := [vI ((4 * r14) + (s1 + s0))]) d_Rf_goOne_166 rfl ml_Rf_goOne_168 mi_Rf_whoAt Lv_1 rfl rfl rfl rfl (Nat.le_of_ble_eq_true rfl) ev15 (fun v h17 hq => ?_)
      obtain ⟨r19, rfl, hq⟩ := hq
      have k := k r19 h17 hq
      show Rn X m_Rf_goOne 169 [some (vR [1]), some (vI a1), some (vI a2), some (vI a3), some (vI a4), some (vI (s1 + s0))] [vI r19] h17 Q
      refine Rn.iconst (n := 170) (v := (-1)) d_Rf_goOne_169 rfl (by decide) ?_
      refine Rn.icmp_ne (n := 173) (t := 194) d_Rf_goOne_170 rfl (by decide) (fun cc => ?_) (fun cc => ?_)
      · have k := k.1 cc
        refine Rn.aload_n (n := 195) (i := 0) d_Rf_goOne_194 rfl rfl rfl ?_
        refine Rn.getf (n := 198) (v := vR [18, 1]) d_Rf_goOne_195 rfl fl_Rf_29 Lv_1 rfl ?_
        refine Rn.bipush (n := 200) (v := 18) d_Rf_goOne_198 rfl (by decide) ?_
        refine Rn.iload_n (n := 201) (i := 1) d_Rf_goOne_200 rfl rfl rfl ?_
        refine Rn.iadd (n := 202) d_Rf_goOne_201 rfl ?_
        refine Rn.dup2 (n := 203) d_Rf_goOne_202 rfl rfl rfl ?_
        obtain ⟨b20, k⟩ := k
        refine Rn.iald (n := 204) (v := h17.1 [18, 1] (18 + a1).toNatClampNeg) d_Rf_goOne_203 rfl Lv_18_1 b20 rfl ?_
        refine Rn.iconst (n := 205) (v := 1) d_Rf_goOne_204 rfl (by decide) ?_
        refine Rn.iadd (n := 206) d_Rf_goOne_205 rfl ?_
        obtain ⟨b21, k⟩ := k
        refine Rn.iast (n := 207) d_Rf_goOne_206 rfl Lv_18_1 b21 ?_
        exact Rn.vret d_Rf_goOne_207 rfl k
      · have k := k.2 cc
        refine Rn.aload_n (n := 174) (i := 0) d_Rf_goOne_173 rfl rfl rfl ?_
        refine Rn.getf (n := 177) (v := vR [18, 1]) d_Rf_goOne_174 rfl fl_Rf_29 Lv_1 rfl ?_
        refine Rn.iload_n (n := 178) (i := 1) d_Rf_goOne_177 rfl rfl rfl ?_
        refine Rn.iconst (n := 179) (v := 4) d_Rf_goOne_178 rfl (by decide) ?_
        refine Rn.aload_n (n := 180) (i := 0) d_Rf_goOne_179 rfl rfl rfl ?_
        refine Rn.iload_n (n := 181) (i := 1) d_Rf_goOne_180 rfl rfl rfl ?_
        obtain ⟨Q'25, ev22, k⟩ := k
        refine Rn.callV (n := 184) (av := [vI a1]) d_Rf_goOne_181 rfl ml_Rf_goOne_175 mi_Rf_placeOf Lv_1 rfl rfl rfl rfl (Nat.le_of_ble_eq_true rfl) ev22 (fun v h24 hq => ?_)
        obtain ⟨r26, rfl, hq⟩ := hq
        have k := k r26 h24 hq
        show Rn X m_Rf_goOne 184 [some (vR [1]), some (vI a1), some (vI a2), some (vI a3), some (vI a4), some (vI (s1 + s0))] [vI r26, vI 4, vI a1, vR [18, 1]] h24 Q
        refine Rn.imul (n := 185) d_Rf_goOne_184 rfl ?_
        refine Rn.iload (n := 187) (i := 5) d_Rf_goOne_185 rfl rfl ?_
        refine Rn.iadd (n := 188) d_Rf_goOne_187 rfl ?_
        refine Rn.iconst (n := 189) (v := 1) d_Rf_goOne_188 rfl (by decide) ?_
        refine Rn.iadd (n := 190) d_Rf_goOne_189 rfl ?_
        obtain ⟨b27, k⟩ := k
        refine Rn.iast (n := 191) d_Rf_goOne_190 rfl Lv_18_1 b27 ?_
        refine Rn.goto (n := 207) d_Rf_goOne_191 (by decide) ?_
        exact Rn.vret d_Rf_goOne_207 rfl k
theorem e_Rf_goOne {X : XS} (a1 : Int32) (h : Hp) (Q : Option AV → Hp → Prop) (k : Rn X m_Rf_goOne 0 [some (vR [1]), some (vI a1), none, none, none, none] [] h Q) : Ev X m_Rf_goOne [vR [1], vI a1] h Q := Ev.intro (plainFor_of_name (by decide +kernel)) (Nat.le_of_ble_eq_true rfl) (ls := [some (vR [1]), some (vI a1), none, none, none, none]) rfl k
theorem d_Rf_comeOne_0 : decode m_Rf_comeOne.2.1 0 = .ok (.iconst 4, 1) := by decide +kernel
theorem d_Rf_comeOne_1 : decode m_Rf_comeOne.2.1 1 = .ok (.aload_n 0, 1) := by decide +kernel
theorem d_Rf_comeOne_2 : decode m_Rf_comeOne.2.1 2 = .ok (.getfield 16, 3) := by decide +kernel
theorem d_Rf_comeOne_5 : decode m_Rf_comeOne.2.1 5 = .ok (.bipush 6, 2) := by decide +kernel
theorem d_Rf_comeOne_7 : decode m_Rf_comeOne.2.1 7 = .ok (.iload_n 1, 1) := by decide +kernel
theorem d_Rf_comeOne_8 : decode m_Rf_comeOne.2.1 8 = .ok (.imul, 1) := by decide +kernel
theorem d_Rf_comeOne_9 : decode m_Rf_comeOne.2.1 9 = .ok (.iconst 1, 1) := by decide +kernel
theorem d_Rf_comeOne_10 : decode m_Rf_comeOne.2.1 10 = .ok (.iadd, 1) := by decide +kernel
theorem d_Rf_comeOne_11 : decode m_Rf_comeOne.2.1 11 = .ok (.iaload, 1) := by decide +kernel
theorem d_Rf_comeOne_12 : decode m_Rf_comeOne.2.1 12 = .ok (.ifCond .ne 7, 3) := by decide +kernel
theorem d_Rf_comeOne_15 : decode m_Rf_comeOne.2.1 15 = .ok (.iconst 0, 1) := by decide +kernel
theorem d_Rf_comeOne_16 : decode m_Rf_comeOne.2.1 16 = .ok (.goto 9, 3) := by decide +kernel
theorem d_Rf_comeOne_19 : decode m_Rf_comeOne.2.1 19 = .ok (.aload_n 0, 1) := by decide +kernel
theorem d_Rf_comeOne_20 : decode m_Rf_comeOne.2.1 20 = .ok (.getfield 13, 3) := by decide +kernel
theorem d_Rf_comeOne_23 : decode m_Rf_comeOne.2.1 23 = .ok (.iconst 1, 1) := by decide +kernel
theorem d_Rf_comeOne_24 : decode m_Rf_comeOne.2.1 24 = .ok (.isub, 1) := by decide +kernel
theorem d_Rf_comeOne_25 : decode m_Rf_comeOne.2.1 25 = .ok (.imul, 1) := by decide +kernel
theorem d_Rf_comeOne_26 : decode m_Rf_comeOne.2.1 26 = .ok (.aload_n 0, 1) := by decide +kernel
theorem d_Rf_comeOne_27 : decode m_Rf_comeOne.2.1 27 = .ok (.getfield 16, 3) := by decide +kernel
theorem d_Rf_comeOne_30 : decode m_Rf_comeOne.2.1 30 = .ok (.bipush 6, 2) := by decide +kernel
theorem d_Rf_comeOne_32 : decode m_Rf_comeOne.2.1 32 = .ok (.iload_n 1, 1) := by decide +kernel
theorem d_Rf_comeOne_33 : decode m_Rf_comeOne.2.1 33 = .ok (.imul, 1) := by decide +kernel
theorem d_Rf_comeOne_34 : decode m_Rf_comeOne.2.1 34 = .ok (.iaload, 1) := by decide +kernel
theorem d_Rf_comeOne_35 : decode m_Rf_comeOne.2.1 35 = .ok (.iadd, 1) := by decide +kernel
theorem d_Rf_comeOne_36 : decode m_Rf_comeOne.2.1 36 = .ok (.istore_n 2, 1) := by decide +kernel
theorem d_Rf_comeOne_37 : decode m_Rf_comeOne.2.1 37 = .ok (.aload_n 0, 1) := by decide +kernel
theorem d_Rf_comeOne_38 : decode m_Rf_comeOne.2.1 38 = .ok (.getfield 29, 3) := by decide +kernel
theorem d_Rf_comeOne_41 : decode m_Rf_comeOne.2.1 41 = .ok (.iload_n 1, 1) := by decide +kernel
theorem d_Rf_comeOne_42 : decode m_Rf_comeOne.2.1 42 = .ok (.iaload, 1) := by decide +kernel
theorem d_Rf_comeOne_43 : decode m_Rf_comeOne.2.1 43 = .ok (.ifCond .ne 42, 3) := by decide +kernel
theorem d_Rf_comeOne_46 : decode m_Rf_comeOne.2.1 46 = .ok (.aload_n 0, 1) := by decide +kernel
theorem d_Rf_comeOne_47 : decode m_Rf_comeOne.2.1 47 = .ok (.getfield 16, 3) := by decide +kernel
theorem d_Rf_comeOne_50 : decode m_Rf_comeOne.2.1 50 = .ok (.bipush 6, 2) := by decide +kernel
theorem d_Rf_comeOne_52 : decode m_Rf_comeOne.2.1 52 = .ok (.iload_n 1, 1) := by decide +kernel
theorem d_Rf_comeOne_53 : decode m_Rf_comeOne.2.1 53 = .ok (.imul, 1) := by decide +kernel
theorem d_Rf_comeOne_54 : decode m_Rf_comeOne.2.1 54 = .ok (.iconst 2, 1) := by decide +kernel
theorem d_Rf_comeOne_55 : decode m_Rf_comeOne.2.1 55 = .ok (.iadd, 1) := by decide +kernel
theorem d_Rf_comeOne_56 : decode m_Rf_comeOne.2.1 56 = .ok (.iaload, 1) := by decide +kernel
theorem d_Rf_comeOne_57 : decode m_Rf_comeOne.2.1 57 = .ok (.aload_n 0, 1) := by decide +kernel
theorem d_Rf_comeOne_58 : decode m_Rf_comeOne.2.1 58 = .ok (.getfield 29, 3) := by decide +kernel
theorem d_Rf_comeOne_61 : decode m_Rf_comeOne.2.1 61 = .ok (.bipush 24, 2) := by decide +kernel
theorem d_Rf_comeOne_63 : decode m_Rf_comeOne.2.1 63 = .ok (.iaload, 1) := by decide +kernel
theorem d_Rf_comeOne_64 : decode m_Rf_comeOne.2.1 64 = .ok (.if_icmp .gt 21, 3) := by decide +kernel
theorem d_Rf_comeOne_67 : decode m_Rf_comeOne.2.1 67 = .ok (.aload_n 0, 1) := by decide +kernel
theorem d_Rf_comeOne_68 : decode m_Rf_comeOne.2.1 68 = .ok (.iload_n 2, 1) := by decide +kernel
theorem d_Rf_comeOne_69 : decode m_Rf_comeOne.2.1 69 = .ok (.invokevirtual 168, 3) := by decide +kernel
theorem d_Rf_comeOne_72 : decode m_Rf_comeOne.2.1 72 = .ok (.iconst (-1), 1) := by decide +kernel
theorem d_Rf_comeOne_73 : decode m_Rf_comeOne.2.1 73 = .ok (.if_icmp .ne 12, 3) := by decide +kernel
theorem d_Rf_comeOne_76 : decode m_Rf_comeOne.2.1 76 = .ok (.aload_n 0, 1) := by decide +kernel
theorem d_Rf_comeOne_77 : decode m_Rf_comeOne.2.1 77 = .ok (.getfield 29, 3) := by decide +kernel
theorem d_Rf_comeOne_80 : decode m_Rf_comeOne.2.1 80 = .ok (.iload_n 1, 1) := by decide +kernel
theorem d_Rf_comeOne_81 : decode m_Rf_comeOne.2.1 81 = .ok (.iload_n 2, 1) := by decide +kernel
theorem d_Rf_comeOne_82 : decode m_Rf_comeOne.2.1 82 = .ok (.iconst 1, 1) := by decide +kernel
theorem d_Rf_comeOne_83 : decode m_Rf_comeOne.2.1 83 = .ok (.iadd, 1) := by decide +kernel
theorem d_Rf_comeOne_84 : decode m_Rf_comeOne.2.1 84 = .ok (.iastore, 1) := by decide +kernel
theorem d_Rf_comeOne_85 : decode m_Rf_comeOne.2.1 85 = .ok (.return_, 1) := by decide +kernel
theorem g_Rf_comeOne_0 {X : XS} (a1 : Int32) (h : Hp) (Q : Option AV → Hp → Prop)  (k : (vp_in ((6 * a1) + 1) 36 ∧ ((¬ (h.1 [4, 1] ((6 * a1) + 1).toNatClampNeg) = 0 → Rn X m_Rf_comeOne 25 [some (vR [1]), some (vI a1), none] [vI ((h.1 [1] 1) - 1), vI 4] h Q) ∧ ((h.1 [4, 1] ((6 * a1) + 1).toNatClampNeg) = 0 → Rn X m_Rf_comeOne 25 [some (vR [1]), some (vI a1), none] [vI 0, vI 4] h Q)))) : Rn X m_Rf_comeOne 0 [some (vR [1]), some (vI a1), none] [] h Q := by
  refine Rn.iconst (n := 1) (v := 4) d_Rf_comeOne_0 rfl (by decide) ?_
  refine Rn.aload_n (n := 2) (i := 0) d_Rf_comeOne_1 rfl rfl rfl ?_
  refine Rn.getf (n := 5) (v := vR [4, 1]) d_Rf_comeOne_2 rfl fl_Rf_16 Lv_1 rfl ?_
  refine Rn.bipush (n := 7) (v := 6) d_Rf_comeOne_5 rfl (by decide) ?_
  refine Rn.iload_n (n := 8) (i := 1) d_Rf_comeOne_7 rfl rfl rfl ?_
  refine Rn.imul (n := 9) d_Rf_comeOne_8 rfl ?_
  refine Rn.iconst (n := 10) (v := 1) d_Rf_comeOne_9 rfl (by decide) ?_
  refine Rn.iadd (n := 11) d_Rf_comeOne_10 rfl ?_
  obtain ⟨b1, k⟩ := k
  refine Rn.iald (n := 12) (v := h.1 [4, 1] ((6 * a1) + 1).toNatClampNeg) d_Rf_comeOne_11 rfl Lv_4_1 b1 rfl ?_
  refine Rn.if_ne (n := 15) (t := 19) d_Rf_comeOne_12 rfl (by decide) (fun cc => ?_) (fun cc => ?_)
  · have k := k.1 cc
    refine Rn.aload_n (n := 20) (i := 0) d_Rf_comeOne_19 rfl rfl rfl ?_
    refine Rn.getf (n := 23) (v := vI (h.1 [1] 1)) d_Rf_comeOne_20 rfl fl_Rf_13 Lv_1 rfl ?_
    refine Rn.iconst (n := 24) (v := 1) d_Rf_comeOne_23 rfl (by decide) ?_
    refine Rn.isub (n := 25) d_Rf_comeOne_24 rfl ?_
    exact k
  · have k := k.2 cc
    refine Rn.iconst (n := 16) (v := 0) d_Rf_comeOne_15 rfl (by decide) ?_
    refine Rn.goto (n := 25) d_Rf_comeOne_16 (by decide) ?_
    exact k
theorem g_Rf_comeOne_25 {X : XS} (a1 : Int32) (s0 : Int32) (s1 : Int32) (h : Hp) (Q : Option AV → Hp → Prop)  (k : (vp_in (6 * a1) 36 ∧ (vp_in a1 26 ∧ ((¬ (h.1 [18, 1] a1.toNatClampNeg) = 0 → Q none h) ∧ ((h.1 [18, 1] a1.toNatClampNeg) = 0 → (vp_in ((6 * a1) + 2) 36 ∧ (((h.1 [18, 1] 24) < (h.1 [4, 1] ((6 * a1) + 2).toNatClampNeg) → Q none h) ∧ (¬ (h.1 [18, 1] 24) < (h.1 [4, 1] ((6 * a1) + 2).toNatClampNeg) → (∃ Q'7, EvI X m_Rf_whoAt [vR [1], vI ((s1 * s0) + (h.1 [4, 1] (6 * a1).toNatClampNeg))] h Q'7 ∧ ∀ (r8 : Int32) (h6 : Hp), Q'7 r8 h6 → ((¬ r8 = (-1) → Q none h6) ∧ (r8 = (-1) → (vp_in a1 26 ∧ Q none (hsI h6 [18, 1] a1.toNatClampNeg (((s1 * s0) + (h.1 [4, 1] (6 * a1).toNatClampNeg)) + 1)))))))))))))) : Rn X m_Rf_comeOne 25 [some (vR [1]), some (vI a1), none] [vI s0, vI s1] h Q := by
  refine Rn.imul (n := 26) d_Rf_comeOne_25 rfl ?_
  refine Rn.aload_n (n := 27) (i := 0) d_Rf_comeOne_26 rfl rfl rfl ?_
  refine Rn.getf (n := 30) (v := vR [4, 1]) d_Rf_comeOne_27 rfl fl_Rf_16 Lv_1 rfl ?_
  refine Rn.bipush (n := 32) (v := 6) d_Rf_comeOne_30 rfl (by decide) ?_
  refine Rn.iload_n (n := 33) (i := 1) d_Rf_comeOne_32 rfl rfl rfl ?_
  refine Rn.imul (n := 34) d_Rf_comeOne_33 rfl ?_
  obtain ⟨b1, k⟩ := k
  refine Rn.iald (n := 35) (v := h.1 [4, 1] (6 * a1).toNatClampNeg) d_Rf_comeOne_34 rfl Lv_4_1 b1 rfl ?_
  refine Rn.iadd (n := 36) d_Rf_comeOne_35 rfl ?_
  refine Rn.istore_n (n := 37) (i := 2) (ls2 := [some (vR [1]), some (vI a1), some (vI ((s1 * s0) + (h.1 [4, 1] (6 * a1).toNatClampNeg)))]) d_Rf_comeOne_36 rfl rfl (Nat.le_of_ble_eq_true rfl) rfl ?_
  refine Rn.aload_n (n := 38) (i := 0) d_Rf_comeOne_37 rfl rfl rfl ?_
  refine Rn.getf (n := 41) (v := vR [18, 1]) d_Rf_comeOne_38 rfl fl_Rf_29 Lv_1 rfl ?_
  refine Rn.iload_n (n := 42) (i := 1) d_Rf_comeOne_41 rfl rfl rfl ?_
  obtain ⟨b2, k⟩ := k
  refine Rn.iald (n := 43) (v := h.1 [18, 1] a1.toNatClampNeg) d_Rf_comeOne_42 rfl Lv_18_1 b2 rfl ?_
  refine Rn.if_ne (n := 46) (t := 85) d_Rf_comeOne_43 rfl (by decide) (fun cc => ?_) (fun cc => ?_)
  · have k := k.1 cc
    exact Rn.vret d_Rf_comeOne_85 rfl k
  · have k := k.2 cc
    refine Rn.aload_n (n := 47) (i := 0) d_Rf_comeOne_46 rfl rfl rfl ?_
    refine Rn.getf (n := 50) (v := vR [4, 1]) d_Rf_comeOne_47 rfl fl_Rf_16 Lv_1 rfl ?_
    refine Rn.bipush (n := 52) (v := 6) d_Rf_comeOne_50 rfl (by decide) ?_
    refine Rn.iload_n (n := 53) (i := 1) d_Rf_comeOne_52 rfl rfl rfl ?_
    refine Rn.imul (n := 54) d_Rf_comeOne_53 rfl ?_
    refine Rn.iconst (n := 55) (v := 2) d_Rf_comeOne_54 rfl (by decide) ?_
    refine Rn.iadd (n := 56) d_Rf_comeOne_55 rfl ?_
    obtain ⟨b3, k⟩ := k
    refine Rn.iald (n := 57) (v := h.1 [4, 1] ((6 * a1) + 2).toNatClampNeg) d_Rf_comeOne_56 rfl Lv_4_1 b3 rfl ?_
    refine Rn.aload_n (n := 58) (i := 0) d_Rf_comeOne_57 rfl rfl rfl ?_
    refine Rn.getf (n := 61) (v := vR [18, 1]) d_Rf_comeOne_58 rfl fl_Rf_29 Lv_1 rfl ?_
    refine Rn.bipush (n := 63) (v := 24) d_Rf_comeOne_61 rfl (by decide) ?_
    refine Rn.iald (n := 64) (v := h.1 [18, 1] 24) d_Rf_comeOne_63 rfl Lv_18_1 (by unfold vp_in; decide) rfl ?_
    refine Rn.icmp_gt (n := 67) (t := 85) d_Rf_comeOne_64 rfl (by decide) (fun cc => ?_) (fun cc => ?_)
    · have k := k.1 cc
      exact Rn.vret d_Rf_comeOne_85 rfl k
    · have k := k.2 cc
      refine Rn.aload_n (n := 68) (i := 0) d_Rf_comeOne_67 rfl rfl rfl ?_
      refine Rn.iload_n (n := 69) (i := 2) d_Rf_comeOne_68 rfl rfl rfl ?_
      obtain ⟨Q'7, ev4, k⟩ := k
      refine Rn.callV (n := 72) (av := [vI ((s1 * s0) + (h.1 [4, 1] (6 * a1).toNatClampNeg))]) d_Rf_comeOne_69 rfl ml_Rf_comeOne_168 mi_Rf_whoAt Lv_1 rfl rfl rfl rfl (Nat.le_of_ble_eq_true rfl) ev4 (fun v h6 hq => ?_)
      obtain ⟨r8, rfl, hq⟩ := hq
      have k := k r8 h6 hq
      show Rn X m_Rf_comeOne 72 [some (vR [1]), some (vI a1), some (vI ((s1 * s0) + (h.1 [4, 1] (6 * a1).toNatClampNeg)))] [vI r8] h6 Q
      refine Rn.iconst (n := 73) (v := (-1)) d_Rf_comeOne_72 rfl (by decide) ?_
      refine Rn.icmp_ne (n := 76) (t := 85) d_Rf_comeOne_73 rfl (by decide) (fun cc => ?_) (fun cc => ?_)
      · have k := k.1 cc
        exact Rn.vret d_Rf_comeOne_85 rfl k
      · have k := k.2 cc
        refine Rn.aload_n (n := 77) (i := 0) d_Rf_comeOne_76 rfl rfl rfl ?_
        refine Rn.getf (n := 80) (v := vR [18, 1]) d_Rf_comeOne_77 rfl fl_Rf_29 Lv_1 rfl ?_
        refine Rn.iload_n (n := 81) (i := 1) d_Rf_comeOne_80 rfl rfl rfl ?_
        refine Rn.iload_n (n := 82) (i := 2) d_Rf_comeOne_81 rfl rfl rfl ?_
        refine Rn.iconst (n := 83) (v := 1) d_Rf_comeOne_82 rfl (by decide) ?_
        refine Rn.iadd (n := 84) d_Rf_comeOne_83 rfl ?_
        obtain ⟨b9, k⟩ := k
        refine Rn.iast (n := 85) d_Rf_comeOne_84 rfl Lv_18_1 b9 ?_
        exact Rn.vret d_Rf_comeOne_85 rfl k
theorem e_Rf_comeOne {X : XS} (a1 : Int32) (h : Hp) (Q : Option AV → Hp → Prop) (k : Rn X m_Rf_comeOne 0 [some (vR [1]), some (vI a1), none] [] h Q) : Ev X m_Rf_comeOne [vR [1], vI a1] h Q := Ev.intro (plainFor_of_name (by decide +kernel)) (Nat.le_of_ble_eq_true rfl) (ls := [some (vR [1]), some (vI a1), none]) rfl k
theorem d_Rf_poke_0 : decode m_Rf_poke.2.1 0 = .ok (.iconst 0, 1) := by decide +kernel
theorem d_Rf_poke_1 : decode m_Rf_poke.2.1 1 = .ok (.istore_n 1, 1) := by decide +kernel
theorem d_Rf_poke_2 : decode m_Rf_poke.2.1 2 = .ok (.iload_n 1, 1) := by decide +kernel
theorem d_Rf_poke_3 : decode m_Rf_poke.2.1 3 = .ok (.bipush 6, 2) := by decide +kernel
theorem d_Rf_poke_5 : decode m_Rf_poke.2.1 5 = .ok (.if_icmp .ge 190, 3) := by decide +kernel
theorem d_Rf_poke_8 : decode m_Rf_poke.2.1 8 = .ok (.iload_n 1, 1) := by decide +kernel
theorem d_Rf_poke_9 : decode m_Rf_poke.2.1 9 = .ok (.iconst 1, 1) := by decide +kernel
theorem d_Rf_poke_10 : decode m_Rf_poke.2.1 10 = .ok (.iadd, 1) := by decide +kernel
theorem d_Rf_poke_11 : decode m_Rf_poke.2.1 11 = .ok (.istore_n 2, 1) := by decide +kernel
theorem d_Rf_poke_12 : decode m_Rf_poke.2.1 12 = .ok (.iload_n 2, 1) := by decide +kernel
theorem d_Rf_poke_13 : decode m_Rf_poke.2.1 13 = .ok (.bipush 6, 2) := by decide +kernel
theorem d_Rf_poke_15 : decode m_Rf_poke.2.1 15 = .ok (.if_icmp .ge 174, 3) := by decide +kernel
theorem d_Rf_poke_18 : decode m_Rf_poke.2.1 18 = .ok (.aload_n 0, 1) := by decide +kernel
theorem d_Rf_poke_19 : decode m_Rf_poke.2.1 19 = .ok (.iload_n 1, 1) := by decide +kernel
theorem d_Rf_poke_20 : decode m_Rf_poke.2.1 20 = .ok (.invokevirtual 181, 3) := by decide +kernel
theorem d_Rf_poke_23 : decode m_Rf_poke.2.1 23 = .ok (.ifCond .eq 160, 3) := by decide +kernel
theorem d_Rf_poke_26 : decode m_Rf_poke.2.1 26 = .ok (.aload_n 0, 1) := by decide +kernel
theorem d_Rf_poke_27 : decode m_Rf_poke.2.1 27 = .ok (.iload_n 2, 1) := by decide +kernel
theorem d_Rf_poke_28 : decode m_Rf_poke.2.1 28 = .ok (.invokevirtual 181, 3) := by decide +kernel
theorem d_Rf_poke_31 : decode m_Rf_poke.2.1 31 = .ok (.ifCond .eq 152, 3) := by decide +kernel
theorem d_Rf_poke_34 : decode m_Rf_poke.2.1 34 = .ok (.aload_n 0, 1) := by decide +kernel
theorem d_Rf_poke_35 : decode m_Rf_poke.2.1 35 = .ok (.getfield 42, 3) := by decide +kernel
theorem d_Rf_poke_38 : decode m_Rf_poke.2.1 38 = .ok (.iload_n 1, 1) := by decide +kernel
theorem d_Rf_poke_39 : decode m_Rf_poke.2.1 39 = .ok (.iaload, 1) := by decide +kernel
theorem d_Rf_poke_40 : decode m_Rf_poke.2.1 40 = .ok (.ifCond .le 143, 3) := by decide +kernel
theorem d_Rf_poke_43 : decode m_Rf_poke.2.1 43 = .ok (.aload_n 0, 1) := by decide +kernel
theorem d_Rf_poke_44 : decode m_Rf_poke.2.1 44 = .ok (.getfield 42, 3) := by decide +kernel
theorem d_Rf_poke_47 : decode m_Rf_poke.2.1 47 = .ok (.iload_n 2, 1) := by decide +kernel
theorem d_Rf_poke_48 : decode m_Rf_poke.2.1 48 = .ok (.iaload, 1) := by decide +kernel
theorem d_Rf_poke_49 : decode m_Rf_poke.2.1 49 = .ok (.ifCond .le 134, 3) := by decide +kernel
theorem d_Rf_poke_52 : decode m_Rf_poke.2.1 52 = .ok (.aload_n 0, 1) := by decide +kernel
theorem d_Rf_poke_53 : decode m_Rf_poke.2.1 53 = .ok (.getfield 42, 3) := by decide +kernel
theorem d_Rf_poke_56 : decode m_Rf_poke.2.1 56 = .ok (.iload_n 1, 1) := by decide +kernel
theorem d_Rf_poke_57 : decode m_Rf_poke.2.1 57 = .ok (.iaload, 1) := by decide +kernel
theorem d_Rf_poke_58 : decode m_Rf_poke.2.1 58 = .ok (.aload_n 0, 1) := by decide +kernel
theorem d_Rf_poke_59 : decode m_Rf_poke.2.1 59 = .ok (.getfield 42, 3) := by decide +kernel
theorem d_Rf_poke_62 : decode m_Rf_poke.2.1 62 = .ok (.iload_n 2, 1) := by decide +kernel
theorem d_Rf_poke_63 : decode m_Rf_poke.2.1 63 = .ok (.iaload, 1) := by decide +kernel
theorem d_Rf_poke_64 : decode m_Rf_poke.2.1 64 = .ok (.if_icmp .le 12, 3) := by decide +kernel
theorem d_Rf_poke_67 : decode m_Rf_poke.2.1 67 = .ok (.aload_n 0, 1) := by decide +kernel
theorem d_Rf_poke_68 : decode m_Rf_poke.2.1 68 = .ok (.getfield 42, 3) := by decide +kernel
theorem d_Rf_poke_71 : decode m_Rf_poke.2.1 71 = .ok (.iload_n 1, 1) := by decide +kernel
theorem d_Rf_poke_72 : decode m_Rf_poke.2.1 72 = .ok (.iaload, 1) := by decide +kernel
theorem d_Rf_poke_73 : decode m_Rf_poke.2.1 73 = .ok (.goto 9, 3) := by decide +kernel
theorem d_Rf_poke_76 : decode m_Rf_poke.2.1 76 = .ok (.aload_n 0, 1) := by decide +kernel
theorem d_Rf_poke_77 : decode m_Rf_poke.2.1 77 = .ok (.getfield 42, 3) := by decide +kernel
theorem d_Rf_poke_80 : decode m_Rf_poke.2.1 80 = .ok (.iload_n 2, 1) := by decide +kernel
theorem d_Rf_poke_81 : decode m_Rf_poke.2.1 81 = .ok (.iaload, 1) := by decide +kernel
theorem d_Rf_poke_82 : decode m_Rf_poke.2.1 82 = .ok (.istore_n 3, 1) := by decide +kernel
theorem d_Rf_poke_83 : decode m_Rf_poke.2.1 83 = .ok (.aload_n 0, 1) := by decide +kernel
theorem d_Rf_poke_84 : decode m_Rf_poke.2.1 84 = .ok (.getfield 16, 3) := by decide +kernel
theorem d_Rf_poke_87 : decode m_Rf_poke.2.1 87 = .ok (.bipush 6, 2) := by decide +kernel
theorem d_Rf_poke_89 : decode m_Rf_poke.2.1 89 = .ok (.iload_n 1, 1) := by decide +kernel
theorem d_Rf_poke_90 : decode m_Rf_poke.2.1 90 = .ok (.imul, 1) := by decide +kernel
theorem d_Rf_poke_91 : decode m_Rf_poke.2.1 91 = .ok (.iconst 3, 1) := by decide +kernel
theorem d_Rf_poke_92 : decode m_Rf_poke.2.1 92 = .ok (.iadd, 1) := by decide +kernel
theorem d_Rf_poke_93 : decode m_Rf_poke.2.1 93 = .ok (.iaload, 1) := by decide +kernel
theorem d_Rf_poke_94 : decode m_Rf_poke.2.1 94 = .ok (.aload_n 0, 1) := by decide +kernel
theorem d_Rf_poke_95 : decode m_Rf_poke.2.1 95 = .ok (.getfield 16, 3) := by decide +kernel
theorem d_Rf_poke_98 : decode m_Rf_poke.2.1 98 = .ok (.bipush 6, 2) := by decide +kernel
theorem d_Rf_poke_100 : decode m_Rf_poke.2.1 100 = .ok (.iload_n 2, 1) := by decide +kernel
theorem d_Rf_poke_101 : decode m_Rf_poke.2.1 101 = .ok (.imul, 1) := by decide +kernel
theorem d_Rf_poke_102 : decode m_Rf_poke.2.1 102 = .ok (.iconst 3, 1) := by decide +kernel
theorem d_Rf_poke_103 : decode m_Rf_poke.2.1 103 = .ok (.iadd, 1) := by decide +kernel
theorem d_Rf_poke_104 : decode m_Rf_poke.2.1 104 = .ok (.iaload, 1) := by decide +kernel
theorem d_Rf_poke_105 : decode m_Rf_poke.2.1 105 = .ok (.invokestatic 184, 3) := by decide +kernel
theorem d_Rf_poke_108 : decode m_Rf_poke.2.1 108 = .ok (.iconst 2, 1) := by decide +kernel
theorem d_Rf_poke_109 : decode m_Rf_poke.2.1 109 = .ok (.if_icmp .ge 74, 3) := by decide +kernel
theorem d_Rf_poke_112 : decode m_Rf_poke.2.1 112 = .ok (.aload_n 0, 1) := by decide +kernel
theorem d_Rf_poke_113 : decode m_Rf_poke.2.1 113 = .ok (.iload_n 1, 1) := by decide +kernel
theorem d_Rf_poke_114 : decode m_Rf_poke.2.1 114 = .ok (.invokevirtual 175, 3) := by decide +kernel
theorem d_Rf_poke_117 : decode m_Rf_poke.2.1 117 = .ok (.aload_n 0, 1) := by decide +kernel
theorem d_Rf_poke_118 : decode m_Rf_poke.2.1 118 = .ok (.iload_n 2, 1) := by decide +kernel
theorem d_Rf_poke_119 : decode m_Rf_poke.2.1 119 = .ok (.invokevirtual 175, 3) := by decide +kernel
theorem d_Rf_poke_122 : decode m_Rf_poke.2.1 122 = .ok (.invokestatic 184, 3) := by decide +kernel
theorem d_Rf_poke_125 : decode m_Rf_poke.2.1 125 = .ok (.iconst 2, 1) := by decide +kernel
theorem d_Rf_poke_126 : decode m_Rf_poke.2.1 126 = .ok (.if_icmp .ge 57, 3) := by decide +kernel
theorem d_Rf_poke_129 : decode m_Rf_poke.2.1 129 = .ok (.aload_n 0, 1) := by decide +kernel
theorem d_Rf_poke_130 : decode m_Rf_poke.2.1 130 = .ok (.iload_n 1, 1) := by decide +kernel
theorem d_Rf_poke_131 : decode m_Rf_poke.2.1 131 = .ok (.invokevirtual 178, 3) := by decide +kernel
theorem d_Rf_poke_134 : decode m_Rf_poke.2.1 134 = .ok (.aload_n 0, 1) := by decide +kernel
theorem d_Rf_poke_135 : decode m_Rf_poke.2.1 135 = .ok (.iload_n 2, 1) := by decide +kernel
theorem d_Rf_poke_136 : decode m_Rf_poke.2.1 136 = .ok (.invokevirtual 178, 3) := by decide +kernel
theorem d_Rf_poke_139 : decode m_Rf_poke.2.1 139 = .ok (.invokestatic 184, 3) := by decide +kernel
theorem d_Rf_poke_142 : decode m_Rf_poke.2.1 142 = .ok (.iload_n 3, 1) := by decide +kernel
theorem d_Rf_poke_143 : decode m_Rf_poke.2.1 143 = .ok (.if_icmp .gt 40, 3) := by decide +kernel
theorem d_Rf_poke_146 : decode m_Rf_poke.2.1 146 = .ok (.aload_n 0, 1) := by decide +kernel
theorem d_Rf_poke_147 : decode m_Rf_poke.2.1 147 = .ok (.getfield 29, 3) := by decide +kernel
theorem d_Rf_poke_150 : decode m_Rf_poke.2.1 150 = .ok (.bipush 12, 2) := by decide +kernel
theorem d_Rf_poke_152 : decode m_Rf_poke.2.1 152 = .ok (.iload_n 1, 1) := by decide +kernel
theorem d_Rf_poke_153 : decode m_Rf_poke.2.1 153 = .ok (.iadd, 1) := by decide +kernel
theorem d_Rf_poke_154 : decode m_Rf_poke.2.1 154 = .ok (.dup2, 1) := by decide +kernel
theorem d_Rf_poke_155 : decode m_Rf_poke.2.1 155 = .ok (.iaload, 1) := by decide +kernel
theorem d_Rf_poke_156 : decode m_Rf_poke.2.1 156 = .ok (.iconst 1, 1) := by decide +kernel
theorem d_Rf_poke_157 : decode m_Rf_poke.2.1 157 = .ok (.iadd, 1) := by decide +kernel
theorem d_Rf_poke_158 : decode m_Rf_poke.2.1 158 = .ok (.iastore, 1) := by decide +kernel
theorem d_Rf_poke_159 : decode m_Rf_poke.2.1 159 = .ok (.aload_n 0, 1) := by decide +kernel
theorem d_Rf_poke_160 : decode m_Rf_poke.2.1 160 = .ok (.getfield 29, 3) := by decide +kernel
theorem d_Rf_poke_163 : decode m_Rf_poke.2.1 163 = .ok (.bipush 12, 2) := by decide +kernel
theorem d_Rf_poke_165 : decode m_Rf_poke.2.1 165 = .ok (.iload_n 2, 1) := by decide +kernel
theorem d_Rf_poke_166 : decode m_Rf_poke.2.1 166 = .ok (.iadd, 1) := by decide +kernel
theorem d_Rf_poke_167 : decode m_Rf_poke.2.1 167 = .ok (.dup2, 1) := by decide +kernel
theorem d_Rf_poke_168 : decode m_Rf_poke.2.1 168 = .ok (.iaload, 1) := by decide +kernel
theorem d_Rf_poke_169 : decode m_Rf_poke.2.1 169 = .ok (.iconst 1, 1) := by decide +kernel
theorem d_Rf_poke_170 : decode m_Rf_poke.2.1 170 = .ok (.iadd, 1) := by decide +kernel
theorem d_Rf_poke_171 : decode m_Rf_poke.2.1 171 = .ok (.iastore, 1) := by decide +kernel
theorem d_Rf_poke_172 : decode m_Rf_poke.2.1 172 = .ok (.aload_n 0, 1) := by decide +kernel
theorem d_Rf_poke_173 : decode m_Rf_poke.2.1 173 = .ok (.getfield 29, 3) := by decide +kernel
theorem d_Rf_poke_176 : decode m_Rf_poke.2.1 176 = .ok (.bipush 25, 2) := by decide +kernel
theorem d_Rf_poke_178 : decode m_Rf_poke.2.1 178 = .ok (.dup2, 1) := by decide +kernel
theorem d_Rf_poke_179 : decode m_Rf_poke.2.1 179 = .ok (.iaload, 1) := by decide +kernel
theorem d_Rf_poke_180 : decode m_Rf_poke.2.1 180 = .ok (.iconst 1, 1) := by decide +kernel
theorem d_Rf_poke_181 : decode m_Rf_poke.2.1 181 = .ok (.iadd, 1) := by decide +kernel
theorem d_Rf_poke_182 : decode m_Rf_poke.2.1 182 = .ok (.iastore, 1) := by decide +kernel
theorem d_Rf_poke_183 : decode m_Rf_poke.2.1 183 = .ok (.iinc 2 1, 3) := by decide +kernel
theorem d_Rf_poke_186 : decode m_Rf_poke.2.1 186 = .ok (.goto (-174), 3) := by decide +kernel
theorem d_Rf_poke_189 : decode m_Rf_poke.2.1 189 = .ok (.iinc 1 1, 3) := by decide +kernel
theorem d_Rf_poke_192 : decode m_Rf_poke.2.1 192 = .ok (.goto (-190), 3) := by decide +kernel
theorem d_Rf_poke_195 : decode m_Rf_poke.2.1 195 = .ok (.return_, 1) := by decide +kernel
theorem g_Rf_poke_0 {X : XS}  (h : Hp) (Q : Option AV → Hp → Prop)  (k : Rn X m_Rf_poke 2 [some (vR [1]), some (vI 0), none, none] [] h Q) : Rn X m_Rf_poke 0 [some (vR [1]), none, none, none] [] h Q := by
  refine Rn.iconst (n := 1) (v := 0) d_Rf_poke_0 rfl (by decide) ?_
  refine Rn.istore_n (n := 2) (i := 1) (ls2 := [some (vR [1]), some (vI 0), none, none]) d_Rf_poke_1 rfl rfl (Nat.le_of_ble_eq_true rfl) rfl ?_
  exact k
theorem g_Rf_poke_2 {X : XS} (a1 : Int32) (h : Hp) (Q : Option AV → Hp → Prop)  (k : ((6 ≤ a1 → Q none h) ∧ (¬ 6 ≤ a1 → Rn X m_Rf_poke 12 [some (vR [1]), some (vI a1), some (vI (a1 + 1)), none] [] h Q))) : Rn X m_Rf_poke 2 [some (vR [1]), some (vI a1), none, none] [] h Q := by
  refine Rn.iload_n (n := 3) (i := 1) d_Rf_poke_2 rfl rfl rfl ?_
  refine Rn.bipush (n := 5) (v := 6) d_Rf_poke_3 rfl (by decide) ?_
  refine Rn.icmp_ge (n := 8) (t := 195) d_Rf_poke_5 rfl (by decide) (fun cc => ?_) (fun cc => ?_)
  · have k := k.1 cc
    exact Rn.vret d_Rf_poke_195 rfl k
  · have k := k.2 cc
    refine Rn.iload_n (n := 9) (i := 1) d_Rf_poke_8 rfl rfl rfl ?_
    refine Rn.iconst (n := 10) (v := 1) d_Rf_poke_9 rfl (by decide) ?_
    refine Rn.iadd (n := 11) d_Rf_poke_10 rfl ?_
    refine Rn.istore_n (n := 12) (i := 2) (ls2 := [some (vR [1]), some (vI a1), some (vI (a1 + 1)), none]) d_Rf_poke_11 rfl rfl (Nat.le_of_ble_eq_true rfl) rfl ?_
    exact k
theorem g_Rf_poke_12 {X : XS} (a1 : Int32) (a2 : Int32) (h : Hp) (Q : Option AV → Hp → Prop)  (k : ((6 ≤ a2 → Rn X m_Rf_poke 2 [some (vR [1]), some (vI (a1 + 1)), none, none] [] h Q) ∧ (¬ 6 ≤ a2 → (∃ Q'4, EvI X m_Rf_isOn [vR [1], vI a1] h Q'4 ∧ ∀ (r5 : Int32) (h3 : Hp), Q'4 r5 h3 → ((r5 = 0 → Rn X m_Rf_poke 12 [some (vR [1]), some (vI a1), some (vI (a2 + 1)), none] [] h3 Q) ∧ (¬ r5 = 0 → (∃ Q'9, EvI X m_Rf_isOn [vR [1], vI a2] h3 Q'9 ∧ ∀ (r10 : Int32) (h8 : Hp), Q'9 r10 h8 → ((r10 = 0 → Rn X m_Rf_poke 12 [some (vR [1]), some (vI a1), some (vI (a2 + 1)), none] [] h8 Q) ∧ (¬ r10 = 0 → (vp_in a1 6 ∧ (((h8.1 [22, 1] a1.toNatClampNeg) ≤ 0 → Rn X m_Rf_poke 12 [some (vR [1]), some (vI a1), some (vI (a2 + 1)), none] [] h8 Q) ∧ (¬ (h8.1 [22, 1] a1.toNatClampNeg) ≤ 0 → (vp_in a2 6 ∧ (((h8.1 [22, 1] a2.toNatClampNeg) ≤ 0 → Rn X m_Rf_poke 12 [some (vR [1]), some (vI a1), some (vI (a2 + 1)), none] [] h8 Q) ∧ (¬ (h8.1 [22, 1] a2.toNatClampNeg) ≤ 0 → (vp_in a1 6 ∧ (vp_in a2 6 ∧ (((h8.1 [22, 1] a1.toNatClampNeg) ≤ (h8.1 [22, 1] a2.toNatClampNeg) → (vp_in a2 6 ∧ Rn X m_Rf_poke 82 [some (vR [1]), some (vI a1), some (vI a2), none] [vI (h8.1 [22, 1] a2.toNatClampNeg)] h8 Q)) ∧ (¬ (h8.1 [22, 1] a1.toNatClampNeg) ≤ (h8.1 [22, 1] a2.toNatClampNeg) → (vp_in a1 6 ∧ Rn X m_Rf_poke 82 [some (vR [1]), some (vI a1), some (vI a2), none] [vI (h8.1 [22, 1] a1.toNatClampNeg)] h8 Q)))))))))))))))))))) : Rn X m_Rf_poke 12 [some (vR [1]), some (vI a1), some (vI a2), none] [] h Q := by
  refine Rn.iload_n (n := 13) (i := 2) d_Rf_poke_12 rfl rfl rfl ?_
  refine Rn.bipush (n := 15) (v := 6) d_Rf_poke_13 rfl (by decide) ?_
  refine Rn.icmp_ge (n := 18) (t := 189) d_Rf_poke_15 rfl (by decide) (fun cc => ?_) (fun cc => ?_)
  · have k := k.1 cc
    refine Rn.iinc (n := 192) (i := 1) (v := a1 + 1) (ls2 := [some (vR [1]), some (vI (a1 + 1)), some (vI a2), none]) d_Rf_poke_189 rfl rfl rfl (Nat.le_of_ble_eq_true rfl) rfl ?_
    refine Rn.goto (n := 2) d_Rf_poke_192 (by decide) ?_
    exact Rn.loc [some (vR [1]), some (vI (a1 + 1)), none, none] (LLe_ok ⟨rfl, ⟨rfl, trivial⟩⟩) k
  · have k := k.2 cc
    refine Rn.aload_n (n := 19) (i := 0) d_Rf_poke_18 rfl rfl rfl ?_
    refine Rn.iload_n (n := 20) (i := 1) d_Rf_poke_19 rfl rfl rfl ?_
    obtain ⟨Q'4, ev1, k⟩ := k
    refine Rn.callV (n := 23) (av := [vI a1]) d_Rf_poke_20 rfl ml_Rf_poke_181 mi_Rf_isOn Lv_1 rfl rfl rfl rfl (Nat.le_of_ble_eq_true rfl) ev1 (fun v h3 hq => ?_)
    obtain ⟨r5, rfl, hq⟩ := hq
    have k := k r5 h3 hq
    show Rn X m_Rf_poke 23 [some (vR [1]), some (vI a1), some (vI a2), none] [vI r5] h3 Q
    refine Rn.if_eq (n := 26) (t := 183) d_Rf_poke_23 rfl (by decide) (fun cc => ?_) (fun cc => ?_)
    · have k := k.1 cc
      refine Rn.iinc (n := 186) (i := 2) (v := a2 + 1) (ls2 := [some (vR [1]), some (vI a1), some (vI (a2 + 1)), none]) d_Rf_poke_183 rfl rfl rfl (Nat.le_of_ble_eq_true rfl) rfl ?_
      refine Rn.goto (n := 12) d_Rf_poke_186 (by decide) ?_
      exact k
    · have k := k.2 cc
      refine Rn.aload_n (n := 27) (i := 0) d_Rf_poke_26 rfl rfl rfl ?_
      refine Rn.iload_n (n := 28) (i := 2) d_Rf_poke_27 rfl rfl rfl ?_
      obtain ⟨Q'9, ev6, k⟩ := k
      refine Rn.callV (n := 31) (av := [vI a2]) d_Rf_poke_28 rfl ml_Rf_poke_181 mi_Rf_isOn Lv_1 rfl rfl rfl rfl (Nat.le_of_ble_eq_true rfl) ev6 (fun v h8 hq => ?_)
      obtain ⟨r10, rfl, hq⟩ := hq
      have k := k r10 h8 hq
      show Rn X m_Rf_poke 31 [some (vR [1]), some (vI a1), some (vI a2), none] [vI r10] h8 Q
      refine Rn.if_eq (n := 34) (t := 183) d_Rf_poke_31 rfl (by decide) (fun cc => ?_) (fun cc => ?_)
      · have k := k.1 cc
        refine Rn.iinc (n := 186) (i := 2) (v := a2 + 1) (ls2 := [some (vR [1]), some (vI a1), some (vI (a2 + 1)), none]) d_Rf_poke_183 rfl rfl rfl (Nat.le_of_ble_eq_true rfl) rfl ?_
        refine Rn.goto (n := 12) d_Rf_poke_186 (by decide) ?_
        exact k
      · have k := k.2 cc
        refine Rn.aload_n (n := 35) (i := 0) d_Rf_poke_34 rfl rfl rfl ?_
        refine Rn.getf (n := 38) (v := vR [22, 1]) d_Rf_poke_35 rfl fl_Rf_42 Lv_1 rfl ?_
        refine Rn.iload_n (n := 39) (i := 1) d_Rf_poke_38 rfl rfl rfl ?_
        obtain ⟨b11, k⟩ := k
        refine Rn.iald (n := 40) (v := h8.1 [22, 1] a1.toNatClampNeg) d_Rf_poke_39 rfl Lv_22_1 b11 rfl ?_
        refine Rn.if_le (n := 43) (t := 183) d_Rf_poke_40 rfl (by decide) (fun cc => ?_) (fun cc => ?_)
        · have k := k.1 cc
          refine Rn.iinc (n := 186) (i := 2) (v := a2 + 1) (ls2 := [some (vR [1]), some (vI a1), some (vI (a2 + 1)), none]) d_Rf_poke_183 rfl rfl rfl (Nat.le_of_ble_eq_true rfl) rfl ?_
          refine Rn.goto (n := 12) d_Rf_poke_186 (by decide) ?_
          exact k
        · have k := k.2 cc
          refine Rn.aload_n (n := 44) (i := 0) d_Rf_poke_43 rfl rfl rfl ?_
          refine Rn.getf (n := 47) (v := vR [22, 1]) d_Rf_poke_44 rfl fl_Rf_42 Lv_1 rfl ?_
          refine Rn.iload_n (n := 48) (i := 2) d_Rf_poke_47 rfl rfl rfl ?_
          obtain ⟨b12, k⟩ := k
          refine Rn.iald (n := 49) (v := h8.1 [22, 1] a2.toNatClampNeg) d_Rf_poke_48 rfl Lv_22_1 b12 rfl ?_
          refine Rn.if_le (n := 52) (t := 183) d_Rf_poke_49 rfl (by decide) (fun cc => ?_) (fun cc => ?_)
          · have k := k.1 cc
            refine Rn.iinc (n := 186) (i := 2) (v := a2 + 1) (ls2 := [some (vR [1]), some (vI a1), some (vI (a2 + 1)), none]) d_Rf_poke_183 rfl rfl rfl (Nat.le_of_ble_eq_true rfl) rfl ?_
            refine Rn.goto (n := 12) d_Rf_poke_186 (by decide) ?_
            exact k
          · have k := k.2 cc
            refine Rn.aload_n (n := 53) (i := 0) d_Rf_poke_52 rfl rfl rfl ?_
            refine Rn.getf (n := 56) (v := vR [22, 1]) d_Rf_poke_53 rfl fl_Rf_42 Lv_1 rfl ?_
            refine Rn.iload_n (n := 57) (i := 1) d_Rf_poke_56 rfl rfl rfl ?_
            obtain ⟨b13, k⟩ := k
            refine Rn.iald (n := 58) (v := h8.1 [22, 1] a1.toNatClampNeg) d_Rf_poke_57 rfl Lv_22_1 b13 rfl ?_
            refine Rn.aload_n (n := 59) (i := 0) d_Rf_poke_58 rfl rfl rfl ?_
            refine Rn.getf (n := 62) (v := vR [22, 1]) d_Rf_poke_59 rfl fl_Rf_42 Lv_1 rfl ?_
            refine Rn.iload_n (n := 63) (i := 2) d_Rf_poke_62 rfl rfl rfl ?_
            obtain ⟨b14, k⟩ := k
            refine Rn.iald (n := 64) (v := h8.1 [22, 1] a2.toNatClampNeg) d_Rf_poke_63 rfl Lv_22_1 b14 rfl ?_
            refine Rn.icmp_le (n := 67) (t := 76) d_Rf_poke_64 rfl (by decide) (fun cc => ?_) (fun cc => ?_)
            · have k := k.1 cc
              refine Rn.aload_n (n := 77) (i := 0) d_Rf_poke_76 rfl rfl rfl ?_
              refine Rn.getf (n := 80) (v := vR [22, 1]) d_Rf_poke_77 rfl fl_Rf_42 Lv_1 rfl ?_
              refine Rn.iload_n (n := 81) (i := 2) d_Rf_poke_80 rfl rfl rfl ?_
              obtain ⟨b15, k⟩ := k
              refine Rn.iald (n := 82) (v := h8.1 [22, 1] a2.toNatClampNeg) d_Rf_poke_81 rfl Lv_22_1 b15 rfl ?_
              exact k
            · have k := k.2 cc
              refine Rn.aload_n (n := 68) (i := 0) d_Rf_poke_67 rfl rfl rfl ?_
              refine Rn.getf (n := 71) (v := vR [22, 1]) d_Rf_poke_68 rfl fl_Rf_42 Lv_1 rfl ?_
              refine Rn.iload_n (n := 72) (i := 1) d_Rf_poke_71 rfl rfl rfl ?_
              obtain ⟨b16, k⟩ := k
              refine Rn.iald (n := 73) (v := h8.1 [22, 1] a1.toNatClampNeg) d_Rf_poke_72 rfl Lv_22_1 b16 rfl ?_
              refine Rn.goto (n := 82) d_Rf_poke_73 (by decide) ?_
              exact k
theorem g_Rf_poke_82 {X : XS} (a1 : Int32) (a2 : Int32) (s0 : Int32) (h : Hp) (Q : Option AV → Hp → Prop)  (k : (vp_in ((6 * a1) + 3) 36 ∧ (vp_in ((6 * a2) + 3) 36 ∧ (∃ Q'6, EvI X m_Rf_off [vI (h.1 [4, 1] ((6 * a1) + 3).toNatClampNeg), vI (h.1 [4, 1] ((6 * a2) + 3).toNatClampNeg)] h Q'6 ∧ ∀ (r7 : Int32) (h5 : Hp), Q'6 r7 h5 → ((2 ≤ r7 → Rn X m_Rf_poke 12 [some (vR [1]), some (vI a1), some (vI (a2 + 1)), none] [] h5 Q) ∧ (¬ 2 ≤ r7 → (∃ Q'11, EvI X m_Rf_placeOf [vR [1], vI a1] h5 Q'11 ∧ ∀ (r12 : Int32) (h10 : Hp), Q'11 r12 h10 → (∃ Q'16, EvI X m_Rf_placeOf [vR [1], vI a2] h10 Q'16 ∧ ∀ (r17 : Int32) (h15 : Hp), Q'16 r17 h15 → (∃ Q'21, EvI X m_Rf_off [vI r12, vI r17] h15 Q'21 ∧ ∀ (r22 : Int32) (h20 : Hp), Q'21 r22 h20 → ((2 ≤ r22 → Rn X m_Rf_poke 12 [some (vR [1]), some (vI a1), some (vI (a2 + 1)), none] [] h20 Q) ∧ (¬ 2 ≤ r22 → (∃ Q'26, EvI X m_Rf_laneOf [vR [1], vI a1] h20 Q'26 ∧ ∀ (r27 : Int32) (h25 : Hp), Q'26 r27 h25 → (∃ Q'31, EvI X m_Rf_laneOf [vR [1], vI a2] h25 Q'31 ∧ ∀ (r32 : Int32) (h30 : Hp), Q'31 r32 h30 → (∃ Q'36, EvI X m_Rf_off [vI r27, vI r32] h30 Q'36 ∧ ∀ (r37 : Int32) (h35 : Hp), Q'36 r37 h35 → ((s0 < r37 → Rn X m_Rf_poke 12 [some (vR [1]), some (vI a1), some (vI (a2 + 1)), none] [] h35 Q) ∧ (¬ s0 < r37 → (vp_in (12 + a1) 26 ∧ (vp_in (12 + a1) 26 ∧ (vp_in (12 + a2) 26 ∧ (vp_in (12 + a2) 26 ∧ Rn X m_Rf_poke 12 [some (vR [1]), some (vI a1), some (vI (a2 + 1)), none] [] (hsI (hsI (hsI h35 [18, 1] ((12 + a1).toNatClampNeg) ((h35.1 [18, 1] (12 + a1).toNatClampNeg) + 1)) [18, 1] ((12 + a2).toNatClampNeg) (((hsI h35 [18, 1] ((12 + a1).toNatClampNeg) ((h35.1 [18, 1] (12 + a1).toNatClampNeg) + 1)).1 [18, 1] (12 + a2).toNatClampNeg) + 1)) [18, 1] 25 (((hsI (hsI h35 [18, 1] ((12 + a1).toNatClampNeg) ((h35.1 [18, 1] (12 + a1).toNatClampNeg) + 1)) [18, 1] ((12 + a2).toNatClampNeg) (((hsI h35 [18, 1] ((12 + a1).toNatClampNeg) ((h35.1 [18, 1] (12 + a1).toNatClampNeg) + 1)).1 [18, 1] (12 + a2).toNatClampNeg) + 1)).1 [18, 1] 25) + 1)) Q)))))))))))))))))))) : Rn X m_Rf_poke 82 [some (vR [1]), some (vI a1), some (vI a2), none] [vI s0] h Q := by
  refine Rn.istore_n (n := 83) (i := 3) (ls2 := [some (vR [1]), some (vI a1), some (vI a2), some (vI s0)]) d_Rf_poke_82 rfl rfl (Nat.le_of_ble_eq_true rfl) rfl ?_
  refine Rn.aload_n (n := 84) (i := 0) d_Rf_poke_83 rfl rfl rfl ?_
  refine Rn.getf (n := 87) (v := vR [4, 1]) d_Rf_poke_84 rfl fl_Rf_16 Lv_1 rfl ?_
  refine Rn.bipush (n := 89) (v := 6) d_Rf_poke_87 rfl (by decide) ?_
  refine Rn.iload_n (n := 90) (i := 1) d_Rf_poke_89 rfl rfl rfl ?_
  refine Rn.imul (n := 91) d_Rf_poke_90 rfl ?_
  refine Rn.iconst (n := 92) (v := 3) d_Rf_poke_91 rfl (by decide) ?_
  refine Rn.iadd (n := 93) d_Rf_poke_92 rfl ?_
  obtain ⟨b1, k⟩ := k
  refine Rn.iald (n := 94) (v := h.1 [4, 1] ((6 * a1) + 3).toNatClampNeg) d_Rf_poke_93 rfl Lv_4_1 b1 rfl ?_
  refine Rn.aload_n (n := 95) (i := 0) d_Rf_poke_94 rfl rfl rfl ?_
  refine Rn.getf (n := 98) (v := vR [4, 1]) d_Rf_poke_95 rfl fl_Rf_16 Lv_1 rfl ?_
  refine Rn.bipush (n := 100) (v := 6) d_Rf_poke_98 rfl (by decide) ?_
  refine Rn.iload_n (n := 101) (i := 2) d_Rf_poke_100 rfl rfl rfl ?_
  refine Rn.imul (n := 102) d_Rf_poke_101 rfl ?_
  refine Rn.iconst (n := 103) (v := 3) d_Rf_poke_102 rfl (by decide) ?_
  refine Rn.iadd (n := 104) d_Rf_poke_103 rfl ?_
  obtain ⟨b2, k⟩ := k
  refine Rn.iald (n := 105) (v := h.1 [4, 1] ((6 * a2) + 3).toNatClampNeg) d_Rf_poke_104 rfl Lv_4_1 b2 rfl ?_
  obtain ⟨Q'6, ev3, k⟩ := k
  refine Rn.callS (n := 108) (av := [vI (h.1 [4, 1] ((6 * a1) + 3).toNatClampNeg), vI (h.1 [4, 1] ((6 * a2) + 3).toNatClampNeg)]) d_Rf_poke_105 rfl ml_Rf_poke_184 ms_Rf_off rfl rfl (Nat.le_of_ble_eq_true rfl) ev3 (fun v h5 hq => ?_)
  obtain ⟨r7, rfl, hq⟩ := hq
  have k := k r7 h5 hq
  show Rn X m_Rf_poke 108 [some (vR [1]), some (vI a1), some (vI a2), some (vI s0)] [vI r7] h5 Q
  refine Rn.iconst (n := 109) (v := 2) d_Rf_poke_108 rfl (by decide) ?_
  refine Rn.icmp_ge (n := 112) (t := 183) d_Rf_poke_109 rfl (by decide) (fun cc => ?_) (fun cc => ?_)
  · have k := k.1 cc
    refine Rn.iinc (n := 186) (i := 2) (v := a2 + 1) (ls2 := [some (vR [1]), some (vI a1), some (vI (a2 + 1)), some (vI s0)]) d_Rf_poke_183 rfl rfl rfl (Nat.le_of_ble_eq_true rfl) rfl ?_
    refine Rn.goto (n := 12) d_Rf_poke_186 (by decide) ?_
    exact Rn.loc [some (vR [1]), some (vI a1), some (vI (a2 + 1)), none] (LLe_ok ⟨rfl, ⟨rfl, ⟨rfl, trivial⟩⟩⟩) k
  · have k := k.2 cc
    refine Rn.aload_n (n := 113) (i := 0) d_Rf_poke_112 rfl rfl rfl ?_
    refine Rn.iload_n (n := 114) (i := 1) d_Rf_poke_113 rfl rfl rfl ?_
    obtain ⟨Q'11, ev8, k⟩ := k
    refine Rn.callV (n := 117) (av := [vI a1]) d_Rf_poke_114 rfl ml_Rf_poke_175 mi_Rf_placeOf Lv_1 rfl rfl rfl rfl (Nat.le_of_ble_eq_true rfl) ev8 (fun v h10 hq => ?_)
    obtain ⟨r12, rfl, hq⟩ := hq
    have k := k r12 h10 hq
    show Rn X m_Rf_poke 117 [some (vR [1]), some (vI a1), some (vI a2), some (vI s0)] [vI r12] h10 Q
    refine Rn.aload_n (n := 118) (i := 0) d_Rf_poke_117 rfl rfl rfl ?_
    refine Rn.iload_n (n := 119) (i := 2) d_Rf_poke_118 rfl rfl rfl ?_
    obtain ⟨Q'16, ev13, k⟩ := k
    refine Rn.callV (n := 122) (av := [vI a2]) d_Rf_poke_119 rfl ml_Rf_poke_175 mi_Rf_placeOf Lv_1 rfl rfl rfl rfl (Nat.le_of_ble_eq_true rfl) ev13 (fun v h15 hq => ?_)
    obtain ⟨r17, rfl, hq⟩ := hq
    have k := k r17 h15 hq
    show Rn X m_Rf_poke 122 [some (vR [1]), some (vI a1), some (vI a2), some (vI s0)] [vI r17, vI r12] h15 Q
    obtain ⟨Q'21, ev18, k⟩ := k
    refine Rn.callS (n := 125) (av := [vI r12, vI r17]) d_Rf_poke_122 rfl ml_Rf_poke_184 ms_Rf_off rfl rfl (Nat.le_of_ble_eq_true rfl) ev18 (fun v h20 hq => ?_)
    obtain ⟨r22, rfl, hq⟩ := hq
    have k := k r22 h20 hq
    show Rn X m_Rf_poke 125 [some (vR [1]), some (vI a1), some (vI a2), some (vI s0)] [vI r22] h20 Q
    refine Rn.iconst (n := 126) (v := 2) d_Rf_poke_125 rfl (by decide) ?_
    refine Rn.icmp_ge (n := 129) (t := 183) d_Rf_poke_126 rfl (by decide) (fun cc => ?_) (fun cc => ?_)
    · have k := k.1 cc
      refine Rn.iinc (n := 186) (i := 2) (v := a2 + 1) (ls2 := [some (vR [1]), some (vI a1), some (vI (a2 + 1)), some (vI s0)]) d_Rf_poke_183 rfl rfl rfl (Nat.le_of_ble_eq_true rfl) rfl ?_
      refine Rn.goto (n := 12) d_Rf_poke_186 (by decide) ?_
      exact Rn.loc [some (vR [1]), some (vI a1), some (vI (a2 + 1)), none] (LLe_ok ⟨rfl, ⟨rfl, ⟨rfl, trivial⟩⟩⟩) k
    · have k := k.2 cc
      refine Rn.aload_n (n := 130) (i := 0) d_Rf_poke_129 rfl rfl rfl ?_
      refine Rn.iload_n (n := 131) (i := 1) d_Rf_poke_130 rfl rfl rfl ?_
      obtain ⟨Q'26, ev23, k⟩ := k
      refine Rn.callV (n := 134) (av := [vI a1]) d_Rf_poke_131 rfl ml_Rf_poke_178 mi_Rf_laneOf Lv_1 rfl rfl rfl rfl (Nat.le_of_ble_eq_true rfl) ev23 (fun v h25 hq => ?_)
      obtain ⟨r27, rfl, hq⟩ := hq
      have k := k r27 h25 hq
      show Rn X m_Rf_poke 134 [some (vR [1]), some (vI a1), some (vI a2), some (vI s0)] [vI r27] h25 Q
      refine Rn.aload_n (n := 135) (i := 0) d_Rf_poke_134 rfl rfl rfl ?_
      refine Rn.iload_n (n := 136) (i := 2) d_Rf_poke_135 rfl rfl rfl ?_
      obtain ⟨Q'31, ev28, k⟩ := k
      refine Rn.callV (n := 139) (av := [vI a2]) d_Rf_poke_136 rfl ml_Rf_poke_178 mi_Rf_laneOf Lv_1 rfl rfl rfl rfl (Nat.le_of_ble_eq_true rfl) ev28 (fun v h30 hq => ?_)
      obtain ⟨r32, rfl, hq⟩ := hq
      have k := k r32 h30 hq
      show Rn X m_Rf_poke 139 [some (vR [1]), some (vI a1), some (vI a2), some (vI s0)] [vI r32, vI r27] h30 Q
      obtain ⟨Q'36, ev33, k⟩ := k
      refine Rn.callS (n := 142) (av := [vI r27, vI r32]) d_Rf_poke_139 rfl ml_Rf_poke_184 ms_Rf_off rfl rfl (Nat.le_of_ble_eq_true rfl) ev33 (fun v h35 hq => ?_)
      obtain ⟨r37, rfl, hq⟩ := hq
      have k := k r37 h35 hq
      show Rn X m_Rf_poke 142 [some (vR [1]), some (vI a1), some (vI a2), some (vI s0)] [vI r37] h35 Q
      refine Rn.iload_n (n := 143) (i := 3) d_Rf_poke_142 rfl rfl rfl ?_
      refine Rn.icmp_gt (n := 146) (t := 183) d_Rf_poke_143 rfl (by decide) (fun cc => ?_) (fun cc => ?_)
      · have k := k.1 cc
        refine Rn.iinc (n := 186) (i := 2) (v := a2 + 1) (ls2 := [some (vR [1]), some (vI a1), some (vI (a2 + 1)), some (vI s0)]) d_Rf_poke_183 rfl rfl rfl (Nat.le_of_ble_eq_true rfl) rfl ?_
        refine Rn.goto (n := 12) d_Rf_poke_186 (by decide) ?_
        exact Rn.loc [some (vR [1]), some (vI a1), some (vI (a2 + 1)), none] (LLe_ok ⟨rfl, ⟨rfl, ⟨rfl, trivial⟩⟩⟩) k
      · have k := k.2 cc
        refine Rn.aload_n (n := 147) (i := 0) d_Rf_poke_146 rfl rfl rfl ?_
        refine Rn.getf (n := 150) (v := vR [18, 1]) d_Rf_poke_147 rfl fl_Rf_29 Lv_1 rfl ?_
        refine Rn.bipush (n := 152) (v := 12) d_Rf_poke_150 rfl (by decide) ?_
        refine Rn.iload_n (n := 153) (i := 1) d_Rf_poke_152 rfl rfl rfl ?_
        refine Rn.iadd (n := 154) d_Rf_poke_153 rfl ?_
        refine Rn.dup2 (n := 155) d_Rf_poke_154 rfl rfl rfl ?_
        obtain ⟨b38, k⟩ := k
        refine Rn.iald (n := 156) (v := h35.1 [18, 1] (12 + a1).toNatClampNeg) d_Rf_poke_155 rfl Lv_18_1 b38 rfl ?_
        refine Rn.iconst (n := 157) (v := 1) d_Rf_poke_156 rfl (by decide) ?_
        refine Rn.iadd (n := 158) d_Rf_poke_157 rfl ?_
        obtain ⟨b39, k⟩ := k
        refine Rn.iast (n := 159) d_Rf_poke_158 rfl Lv_18_1 b39 ?_
        refine Rn.aload_n (n := 160) (i := 0) d_Rf_poke_159 rfl rfl rfl ?_
        refine Rn.getf (n := 163) (v := vR [18, 1]) d_Rf_poke_160 rfl fl_Rf_29 Lv_1 rfl ?_
        refine Rn.bipush (n := 165) (v := 12) d_Rf_poke_163 rfl (by decide) ?_
        refine Rn.iload_n (n := 166) (i := 2) d_Rf_poke_165 rfl rfl rfl ?_
        refine Rn.iadd (n := 167) d_Rf_poke_166 rfl ?_
        refine Rn.dup2 (n := 168) d_Rf_poke_167 rfl rfl rfl ?_
        obtain ⟨b40, k⟩ := k
        refine Rn.iald (n := 169) (v := (hsI h35 [18, 1] ((12 + a1).toNatClampNeg) ((h35.1 [18, 1] (12 + a1).toNatClampNeg) + 1)).1 [18, 1] (12 + a2).toNatClampNeg) d_Rf_poke_168 rfl Lv_18_1 b40 rfl ?_
        refine Rn.iconst (n := 170) (v := 1) d_Rf_poke_169 rfl (by decide) ?_
        refine Rn.iadd (n := 171) d_Rf_poke_170 rfl ?_
        obtain ⟨b41, k⟩ := k
        refine Rn.iast (n := 172) d_Rf_poke_171 rfl Lv_18_1 b41 ?_
        refine Rn.aload_n (n := 173) (i := 0) d_Rf_poke_172 rfl rfl rfl ?_
        refine Rn.getf (n := 176) (v := vR [18, 1]) d_Rf_poke_173 rfl fl_Rf_29 Lv_1 rfl ?_
        refine Rn.bipush (n := 178) (v := 25) d_Rf_poke_176 rfl (by decide) ?_
        refine Rn.dup2 (n := 179) d_Rf_poke_178 rfl rfl rfl ?_
        refine Rn.iald (n := 180) (v := (hsI (hsI h35 [18, 1] ((12 + a1).toNatClampNeg) ((h35.1 [18, 1] (12 + a1).toNatClampNeg) + 1)) [18, 1] ((12 + a2).toNatClampNeg) (((hsI h35 [18, 1] ((12 + a1).toNatClampNeg) ((h35.1 [18, 1] (12 + a1).toNatClampNeg) + 1)).1 [18, 1] (12 + a2).toNatClampNeg) + 1)).1 [18, 1] 25) d_Rf_poke_179 rfl Lv_18_1 (by unfold vp_in; decide) rfl ?_
        refine Rn.iconst (n := 181) (v := 1) d_Rf_poke_180 rfl (by decide) ?_
        refine Rn.iadd (n := 182) d_Rf_poke_181 rfl ?_
        refine Rn.iast (n := 183) d_Rf_poke_182 rfl Lv_18_1 (by unfold vp_in; decide) ?_
        show Rn X m_Rf_poke 183 [some (vR [1]), some (vI a1), some (vI a2), some (vI s0)] [] (hsI (hsI (hsI h35 [18, 1] ((12 + a1).toNatClampNeg) ((h35.1 [18, 1] (12 + a1).toNatClampNeg) + 1)) [18, 1] ((12 + a2).toNatClampNeg) (((hsI h35 [18, 1] ((12 + a1).toNatClampNeg) ((h35.1 [18, 1] (12 + a1).toNatClampNeg) + 1)).1 [18, 1] (12 + a2).toNatClampNeg) + 1)) [18, 1] 25 (((hsI (hsI h35 [18, 1] ((12 + a1).toNatClampNeg) ((h35.1 [18, 1] (12 + a1).toNatClampNeg) + 1)) [18, 1] ((12 + a2).toNatClampNeg) (((hsI h35 [18, 1] ((12 + a1).toNatClampNeg) ((h35.1 [18, 1] (12 + a1).toNatClampNeg) + 1)).1 [18, 1] (12 + a2).toNatClampNeg) + 1)).1 [18, 1] 25) + 1)) Q
        refine Rn.iinc (n := 186) (i := 2) (v := a2 + 1) (ls2 := [some (vR [1]), some (vI a1), some (vI (a2 + 1)), some (vI s0)]) d_Rf_poke_183 rfl rfl rfl (Nat.le_of_ble_eq_true rfl) rfl ?_
        refine Rn.goto (n := 12) d_Rf_poke_186 (by decide) ?_
        exact Rn.loc [some (vR [1]), some (vI a1), some (vI (a2 + 1)), none] (LLe_ok ⟨rfl, ⟨rfl, ⟨rfl, trivial⟩⟩⟩) k
theorem e_Rf_poke {X : XS}  (h : Hp) (Q : Option AV → Hp → Prop) (k : Rn X m_Rf_poke 0 [some (vR [1]), none, none, none] [] h Q) : Ev X m_Rf_poke [vR [1]] h Q := Ev.intro (plainFor_of_name (by decide +kernel)) (Nat.le_of_ble_eq_true rfl) (ls := [some (vR [1]), none, none, none]) rfl k
theorem d_Rf_wetNow_0 : decode m_Rf_wetNow.2.1 0 = .ok (.aload_n 0, 1) := by decide +kernel
theorem d_Rf_wetNow_1 : decode m_Rf_wetNow.2.1 1 = .ok (.getfield 20, 3) := by decide +kernel
theorem d_Rf_wetNow_4 : decode m_Rf_wetNow.2.1 4 = .ok (.aload_n 0, 1) := by decide +kernel
theorem d_Rf_wetNow_5 : decode m_Rf_wetNow.2.1 5 = .ok (.getfield 29, 3) := by decide +kernel
theorem d_Rf_wetNow_8 : decode m_Rf_wetNow.2.1 8 = .ok (.bipush 24, 2) := by decide +kernel
theorem d_Rf_wetNow_10 : decode m_Rf_wetNow.2.1 10 = .ok (.iaload, 1) := by decide +kernel
theorem d_Rf_wetNow_11 : decode m_Rf_wetNow.2.1 11 = .ok (.iaload, 1) := by decide +kernel
theorem d_Rf_wetNow_12 : decode m_Rf_wetNow.2.1 12 = .ok (.istore_n 2, 1) := by decide +kernel
theorem d_Rf_wetNow_13 : decode m_Rf_wetNow.2.1 13 = .ok (.aload_n 0, 1) := by decide +kernel
theorem d_Rf_wetNow_14 : decode m_Rf_wetNow.2.1 14 = .ok (.getfield 158, 3) := by decide +kernel
theorem d_Rf_wetNow_17 : decode m_Rf_wetNow.2.1 17 = .ok (.aload_n 0, 1) := by decide +kernel
theorem d_Rf_wetNow_18 : decode m_Rf_wetNow.2.1 18 = .ok (.getfield 29, 3) := by decide +kernel
theorem d_Rf_wetNow_21 : decode m_Rf_wetNow.2.1 21 = .ok (.iload_n 1, 1) := by decide +kernel
theorem d_Rf_wetNow_22 : decode m_Rf_wetNow.2.1 22 = .ok (.iaload, 1) := by decide +kernel
theorem d_Rf_wetNow_23 : decode m_Rf_wetNow.2.1 23 = .ok (.iconst 1, 1) := by decide +kernel
theorem d_Rf_wetNow_24 : decode m_Rf_wetNow.2.1 24 = .ok (.isub, 1) := by decide +kernel
theorem d_Rf_wetNow_25 : decode m_Rf_wetNow.2.1 25 = .ok (.lshr, 1) := by decide +kernel
theorem d_Rf_wetNow_26 : decode m_Rf_wetNow.2.1 26 = .ok (.lconst 1, 1) := by decide +kernel
theorem d_Rf_wetNow_27 : decode m_Rf_wetNow.2.1 27 = .ok (.land, 1) := by decide +kernel
theorem d_Rf_wetNow_28 : decode m_Rf_wetNow.2.1 28 = .ok (.lconst 1, 1) := by decide +kernel
theorem d_Rf_wetNow_29 : decode m_Rf_wetNow.2.1 29 = .ok (.lcmp, 1) := by decide +kernel
theorem d_Rf_wetNow_30 : decode m_Rf_wetNow.2.1 30 = .ok (.ifCond .ne 5, 3) := by decide +kernel
theorem d_Rf_wetNow_33 : decode m_Rf_wetNow.2.1 33 = .ok (.iconst 0, 1) := by decide +kernel
theorem d_Rf_wetNow_34 : decode m_Rf_wetNow.2.1 34 = .ok (.ireturn, 1) := by decide +kernel
theorem d_Rf_wetNow_35 : decode m_Rf_wetNow.2.1 35 = .ok (.aload_n 0, 1) := by decide +kernel
theorem d_Rf_wetNow_36 : decode m_Rf_wetNow.2.1 36 = .ok (.getfield 42, 3) := by decide +kernel
theorem d_Rf_wetNow_39 : decode m_Rf_wetNow.2.1 39 = .ok (.iload_n 1, 1) := by decide +kernel
theorem d_Rf_wetNow_40 : decode m_Rf_wetNow.2.1 40 = .ok (.iaload, 1) := by decide +kernel
theorem d_Rf_wetNow_41 : decode m_Rf_wetNow.2.1 41 = .ok (.ifCond .le 14, 3) := by decide +kernel
theorem d_Rf_wetNow_44 : decode m_Rf_wetNow.2.1 44 = .ok (.iload_n 2, 1) := by decide +kernel
theorem d_Rf_wetNow_45 : decode m_Rf_wetNow.2.1 45 = .ok (.aload_n 0, 1) := by decide +kernel
theorem d_Rf_wetNow_46 : decode m_Rf_wetNow.2.1 46 = .ok (.getfield 42, 3) := by decide +kernel
theorem d_Rf_wetNow_49 : decode m_Rf_wetNow.2.1 49 = .ok (.iload_n 1, 1) := by decide +kernel
theorem d_Rf_wetNow_50 : decode m_Rf_wetNow.2.1 50 = .ok (.iaload, 1) := by decide +kernel
theorem d_Rf_wetNow_51 : decode m_Rf_wetNow.2.1 51 = .ok (.iconst 1, 1) := by decide +kernel
theorem d_Rf_wetNow_52 : decode m_Rf_wetNow.2.1 52 = .ok (.iadd, 1) := by decide +kernel
theorem d_Rf_wetNow_53 : decode m_Rf_wetNow.2.1 53 = .ok (.idiv, 1) := by decide +kernel
theorem d_Rf_wetNow_54 : decode m_Rf_wetNow.2.1 54 = .ok (.ireturn, 1) := by decide +kernel
theorem d_Rf_wetNow_55 : decode m_Rf_wetNow.2.1 55 = .ok (.iload_n 2, 1) := by decide +kernel
theorem d_Rf_wetNow_56 : decode m_Rf_wetNow.2.1 56 = .ok (.istore_n 3, 1) := by decide +kernel
theorem d_Rf_wetNow_57 : decode m_Rf_wetNow.2.1 57 = .ok (.iconst 0, 1) := by decide +kernel
theorem d_Rf_wetNow_58 : decode m_Rf_wetNow.2.1 58 = .ok (.istore 4, 2) := by decide +kernel
theorem d_Rf_wetNow_60 : decode m_Rf_wetNow.2.1 60 = .ok (.iconst 0, 1) := by decide +kernel
theorem d_Rf_wetNow_61 : decode m_Rf_wetNow.2.1 61 = .ok (.istore 5, 2) := by decide +kernel
theorem d_Rf_wetNow_63 : decode m_Rf_wetNow.2.1 63 = .ok (.iload 5, 2) := by decide +kernel
theorem d_Rf_wetNow_65 : decode m_Rf_wetNow.2.1 65 = .ok (.bipush 6, 2) := by decide +kernel
theorem d_Rf_wetNow_67 : decode m_Rf_wetNow.2.1 67 = .ok (.if_icmp .ge 110, 3) := by decide +kernel
theorem d_Rf_wetNow_70 : decode m_Rf_wetNow.2.1 70 = .ok (.iload 5, 2) := by decide +kernel
theorem d_Rf_wetNow_72 : decode m_Rf_wetNow.2.1 72 = .ok (.iload_n 1, 1) := by decide +kernel
theorem d_Rf_wetNow_73 : decode m_Rf_wetNow.2.1 73 = .ok (.if_icmp .eq 98, 3) := by decide +kernel
theorem d_Rf_wetNow_76 : decode m_Rf_wetNow.2.1 76 = .ok (.aload_n 0, 1) := by decide +kernel
theorem d_Rf_wetNow_77 : decode m_Rf_wetNow.2.1 77 = .ok (.iload 5, 2) := by decide +kernel
theorem d_Rf_wetNow_79 : decode m_Rf_wetNow.2.1 79 = .ok (.invokevirtual 181, 3) := by decide +kernel
theorem d_Rf_wetNow_82 : decode m_Rf_wetNow.2.1 82 = .ok (.ifCond .eq 89, 3) := by decide +kernel
theorem d_Rf_wetNow_85 : decode m_Rf_wetNow.2.1 85 = .ok (.aload_n 0, 1) := by decide +kernel
theorem d_Rf_wetNow_86 : decode m_Rf_wetNow.2.1 86 = .ok (.getfield 42, 3) := by decide +kernel
theorem d_Rf_wetNow_89 : decode m_Rf_wetNow.2.1 89 = .ok (.iload 5, 2) := by decide +kernel
theorem d_Rf_wetNow_91 : decode m_Rf_wetNow.2.1 91 = .ok (.iaload, 1) := by decide +kernel
theorem d_Rf_wetNow_92 : decode m_Rf_wetNow.2.1 92 = .ok (.ifCond .le 79, 3) := by decide +kernel
theorem d_Rf_wetNow_95 : decode m_Rf_wetNow.2.1 95 = .ok (.aload_n 0, 1) := by decide +kernel
theorem d_Rf_wetNow_96 : decode m_Rf_wetNow.2.1 96 = .ok (.iload 5, 2) := by decide +kernel
theorem d_Rf_wetNow_98 : decode m_Rf_wetNow.2.1 98 = .ok (.invokevirtual 175, 3) := by decide +kernel
theorem d_Rf_wetNow_101 : decode m_Rf_wetNow.2.1 101 = .ok (.aload_n 0, 1) := by decide +kernel
theorem d_Rf_wetNow_102 : decode m_Rf_wetNow.2.1 102 = .ok (.iload_n 1, 1) := by decide +kernel
theorem d_Rf_wetNow_103 : decode m_Rf_wetNow.2.1 103 = .ok (.invokevirtual 175, 3) := by decide +kernel
theorem d_Rf_wetNow_106 : decode m_Rf_wetNow.2.1 106 = .ok (.if_icmp .ne 65, 3) := by decide +kernel
theorem d_Rf_wetNow_109 : decode m_Rf_wetNow.2.1 109 = .ok (.aload_n 0, 1) := by decide +kernel
theorem d_Rf_wetNow_110 : decode m_Rf_wetNow.2.1 110 = .ok (.iload 5, 2) := by decide +kernel
theorem d_Rf_wetNow_112 : decode m_Rf_wetNow.2.1 112 = .ok (.invokevirtual 178, 3) := by decide +kernel
theorem d_Rf_wetNow_115 : decode m_Rf_wetNow.2.1 115 = .ok (.aload_n 0, 1) := by decide +kernel
theorem d_Rf_wetNow_116 : decode m_Rf_wetNow.2.1 116 = .ok (.iload_n 1, 1) := by decide +kernel
theorem d_Rf_wetNow_117 : decode m_Rf_wetNow.2.1 117 = .ok (.invokevirtual 178, 3) := by decide +kernel
theorem d_Rf_wetNow_120 : decode m_Rf_wetNow.2.1 120 = .ok (.invokestatic 184, 3) := by decide +kernel
theorem d_Rf_wetNow_123 : decode m_Rf_wetNow.2.1 123 = .ok (.istore 6, 2) := by decide +kernel
theorem d_Rf_wetNow_125 : decode m_Rf_wetNow.2.1 125 = .ok (.iload 4, 2) := by decide +kernel
theorem d_Rf_wetNow_127 : decode m_Rf_wetNow.2.1 127 = .ok (.ifCond .ne 15, 3) := by decide +kernel
theorem d_Rf_wetNow_130 : decode m_Rf_wetNow.2.1 130 = .ok (.iload 6, 2) := by decide +kernel
theorem d_Rf_wetNow_132 : decode m_Rf_wetNow.2.1 132 = .ok (.aload_n 0, 1) := by decide +kernel
theorem d_Rf_wetNow_133 : decode m_Rf_wetNow.2.1 133 = .ok (.getfield 42, 3) := by decide +kernel
theorem d_Rf_wetNow_136 : decode m_Rf_wetNow.2.1 136 = .ok (.iload 5, 2) := by decide +kernel
theorem d_Rf_wetNow_138 : decode m_Rf_wetNow.2.1 138 = .ok (.iaload, 1) := by decide +kernel
theorem d_Rf_wetNow_139 : decode m_Rf_wetNow.2.1 139 = .ok (.if_icmp .ge 7, 3) := by decide +kernel
theorem d_Rf_wetNow_142 : decode m_Rf_wetNow.2.1 142 = .ok (.iconst 1, 1) := by decide +kernel
theorem d_Rf_wetNow_143 : decode m_Rf_wetNow.2.1 143 = .ok (.goto 4, 3) := by decide +kernel
theorem d_Rf_wetNow_146 : decode m_Rf_wetNow.2.1 146 = .ok (.iconst 0, 1) := by decide +kernel
theorem d_Rf_wetNow_147 : decode m_Rf_wetNow.2.1 147 = .ok (.istore 4, 2) := by decide +kernel
theorem d_Rf_wetNow_149 : decode m_Rf_wetNow.2.1 149 = .ok (.iload_n 3, 1) := by decide +kernel
theorem d_Rf_wetNow_150 : decode m_Rf_wetNow.2.1 150 = .ok (.iload 6, 2) := by decide +kernel
theorem d_Rf_wetNow_152 : decode m_Rf_wetNow.2.1 152 = .ok (.aload_n 0, 1) := by decide +kernel
theorem d_Rf_wetNow_153 : decode m_Rf_wetNow.2.1 153 = .ok (.getfield 42, 3) := by decide +kernel
theorem d_Rf_wetNow_156 : decode m_Rf_wetNow.2.1 156 = .ok (.iload 5, 2) := by decide +kernel
theorem d_Rf_wetNow_158 : decode m_Rf_wetNow.2.1 158 = .ok (.iaload, 1) := by decide +kernel
theorem d_Rf_wetNow_159 : decode m_Rf_wetNow.2.1 159 = .ok (.if_icmp .ne 9, 3) := by decide +kernel
theorem d_Rf_wetNow_162 : decode m_Rf_wetNow.2.1 162 = .ok (.iload_n 2, 1) := by decide +kernel
theorem d_Rf_wetNow_163 : decode m_Rf_wetNow.2.1 163 = .ok (.iconst 2, 1) := by decide +kernel
theorem d_Rf_wetNow_164 : decode m_Rf_wetNow.2.1 164 = .ok (.idiv, 1) := by decide +kernel
theorem d_Rf_wetNow_165 : decode m_Rf_wetNow.2.1 165 = .ok (.goto 4, 3) := by decide +kernel
theorem d_Rf_wetNow_168 : decode m_Rf_wetNow.2.1 168 = .ok (.iconst 0, 1) := by decide +kernel
theorem d_Rf_wetNow_169 : decode m_Rf_wetNow.2.1 169 = .ok (.iadd, 1) := by decide +kernel
theorem d_Rf_wetNow_170 : decode m_Rf_wetNow.2.1 170 = .ok (.istore_n 3, 1) := by decide +kernel
theorem d_Rf_wetNow_171 : decode m_Rf_wetNow.2.1 171 = .ok (.iinc 5 1, 3) := by decide +kernel
theorem d_Rf_wetNow_174 : decode m_Rf_wetNow.2.1 174 = .ok (.goto (-111), 3) := by decide +kernel
theorem d_Rf_wetNow_177 : decode m_Rf_wetNow.2.1 177 = .ok (.iload 4, 2) := by decide +kernel
theorem d_Rf_wetNow_179 : decode m_Rf_wetNow.2.1 179 = .ok (.ifCond .eq 7, 3) := by decide +kernel
theorem d_Rf_wetNow_182 : decode m_Rf_wetNow.2.1 182 = .ok (.iconst 0, 1) := by decide +kernel
theorem d_Rf_wetNow_183 : decode m_Rf_wetNow.2.1 183 = .ok (.goto 4, 3) := by decide +kernel
theorem d_Rf_wetNow_186 : decode m_Rf_wetNow.2.1 186 = .ok (.iload_n 3, 1) := by decide +kernel
theorem d_Rf_wetNow_187 : decode m_Rf_wetNow.2.1 187 = .ok (.ireturn, 1) := by decide +kernel
theorem g_Rf_wetNow_0 {X : XS} (a1 : Int32) (h : Hp) (Q : Option AV → Hp → Prop)  (k : (vp_in (h.1 [18, 1] 24) 60 ∧ (vp_in a1 26 ∧ ((¬ (lg_cmp ((lShr (h.2 [1] 2) ((h.1 [18, 1] a1.toNatClampNeg) - 1)) &&& 1) 1) = 0 → (vp_in a1 6 ∧ (((h.1 [22, 1] a1.toNatClampNeg) ≤ 0 → Rn X m_Rf_wetNow 63 [some (vR [1]), some (vI a1), some (vI (h.1 [5, 1] (h.1 [18, 1] 24).toNatClampNeg)), some (vI (h.1 [5, 1] (h.1 [18, 1] 24).toNatClampNeg)), some (vI 0), some (vI 0), none] [] h Q) ∧ (¬ (h.1 [22, 1] a1.toNatClampNeg) ≤ 0 → (vp_in a1 6 ∧ (¬ ((h.1 [22, 1] a1.toNatClampNeg) + 1) = 0 ∧ Q (some (vI ((h.1 [5, 1] (h.1 [18, 1] 24).toNatClampNeg) / ((h.1 [22, 1] a1.toNatClampNeg) + 1)))) h)))))) ∧ ((lg_cmp ((lShr (h.2 [1] 2) ((h.1 [18, 1] a1.toNatClampNeg) - 1)) &&& 1) 1) = 0 → Q (some (vI 0)) h))))) : Rn X m_Rf_wetNow 0 [some (vR [1]), some (vI a1), none, none, none, none, none] [] h Q := by
  refine Rn.aload_n (n := 1) (i := 0) d_Rf_wetNow_0 rfl rfl rfl ?_
  refine Rn.getf (n := 4) (v := vR [5, 1]) d_Rf_wetNow_1 rfl fl_Rf_20 Lv_1 rfl ?_
  refine Rn.aload_n (n := 5) (i := 0) d_Rf_wetNow_4 rfl rfl rfl ?_
  refine Rn.getf (n := 8) (v := vR [18, 1]) d_Rf_wetNow_5 rfl fl_Rf_29 Lv_1 rfl ?_
  refine Rn.bipush (n := 10) (v := 24) d_Rf_wetNow_8 rfl (by decide) ?_
  refine Rn.iald (n := 11) (v := h.1 [18, 1] 24) d_Rf_wetNow_10 rfl Lv_18_1 (by unfold vp_in; decide) rfl ?_
  obtain ⟨b1, k⟩ := k
  refine Rn.iald (n := 12) (v := h.1 [5, 1] (h.1 [18, 1] 24).toNatClampNeg) d_Rf_wetNow_11 rfl Lv_5_1 b1 rfl ?_
  refine Rn.istore_n (n := 13) (i := 2) (ls2 := [some (vR [1]), some (vI a1), some (vI (h.1 [5, 1] (h.1 [18, 1] 24).toNatClampNeg)), none, none, none, none]) d_Rf_wetNow_12 rfl rfl (Nat.le_of_ble_eq_true rfl) rfl ?_
  refine Rn.aload_n (n := 14) (i := 0) d_Rf_wetNow_13 rfl rfl rfl ?_
  refine Rn.getf (n := 17) (v := vL (h.2 [1] 2)) d_Rf_wetNow_14 rfl fl_Rf_158 Lv_1 rfl ?_
  refine Rn.aload_n (n := 18) (i := 0) d_Rf_wetNow_17 rfl rfl rfl ?_
  refine Rn.getf (n := 21) (v := vR [18, 1]) d_Rf_wetNow_18 rfl fl_Rf_29 Lv_1 rfl ?_
  refine Rn.iload_n (n := 22) (i := 1) d_Rf_wetNow_21 rfl rfl rfl ?_
  obtain ⟨b2, k⟩ := k
  refine Rn.iald (n := 23) (v := h.1 [18, 1] a1.toNatClampNeg) d_Rf_wetNow_22 rfl Lv_18_1 b2 rfl ?_
  refine Rn.iconst (n := 24) (v := 1) d_Rf_wetNow_23 rfl (by decide) ?_
  refine Rn.isub (n := 25) d_Rf_wetNow_24 rfl ?_
  refine Rn.lshr (n := 26) d_Rf_wetNow_25 rfl ?_
  refine Rn.lconst (n := 27) (v := 1) d_Rf_wetNow_26 rfl rfl ?_
  refine Rn.land (n := 28) d_Rf_wetNow_27 rfl ?_
  refine Rn.lconst (n := 29) (v := 1) d_Rf_wetNow_28 rfl rfl ?_
  refine Rn.lcmp (n := 30) d_Rf_wetNow_29 rfl ?_
  refine Rn.if_ne (n := 33) (t := 35) d_Rf_wetNow_30 rfl (by decide) (fun cc => ?_) (fun cc => ?_)
  · have k := k.1 cc
    refine Rn.aload_n (n := 36) (i := 0) d_Rf_wetNow_35 rfl rfl rfl ?_
    refine Rn.getf (n := 39) (v := vR [22, 1]) d_Rf_wetNow_36 rfl fl_Rf_42 Lv_1 rfl ?_
    refine Rn.iload_n (n := 40) (i := 1) d_Rf_wetNow_39 rfl rfl rfl ?_
    obtain ⟨b3, k⟩ := k
    refine Rn.iald (n := 41) (v := h.1 [22, 1] a1.toNatClampNeg) d_Rf_wetNow_40 rfl Lv_22_1 b3 rfl ?_
    refine Rn.if_le (n := 44) (t := 55) d_Rf_wetNow_41 rfl (by decide) (fun cc => ?_) (fun cc => ?_)
    · have k := k.1 cc
      refine Rn.iload_n (n := 56) (i := 2) d_Rf_wetNow_55 rfl rfl rfl ?_
      refine Rn.istore_n (n := 57) (i := 3) (ls2 := [some (vR [1]), some (vI a1), some (vI (h.1 [5, 1] (h.1 [18, 1] 24).toNatClampNeg)), some (vI (h.1 [5, 1] (h.1 [18, 1] 24).toNatClampNeg)), none, none, none]) d_Rf_wetNow_56 rfl rfl (Nat.le_of_ble_eq_true rfl) rfl ?_
      refine Rn.iconst (n := 58) (v := 0) d_Rf_wetNow_57 rfl (by decide) ?_
      refine Rn.istore (n := 60) (i := 4) (ls2 := [some (vR [1]), some (vI a1), some (vI (h.1 [5, 1] (h.1 [18, 1] 24).toNatClampNeg)), some (vI (h.1 [5, 1] (h.1 [18, 1] 24).toNatClampNeg)), some (vI 0), none, none]) d_Rf_wetNow_58 rfl (Nat.le_of_ble_eq_true rfl) rfl ?_
      refine Rn.iconst (n := 61) (v := 0) d_Rf_wetNow_60 rfl (by decide) ?_
      refine Rn.istore (n := 63) (i := 5) (ls2 := [some (vR [1]), some (vI a1), some (vI (h.1 [5, 1] (h.1 [18, 1] 24).toNatClampNeg)), some (vI (h.1 [5, 1] (h.1 [18, 1] 24).toNatClampNeg)), some (vI 0), some (vI 0), none]) d_Rf_wetNow_61 rfl (Nat.le_of_ble_eq_true rfl) rfl ?_
      exact k
    · have k := k.2 cc
      refine Rn.iload_n (n := 45) (i := 2) d_Rf_wetNow_44 rfl rfl rfl ?_
      refine Rn.aload_n (n := 46) (i := 0) d_Rf_wetNow_45 rfl rfl rfl ?_
      refine Rn.getf (n := 49) (v := vR [22, 1]) d_Rf_wetNow_46 rfl fl_Rf_42 Lv_1 rfl ?_
      refine Rn.iload_n (n := 50) (i := 1) d_Rf_wetNow_49 rfl rfl rfl ?_
      obtain ⟨b4, k⟩ := k
      refine Rn.iald (n := 51) (v := h.1 [22, 1] a1.toNatClampNeg) d_Rf_wetNow_50 rfl Lv_22_1 b4 rfl ?_
      refine Rn.iconst (n := 52) (v := 1) d_Rf_wetNow_51 rfl (by decide) ?_
      refine Rn.iadd (n := 53) d_Rf_wetNow_52 rfl ?_
      obtain ⟨z5, k⟩ := k
      refine Rn.idiv (n := 54) d_Rf_wetNow_53 rfl z5 ?_
      exact Rn.iret d_Rf_wetNow_54 rfl rfl k
  · have k := k.2 cc
    refine Rn.iconst (n := 34) (v := 0) d_Rf_wetNow_33 rfl (by decide) ?_
    exact Rn.iret d_Rf_wetNow_34 rfl rfl k
theorem g_Rf_wetNow_63 {X : XS} (a1 : Int32) (a2 : Int32) (a3 : Int32) (a4 : Int32) (a5 : Int32) (h : Hp) (Q : Option AV → Hp → Prop)  (k : ((6 ≤ a5 → ((a4 = 0 → Q (some (vI a3)) h) ∧ (¬ a4 = 0 → Q (some (vI 0)) h))) ∧ (¬ 6 ≤ a5 → ((a5 = a1 → Rn X m_Rf_wetNow 63 [some (vR [1]), some (vI a1), some (vI a2), some (vI a3), some (vI a4), some (vI (a5 + 1)), none] [] h Q) ∧ (¬ a5 = a1 → (∃ Q'4, EvI X m_Rf_isOn [vR [1], vI a5] h Q'4 ∧ ∀ (r5 : Int32) (h3 : Hp), Q'4 r5 h3 → ((r5 = 0 → Rn X m_Rf_wetNow 63 [some (vR [1]), some (vI a1), some (vI a2), some (vI a3), some (vI a4), some (vI (a5 + 1)), none] [] h3 Q) ∧ (¬ r5 = 0 → (vp_in a5 6 ∧ (((h3.1 [22, 1] a5.toNatClampNeg) ≤ 0 → Rn X m_Rf_wetNow 63 [some (vR [1]), some (vI a1), some (vI a2), some (vI a3), some (vI a4), some (vI (a5 + 1)), none] [] h3 Q) ∧ (¬ (h3.1 [22, 1] a5.toNatClampNeg) ≤ 0 → (∃ Q'10, EvI X m_Rf_placeOf [vR [1], vI a5] h3 Q'10 ∧ ∀ (r11 : Int32) (h9 : Hp), Q'10 r11 h9 → (∃ Q'15, EvI X m_Rf_placeOf [vR [1], vI a1] h9 Q'15 ∧ ∀ (r16 : Int32) (h14 : Hp), Q'15 r16 h14 → ((¬ r11 = r16 → Rn X m_Rf_wetNow 63 [some (vR [1]), some (vI a1), some (vI a2), some (vI a3), some (vI a4), some (vI (a5 + 1)), none] [] h14 Q) ∧ (r11 = r16 → (∃ Q'20, EvI X m_Rf_laneOf [vR [1], vI a5] h14 Q'20 ∧ ∀ (r21 : Int32) (h19 : Hp), Q'20 r21 h19 → (∃ Q'25, EvI X m_Rf_laneOf [vR [1], vI a1] h19 Q'25 ∧ ∀ (r26 : Int32) (h24 : Hp), Q'25 r26 h24 → (∃ Q'30, EvI X m_Rf_off [vI r21, vI r26] h24 Q'30 ∧ ∀ (r31 : Int32) (h29 : Hp), Q'30 r31 h29 → ((¬ a4 = 0 → Rn X m_Rf_wetNow 142 [some (vR [1]), some (vI a1), some (vI a2), some (vI a3), some (vI a4), some (vI a5), some (vI r31)] [] h29 Q) ∧ (a4 = 0 → (vp_in a5 6 ∧ (((h29.1 [22, 1] a5.toNatClampNeg) ≤ r31 → Rn X m_Rf_wetNow 147 [some (vR [1]), some (vI a1), some (vI a2), some (vI a3), some (vI a4), some (vI a5), some (vI r31)] [vI 0] h29 Q) ∧ (¬ (h29.1 [22, 1] a5.toNatClampNeg) ≤ r31 → Rn X m_Rf_wetNow 142 [some (vR [1]), some (vI a1), some (vI a2), some (vI a3), some (vI a4), some (vI a5), some (vI r31)] [] h29 Q))))))))))))))))))))))) : Rn X m_Rf_wetNow 63 [some (vR [1]), some (vI a1), some (vI a2), some (vI a3), some (vI a4), some (vI a5), none] [] h Q := by
  refine Rn.iload (n := 65) (i := 5) d_Rf_wetNow_63 rfl rfl ?_
  refine Rn.bipush (n := 67) (v := 6) d_Rf_wetNow_65 rfl (by decide) ?_
  refine Rn.icmp_ge (n := 70) (t := 177) d_Rf_wetNow_67 rfl (by decide) (fun cc => ?_) (fun cc => ?_)
  · have k := k.1 cc
    refine Rn.iload (n := 179) (i := 4) d_Rf_wetNow_177 rfl rfl ?_
    refine Rn.if_eq (n := 182) (t := 186) d_Rf_wetNow_179 rfl (by decide) (fun cc => ?_) (fun cc => ?_)
    · have k := k.1 cc
      refine Rn.iload_n (n := 187) (i := 3) d_Rf_wetNow_186 rfl rfl rfl ?_
      exact Rn.iret d_Rf_wetNow_187 rfl rfl k
    · have k := k.2 cc
      refine Rn.iconst (n := 183) (v := 0) d_Rf_wetNow_182 rfl (by decide) ?_
      refine Rn.goto (n := 187) d_Rf_wetNow_183 (by decide) ?_
      exact Rn.iret d_Rf_wetNow_187 rfl rfl k
  · have k := k.2 cc
    refine Rn.iload (n := 72) (i := 5) d_Rf_wetNow_70 rfl rfl ?_
    refine Rn.iload_n (n := 73) (i := 1) d_Rf_wetNow_72 rfl rfl rfl ?_
    refine Rn.icmp_eq (n := 76) (t := 171) d_Rf_wetNow_73 rfl (by decide) (fun cc => ?_) (fun cc => ?_)
    · have k := k.1 cc
      refine Rn.iinc (n := 174) (i := 5) (v := a5 + 1) (ls2 := [some (vR [1]), some (vI a1), some (vI a2), some (vI a3), some (vI a4), some (vI (a5 + 1)), none]) d_Rf_wetNow_171 rfl rfl rfl (Nat.le_of_ble_eq_true rfl) rfl ?_
      refine Rn.goto (n := 63) d_Rf_wetNow_174 (by decide) ?_
      exact k
    · have k := k.2 cc
      refine Rn.aload_n (n := 77) (i := 0) d_Rf_wetNow_76 rfl rfl rfl ?_
      refine Rn.iload (n := 79) (i := 5) d_Rf_wetNow_77 rfl rfl ?_
      obtain ⟨Q'4, ev1, k⟩ := k
      refine Rn.callV (n := 82) (av := [vI a5]) d_Rf_wetNow_79 rfl ml_Rf_wetNow_181 mi_Rf_isOn Lv_1 rfl rfl rfl rfl (Nat.le_of_ble_eq_true rfl) ev1 (fun v h3 hq => ?_)
      obtain ⟨r5, rfl, hq⟩ := hq
      have k := k r5 h3 hq
      show Rn X m_Rf_wetNow 82 [some (vR [1]), some (vI a1), some (vI a2), some (vI a3), some (vI a4), some (vI a5), none] [vI r5] h3 Q
      refine Rn.if_eq (n := 85) (t := 171) d_Rf_wetNow_82 rfl (by decide) (fun cc => ?_) (fun cc => ?_)
      · have k := k.1 cc
        refine Rn.iinc (n := 174) (i := 5) (v := a5 + 1) (ls2 := [some (vR [1]), some (vI a1), some (vI a2), some (vI a3), some (vI a4), some (vI (a5 + 1)), none]) d_Rf_wetNow_171 rfl rfl rfl (Nat.le_of_ble_eq_true rfl) rfl ?_
        refine Rn.goto (n := 63) d_Rf_wetNow_174 (by decide) ?_
        exact k
      · have k := k.2 cc
        refine Rn.aload_n (n := 86) (i := 0) d_Rf_wetNow_85 rfl rfl rfl ?_
        refine Rn.getf (n := 89) (v := vR [22, 1]) d_Rf_wetNow_86 rfl fl_Rf_42 Lv_1 rfl ?_
        refine Rn.iload (n := 91) (i := 5) d_Rf_wetNow_89 rfl rfl ?_
        obtain ⟨b6, k⟩ := k
        refine Rn.iald (n := 92) (v := h3.1 [22, 1] a5.toNatClampNeg) d_Rf_wetNow_91 rfl Lv_22_1 b6 rfl ?_
        refine Rn.if_le (n := 95) (t := 171) d_Rf_wetNow_92 rfl (by decide) (fun cc => ?_) (fun cc => ?_)
        · have k := k.1 cc
          refine Rn.iinc (n := 174) (i := 5) (v := a5 + 1) (ls2 := [some (vR [1]), some (vI a1), some (vI a2), some (vI a3), some (vI a4), some (vI (a5 + 1)), none]) d_Rf_wetNow_171 rfl rfl rfl (Nat.le_of_ble_eq_true rfl) rfl ?_
          refine Rn.goto (n := 63) d_Rf_wetNow_174 (by decide) ?_
          exact k
        · have k := k.2 cc
          refine Rn.aload_n (n := 96) (i := 0) d_Rf_wetNow_95 rfl rfl rfl ?_
          refine Rn.iload (n := 98) (i := 5) d_Rf_wetNow_96 rfl rfl ?_
          obtain ⟨Q'10, ev7, k⟩ := k
          refine Rn.callV (n := 101) (av := [vI a5]) d_Rf_wetNow_98 rfl ml_Rf_wetNow_175 mi_Rf_placeOf Lv_1 rfl rfl rfl rfl (Nat.le_of_ble_eq_true rfl) ev7 (fun v h9 hq => ?_)
          obtain ⟨r11, rfl, hq⟩ := hq
          have k := k r11 h9 hq
          show Rn X m_Rf_wetNow 101 [some (vR [1]), some (vI a1), some (vI a2), some (vI a3), some (vI a4), some (vI a5), none] [vI r11] h9 Q
          refine Rn.aload_n (n := 102) (i := 0) d_Rf_wetNow_101 rfl rfl rfl ?_
          refine Rn.iload_n (n := 103) (i := 1) d_Rf_wetNow_102 rfl rfl rfl ?_
          obtain ⟨Q'15, ev12, k⟩ := k
          refine Rn.callV (n := 106) (av := [vI a1]) d_Rf_wetNow_103 rfl ml_Rf_wetNow_175 mi_Rf_placeOf Lv_1 rfl rfl rfl rfl (Nat.le_of_ble_eq_true rfl) ev12 (fun v h14 hq => ?_)
          obtain ⟨r16, rfl, hq⟩ := hq
          have k := k r16 h14 hq
          show Rn X m_Rf_wetNow 106 [some (vR [1]), some (vI a1), some (vI a2), some (vI a3), some (vI a4), some (vI a5), none] [vI r16, vI r11] h14 Q
          refine Rn.icmp_ne (n := 109) (t := 171) d_Rf_wetNow_106 rfl (by decide) (fun cc => ?_) (fun cc => ?_)
          · have k := k.1 cc
            refine Rn.iinc (n := 174) (i := 5) (v := a5 + 1) (ls2 := [some (vR [1]), some (vI a1), some (vI a2), some (vI a3), some (vI a4), some (vI (a5 + 1)), none]) d_Rf_wetNow_171 rfl rfl rfl (Nat.le_of_ble_eq_true rfl) rfl ?_
            refine Rn.goto (n := 63) d_Rf_wetNow_174 (by decide) ?_
            exact k
          · have k := k.2 cc
            refine Rn.aload_n (n := 110) (i := 0) d_Rf_wetNow_109 rfl rfl rfl ?_
            refine Rn.iload (n := 112) (i := 5) d_Rf_wetNow_110 rfl rfl ?_
            obtain ⟨Q'20, ev17, k⟩ := k
            refine Rn.callV (n := 115) (av := [vI a5]) d_Rf_wetNow_112 rfl ml_Rf_wetNow_178 mi_Rf_laneOf Lv_1 rfl rfl rfl rfl (Nat.le_of_ble_eq_true rfl) ev17 (fun v h19 hq => ?_)
            obtain ⟨r21, rfl, hq⟩ := hq
            have k := k r21 h19 hq
            show Rn X m_Rf_wetNow 115 [some (vR [1]), some (vI a1), some (vI a2), some (vI a3), some (vI a4), some (vI a5), none] [vI r21] h19 Q
            refine Rn.aload_n (n := 116) (i := 0) d_Rf_wetNow_115 rfl rfl rfl ?_
            refine Rn.iload_n (n := 117) (i := 1) d_Rf_wetNow_116 rfl rfl rfl ?_
            obtain ⟨Q'25, ev22, k⟩ := k
            refine Rn.callV (n := 120) (av := [vI a1]) d_Rf_wetNow_117 rfl ml_Rf_wetNow_178 mi_Rf_laneOf Lv_1 rfl rfl rfl rfl (Nat.le_of_ble_eq_true rfl) ev22 (fun v h24 hq => ?_)
            obtain ⟨r26, rfl, hq⟩ := hq
            have k := k r26 h24 hq
            show Rn X m_Rf_wetNow 120 [some (vR [1]), some (vI a1), some (vI a2), some (vI a3), some (vI a4), some (vI a5), none] [vI r26, vI r21] h24 Q
            obtain ⟨Q'30, ev27, k⟩ := k
            refine Rn.callS (n := 123) (av := [vI r21, vI r26]) d_Rf_wetNow_120 rfl ml_Rf_wetNow_184 ms_Rf_off rfl rfl (Nat.le_of_ble_eq_true rfl) ev27 (fun v h29 hq => ?_)
            obtain ⟨r31, rfl, hq⟩ := hq
            have k := k r31 h29 hq
            show Rn X m_Rf_wetNow 123 [some (vR [1]), some (vI a1), some (vI a2), some (vI a3), some (vI a4), some (vI a5), none] [vI r31] h29 Q
            refine Rn.istore (n := 125) (i := 6) (ls2 := [some (vR [1]), some (vI a1), some (vI a2), some (vI a3), some (vI a4), some (vI a5), some (vI r31)]) d_Rf_wetNow_123 rfl (Nat.le_of_ble_eq_true rfl) rfl ?_
            refine Rn.iload (n := 127) (i := 4) d_Rf_wetNow_125 rfl rfl ?_
            refine Rn.if_ne (n := 130) (t := 142) d_Rf_wetNow_127 rfl (by decide) (fun cc => ?_) (fun cc => ?_)
            · have k := k.1 cc
              exact k
            · have k := k.2 cc
              refine Rn.iload (n := 132) (i := 6) d_Rf_wetNow_130 rfl rfl ?_
              refine Rn.aload_n (n := 133) (i := 0) d_Rf_wetNow_132 rfl rfl rfl ?_
              refine Rn.getf (n := 136) (v := vR [22, 1]) d_Rf_wetNow_133 rfl fl_Rf_42 Lv_1 rfl ?_
              refine Rn.iload (n := 138) (i := 5) d_Rf_wetNow_136 rfl rfl ?_
              obtain ⟨b32, k⟩ := k
              refine Rn.iald (n := 139) (v := h29.1 [22, 1] a5.toNatClampNeg) d_Rf_wetNow_138 rfl Lv_22_1 b32 rfl ?_
              refine Rn.icmp_ge (n := 142) (t := 146) d_Rf_wetNow_139 rfl (by decide) (fun cc => ?_) (fun cc => ?_)
              · have k := k.1 cc
                refine Rn.iconst (n := 147) (v := 0) d_Rf_wetNow_146 rfl (by decide) ?_
                exact k
              · have k := k.2 cc
                exact k
theorem g_Rf_wetNow_142 {X : XS} (a1 : Int32) (a2 : Int32) (a3 : Int32) (a4 : Int32) (a5 : Int32) (a6 : Int32) (h : Hp) (Q : Option AV → Hp → Prop)  (k : Rn X m_Rf_wetNow 147 [some (vR [1]), some (vI a1), some (vI a2), some (vI a3), some (vI a4), some (vI a5), some (vI a6)] [vI 1] h Q) : Rn X m_Rf_wetNow 142 [some (vR [1]), some (vI a1), some (vI a2), some (vI a3), some (vI a4), some (vI a5), some (vI a6)] [] h Q := by
  refine Rn.iconst (n := 143) (v := 1) d_Rf_wetNow_142 rfl (by decide) ?_
  refine Rn.goto (n := 147) d_Rf_wetNow_143 (by decide) ?_
  exact k
theorem g_Rf_wetNow_147 {X : XS} (a1 : Int32) (a2 : Int32) (a3 : Int32) (a4 : Int32) (a5 : Int32) (a6 : Int32) (s0 : Int32) (h : Hp) (Q : Option AV → Hp → Prop)  (k : (vp_in a5 6 ∧ ((¬ a6 = (h.1 [22, 1] a5.toNatClampNeg) → Rn X m_Rf_wetNow 63 [some (vR [1]), some (vI a1), some (vI a2), some (vI (a3 + 0)), some (vI s0), some (vI (a5 + 1)), none] [] h Q) ∧ (a6 = (h.1 [22, 1] a5.toNatClampNeg) → Rn X m_Rf_wetNow 63 [some (vR [1]), some (vI a1), some (vI a2), some (vI (a3 + (a2 / 2))), some (vI s0), some (vI (a5 + 1)), none] [] h Q)))) : Rn X m_Rf_wetNow 147 [some (vR [1]), some (vI a1), some (vI a2), some (vI a3), some (vI a4), some (vI a5), some (vI a6)] [vI s0] h Q := by
  refine Rn.istore (n := 149) (i := 4) (ls2 := [some (vR [1]), some (vI a1), some (vI a2), some (vI a3), some (vI s0), some (vI a5), some (vI a6)]) d_Rf_wetNow_147 rfl (Nat.le_of_ble_eq_true rfl) rfl ?_
  refine Rn.iload_n (n := 150) (i := 3) d_Rf_wetNow_149 rfl rfl rfl ?_
  refine Rn.iload (n := 152) (i := 6) d_Rf_wetNow_150 rfl rfl ?_
  refine Rn.aload_n (n := 153) (i := 0) d_Rf_wetNow_152 rfl rfl rfl ?_
  refine Rn.getf (n := 156) (v := vR [22, 1]) d_Rf_wetNow_153 rfl fl_Rf_42 Lv_1 rfl ?_
  refine Rn.iload (n := 158) (i := 5) d_Rf_wetNow_156 rfl rfl ?_
  obtain ⟨b1, k⟩ := k
  refine Rn.iald (n := 159) (v := h.1 [22, 1] a5.toNatClampNeg) d_Rf_wetNow_158 rfl Lv_22_1 b1 rfl ?_
  refine Rn.icmp_ne (n := 162) (t := 168) d_Rf_wetNow_159 rfl (by decide) (fun cc => ?_) (fun cc => ?_)
  · have k := k.1 cc
    refine Rn.iconst (n := 169) (v := 0) d_Rf_wetNow_168 rfl (by decide) ?_
    refine Rn.iadd (n := 170) d_Rf_wetNow_169 rfl ?_
    refine Rn.istore_n (n := 171) (i := 3) (ls2 := [some (vR [1]), some (vI a1), some (vI a2), some (vI (a3 + 0)), some (vI s0), some (vI a5), some (vI a6)]) d_Rf_wetNow_170 rfl rfl (Nat.le_of_ble_eq_true rfl) rfl ?_
    refine Rn.iinc (n := 174) (i := 5) (v := a5 + 1) (ls2 := [some (vR [1]), some (vI a1), some (vI a2), some (vI (a3 + 0)), some (vI s0), some (vI (a5 + 1)), some (vI a6)]) d_Rf_wetNow_171 rfl rfl rfl (Nat.le_of_ble_eq_true rfl) rfl ?_
    refine Rn.goto (n := 63) d_Rf_wetNow_174 (by decide) ?_
    exact Rn.loc [some (vR [1]), some (vI a1), some (vI a2), some (vI (a3 + 0)), some (vI s0), some (vI (a5 + 1)), none] (LLe_ok ⟨rfl, ⟨rfl, ⟨rfl, ⟨rfl, ⟨rfl, ⟨rfl, trivial⟩⟩⟩⟩⟩⟩) k
  · have k := k.2 cc
    refine Rn.iload_n (n := 163) (i := 2) d_Rf_wetNow_162 rfl rfl rfl ?_
    refine Rn.iconst (n := 164) (v := 2) d_Rf_wetNow_163 rfl (by decide) ?_
    refine Rn.idiv (n := 165) d_Rf_wetNow_164 rfl (by decide) ?_
    refine Rn.goto (n := 169) d_Rf_wetNow_165 (by decide) ?_
    refine Rn.iadd (n := 170) d_Rf_wetNow_169 rfl ?_
    refine Rn.istore_n (n := 171) (i := 3) (ls2 := [some (vR [1]), some (vI a1), some (vI a2), some (vI (a3 + (a2 / 2))), some (vI s0), some (vI a5), some (vI a6)]) d_Rf_wetNow_170 rfl rfl (Nat.le_of_ble_eq_true rfl) rfl ?_
    refine Rn.iinc (n := 174) (i := 5) (v := a5 + 1) (ls2 := [some (vR [1]), some (vI a1), some (vI a2), some (vI (a3 + (a2 / 2))), some (vI s0), some (vI (a5 + 1)), some (vI a6)]) d_Rf_wetNow_171 rfl rfl rfl (Nat.le_of_ble_eq_true rfl) rfl ?_
    refine Rn.goto (n := 63) d_Rf_wetNow_174 (by decide) ?_
    exact Rn.loc [some (vR [1]), some (vI a1), some (vI a2), some (vI (a3 + (a2 / 2))), some (vI s0), some (vI (a5 + 1)), none] (LLe_ok ⟨rfl, ⟨rfl, ⟨rfl, ⟨rfl, ⟨rfl, ⟨rfl, trivial⟩⟩⟩⟩⟩⟩) k
theorem e_Rf_wetNow {X : XS} (a1 : Int32) (h : Hp) (Q : Option AV → Hp → Prop) (k : Rn X m_Rf_wetNow 0 [some (vR [1]), some (vI a1), none, none, none, none, none] [] h Q) : Ev X m_Rf_wetNow [vR [1], vI a1] h Q := Ev.intro (plainFor_of_name (by decide +kernel)) (Nat.le_of_ble_eq_true rfl) (ls := [some (vR [1]), some (vI a1), none, none, none, none, none]) rfl k
theorem d_Rf_goTick_0 : decode m_Rf_goTick.2.1 0 = .ok (.aload_n 0, 1) := by decide +kernel
theorem d_Rf_goTick_1 : decode m_Rf_goTick.2.1 1 = .ok (.getfield 29, 3) := by decide +kernel
theorem d_Rf_goTick_4 : decode m_Rf_goTick.2.1 4 = .ok (.bipush 24, 2) := by decide +kernel
theorem d_Rf_goTick_6 : decode m_Rf_goTick.2.1 6 = .ok (.iaload, 1) := by decide +kernel
theorem d_Rf_goTick_7 : decode m_Rf_goTick.2.1 7 = .ok (.istore_n 1, 1) := by decide +kernel
theorem d_Rf_goTick_8 : decode m_Rf_goTick.2.1 8 = .ok (.iconst 0, 1) := by decide +kernel
theorem d_Rf_goTick_9 : decode m_Rf_goTick.2.1 9 = .ok (.istore_n 2, 1) := by decide +kernel
theorem d_Rf_goTick_10 : decode m_Rf_goTick.2.1 10 = .ok (.iload_n 2, 1) := by decide +kernel
theorem d_Rf_goTick_11 : decode m_Rf_goTick.2.1 11 = .ok (.bipush 6, 2) := by decide +kernel
theorem d_Rf_goTick_13 : decode m_Rf_goTick.2.1 13 = .ok (.if_icmp .ge 22, 3) := by decide +kernel
theorem d_Rf_goTick_16 : decode m_Rf_goTick.2.1 16 = .ok (.aload_n 0, 1) := by decide +kernel
theorem d_Rf_goTick_17 : decode m_Rf_goTick.2.1 17 = .ok (.iload_n 2, 1) := by decide +kernel
theorem d_Rf_goTick_18 : decode m_Rf_goTick.2.1 18 = .ok (.invokevirtual 181, 3) := by decide +kernel
theorem d_Rf_goTick_21 : decode m_Rf_goTick.2.1 21 = .ok (.ifCond .eq 8, 3) := by decide +kernel
theorem d_Rf_goTick_24 : decode m_Rf_goTick.2.1 24 = .ok (.aload_n 0, 1) := by decide +kernel
theorem d_Rf_goTick_25 : decode m_Rf_goTick.2.1 25 = .ok (.iload_n 2, 1) := by decide +kernel
theorem d_Rf_goTick_26 : decode m_Rf_goTick.2.1 26 = .ok (.invokevirtual 188, 3) := by decide +kernel
theorem d_Rf_goTick_29 : decode m_Rf_goTick.2.1 29 = .ok (.iinc 2 1, 3) := by decide +kernel
theorem d_Rf_goTick_32 : decode m_Rf_goTick.2.1 32 = .ok (.goto (-22), 3) := by decide +kernel
theorem d_Rf_goTick_35 : decode m_Rf_goTick.2.1 35 = .ok (.iconst 0, 1) := by decide +kernel
theorem d_Rf_goTick_36 : decode m_Rf_goTick.2.1 36 = .ok (.istore_n 2, 1) := by decide +kernel
theorem d_Rf_goTick_37 : decode m_Rf_goTick.2.1 37 = .ok (.iload_n 2, 1) := by decide +kernel
theorem d_Rf_goTick_38 : decode m_Rf_goTick.2.1 38 = .ok (.bipush 6, 2) := by decide +kernel
theorem d_Rf_goTick_40 : decode m_Rf_goTick.2.1 40 = .ok (.if_icmp .ge 25, 3) := by decide +kernel
theorem d_Rf_goTick_43 : decode m_Rf_goTick.2.1 43 = .ok (.aload_n 0, 1) := by decide +kernel
theorem d_Rf_goTick_44 : decode m_Rf_goTick.2.1 44 = .ok (.getfield 70, 3) := by decide +kernel
theorem d_Rf_goTick_47 : decode m_Rf_goTick.2.1 47 = .ok (.iload_n 2, 1) := by decide +kernel
theorem d_Rf_goTick_48 : decode m_Rf_goTick.2.1 48 = .ok (.invokestatic 73, 3) := by decide +kernel
theorem d_Rf_goTick_51 : decode m_Rf_goTick.2.1 51 = .ok (.ifCond .eq 8, 3) := by decide +kernel
theorem d_Rf_goTick_54 : decode m_Rf_goTick.2.1 54 = .ok (.aload_n 0, 1) := by decide +kernel
theorem d_Rf_goTick_55 : decode m_Rf_goTick.2.1 55 = .ok (.iload_n 2, 1) := by decide +kernel
theorem d_Rf_goTick_56 : decode m_Rf_goTick.2.1 56 = .ok (.invokevirtual 191, 3) := by decide +kernel
theorem d_Rf_goTick_59 : decode m_Rf_goTick.2.1 59 = .ok (.iinc 2 1, 3) := by decide +kernel
theorem d_Rf_goTick_62 : decode m_Rf_goTick.2.1 62 = .ok (.goto (-25), 3) := by decide +kernel
theorem d_Rf_goTick_65 : decode m_Rf_goTick.2.1 65 = .ok (.aload_n 0, 1) := by decide +kernel
theorem d_Rf_goTick_66 : decode m_Rf_goTick.2.1 66 = .ok (.invokevirtual 194, 3) := by decide +kernel
theorem d_Rf_goTick_69 : decode m_Rf_goTick.2.1 69 = .ok (.iconst 0, 1) := by decide +kernel
theorem d_Rf_goTick_70 : decode m_Rf_goTick.2.1 70 = .ok (.istore_n 2, 1) := by decide +kernel
theorem d_Rf_goTick_71 : decode m_Rf_goTick.2.1 71 = .ok (.iload_n 2, 1) := by decide +kernel
theorem d_Rf_goTick_72 : decode m_Rf_goTick.2.1 72 = .ok (.bipush 6, 2) := by decide +kernel
theorem d_Rf_goTick_74 : decode m_Rf_goTick.2.1 74 = .ok (.if_icmp .ge 95, 3) := by decide +kernel
theorem d_Rf_goTick_77 : decode m_Rf_goTick.2.1 77 = .ok (.aload_n 0, 1) := by decide +kernel
theorem d_Rf_goTick_78 : decode m_Rf_goTick.2.1 78 = .ok (.iload_n 2, 1) := by decide +kernel
theorem d_Rf_goTick_79 : decode m_Rf_goTick.2.1 79 = .ok (.invokevirtual 181, 3) := by decide +kernel
theorem d_Rf_goTick_82 : decode m_Rf_goTick.2.1 82 = .ok (.ifCond .eq 11, 3) := by decide +kernel
theorem d_Rf_goTick_85 : decode m_Rf_goTick.2.1 85 = .ok (.aload_n 0, 1) := by decide +kernel
theorem d_Rf_goTick_86 : decode m_Rf_goTick.2.1 86 = .ok (.iload_n 2, 1) := by decide +kernel
theorem d_Rf_goTick_87 : decode m_Rf_goTick.2.1 87 = .ok (.invokevirtual 197, 3) := by decide +kernel
theorem d_Rf_goTick_90 : decode m_Rf_goTick.2.1 90 = .ok (.goto 4, 3) := by decide +kernel
theorem d_Rf_goTick_93 : decode m_Rf_goTick.2.1 93 = .ok (.iconst 0, 1) := by decide +kernel
theorem d_Rf_goTick_94 : decode m_Rf_goTick.2.1 94 = .ok (.istore_n 3, 1) := by decide +kernel
theorem d_Rf_goTick_95 : decode m_Rf_goTick.2.1 95 = .ok (.aload_n 0, 1) := by decide +kernel
theorem d_Rf_goTick_96 : decode m_Rf_goTick.2.1 96 = .ok (.getfield 45, 3) := by decide +kernel
theorem d_Rf_goTick_99 : decode m_Rf_goTick.2.1 99 = .ok (.bipush 6, 2) := by decide +kernel
theorem d_Rf_goTick_101 : decode m_Rf_goTick.2.1 101 = .ok (.iload_n 1, 1) := by decide +kernel
theorem d_Rf_goTick_102 : decode m_Rf_goTick.2.1 102 = .ok (.imul, 1) := by decide +kernel
theorem d_Rf_goTick_103 : decode m_Rf_goTick.2.1 103 = .ok (.iload_n 2, 1) := by decide +kernel
theorem d_Rf_goTick_104 : decode m_Rf_goTick.2.1 104 = .ok (.iadd, 1) := by decide +kernel
theorem d_Rf_goTick_105 : decode m_Rf_goTick.2.1 105 = .ok (.iload_n 3, 1) := by decide +kernel
theorem d_Rf_goTick_106 : decode m_Rf_goTick.2.1 106 = .ok (.iastore, 1) := by decide +kernel
theorem d_Rf_goTick_107 : decode m_Rf_goTick.2.1 107 = .ok (.aload_n 0, 1) := by decide +kernel
theorem d_Rf_goTick_108 : decode m_Rf_goTick.2.1 108 = .ok (.getfield 29, 3) := by decide +kernel
theorem d_Rf_goTick_111 : decode m_Rf_goTick.2.1 111 = .ok (.bipush 6, 2) := by decide +kernel
theorem d_Rf_goTick_113 : decode m_Rf_goTick.2.1 113 = .ok (.iload_n 2, 1) := by decide +kernel
theorem d_Rf_goTick_114 : decode m_Rf_goTick.2.1 114 = .ok (.iadd, 1) := by decide +kernel
theorem d_Rf_goTick_115 : decode m_Rf_goTick.2.1 115 = .ok (.dup2, 1) := by decide +kernel
theorem d_Rf_goTick_116 : decode m_Rf_goTick.2.1 116 = .ok (.iaload, 1) := by decide +kernel
theorem d_Rf_goTick_117 : decode m_Rf_goTick.2.1 117 = .ok (.iload_n 3, 1) := by decide +kernel
theorem d_Rf_goTick_118 : decode m_Rf_goTick.2.1 118 = .ok (.iadd, 1) := by decide +kernel
theorem d_Rf_goTick_119 : decode m_Rf_goTick.2.1 119 = .ok (.iastore, 1) := by decide +kernel
theorem d_Rf_goTick_120 : decode m_Rf_goTick.2.1 120 = .ok (.aload_n 0, 1) := by decide +kernel
theorem d_Rf_goTick_121 : decode m_Rf_goTick.2.1 121 = .ok (.iload_n 2, 1) := by decide +kernel
theorem d_Rf_goTick_122 : decode m_Rf_goTick.2.1 122 = .ok (.invokevirtual 181, 3) := by decide +kernel
theorem d_Rf_goTick_125 : decode m_Rf_goTick.2.1 125 = .ok (.ifCond .eq 38, 3) := by decide +kernel
theorem d_Rf_goTick_128 : decode m_Rf_goTick.2.1 128 = .ok (.aload_n 0, 1) := by decide +kernel
theorem d_Rf_goTick_129 : decode m_Rf_goTick.2.1 129 = .ok (.getfield 48, 3) := by decide +kernel
theorem d_Rf_goTick_132 : decode m_Rf_goTick.2.1 132 = .ok (.bipush 12, 2) := by decide +kernel
theorem d_Rf_goTick_134 : decode m_Rf_goTick.2.1 134 = .ok (.iload_n 2, 1) := by decide +kernel
theorem d_Rf_goTick_135 : decode m_Rf_goTick.2.1 135 = .ok (.imul, 1) := by decide +kernel
theorem d_Rf_goTick_136 : decode m_Rf_goTick.2.1 136 = .ok (.aload_n 0, 1) := by decide +kernel
theorem d_Rf_goTick_137 : decode m_Rf_goTick.2.1 137 = .ok (.iload_n 2, 1) := by decide +kernel
theorem d_Rf_goTick_138 : decode m_Rf_goTick.2.1 138 = .ok (.invokevirtual 175, 3) := by decide +kernel
theorem d_Rf_goTick_141 : decode m_Rf_goTick.2.1 141 = .ok (.iadd, 1) := by decide +kernel
theorem d_Rf_goTick_142 : decode m_Rf_goTick.2.1 142 = .ok (.iaload, 1) := by decide +kernel
theorem d_Rf_goTick_143 : decode m_Rf_goTick.2.1 143 = .ok (.iconst (-1), 1) := by decide +kernel
theorem d_Rf_goTick_144 : decode m_Rf_goTick.2.1 144 = .ok (.if_icmp .ne 19, 3) := by decide +kernel
theorem d_Rf_goTick_147 : decode m_Rf_goTick.2.1 147 = .ok (.aload_n 0, 1) := by decide +kernel
theorem d_Rf_goTick_148 : decode m_Rf_goTick.2.1 148 = .ok (.getfield 48, 3) := by decide +kernel
theorem d_Rf_goTick_151 : decode m_Rf_goTick.2.1 151 = .ok (.bipush 12, 2) := by decide +kernel
theorem d_Rf_goTick_153 : decode m_Rf_goTick.2.1 153 = .ok (.iload_n 2, 1) := by decide +kernel
theorem d_Rf_goTick_154 : decode m_Rf_goTick.2.1 154 = .ok (.imul, 1) := by decide +kernel
theorem d_Rf_goTick_155 : decode m_Rf_goTick.2.1 155 = .ok (.aload_n 0, 1) := by decide +kernel
theorem d_Rf_goTick_156 : decode m_Rf_goTick.2.1 156 = .ok (.iload_n 2, 1) := by decide +kernel
theorem d_Rf_goTick_157 : decode m_Rf_goTick.2.1 157 = .ok (.invokevirtual 175, 3) := by decide +kernel
theorem d_Rf_goTick_160 : decode m_Rf_goTick.2.1 160 = .ok (.iadd, 1) := by decide +kernel
theorem d_Rf_goTick_161 : decode m_Rf_goTick.2.1 161 = .ok (.iload_n 1, 1) := by decide +kernel
theorem d_Rf_goTick_162 : decode m_Rf_goTick.2.1 162 = .ok (.iastore, 1) := by decide +kernel
theorem d_Rf_goTick_163 : decode m_Rf_goTick.2.1 163 = .ok (.iinc 2 1, 3) := by decide +kernel
theorem d_Rf_goTick_166 : decode m_Rf_goTick.2.1 166 = .ok (.goto (-95), 3) := by decide +kernel
theorem d_Rf_goTick_169 : decode m_Rf_goTick.2.1 169 = .ok (.aload_n 0, 1) := by decide +kernel
theorem d_Rf_goTick_170 : decode m_Rf_goTick.2.1 170 = .ok (.getfield 29, 3) := by decide +kernel
theorem d_Rf_goTick_173 : decode m_Rf_goTick.2.1 173 = .ok (.bipush 24, 2) := by decide +kernel
theorem d_Rf_goTick_175 : decode m_Rf_goTick.2.1 175 = .ok (.dup2, 1) := by decide +kernel
theorem d_Rf_goTick_176 : decode m_Rf_goTick.2.1 176 = .ok (.iaload, 1) := by decide +kernel
theorem d_Rf_goTick_177 : decode m_Rf_goTick.2.1 177 = .ok (.iconst 1, 1) := by decide +kernel
theorem d_Rf_goTick_178 : decode m_Rf_goTick.2.1 178 = .ok (.iadd, 1) := by decide +kernel
theorem d_Rf_goTick_179 : decode m_Rf_goTick.2.1 179 = .ok (.iastore, 1) := by decide +kernel
theorem d_Rf_goTick_180 : decode m_Rf_goTick.2.1 180 = .ok (.return_, 1) := by decide +kernel
theorem g_Rf_goTick_0 {X : XS}  (h : Hp) (Q : Option AV → Hp → Prop)  (k : Rn X m_Rf_goTick 10 [some (vR [1]), some (vI (h.1 [18, 1] 24)), some (vI 0), none] [] h Q) : Rn X m_Rf_goTick 0 [some (vR [1]), none, none, none] [] h Q := by
  refine Rn.aload_n (n := 1) (i := 0) d_Rf_goTick_0 rfl rfl rfl ?_
  refine Rn.getf (n := 4) (v := vR [18, 1]) d_Rf_goTick_1 rfl fl_Rf_29 Lv_1 rfl ?_
  refine Rn.bipush (n := 6) (v := 24) d_Rf_goTick_4 rfl (by decide) ?_
  refine Rn.iald (n := 7) (v := h.1 [18, 1] 24) d_Rf_goTick_6 rfl Lv_18_1 (by unfold vp_in; decide) rfl ?_
  refine Rn.istore_n (n := 8) (i := 1) (ls2 := [some (vR [1]), some (vI (h.1 [18, 1] 24)), none, none]) d_Rf_goTick_7 rfl rfl (Nat.le_of_ble_eq_true rfl) rfl ?_
  refine Rn.iconst (n := 9) (v := 0) d_Rf_goTick_8 rfl (by decide) ?_
  refine Rn.istore_n (n := 10) (i := 2) (ls2 := [some (vR [1]), some (vI (h.1 [18, 1] 24)), some (vI 0), none]) d_Rf_goTick_9 rfl rfl (Nat.le_of_ble_eq_true rfl) rfl ?_
  exact k
theorem g_Rf_goTick_10 {X : XS} (a1 : Int32) (a2 : Int32) (h : Hp) (Q : Option AV → Hp → Prop)  (k : ((6 ≤ a2 → Rn X m_Rf_goTick 37 [some (vR [1]), some (vI a1), some (vI 0), none] [] h Q) ∧ (¬ 6 ≤ a2 → (∃ Q'4, EvI X m_Rf_isOn [vR [1], vI a2] h Q'4 ∧ ∀ (r5 : Int32) (h3 : Hp), Q'4 r5 h3 → ((r5 = 0 → Rn X m_Rf_goTick 10 [some (vR [1]), some (vI a1), some (vI (a2 + 1)), none] [] h3 Q) ∧ (¬ r5 = 0 → (∃ Q'9, EvV X m_Rf_goOne [vR [1], vI a2] h3 Q'9 ∧ ∀ (h8 : Hp), Q'9 h8 → Rn X m_Rf_goTick 10 [some (vR [1]), some (vI a1), some (vI (a2 + 1)), none] [] h8 Q))))))) : Rn X m_Rf_goTick 10 [some (vR [1]), some (vI a1), some (vI a2), none] [] h Q := by
  refine Rn.iload_n (n := 11) (i := 2) d_Rf_goTick_10 rfl rfl rfl ?_
  refine Rn.bipush (n := 13) (v := 6) d_Rf_goTick_11 rfl (by decide) ?_
  refine Rn.icmp_ge (n := 16) (t := 35) d_Rf_goTick_13 rfl (by decide) (fun cc => ?_) (fun cc => ?_)
  · have k := k.1 cc
    refine Rn.iconst (n := 36) (v := 0) d_Rf_goTick_35 rfl (by decide) ?_
    refine Rn.istore_n (n := 37) (i := 2) (ls2 := [some (vR [1]), some (vI a1), some (vI 0), none]) d_Rf_goTick_36 rfl rfl (Nat.le_of_ble_eq_true rfl) rfl ?_
    exact k
  · have k := k.2 cc
    refine Rn.aload_n (n := 17) (i := 0) d_Rf_goTick_16 rfl rfl rfl ?_
    refine Rn.iload_n (n := 18) (i := 2) d_Rf_goTick_17 rfl rfl rfl ?_
    obtain ⟨Q'4, ev1, k⟩ := k
    refine Rn.callV (n := 21) (av := [vI a2]) d_Rf_goTick_18 rfl ml_Rf_goTick_181 mi_Rf_isOn Lv_1 rfl rfl rfl rfl (Nat.le_of_ble_eq_true rfl) ev1 (fun v h3 hq => ?_)
    obtain ⟨r5, rfl, hq⟩ := hq
    have k := k r5 h3 hq
    show Rn X m_Rf_goTick 21 [some (vR [1]), some (vI a1), some (vI a2), none] [vI r5] h3 Q
    refine Rn.if_eq (n := 24) (t := 29) d_Rf_goTick_21 rfl (by decide) (fun cc => ?_) (fun cc => ?_)
    · have k := k.1 cc
      refine Rn.iinc (n := 32) (i := 2) (v := a2 + 1) (ls2 := [some (vR [1]), some (vI a1), some (vI (a2 + 1)), none]) d_Rf_goTick_29 rfl rfl rfl (Nat.le_of_ble_eq_true rfl) rfl ?_
      refine Rn.goto (n := 10) d_Rf_goTick_32 (by decide) ?_
      exact k
    · have k := k.2 cc
      refine Rn.aload_n (n := 25) (i := 0) d_Rf_goTick_24 rfl rfl rfl ?_
      refine Rn.iload_n (n := 26) (i := 2) d_Rf_goTick_25 rfl rfl rfl ?_
      obtain ⟨Q'9, ev6, k⟩ := k
      refine Rn.callV (n := 29) (av := [vI a2]) d_Rf_goTick_26 rfl ml_Rf_goTick_188 mi_Rf_goOne Lv_1 rfl rfl rfl rfl (Nat.le_of_ble_eq_true rfl) ev6 (fun v h8 hq => ?_)
      obtain ⟨rfl, hq⟩ := hq
      have k := k h8 hq
      show Rn X m_Rf_goTick 29 [some (vR [1]), some (vI a1), some (vI a2), none] [] h8 Q
      refine Rn.iinc (n := 32) (i := 2) (v := a2 + 1) (ls2 := [some (vR [1]), some (vI a1), some (vI (a2 + 1)), none]) d_Rf_goTick_29 rfl rfl rfl (Nat.le_of_ble_eq_true rfl) rfl ?_
      refine Rn.goto (n := 10) d_Rf_goTick_32 (by decide) ?_
      exact k
theorem g_Rf_goTick_37 {X : XS} (a1 : Int32) (a2 : Int32) (h : Hp) (Q : Option AV → Hp → Prop)  (k : ((6 ≤ a2 → (∃ Q'4, EvV X m_Rf_poke [vR [1]] h Q'4 ∧ ∀ (h3 : Hp), Q'4 h3 → Rn X m_Rf_goTick 71 [some (vR [1]), some (vI a1), some (vI 0), none] [] h3 Q)) ∧ (¬ 6 ≤ a2 → (∃ Q'8, EvI X m_Rf_has [vI (h.1 [1] 3), vI a2] h Q'8 ∧ ∀ (r9 : Int32) (h7 : Hp), Q'8 r9 h7 → ((r9 = 0 → Rn X m_Rf_goTick 37 [some (vR [1]), some (vI a1), some (vI (a2 + 1)), none] [] h7 Q) ∧ (¬ r9 = 0 → (∃ Q'13, EvV X m_Rf_comeOne [vR [1], vI a2] h7 Q'13 ∧ ∀ (h12 : Hp), Q'13 h12 → Rn X m_Rf_goTick 37 [some (vR [1]), some (vI a1), some (vI (a2 + 1)), none] [] h12 Q))))))) : Rn X m_Rf_goTick 37 [some (vR [1]), some (vI a1), some (vI a2), none] [] h Q := by
  refine Rn.iload_n (n := 38) (i := 2) d_Rf_goTick_37 rfl rfl rfl ?_
  refine Rn.bipush (n := 40) (v := 6) d_Rf_goTick_38 rfl (by decide) ?_
  refine Rn.icmp_ge (n := 43) (t := 65) d_Rf_goTick_40 rfl (by decide) (fun cc => ?_) (fun cc => ?_)
  · have k := k.1 cc
    refine Rn.aload_n (n := 66) (i := 0) d_Rf_goTick_65 rfl rfl rfl ?_
    obtain ⟨Q'4, ev1, k⟩ := k
    refine Rn.callV (n := 69) (av := []) d_Rf_goTick_66 rfl ml_Rf_goTick_194 mi_Rf_poke Lv_1 rfl rfl rfl rfl (Nat.le_of_ble_eq_true rfl) ev1 (fun v h3 hq => ?_)
    obtain ⟨rfl, hq⟩ := hq
    have k := k h3 hq
    show Rn X m_Rf_goTick 69 [some (vR [1]), some (vI a1), some (vI a2), none] [] h3 Q
    refine Rn.iconst (n := 70) (v := 0) d_Rf_goTick_69 rfl (by decide) ?_
    refine Rn.istore_n (n := 71) (i := 2) (ls2 := [some (vR [1]), some (vI a1), some (vI 0), none]) d_Rf_goTick_70 rfl rfl (Nat.le_of_ble_eq_true rfl) rfl ?_
    exact k
  · have k := k.2 cc
    refine Rn.aload_n (n := 44) (i := 0) d_Rf_goTick_43 rfl rfl rfl ?_
    refine Rn.getf (n := 47) (v := vI (h.1 [1] 3)) d_Rf_goTick_44 rfl fl_Rf_70 Lv_1 rfl ?_
    refine Rn.iload_n (n := 48) (i := 2) d_Rf_goTick_47 rfl rfl rfl ?_
    obtain ⟨Q'8, ev5, k⟩ := k
    refine Rn.callS (n := 51) (av := [vI (h.1 [1] 3), vI a2]) d_Rf_goTick_48 rfl ml_Rf_goTick_73 ms_Rf_has rfl rfl (Nat.le_of_ble_eq_true rfl) ev5 (fun v h7 hq => ?_)
    obtain ⟨r9, rfl, hq⟩ := hq
    have k := k r9 h7 hq
    show Rn X m_Rf_goTick 51 [some (vR [1]), some (vI a1), some (vI a2), none] [vI r9] h7 Q
    refine Rn.if_eq (n := 54) (t := 59) d_Rf_goTick_51 rfl (by decide) (fun cc => ?_) (fun cc => ?_)
    · have k := k.1 cc
      refine Rn.iinc (n := 62) (i := 2) (v := a2 + 1) (ls2 := [some (vR [1]), some (vI a1), some (vI (a2 + 1)), none]) d_Rf_goTick_59 rfl rfl rfl (Nat.le_of_ble_eq_true rfl) rfl ?_
      refine Rn.goto (n := 37) d_Rf_goTick_62 (by decide) ?_
      exact k
    · have k := k.2 cc
      refine Rn.aload_n (n := 55) (i := 0) d_Rf_goTick_54 rfl rfl rfl ?_
      refine Rn.iload_n (n := 56) (i := 2) d_Rf_goTick_55 rfl rfl rfl ?_
      obtain ⟨Q'13, ev10, k⟩ := k
      refine Rn.callV (n := 59) (av := [vI a2]) d_Rf_goTick_56 rfl ml_Rf_goTick_191 mi_Rf_comeOne Lv_1 rfl rfl rfl rfl (Nat.le_of_ble_eq_true rfl) ev10 (fun v h12 hq => ?_)
      obtain ⟨rfl, hq⟩ := hq
      have k := k h12 hq
      show Rn X m_Rf_goTick 59 [some (vR [1]), some (vI a1), some (vI a2), none] [] h12 Q
      refine Rn.iinc (n := 62) (i := 2) (v := a2 + 1) (ls2 := [some (vR [1]), some (vI a1), some (vI (a2 + 1)), none]) d_Rf_goTick_59 rfl rfl rfl (Nat.le_of_ble_eq_true rfl) rfl ?_
      refine Rn.goto (n := 37) d_Rf_goTick_62 (by decide) ?_
      exact k
theorem g_Rf_goTick_71 {X : XS} (a1 : Int32) (a2 : Int32) (h : Hp) (Q : Option AV → Hp → Prop)  (k : ((6 ≤ a2 → Q none (hsI h [18, 1] 24 ((h.1 [18, 1] 24) + 1))) ∧ (¬ 6 ≤ a2 → (∃ Q'4, EvI X m_Rf_isOn [vR [1], vI a2] h Q'4 ∧ ∀ (r5 : Int32) (h3 : Hp), Q'4 r5 h3 → ((r5 = 0 → Rn X m_Rf_goTick 94 [some (vR [1]), some (vI a1), some (vI a2), none] [vI 0] h3 Q) ∧ (¬ r5 = 0 → (∃ Q'9, EvI X m_Rf_wetNow [vR [1], vI a2] h3 Q'9 ∧ ∀ (r10 : Int32) (h8 : Hp), Q'9 r10 h8 → Rn X m_Rf_goTick 94 [some (vR [1]), some (vI a1), some (vI a2), none] [vI r10] h8 Q))))))) : Rn X m_Rf_goTick 71 [some (vR [1]), some (vI a1), some (vI a2), none] [] h Q := by
  refine Rn.iload_n (n := 72) (i := 2) d_Rf_goTick_71 rfl rfl rfl ?_
  refine Rn.bipush (n := 74) (v := 6) d_Rf_goTick_72 rfl (by decide) ?_
  refine Rn.icmp_ge (n := 77) (t := 169) d_Rf_goTick_74 rfl (by decide) (fun cc => ?_) (fun cc => ?_)
  · have k := k.1 cc
    refine Rn.aload_n (n := 170) (i := 0) d_Rf_goTick_169 rfl rfl rfl ?_
    refine Rn.getf (n := 173) (v := vR [18, 1]) d_Rf_goTick_170 rfl fl_Rf_29 Lv_1 rfl ?_
    refine Rn.bipush (n := 175) (v := 24) d_Rf_goTick_173 rfl (by decide) ?_
    refine Rn.dup2 (n := 176) d_Rf_goTick_175 rfl rfl rfl ?_
    refine Rn.iald (n := 177) (v := h.1 [18, 1] 24) d_Rf_goTick_176 rfl Lv_18_1 (by unfold vp_in; decide) rfl ?_
    refine Rn.iconst (n := 178) (v := 1) d_Rf_goTick_177 rfl (by decide) ?_
    refine Rn.iadd (n := 179) d_Rf_goTick_178 rfl ?_
    refine Rn.iast (n := 180) d_Rf_goTick_179 rfl Lv_18_1 (by unfold vp_in; decide) ?_
    show Rn X m_Rf_goTick 180 [some (vR [1]), some (vI a1), some (vI a2), none] [] (hsI h [18, 1] 24 ((h.1 [18, 1] 24) + 1)) Q
    exact Rn.vret d_Rf_goTick_180 rfl k
  · have k := k.2 cc
    refine Rn.aload_n (n := 78) (i := 0) d_Rf_goTick_77 rfl rfl rfl ?_
    refine Rn.iload_n (n := 79) (i := 2) d_Rf_goTick_78 rfl rfl rfl ?_
    obtain ⟨Q'4, ev1, k⟩ := k
    refine Rn.callV (n := 82) (av := [vI a2]) d_Rf_goTick_79 rfl ml_Rf_goTick_181 mi_Rf_isOn Lv_1 rfl rfl rfl rfl (Nat.le_of_ble_eq_true rfl) ev1 (fun v h3 hq => ?_)
    obtain ⟨r5, rfl, hq⟩ := hq
    have k := k r5 h3 hq
    show Rn X m_Rf_goTick 82 [some (vR [1]), some (vI a1), some (vI a2), none] [vI r5] h3 Q
    refine Rn.if_eq (n := 85) (t := 93) d_Rf_goTick_82 rfl (by decide) (fun cc => ?_) (fun cc => ?_)
    · have k := k.1 cc
      refine Rn.iconst (n := 94) (v := 0) d_Rf_goTick_93 rfl (by decide) ?_
      exact k
    · have k := k.2 cc
      refine Rn.aload_n (n := 86) (i := 0) d_Rf_goTick_85 rfl rfl rfl ?_
      refine Rn.iload_n (n := 87) (i := 2) d_Rf_goTick_86 rfl rfl rfl ?_
      obtain ⟨Q'9, ev6, k⟩ := k
      refine Rn.callV (n := 90) (av := [vI a2]) d_Rf_goTick_87 rfl ml_Rf_goTick_197 mi_Rf_wetNow Lv_1 rfl rfl rfl rfl (Nat.le_of_ble_eq_true rfl) ev6 (fun v h8 hq => ?_)
      obtain ⟨r10, rfl, hq⟩ := hq
      have k := k r10 h8 hq
      show Rn X m_Rf_goTick 90 [some (vR [1]), some (vI a1), some (vI a2), none] [vI r10] h8 Q
      refine Rn.goto (n := 94) d_Rf_goTick_90 (by decide) ?_
      exact k
theorem g_Rf_goTick_94 {X : XS} (a1 : Int32) (a2 : Int32) (s0 : Int32) (h : Hp) (Q : Option AV → Hp → Prop)  (k : (vp_in ((6 * a1) + a2) 360 ∧ (vp_in (6 + a2) 26 ∧ (vp_in (6 + a2) 26 ∧ (∃ Q'7, EvI X m_Rf_isOn [vR [1], vI a2] (hsI (hsI h [23, 1] (((6 * a1) + a2).toNatClampNeg) s0) [18, 1] ((6 + a2).toNatClampNeg) (((hsI h [23, 1] (((6 * a1) + a2).toNatClampNeg) s0).1 [18, 1] (6 + a2).toNatClampNeg) + s0)) Q'7 ∧ ∀ (r8 : Int32) (h6 : Hp), Q'7 r8 h6 → ((r8 = 0 → Rn X m_Rf_goTick 71 [some (vR [1]), some (vI a1), some (vI (a2 + 1)), none] [] h6 Q) ∧ (¬ r8 = 0 → (∃ Q'12, EvI X m_Rf_placeOf [vR [1], vI a2] h6 Q'12 ∧ ∀ (r13 : Int32) (h11 : Hp), Q'12 r13 h11 → (vp_in ((12 * a2) + r13) 72 ∧ ((¬ (h11.1 [24, 1] ((12 * a2) + r13).toNatClampNeg) = (-1) → Rn X m_Rf_goTick 71 [some (vR [1]), some (vI a1), some (vI (a2 + 1)), none] [] h11 Q) ∧ ((h11.1 [24, 1] ((12 * a2) + r13).toNatClampNeg) = (-1) → (∃ Q'18, EvI X m_Rf_placeOf [vR [1], vI a2] h11 Q'18 ∧ ∀ (r19 : Int32) (h17 : Hp), Q'18 r19 h17 → (vp_in ((12 * a2) + r19) 72 ∧ Rn X m_Rf_goTick 71 [some (vR [1]), some (vI a1), some (vI (a2 + 1)), none] [] (hsI h17 [24, 1] (((12 * a2) + r19).toNatClampNeg) a1) Q))))))))))))) : Rn X m_Rf_goTick 94 [some (vR [1]), some (vI a1), some (vI a2), none] [vI s0] h Q := by
  refine Rn.istore_n (n := 95) (i := 3) (ls2 := [some (vR [1]), some (vI a1), some (vI a2), some (vI s0)]) d_Rf_goTick_94 rfl rfl (Nat.le_of_ble_eq_true rfl) rfl ?_
  refine Rn.aload_n (n := 96) (i := 0) d_Rf_goTick_95 rfl rfl rfl ?_
  refine Rn.getf (n := 99) (v := vR [23, 1]) d_Rf_goTick_96 rfl fl_Rf_45 Lv_1 rfl ?_
  refine Rn.bipush (n := 101) (v := 6) d_Rf_goTick_99 rfl (by decide) ?_
  refine Rn.iload_n (n := 102) (i := 1) d_Rf_goTick_101 rfl rfl rfl ?_
  refine Rn.imul (n := 103) d_Rf_goTick_102 rfl ?_
  refine Rn.iload_n (n := 104) (i := 2) d_Rf_goTick_103 rfl rfl rfl ?_
  refine Rn.iadd (n := 105) d_Rf_goTick_104 rfl ?_
  refine Rn.iload_n (n := 106) (i := 3) d_Rf_goTick_105 rfl rfl rfl ?_
  obtain ⟨b1, k⟩ := k
  refine Rn.iast (n := 107) d_Rf_goTick_106 rfl Lv_23_1 b1 ?_
  refine Rn.aload_n (n := 108) (i := 0) d_Rf_goTick_107 rfl rfl rfl ?_
  refine Rn.getf (n := 111) (v := vR [18, 1]) d_Rf_goTick_108 rfl fl_Rf_29 Lv_1 rfl ?_
  refine Rn.bipush (n := 113) (v := 6) d_Rf_goTick_111 rfl (by decide) ?_
  refine Rn.iload_n (n := 114) (i := 2) d_Rf_goTick_113 rfl rfl rfl ?_
  refine Rn.iadd (n := 115) d_Rf_goTick_114 rfl ?_
  refine Rn.dup2 (n := 116) d_Rf_goTick_115 rfl rfl rfl ?_
  obtain ⟨b2, k⟩ := k
  refine Rn.iald (n := 117) (v := (hsI h [23, 1] (((6 * a1) + a2).toNatClampNeg) s0).1 [18, 1] (6 + a2).toNatClampNeg) d_Rf_goTick_116 rfl Lv_18_1 b2 rfl ?_
  refine Rn.iload_n (n := 118) (i := 3) d_Rf_goTick_117 rfl rfl rfl ?_
  refine Rn.iadd (n := 119) d_Rf_goTick_118 rfl ?_
  obtain ⟨b3, k⟩ := k
  refine Rn.iast (n := 120) d_Rf_goTick_119 rfl Lv_18_1 b3 ?_
  refine Rn.aload_n (n := 121) (i := 0) d_Rf_goTick_120 rfl rfl rfl ?_
  refine Rn.iload_n (n := 122) (i := 2) d_Rf_goTick_121 rfl rfl rfl ?_
  obtain ⟨Q'7, ev4, k⟩ := k
  refine Rn.callV (n := 125) (av := [vI a2]) d_Rf_goTick_122 rfl ml_Rf_goTick_181 mi_Rf_isOn Lv_1 rfl rfl rfl rfl (Nat.le_of_ble_eq_true rfl) ev4 (fun v h6 hq => ?_)
  obtain ⟨r8, rfl, hq⟩ := hq
  have k := k r8 h6 hq
  show Rn X m_Rf_goTick 125 [some (vR [1]), some (vI a1), some (vI a2), some (vI s0)] [vI r8] h6 Q
  refine Rn.if_eq (n := 128) (t := 163) d_Rf_goTick_125 rfl (by decide) (fun cc => ?_) (fun cc => ?_)
  · have k := k.1 cc
    refine Rn.iinc (n := 166) (i := 2) (v := a2 + 1) (ls2 := [some (vR [1]), some (vI a1), some (vI (a2 + 1)), some (vI s0)]) d_Rf_goTick_163 rfl rfl rfl (Nat.le_of_ble_eq_true rfl) rfl ?_
    refine Rn.goto (n := 71) d_Rf_goTick_166 (by decide) ?_
    exact Rn.loc [some (vR [1]), some (vI a1), some (vI (a2 + 1)), none] (LLe_ok ⟨rfl, ⟨rfl, ⟨rfl, trivial⟩⟩⟩) k
  · have k := k.2 cc
    refine Rn.aload_n (n := 129) (i := 0) d_Rf_goTick_128 rfl rfl rfl ?_
    refine Rn.getf (n := 132) (v := vR [24, 1]) d_Rf_goTick_129 rfl fl_Rf_48 Lv_1 rfl ?_
    refine Rn.bipush (n := 134) (v := 12) d_Rf_goTick_132 rfl (by decide) ?_
    refine Rn.iload_n (n := 135) (i := 2) d_Rf_goTick_134 rfl rfl rfl ?_
    refine Rn.imul (n := 136) d_Rf_goTick_135 rfl ?_
    refine Rn.aload_n (n := 137) (i := 0) d_Rf_goTick_136 rfl rfl rfl ?_
    refine Rn.iload_n (n := 138) (i := 2) d_Rf_goTick_137 rfl rfl rfl ?_
    obtain ⟨Q'12, ev9, k⟩ := k
    refine Rn.callV (n := 141) (av := [vI a2]) d_Rf_goTick_138 rfl ml_Rf_goTick_175 mi_Rf_placeOf Lv_1 rfl rfl rfl rfl (Nat.le_of_ble_eq_true rfl) ev9 (fun v h11 hq => ?_)
    obtain ⟨r13, rfl, hq⟩ := hq
    have k := k r13 h11 hq
    show Rn X m_Rf_goTick 141 [some (vR [1]), some (vI a1), some (vI a2), some (vI s0)] [vI r13, vI (12 * a2), vR [24, 1]] h11 Q
    refine Rn.iadd (n := 142) d_Rf_goTick_141 rfl ?_
    obtain ⟨b14, k⟩ := k
    refine Rn.iald (n := 143) (v := h11.1 [24, 1] ((12 * a2) + r13).toNatClampNeg) d_Rf_goTick_142 rfl Lv_24_1 b14 rfl ?_
    refine Rn.iconst (n := 144) (v := (-1)) d_Rf_goTick_143 rfl (by decide) ?_
    refine Rn.icmp_ne (n := 147) (t := 163) d_Rf_goTick_144 rfl (by decide) (fun cc => ?_) (fun cc => ?_)
    · have k := k.1 cc
      refine Rn.iinc (n := 166) (i := 2) (v := a2 + 1) (ls2 := [some (vR [1]), some (vI a1), some (vI (a2 + 1)), some (vI s0)]) d_Rf_goTick_163 rfl rfl rfl (Nat.le_of_ble_eq_true rfl) rfl ?_
      refine Rn.goto (n := 71) d_Rf_goTick_166 (by decide) ?_
      exact Rn.loc [some (vR [1]), some (vI a1), some (vI (a2 + 1)), none] (LLe_ok ⟨rfl, ⟨rfl, ⟨rfl, trivial⟩⟩⟩) k
    · have k := k.2 cc
      refine Rn.aload_n (n := 148) (i := 0) d_Rf_goTick_147 rfl rfl rfl ?_
      refine Rn.getf (n := 151) (v := vR [24, 1]) d_Rf_goTick_148 rfl fl_Rf_48 Lv_1 rfl ?_
      refine Rn.bipush (n := 153) (v := 12) d_Rf_goTick_151 rfl (by decide) ?_
      refine Rn.iload_n (n := 154) (i := 2) d_Rf_goTick_153 rfl rfl rfl ?_
      refine Rn.imul (n := 155) d_Rf_goTick_154 rfl ?_
      refine Rn.aload_n (n := 156) (i := 0) d_Rf_goTick_155 rfl rfl rfl ?_
      refine Rn.iload_n (n := 157) (i := 2) d_Rf_goTick_156 rfl rfl rfl ?_
      obtain ⟨Q'18, ev15, k⟩ := k
      refine Rn.callV (n := 160) (av := [vI a2]) d_Rf_goTick_157 rfl ml_Rf_goTick_175 mi_Rf_placeOf Lv_1 rfl rfl rfl rfl (Nat.le_of_ble_eq_true rfl) ev15 (fun v h17 hq => ?_)
      obtain ⟨r19, rfl, hq⟩ := hq
      have k := k r19 h17 hq
      show Rn X m_Rf_goTick 160 [some (vR [1]), some (vI a1), some (vI a2), some (vI s0)] [vI r19, vI (12 * a2), vR [24, 1]] h17 Q
      refine Rn.iadd (n := 161) d_Rf_goTick_160 rfl ?_
      refine Rn.iload_n (n := 162) (i := 1) d_Rf_goTick_161 rfl rfl rfl ?_
      obtain ⟨b20, k⟩ := k
      refine Rn.iast (n := 163) d_Rf_goTick_162 rfl Lv_24_1 b20 ?_
      refine Rn.iinc (n := 166) (i := 2) (v := a2 + 1) (ls2 := [some (vR [1]), some (vI a1), some (vI (a2 + 1)), some (vI s0)]) d_Rf_goTick_163 rfl rfl rfl (Nat.le_of_ble_eq_true rfl) rfl ?_
      refine Rn.goto (n := 71) d_Rf_goTick_166 (by decide) ?_
      exact Rn.loc [some (vR [1]), some (vI a1), some (vI (a2 + 1)), none] (LLe_ok ⟨rfl, ⟨rfl, ⟨rfl, trivial⟩⟩⟩) k
theorem e_Rf_goTick {X : XS}  (h : Hp) (Q : Option AV → Hp → Prop) (k : Rn X m_Rf_goTick 0 [some (vR [1]), none, none, none] [] h Q) : Ev X m_Rf_goTick [vR [1]] h Q := Ev.intro (plainFor_of_name (by decide +kernel)) (Nat.le_of_ble_eq_true rfl) (ls := [some (vR [1]), none, none, none]) rfl k
theorem d_Rf_go_0 : decode m_Rf_go.2.1 0 = .ok (.iload_n 1, 1) := by decide +kernel
theorem d_Rf_go_1 : decode m_Rf_go.2.1 1 = .ok (.iconst 1, 1) := by decide +kernel
theorem d_Rf_go_2 : decode m_Rf_go.2.1 2 = .ok (.bipush 60, 2) := by decide +kernel
theorem d_Rf_go_4 : decode m_Rf_go.2.1 4 = .ok (.invokestatic 66, 3) := by decide +kernel
theorem d_Rf_go_7 : decode m_Rf_go.2.1 7 = .ok (.ifCond .ne 6, 3) := by decide +kernel
theorem d_Rf_go_10 : decode m_Rf_go.2.1 10 = .ok (.bipush (-3), 2) := by decide +kernel
theorem d_Rf_go_12 : decode m_Rf_go.2.1 12 = .ok (.ireturn, 1) := by decide +kernel
theorem d_Rf_go_13 : decode m_Rf_go.2.1 13 = .ok (.aload_n 0, 1) := by decide +kernel
theorem d_Rf_go_14 : decode m_Rf_go.2.1 14 = .ok (.invokevirtual 200, 3) := by decide +kernel
theorem d_Rf_go_17 : decode m_Rf_go.2.1 17 = .ok (.iconst 0, 1) := by decide +kernel
theorem d_Rf_go_18 : decode m_Rf_go.2.1 18 = .ok (.istore_n 2, 1) := by decide +kernel
theorem d_Rf_go_19 : decode m_Rf_go.2.1 19 = .ok (.iload_n 2, 1) := by decide +kernel
theorem d_Rf_go_20 : decode m_Rf_go.2.1 20 = .ok (.iload_n 1, 1) := by decide +kernel
theorem d_Rf_go_21 : decode m_Rf_go.2.1 21 = .ok (.if_icmp .ge 25, 3) := by decide +kernel
theorem d_Rf_go_24 : decode m_Rf_go.2.1 24 = .ok (.aload_n 0, 1) := by decide +kernel
theorem d_Rf_go_25 : decode m_Rf_go.2.1 25 = .ok (.getfield 29, 3) := by decide +kernel
theorem d_Rf_go_28 : decode m_Rf_go.2.1 28 = .ok (.bipush 24, 2) := by decide +kernel
theorem d_Rf_go_30 : decode m_Rf_go.2.1 30 = .ok (.iaload, 1) := by decide +kernel
theorem d_Rf_go_31 : decode m_Rf_go.2.1 31 = .ok (.bipush 60, 2) := by decide +kernel
theorem d_Rf_go_33 : decode m_Rf_go.2.1 33 = .ok (.if_icmp .ge 13, 3) := by decide +kernel
theorem d_Rf_go_36 : decode m_Rf_go.2.1 36 = .ok (.aload_n 0, 1) := by decide +kernel
theorem d_Rf_go_37 : decode m_Rf_go.2.1 37 = .ok (.invokevirtual 203, 3) := by decide +kernel
theorem d_Rf_go_40 : decode m_Rf_go.2.1 40 = .ok (.iinc 2 1, 3) := by decide +kernel
theorem d_Rf_go_43 : decode m_Rf_go.2.1 43 = .ok (.goto (-24), 3) := by decide +kernel
theorem d_Rf_go_46 : decode m_Rf_go.2.1 46 = .ok (.aload_n 0, 1) := by decide +kernel
theorem d_Rf_go_47 : decode m_Rf_go.2.1 47 = .ok (.getfield 29, 3) := by decide +kernel
theorem d_Rf_go_50 : decode m_Rf_go.2.1 50 = .ok (.bipush 24, 2) := by decide +kernel
theorem d_Rf_go_52 : decode m_Rf_go.2.1 52 = .ok (.iaload, 1) := by decide +kernel
theorem d_Rf_go_53 : decode m_Rf_go.2.1 53 = .ok (.ireturn, 1) := by decide +kernel
theorem g_Rf_go_0 {X : XS} (a1 : Int32) (h : Hp) (Q : Option AV → Hp → Prop)  (k : (∃ Q'4, EvI X m_Rf_in [vI a1, vI 1, vI 60] h Q'4 ∧ ∀ (r5 : Int32) (h3 : Hp), Q'4 r5 h3 → ((¬ r5 = 0 → (∃ Q'9, EvV X m_Rf_sizesAsTold [vR [1]] h3 Q'9 ∧ ∀ (h8 : Hp), Q'9 h8 → Rn X m_Rf_go 19 [some (vR [1]), some (vI a1), some (vI 0)] [] h8 Q)) ∧ (r5 = 0 → Q (some (vI (-3))) h3)))) : Rn X m_Rf_go 0 [some (vR [1]), some (vI a1), none] [] h Q := by
  refine Rn.iload_n (n := 1) (i := 1) d_Rf_go_0 rfl rfl rfl ?_
  refine Rn.iconst (n := 2) (v := 1) d_Rf_go_1 rfl (by decide) ?_
  refine Rn.bipush (n := 4) (v := 60) d_Rf_go_2 rfl (by decide) ?_
  obtain ⟨Q'4, ev1, k⟩ := k
  refine Rn.callS (n := 7) (av := [vI a1, vI 1, vI 60]) d_Rf_go_4 rfl ml_Rf_go_66 ms_Rf_in rfl rfl (Nat.le_of_ble_eq_true rfl) ev1 (fun v h3 hq => ?_)
  obtain ⟨r5, rfl, hq⟩ := hq
  have k := k r5 h3 hq
  show Rn X m_Rf_go 7 [some (vR [1]), some (vI a1), none] [vI r5] h3 Q
  refine Rn.if_ne (n := 10) (t := 13) d_Rf_go_7 rfl (by decide) (fun cc => ?_) (fun cc => ?_)
  · have k := k.1 cc
    refine Rn.aload_n (n := 14) (i := 0) d_Rf_go_13 rfl rfl rfl ?_
    obtain ⟨Q'9, ev6, k⟩ := k
    refine Rn.callV (n := 17) (av := []) d_Rf_go_14 rfl ml_Rf_go_200 mi_Rf_sizesAsTold Lv_1 rfl rfl rfl rfl (Nat.le_of_ble_eq_true rfl) ev6 (fun v h8 hq => ?_)
    obtain ⟨rfl, hq⟩ := hq
    have k := k h8 hq
    show Rn X m_Rf_go 17 [some (vR [1]), some (vI a1), none] [] h8 Q
    refine Rn.iconst (n := 18) (v := 0) d_Rf_go_17 rfl (by decide) ?_
    refine Rn.istore_n (n := 19) (i := 2) (ls2 := [some (vR [1]), some (vI a1), some (vI 0)]) d_Rf_go_18 rfl rfl (Nat.le_of_ble_eq_true rfl) rfl ?_
    exact k
  · have k := k.2 cc
    refine Rn.bipush (n := 12) (v := (-3)) d_Rf_go_10 rfl (by decide) ?_
    exact Rn.iret d_Rf_go_12 rfl rfl k
theorem g_Rf_go_19 {X : XS} (a1 : Int32) (a2 : Int32) (h : Hp) (Q : Option AV → Hp → Prop)  (k : ((a1 ≤ a2 → Q (some (vI (h.1 [18, 1] 24))) h) ∧ (¬ a1 ≤ a2 → ((60 ≤ (h.1 [18, 1] 24) → Q (some (vI (h.1 [18, 1] 24))) h) ∧ (¬ 60 ≤ (h.1 [18, 1] 24) → (∃ Q'4, EvV X m_Rf_goTick [vR [1]] h Q'4 ∧ ∀ (h3 : Hp), Q'4 h3 → Rn X m_Rf_go 19 [some (vR [1]), some (vI a1), some (vI (a2 + 1))] [] h3 Q)))))) : Rn X m_Rf_go 19 [some (vR [1]), some (vI a1), some (vI a2)] [] h Q := by
  refine Rn.iload_n (n := 20) (i := 2) d_Rf_go_19 rfl rfl rfl ?_
  refine Rn.iload_n (n := 21) (i := 1) d_Rf_go_20 rfl rfl rfl ?_
  refine Rn.icmp_ge (n := 24) (t := 46) d_Rf_go_21 rfl (by decide) (fun cc => ?_) (fun cc => ?_)
  · have k := k.1 cc
    refine Rn.aload_n (n := 47) (i := 0) d_Rf_go_46 rfl rfl rfl ?_
    refine Rn.getf (n := 50) (v := vR [18, 1]) d_Rf_go_47 rfl fl_Rf_29 Lv_1 rfl ?_
    refine Rn.bipush (n := 52) (v := 24) d_Rf_go_50 rfl (by decide) ?_
    refine Rn.iald (n := 53) (v := h.1 [18, 1] 24) d_Rf_go_52 rfl Lv_18_1 (by unfold vp_in; decide) rfl ?_
    exact Rn.iret d_Rf_go_53 rfl rfl k
  · have k := k.2 cc
    refine Rn.aload_n (n := 25) (i := 0) d_Rf_go_24 rfl rfl rfl ?_
    refine Rn.getf (n := 28) (v := vR [18, 1]) d_Rf_go_25 rfl fl_Rf_29 Lv_1 rfl ?_
    refine Rn.bipush (n := 30) (v := 24) d_Rf_go_28 rfl (by decide) ?_
    refine Rn.iald (n := 31) (v := h.1 [18, 1] 24) d_Rf_go_30 rfl Lv_18_1 (by unfold vp_in; decide) rfl ?_
    refine Rn.bipush (n := 33) (v := 60) d_Rf_go_31 rfl (by decide) ?_
    refine Rn.icmp_ge (n := 36) (t := 46) d_Rf_go_33 rfl (by decide) (fun cc => ?_) (fun cc => ?_)
    · have k := k.1 cc
      refine Rn.aload_n (n := 47) (i := 0) d_Rf_go_46 rfl rfl rfl ?_
      refine Rn.getf (n := 50) (v := vR [18, 1]) d_Rf_go_47 rfl fl_Rf_29 Lv_1 rfl ?_
      refine Rn.bipush (n := 52) (v := 24) d_Rf_go_50 rfl (by decide) ?_
      refine Rn.iald (n := 53) (v := h.1 [18, 1] 24) d_Rf_go_52 rfl Lv_18_1 (by unfold vp_in; decide) rfl ?_
      exact Rn.iret d_Rf_go_53 rfl rfl k
    · have k := k.2 cc
      refine Rn.aload_n (n := 37) (i := 0) d_Rf_go_36 rfl rfl rfl ?_
      obtain ⟨Q'4, ev1, k⟩ := k
      refine Rn.callV (n := 40) (av := []) d_Rf_go_37 rfl ml_Rf_go_203 mi_Rf_goTick Lv_1 rfl rfl rfl rfl (Nat.le_of_ble_eq_true rfl) ev1 (fun v h3 hq => ?_)
      obtain ⟨rfl, hq⟩ := hq
      have k := k h3 hq
      show Rn X m_Rf_go 40 [some (vR [1]), some (vI a1), some (vI a2)] [] h3 Q
      refine Rn.iinc (n := 43) (i := 2) (v := a2 + 1) (ls2 := [some (vR [1]), some (vI a1), some (vI (a2 + 1))]) d_Rf_go_40 rfl rfl rfl (Nat.le_of_ble_eq_true rfl) rfl ?_
      refine Rn.goto (n := 19) d_Rf_go_43 (by decide) ?_
      exact k
theorem e_Rf_go {X : XS} (a1 : Int32) (h : Hp) (Q : Option AV → Hp → Prop) (k : Rn X m_Rf_go 0 [some (vR [1]), some (vI a1), none] [] h Q) : Ev X m_Rf_go [vR [1], vI a1] h Q := Ev.intro (plainFor_of_name (by decide +kernel)) (Nat.le_of_ble_eq_true rfl) (ls := [some (vR [1]), some (vI a1), none]) rfl k
theorem d_Rf_copy_0 : decode m_Rf_copy.2.1 0 = .ok (.iconst 0, 1) := by decide +kernel
theorem d_Rf_copy_1 : decode m_Rf_copy.2.1 1 = .ok (.istore 4, 2) := by decide +kernel
theorem d_Rf_copy_3 : decode m_Rf_copy.2.1 3 = .ok (.iload 4, 2) := by decide +kernel
theorem d_Rf_copy_5 : decode m_Rf_copy.2.1 5 = .ok (.bipush 26, 2) := by decide +kernel
theorem d_Rf_copy_7 : decode m_Rf_copy.2.1 7 = .ok (.if_icmp .ge 21, 3) := by decide +kernel
theorem d_Rf_copy_10 : decode m_Rf_copy.2.1 10 = .ok (.aload_n 2, 1) := by decide +kernel
theorem d_Rf_copy_11 : decode m_Rf_copy.2.1 11 = .ok (.iload_n 3, 1) := by decide +kernel
theorem d_Rf_copy_12 : decode m_Rf_copy.2.1 12 = .ok (.iload 4, 2) := by decide +kernel
theorem d_Rf_copy_14 : decode m_Rf_copy.2.1 14 = .ok (.iadd, 1) := by decide +kernel
theorem d_Rf_copy_15 : decode m_Rf_copy.2.1 15 = .ok (.aload_n 0, 1) := by decide +kernel
theorem d_Rf_copy_16 : decode m_Rf_copy.2.1 16 = .ok (.iload_n 1, 1) := by decide +kernel
theorem d_Rf_copy_17 : decode m_Rf_copy.2.1 17 = .ok (.iload 4, 2) := by decide +kernel
theorem d_Rf_copy_19 : decode m_Rf_copy.2.1 19 = .ok (.iadd, 1) := by decide +kernel
theorem d_Rf_copy_20 : decode m_Rf_copy.2.1 20 = .ok (.iaload, 1) := by decide +kernel
theorem d_Rf_copy_21 : decode m_Rf_copy.2.1 21 = .ok (.iastore, 1) := by decide +kernel
theorem d_Rf_copy_22 : decode m_Rf_copy.2.1 22 = .ok (.iinc 4 1, 3) := by decide +kernel
theorem d_Rf_copy_25 : decode m_Rf_copy.2.1 25 = .ok (.goto (-22), 3) := by decide +kernel
theorem d_Rf_copy_28 : decode m_Rf_copy.2.1 28 = .ok (.return_, 1) := by decide +kernel
theorem g_Rf_copy_0 {X : XS} (a0 : List Nat) (n0 : Nat) (a1 : Int32) (a2 : List Nat) (n2 : Nat) (a3 : Int32) (h : Hp) (Q : Option AV → Hp → Prop) (w_a0 : Liv a0 8 n0) (w_a2 : Liv a2 8 n2) (k : Rn X m_Rf_copy 3 [some (vR a0), some (vI a1), some (vR a2), some (vI a3), some (vI 0)] [] h Q) : Rn X m_Rf_copy 0 [some (vR a0), some (vI a1), some (vR a2), some (vI a3), none] [] h Q := by
  refine Rn.iconst (n := 1) (v := 0) d_Rf_copy_0 rfl (by decide) ?_
  refine Rn.istore (n := 3) (i := 4) (ls2 := [some (vR a0), some (vI a1), some (vR a2), some (vI a3), some (vI 0)]) d_Rf_copy_1 rfl (Nat.le_of_ble_eq_true rfl) rfl ?_
  exact k
theorem g_Rf_copy_3 {X : XS} (a0 : List Nat) (n0 : Nat) (a1 : Int32) (a2 : List Nat) (n2 : Nat) (a3 : Int32) (a4 : Int32) (h : Hp) (Q : Option AV → Hp → Prop) (w_a0 : Liv a0 8 n0) (w_a2 : Liv a2 8 n2) (k : ((26 ≤ a4 → Q none h) ∧ (¬ 26 ≤ a4 → (vp_in (a1 + a4) n0 ∧ (vp_in (a3 + a4) n2 ∧ Rn X m_Rf_copy 3 [some (vR a0), some (vI a1), some (vR a2), some (vI a3), some (vI (a4 + 1))] [] (hsI h a2 ((a3 + a4).toNatClampNeg) (h.1 a0 (a1 + a4).toNatClampNeg)) Q))))) : Rn X m_Rf_copy 3 [some (vR a0), some (vI a1), some (vR a2), some (vI a3), some (vI a4)] [] h Q := by
  refine Rn.iload (n := 5) (i := 4) d_Rf_copy_3 rfl rfl ?_
  refine Rn.bipush (n := 7) (v := 26) d_Rf_copy_5 rfl (by decide) ?_
  refine Rn.icmp_ge (n := 10) (t := 28) d_Rf_copy_7 rfl (by decide) (fun cc => ?_) (fun cc => ?_)
  · have k := k.1 cc
    exact Rn.vret d_Rf_copy_28 rfl k
  · have k := k.2 cc
    refine Rn.aload_n (n := 11) (i := 2) d_Rf_copy_10 rfl rfl rfl ?_
    refine Rn.iload_n (n := 12) (i := 3) d_Rf_copy_11 rfl rfl rfl ?_
    refine Rn.iload (n := 14) (i := 4) d_Rf_copy_12 rfl rfl ?_
    refine Rn.iadd (n := 15) d_Rf_copy_14 rfl ?_
    refine Rn.aload_n (n := 16) (i := 0) d_Rf_copy_15 rfl rfl rfl ?_
    refine Rn.iload_n (n := 17) (i := 1) d_Rf_copy_16 rfl rfl rfl ?_
    refine Rn.iload (n := 19) (i := 4) d_Rf_copy_17 rfl rfl ?_
    refine Rn.iadd (n := 20) d_Rf_copy_19 rfl ?_
    obtain ⟨b1, k⟩ := k
    refine Rn.iald (n := 21) (v := h.1 a0 (a1 + a4).toNatClampNeg) d_Rf_copy_20 rfl w_a0 b1 rfl ?_
    obtain ⟨b2, k⟩ := k
    refine Rn.iast (n := 22) d_Rf_copy_21 rfl w_a2 b2 ?_
    refine Rn.iinc (n := 25) (i := 4) (v := a4 + 1) (ls2 := [some (vR a0), some (vI a1), some (vR a2), some (vI a3), some (vI (a4 + 1))]) d_Rf_copy_22 rfl rfl rfl (Nat.le_of_ble_eq_true rfl) rfl ?_
    refine Rn.goto (n := 3) d_Rf_copy_25 (by decide) ?_
    exact k
theorem e_Rf_copy {X : XS} (a0 : List Nat) (a1 : Int32) (a2 : List Nat) (a3 : Int32) (h : Hp) (Q : Option AV → Hp → Prop) (k : Rn X m_Rf_copy 0 [some (vR a0), some (vI a1), some (vR a2), some (vI a3), none] [] h Q) : Ev X m_Rf_copy [vR a0, vI a1, vR a2, vI a3] h Q := Ev.intro (plainFor_of_name (by decide +kernel)) (Nat.le_of_ble_eq_true rfl) (ls := [some (vR a0), some (vI a1), some (vR a2), some (vI a3), none]) rfl k
theorem d_Rf_keep_0 : decode m_Rf_keep.2.1 0 = .ok (.iload_n 1, 1) := by decide +kernel
theorem d_Rf_keep_1 : decode m_Rf_keep.2.1 1 = .ok (.iconst 0, 1) := by decide +kernel
theorem d_Rf_keep_2 : decode m_Rf_keep.2.1 2 = .ok (.iconst 1, 1) := by decide +kernel
theorem d_Rf_keep_3 : decode m_Rf_keep.2.1 3 = .ok (.invokestatic 66, 3) := by decide +kernel
theorem d_Rf_keep_6 : decode m_Rf_keep.2.1 6 = .ok (.ifCond .ne 6, 3) := by decide +kernel
theorem d_Rf_keep_9 : decode m_Rf_keep.2.1 9 = .ok (.bipush (-2), 2) := by decide +kernel
theorem d_Rf_keep_11 : decode m_Rf_keep.2.1 11 = .ok (.ireturn, 1) := by decide +kernel
theorem d_Rf_keep_12 : decode m_Rf_keep.2.1 12 = .ok (.aload_n 0, 1) := by decide +kernel
theorem d_Rf_keep_13 : decode m_Rf_keep.2.1 13 = .ok (.getfield 29, 3) := by decide +kernel
theorem d_Rf_keep_16 : decode m_Rf_keep.2.1 16 = .ok (.iconst 0, 1) := by decide +kernel
theorem d_Rf_keep_17 : decode m_Rf_keep.2.1 17 = .ok (.aload_n 0, 1) := by decide +kernel
theorem d_Rf_keep_18 : decode m_Rf_keep.2.1 18 = .ok (.getfield 35, 3) := by decide +kernel
theorem d_Rf_keep_21 : decode m_Rf_keep.2.1 21 = .ok (.bipush 26, 2) := by decide +kernel
theorem d_Rf_keep_23 : decode m_Rf_keep.2.1 23 = .ok (.iload_n 1, 1) := by decide +kernel
theorem d_Rf_keep_24 : decode m_Rf_keep.2.1 24 = .ok (.imul, 1) := by decide +kernel
theorem d_Rf_keep_25 : decode m_Rf_keep.2.1 25 = .ok (.invokestatic 206, 3) := by decide +kernel
theorem d_Rf_keep_28 : decode m_Rf_keep.2.1 28 = .ok (.aload_n 0, 1) := by decide +kernel
theorem d_Rf_keep_29 : decode m_Rf_keep.2.1 29 = .ok (.getfield 38, 3) := by decide +kernel
theorem d_Rf_keep_32 : decode m_Rf_keep.2.1 32 = .ok (.iload_n 1, 1) := by decide +kernel
theorem d_Rf_keep_33 : decode m_Rf_keep.2.1 33 = .ok (.iconst 1, 1) := by decide +kernel
theorem d_Rf_keep_34 : decode m_Rf_keep.2.1 34 = .ok (.bastore, 1) := by decide +kernel
theorem d_Rf_keep_35 : decode m_Rf_keep.2.1 35 = .ok (.aload_n 0, 1) := by decide +kernel
theorem d_Rf_keep_36 : decode m_Rf_keep.2.1 36 = .ok (.getfield 29, 3) := by decide +kernel
theorem d_Rf_keep_39 : decode m_Rf_keep.2.1 39 = .ok (.bipush 24, 2) := by decide +kernel
theorem d_Rf_keep_41 : decode m_Rf_keep.2.1 41 = .ok (.iaload, 1) := by decide +kernel
theorem d_Rf_keep_42 : decode m_Rf_keep.2.1 42 = .ok (.ireturn, 1) := by decide +kernel
theorem g_Rf_keep_0 {X : XS} (a1 : Int32) (h : Hp) (Q : Option AV → Hp → Prop)  (k : (∃ Q'4, EvI X m_Rf_in [vI a1, vI 0, vI 1] h Q'4 ∧ ∀ (r5 : Int32) (h3 : Hp), Q'4 r5 h3 → ((¬ r5 = 0 → (∃ Q'9, EvV X m_Rf_copy [vR [18, 1], vI 0, vR [20, 1], vI (26 * a1)] h3 Q'9 ∧ ∀ (h8 : Hp), Q'9 h8 → (vp_in a1 2 ∧ Q (some (vI ((hsI h8 [21, 1] a1.toNatClampNeg 1).1 [18, 1] 24))) (hsI h8 [21, 1] a1.toNatClampNeg 1)))) ∧ (r5 = 0 → Q (some (vI (-2))) h3)))) : Rn X m_Rf_keep 0 [some (vR [1]), some (vI a1)] [] h Q := by
  refine Rn.iload_n (n := 1) (i := 1) d_Rf_keep_0 rfl rfl rfl ?_
  refine Rn.iconst (n := 2) (v := 0) d_Rf_keep_1 rfl (by decide) ?_
  refine Rn.iconst (n := 3) (v := 1) d_Rf_keep_2 rfl (by decide) ?_
  obtain ⟨Q'4, ev1, k⟩ := k
  refine Rn.callS (n := 6) (av := [vI a1, vI 0, vI 1]) d_Rf_keep_3 rfl ml_Rf_keep_66 ms_Rf_in rfl rfl (Nat.le_of_ble_eq_true rfl) ev1 (fun v h3 hq => ?_)
  obtain ⟨r5, rfl, hq⟩ := hq
  have k := k r5 h3 hq
  show Rn X m_Rf_keep 6 [some (vR [1]), some (vI a1)] [vI r5] h3 Q
  refine Rn.if_ne (n := 9) (t := 12) d_Rf_keep_6 rfl (by decide) (fun cc => ?_) (fun cc => ?_)
  · have k := k.1 cc
    refine Rn.aload_n (n := 13) (i := 0) d_Rf_keep_12 rfl rfl rfl ?_
    refine Rn.getf (n := 16) (v := vR [18, 1]) d_Rf_keep_13 rfl fl_Rf_29 Lv_1 rfl ?_
    refine Rn.iconst (n := 17) (v := 0) d_Rf_keep_16 rfl (by decide) ?_
    refine Rn.aload_n (n := 18) (i := 0) d_Rf_keep_17 rfl rfl rfl ?_
    refine Rn.getf (n := 21) (v := vR [20, 1]) d_Rf_keep_18 rfl fl_Rf_35 Lv_1 rfl ?_
    refine Rn.bipush (n := 23) (v := 26) d_Rf_keep_21 rfl (by decide) ?_
    refine Rn.iload_n (n := 24) (i := 1) d_Rf_keep_23 rfl rfl rfl ?_
    refine Rn.imul (n := 25) d_Rf_keep_24 rfl ?_
    obtain ⟨Q'9, ev6, k⟩ := k
    refine Rn.callS (n := 28) (av := [vR [18, 1], vI 0, vR [20, 1], vI (26 * a1)]) d_Rf_keep_25 rfl ml_Rf_keep_206 ms_Rf_copy rfl rfl (Nat.le_of_ble_eq_true rfl) ev6 (fun v h8 hq => ?_)
    obtain ⟨rfl, hq⟩ := hq
    have k := k h8 hq
    show Rn X m_Rf_keep 28 [some (vR [1]), some (vI a1)] [] h8 Q
    refine Rn.aload_n (n := 29) (i := 0) d_Rf_keep_28 rfl rfl rfl ?_
    refine Rn.getf (n := 32) (v := vR [21, 1]) d_Rf_keep_29 rfl fl_Rf_38 Lv_1 rfl ?_
    refine Rn.iload_n (n := 33) (i := 1) d_Rf_keep_32 rfl rfl rfl ?_
    refine Rn.iconst (n := 34) (v := 1) d_Rf_keep_33 rfl (by decide) ?_
    obtain ⟨b10, k⟩ := k
    refine Rn.zast (n := 35) (y := 1) d_Rf_keep_34 rfl Lv_21_1 b10 rfl ?_
    refine Rn.aload_n (n := 36) (i := 0) d_Rf_keep_35 rfl rfl rfl ?_
    refine Rn.getf (n := 39) (v := vR [18, 1]) d_Rf_keep_36 rfl fl_Rf_29 Lv_1 rfl ?_
    refine Rn.bipush (n := 41) (v := 24) d_Rf_keep_39 rfl (by decide) ?_
    refine Rn.iald (n := 42) (v := (hsI h8 [21, 1] a1.toNatClampNeg 1).1 [18, 1] 24) d_Rf_keep_41 rfl Lv_18_1 (by unfold vp_in; decide) rfl ?_
    exact Rn.iret d_Rf_keep_42 rfl rfl k
  · have k := k.2 cc
    refine Rn.bipush (n := 11) (v := (-2)) d_Rf_keep_9 rfl (by decide) ?_
    exact Rn.iret d_Rf_keep_11 rfl rfl k
theorem e_Rf_keep {X : XS} (a1 : Int32) (h : Hp) (Q : Option AV → Hp → Prop) (k : Rn X m_Rf_keep 0 [some (vR [1]), some (vI a1)] [] h Q) : Ev X m_Rf_keep [vR [1], vI a1] h Q := Ev.intro (plainFor_of_name (by decide +kernel)) (Nat.le_of_ble_eq_true rfl) (ls := [some (vR [1]), some (vI a1)]) rfl k
theorem d_Rf_back_0 : decode m_Rf_back.2.1 0 = .ok (.iload_n 1, 1) := by decide +kernel
theorem d_Rf_back_1 : decode m_Rf_back.2.1 1 = .ok (.iconst 0, 1) := by decide +kernel
theorem d_Rf_back_2 : decode m_Rf_back.2.1 2 = .ok (.iconst 1, 1) := by decide +kernel
theorem d_Rf_back_3 : decode m_Rf_back.2.1 3 = .ok (.invokestatic 66, 3) := by decide +kernel
theorem d_Rf_back_6 : decode m_Rf_back.2.1 6 = .ok (.ifCond .ne 6, 3) := by decide +kernel
theorem d_Rf_back_9 : decode m_Rf_back.2.1 9 = .ok (.bipush (-2), 2) := by decide +kernel
theorem d_Rf_back_11 : decode m_Rf_back.2.1 11 = .ok (.ireturn, 1) := by decide +kernel
theorem d_Rf_back_12 : decode m_Rf_back.2.1 12 = .ok (.aload_n 0, 1) := by decide +kernel
theorem d_Rf_back_13 : decode m_Rf_back.2.1 13 = .ok (.getfield 38, 3) := by decide +kernel
theorem d_Rf_back_16 : decode m_Rf_back.2.1 16 = .ok (.iload_n 1, 1) := by decide +kernel
theorem d_Rf_back_17 : decode m_Rf_back.2.1 17 = .ok (.baload, 1) := by decide +kernel
theorem d_Rf_back_18 : decode m_Rf_back.2.1 18 = .ok (.ifCond .ne 6, 3) := by decide +kernel
theorem d_Rf_back_21 : decode m_Rf_back.2.1 21 = .ok (.bipush (-4), 2) := by decide +kernel
theorem d_Rf_back_23 : decode m_Rf_back.2.1 23 = .ok (.ireturn, 1) := by decide +kernel
theorem d_Rf_back_24 : decode m_Rf_back.2.1 24 = .ok (.aload_n 0, 1) := by decide +kernel
theorem d_Rf_back_25 : decode m_Rf_back.2.1 25 = .ok (.getfield 35, 3) := by decide +kernel
theorem d_Rf_back_28 : decode m_Rf_back.2.1 28 = .ok (.bipush 26, 2) := by decide +kernel
theorem d_Rf_back_30 : decode m_Rf_back.2.1 30 = .ok (.iload_n 1, 1) := by decide +kernel
theorem d_Rf_back_31 : decode m_Rf_back.2.1 31 = .ok (.imul, 1) := by decide +kernel
theorem d_Rf_back_32 : decode m_Rf_back.2.1 32 = .ok (.aload_n 0, 1) := by decide +kernel
theorem d_Rf_back_33 : decode m_Rf_back.2.1 33 = .ok (.getfield 29, 3) := by decide +kernel
theorem d_Rf_back_36 : decode m_Rf_back.2.1 36 = .ok (.iconst 0, 1) := by decide +kernel
theorem d_Rf_back_37 : decode m_Rf_back.2.1 37 = .ok (.invokestatic 206, 3) := by decide +kernel
theorem d_Rf_back_40 : decode m_Rf_back.2.1 40 = .ok (.aload_n 0, 1) := by decide +kernel
theorem d_Rf_back_41 : decode m_Rf_back.2.1 41 = .ok (.getfield 29, 3) := by decide +kernel
theorem d_Rf_back_44 : decode m_Rf_back.2.1 44 = .ok (.bipush 24, 2) := by decide +kernel
theorem d_Rf_back_46 : decode m_Rf_back.2.1 46 = .ok (.iaload, 1) := by decide +kernel
theorem d_Rf_back_47 : decode m_Rf_back.2.1 47 = .ok (.ireturn, 1) := by decide +kernel
theorem g_Rf_back_0 {X : XS} (a1 : Int32) (h : Hp) (Q : Option AV → Hp → Prop)  (k : (∃ Q'4, EvI X m_Rf_in [vI a1, vI 0, vI 1] h Q'4 ∧ ∀ (r5 : Int32) (h3 : Hp), Q'4 r5 h3 → ((¬ r5 = 0 → (vp_in a1 2 ∧ ((¬ (h3.1 [21, 1] a1.toNatClampNeg) = 0 → (∃ Q'10, EvV X m_Rf_copy [vR [20, 1], vI (26 * a1), vR [18, 1], vI 0] h3 Q'10 ∧ ∀ (h9 : Hp), Q'10 h9 → Q (some (vI (h9.1 [18, 1] 24))) h9)) ∧ ((h3.1 [21, 1] a1.toNatClampNeg) = 0 → Q (some (vI (-4))) h3)))) ∧ (r5 = 0 → Q (some (vI (-2))) h3)))) : Rn X m_Rf_back 0 [some (vR [1]), some (vI a1)] [] h Q := by
  refine Rn.iload_n (n := 1) (i := 1) d_Rf_back_0 rfl rfl rfl ?_
  refine Rn.iconst (n := 2) (v := 0) d_Rf_back_1 rfl (by decide) ?_
  refine Rn.iconst (n := 3) (v := 1) d_Rf_back_2 rfl (by decide) ?_
  obtain ⟨Q'4, ev1, k⟩ := k
  refine Rn.callS (n := 6) (av := [vI a1, vI 0, vI 1]) d_Rf_back_3 rfl ml_Rf_back_66 ms_Rf_in rfl rfl (Nat.le_of_ble_eq_true rfl) ev1 (fun v h3 hq => ?_)
  obtain ⟨r5, rfl, hq⟩ := hq
  have k := k r5 h3 hq
  show Rn X m_Rf_back 6 [some (vR [1]), some (vI a1)] [vI r5] h3 Q
  refine Rn.if_ne (n := 9) (t := 12) d_Rf_back_6 rfl (by decide) (fun cc => ?_) (fun cc => ?_)
  · have k := k.1 cc
    refine Rn.aload_n (n := 13) (i := 0) d_Rf_back_12 rfl rfl rfl ?_
    refine Rn.getf (n := 16) (v := vR [21, 1]) d_Rf_back_13 rfl fl_Rf_38 Lv_1 rfl ?_
    refine Rn.iload_n (n := 17) (i := 1) d_Rf_back_16 rfl rfl rfl ?_
    obtain ⟨b6, k⟩ := k
    refine Rn.zald (n := 18) (v := h3.1 [21, 1] a1.toNatClampNeg) d_Rf_back_17 rfl Lv_21_1 b6 rfl ?_
    refine Rn.if_ne (n := 21) (t := 24) d_Rf_back_18 rfl (by decide) (fun cc => ?_) (fun cc => ?_)
    · have k := k.1 cc
      refine Rn.aload_n (n := 25) (i := 0) d_Rf_back_24 rfl rfl rfl ?_
      refine Rn.getf (n := 28) (v := vR [20, 1]) d_Rf_back_25 rfl fl_Rf_35 Lv_1 rfl ?_
      refine Rn.bipush (n := 30) (v := 26) d_Rf_back_28 rfl (by decide) ?_
      refine Rn.iload_n (n := 31) (i := 1) d_Rf_back_30 rfl rfl rfl ?_
      refine Rn.imul (n := 32) d_Rf_back_31 rfl ?_
      refine Rn.aload_n (n := 33) (i := 0) d_Rf_back_32 rfl rfl rfl ?_
      refine Rn.getf (n := 36) (v := vR [18, 1]) d_Rf_back_33 rfl fl_Rf_29 Lv_1 rfl ?_
      refine Rn.iconst (n := 37) (v := 0) d_Rf_back_36 rfl (by decide) ?_
      obtain ⟨Q'10, ev7, k⟩ := k
      refine Rn.callS (n := 40) (av := [vR [20, 1], vI (26 * a1), vR [18, 1], vI 0]) d_Rf_back_37 rfl ml_Rf_back_206 ms_Rf_copy rfl rfl (Nat.le_of_ble_eq_true rfl) ev7 (fun v h9 hq => ?_)
      obtain ⟨rfl, hq⟩ := hq
      have k := k h9 hq
      show Rn X m_Rf_back 40 [some (vR [1]), some (vI a1)] [] h9 Q
      refine Rn.aload_n (n := 41) (i := 0) d_Rf_back_40 rfl rfl rfl ?_
      refine Rn.getf (n := 44) (v := vR [18, 1]) d_Rf_back_41 rfl fl_Rf_29 Lv_1 rfl ?_
      refine Rn.bipush (n := 46) (v := 24) d_Rf_back_44 rfl (by decide) ?_
      refine Rn.iald (n := 47) (v := h9.1 [18, 1] 24) d_Rf_back_46 rfl Lv_18_1 (by unfold vp_in; decide) rfl ?_
      exact Rn.iret d_Rf_back_47 rfl rfl k
    · have k := k.2 cc
      refine Rn.bipush (n := 23) (v := (-4)) d_Rf_back_21 rfl (by decide) ?_
      exact Rn.iret d_Rf_back_23 rfl rfl k
  · have k := k.2 cc
    refine Rn.bipush (n := 11) (v := (-2)) d_Rf_back_9 rfl (by decide) ?_
    exact Rn.iret d_Rf_back_11 rfl rfl k
theorem e_Rf_back {X : XS} (a1 : Int32) (h : Hp) (Q : Option AV → Hp → Prop) (k : Rn X m_Rf_back 0 [some (vR [1]), some (vI a1)] [] h Q) : Ev X m_Rf_back [vR [1], vI a1] h Q := Ev.intro (plainFor_of_name (by decide +kernel)) (Nat.le_of_ble_eq_true rfl) (ls := [some (vR [1]), some (vI a1)]) rfl k
theorem d_Rf_areThrough_0 : decode m_Rf_areThrough.2.1 0 = .ok (.iconst 1, 1) := by decide +kernel
theorem d_Rf_areThrough_1 : decode m_Rf_areThrough.2.1 1 = .ok (.istore_n 1, 1) := by decide +kernel
theorem d_Rf_areThrough_2 : decode m_Rf_areThrough.2.1 2 = .ok (.iconst 0, 1) := by decide +kernel
theorem d_Rf_areThrough_3 : decode m_Rf_areThrough.2.1 3 = .ok (.istore_n 2, 1) := by decide +kernel
theorem d_Rf_areThrough_4 : decode m_Rf_areThrough.2.1 4 = .ok (.iload_n 2, 1) := by decide +kernel
theorem d_Rf_areThrough_5 : decode m_Rf_areThrough.2.1 5 = .ok (.bipush 6, 2) := by decide +kernel
theorem d_Rf_areThrough_7 : decode m_Rf_areThrough.2.1 7 = .ok (.if_icmp .ge 39, 3) := by decide +kernel
theorem d_Rf_areThrough_10 : decode m_Rf_areThrough.2.1 10 = .ok (.iload_n 1, 1) := by decide +kernel
theorem d_Rf_areThrough_11 : decode m_Rf_areThrough.2.1 11 = .ok (.ifCond .eq 27, 3) := by decide +kernel
theorem d_Rf_areThrough_14 : decode m_Rf_areThrough.2.1 14 = .ok (.aload_n 0, 1) := by decide +kernel
theorem d_Rf_areThrough_15 : decode m_Rf_areThrough.2.1 15 = .ok (.getfield 70, 3) := by decide +kernel
theorem d_Rf_areThrough_18 : decode m_Rf_areThrough.2.1 18 = .ok (.iload_n 2, 1) := by decide +kernel
theorem d_Rf_areThrough_19 : decode m_Rf_areThrough.2.1 19 = .ok (.invokestatic 73, 3) := by decide +kernel
theorem d_Rf_areThrough_22 : decode m_Rf_areThrough.2.1 22 = .ok (.ifCond .eq 12, 3) := by decide +kernel
theorem d_Rf_areThrough_25 : decode m_Rf_areThrough.2.1 25 = .ok (.aload_n 0, 1) := by decide +kernel
theorem d_Rf_areThrough_26 : decode m_Rf_areThrough.2.1 26 = .ok (.getfield 29, 3) := by decide +kernel
theorem d_Rf_areThrough_29 : decode m_Rf_areThrough.2.1 29 = .ok (.iload_n 2, 1) := by decide +kernel
theorem d_Rf_areThrough_30 : decode m_Rf_areThrough.2.1 30 = .ok (.iaload, 1) := by decide +kernel
theorem d_Rf_areThrough_31 : decode m_Rf_areThrough.2.1 31 = .ok (.ifCond .ge 7, 3) := by decide +kernel
theorem d_Rf_areThrough_34 : decode m_Rf_areThrough.2.1 34 = .ok (.iconst 1, 1) := by decide +kernel
theorem d_Rf_areThrough_35 : decode m_Rf_areThrough.2.1 35 = .ok (.goto 4, 3) := by decide +kernel
theorem d_Rf_areThrough_38 : decode m_Rf_areThrough.2.1 38 = .ok (.iconst 0, 1) := by decide +kernel
theorem d_Rf_areThrough_39 : decode m_Rf_areThrough.2.1 39 = .ok (.istore_n 1, 1) := by decide +kernel
theorem d_Rf_areThrough_40 : decode m_Rf_areThrough.2.1 40 = .ok (.iinc 2 1, 3) := by decide +kernel
theorem d_Rf_areThrough_43 : decode m_Rf_areThrough.2.1 43 = .ok (.goto (-39), 3) := by decide +kernel
theorem d_Rf_areThrough_46 : decode m_Rf_areThrough.2.1 46 = .ok (.iload_n 1, 1) := by decide +kernel
theorem d_Rf_areThrough_47 : decode m_Rf_areThrough.2.1 47 = .ok (.ireturn, 1) := by decide +kernel
theorem g_Rf_areThrough_0 {X : XS}  (h : Hp) (Q : Option AV → Hp → Prop)  (k : Rn X m_Rf_areThrough 4 [some (vR [1]), some (vI 1), some (vI 0)] [] h Q) : Rn X m_Rf_areThrough 0 [some (vR [1]), none, none] [] h Q := by
  refine Rn.iconst (n := 1) (v := 1) d_Rf_areThrough_0 rfl (by decide) ?_
  refine Rn.istore_n (n := 2) (i := 1) (ls2 := [some (vR [1]), some (vI 1), none]) d_Rf_areThrough_1 rfl rfl (Nat.le_of_ble_eq_true rfl) rfl ?_
  refine Rn.iconst (n := 3) (v := 0) d_Rf_areThrough_2 rfl (by decide) ?_
  refine Rn.istore_n (n := 4) (i := 2) (ls2 := [some (vR [1]), some (vI 1), some (vI 0)]) d_Rf_areThrough_3 rfl rfl (Nat.le_of_ble_eq_true rfl) rfl ?_
  exact k
theorem g_Rf_areThrough_4 {X : XS} (a1 : Int32) (a2 : Int32) (h : Hp) (Q : Option AV → Hp → Prop)  (k : ((6 ≤ a2 → ((a1 = 0 ∨ a1 = 1) ∧ Q (some (vI a1)) h)) ∧ (¬ 6 ≤ a2 → ((a1 = 0 → Rn X m_Rf_areThrough 4 [some (vR [1]), some (vI 0), some (vI (a2 + 1))] [] h Q) ∧ (¬ a1 = 0 → (∃ Q'4, EvI X m_Rf_has [vI (h.1 [1] 3), vI a2] h Q'4 ∧ ∀ (r5 : Int32) (h3 : Hp), Q'4 r5 h3 → ((r5 = 0 → Rn X m_Rf_areThrough 4 [some (vR [1]), some (vI 1), some (vI (a2 + 1))] [] h3 Q) ∧ (¬ r5 = 0 → (vp_in a2 26 ∧ ((0 ≤ (h3.1 [18, 1] a2.toNatClampNeg) → Rn X m_Rf_areThrough 4 [some (vR [1]), some (vI 0), some (vI (a2 + 1))] [] h3 Q) ∧ (¬ 0 ≤ (h3.1 [18, 1] a2.toNatClampNeg) → Rn X m_Rf_areThrough 4 [some (vR [1]), some (vI 1), some (vI (a2 + 1))] [] h3 Q))))))))))) : Rn X m_Rf_areThrough 4 [some (vR [1]), some (vI a1), some (vI a2)] [] h Q := by
  refine Rn.iload_n (n := 5) (i := 2) d_Rf_areThrough_4 rfl rfl rfl ?_
  refine Rn.bipush (n := 7) (v := 6) d_Rf_areThrough_5 rfl (by decide) ?_
  refine Rn.icmp_ge (n := 10) (t := 46) d_Rf_areThrough_7 rfl (by decide) (fun cc => ?_) (fun cc => ?_)
  · have k := k.1 cc
    refine Rn.iload_n (n := 47) (i := 1) d_Rf_areThrough_46 rfl rfl rfl ?_
    obtain ⟨hz, k⟩ := k
    exact Rn.iret d_Rf_areThrough_47 rfl (nar_z hz) k
  · have k := k.2 cc
    refine Rn.iload_n (n := 11) (i := 1) d_Rf_areThrough_10 rfl rfl rfl ?_
    refine Rn.if_eq (n := 14) (t := 38) d_Rf_areThrough_11 rfl (by decide) (fun cc => ?_) (fun cc => ?_)
    · have k := k.1 cc
      refine Rn.iconst (n := 39) (v := 0) d_Rf_areThrough_38 rfl (by decide) ?_
      refine Rn.istore_n (n := 40) (i := 1) (ls2 := [some (vR [1]), some (vI 0), some (vI a2)]) d_Rf_areThrough_39 rfl rfl (Nat.le_of_ble_eq_true rfl) rfl ?_
      refine Rn.iinc (n := 43) (i := 2) (v := a2 + 1) (ls2 := [some (vR [1]), some (vI 0), some (vI (a2 + 1))]) d_Rf_areThrough_40 rfl rfl rfl (Nat.le_of_ble_eq_true rfl) rfl ?_
      refine Rn.goto (n := 4) d_Rf_areThrough_43 (by decide) ?_
      exact k
    · have k := k.2 cc
      refine Rn.aload_n (n := 15) (i := 0) d_Rf_areThrough_14 rfl rfl rfl ?_
      refine Rn.getf (n := 18) (v := vI (h.1 [1] 3)) d_Rf_areThrough_15 rfl fl_Rf_70 Lv_1 rfl ?_
      refine Rn.iload_n (n := 19) (i := 2) d_Rf_areThrough_18 rfl rfl rfl ?_
      obtain ⟨Q'4, ev1, k⟩ := k
      refine Rn.callS (n := 22) (av := [vI (h.1 [1] 3), vI a2]) d_Rf_areThrough_19 rfl ml_Rf_areThrough_73 ms_Rf_has rfl rfl (Nat.le_of_ble_eq_true rfl) ev1 (fun v h3 hq => ?_)
      obtain ⟨r5, rfl, hq⟩ := hq
      have k := k r5 h3 hq
      show Rn X m_Rf_areThrough 22 [some (vR [1]), some (vI a1), some (vI a2)] [vI r5] h3 Q
      refine Rn.if_eq (n := 25) (t := 34) d_Rf_areThrough_22 rfl (by decide) (fun cc => ?_) (fun cc => ?_)
      · have k := k.1 cc
        refine Rn.iconst (n := 35) (v := 1) d_Rf_areThrough_34 rfl (by decide) ?_
        refine Rn.goto (n := 39) d_Rf_areThrough_35 (by decide) ?_
        refine Rn.istore_n (n := 40) (i := 1) (ls2 := [some (vR [1]), some (vI 1), some (vI a2)]) d_Rf_areThrough_39 rfl rfl (Nat.le_of_ble_eq_true rfl) rfl ?_
        refine Rn.iinc (n := 43) (i := 2) (v := a2 + 1) (ls2 := [some (vR [1]), some (vI 1), some (vI (a2 + 1))]) d_Rf_areThrough_40 rfl rfl rfl (Nat.le_of_ble_eq_true rfl) rfl ?_
        refine Rn.goto (n := 4) d_Rf_areThrough_43 (by decide) ?_
        exact k
      · have k := k.2 cc
        refine Rn.aload_n (n := 26) (i := 0) d_Rf_areThrough_25 rfl rfl rfl ?_
        refine Rn.getf (n := 29) (v := vR [18, 1]) d_Rf_areThrough_26 rfl fl_Rf_29 Lv_1 rfl ?_
        refine Rn.iload_n (n := 30) (i := 2) d_Rf_areThrough_29 rfl rfl rfl ?_
        obtain ⟨b6, k⟩ := k
        refine Rn.iald (n := 31) (v := h3.1 [18, 1] a2.toNatClampNeg) d_Rf_areThrough_30 rfl Lv_18_1 b6 rfl ?_
        refine Rn.if_ge (n := 34) (t := 38) d_Rf_areThrough_31 rfl (by decide) (fun cc => ?_) (fun cc => ?_)
        · have k := k.1 cc
          refine Rn.iconst (n := 39) (v := 0) d_Rf_areThrough_38 rfl (by decide) ?_
          refine Rn.istore_n (n := 40) (i := 1) (ls2 := [some (vR [1]), some (vI 0), some (vI a2)]) d_Rf_areThrough_39 rfl rfl (Nat.le_of_ble_eq_true rfl) rfl ?_
          refine Rn.iinc (n := 43) (i := 2) (v := a2 + 1) (ls2 := [some (vR [1]), some (vI 0), some (vI (a2 + 1))]) d_Rf_areThrough_40 rfl rfl rfl (Nat.le_of_ble_eq_true rfl) rfl ?_
          refine Rn.goto (n := 4) d_Rf_areThrough_43 (by decide) ?_
          exact k
        · have k := k.2 cc
          refine Rn.iconst (n := 35) (v := 1) d_Rf_areThrough_34 rfl (by decide) ?_
          refine Rn.goto (n := 39) d_Rf_areThrough_35 (by decide) ?_
          refine Rn.istore_n (n := 40) (i := 1) (ls2 := [some (vR [1]), some (vI 1), some (vI a2)]) d_Rf_areThrough_39 rfl rfl (Nat.le_of_ble_eq_true rfl) rfl ?_
          refine Rn.iinc (n := 43) (i := 2) (v := a2 + 1) (ls2 := [some (vR [1]), some (vI 1), some (vI (a2 + 1))]) d_Rf_areThrough_40 rfl rfl rfl (Nat.le_of_ble_eq_true rfl) rfl ?_
          refine Rn.goto (n := 4) d_Rf_areThrough_43 (by decide) ?_
          exact k
theorem e_Rf_areThrough {X : XS}  (h : Hp) (Q : Option AV → Hp → Prop) (k : Rn X m_Rf_areThrough 0 [some (vR [1]), none, none] [] h Q) : Ev X m_Rf_areThrough [vR [1]] h Q := Ev.intro (plainFor_of_name (by decide +kernel)) (Nat.le_of_ble_eq_true rfl) (ls := [some (vR [1]), none, none]) rfl k
theorem d_Rf_done_0 : decode m_Rf_done.2.1 0 = .ok (.aload_n 0, 1) := by decide +kernel
theorem d_Rf_done_1 : decode m_Rf_done.2.1 1 = .ok (.invokevirtual 200, 3) := by decide +kernel
theorem d_Rf_done_4 : decode m_Rf_done.2.1 4 = .ok (.aload_n 0, 1) := by decide +kernel
theorem d_Rf_done_5 : decode m_Rf_done.2.1 5 = .ok (.getfield 29, 3) := by decide +kernel
theorem d_Rf_done_8 : decode m_Rf_done.2.1 8 = .ok (.iconst 0, 1) := by decide +kernel
theorem d_Rf_done_9 : decode m_Rf_done.2.1 9 = .ok (.aload_n 0, 1) := by decide +kernel
theorem d_Rf_done_10 : decode m_Rf_done.2.1 10 = .ok (.getfield 32, 3) := by decide +kernel
theorem d_Rf_done_13 : decode m_Rf_done.2.1 13 = .ok (.iconst 0, 1) := by decide +kernel
theorem d_Rf_done_14 : decode m_Rf_done.2.1 14 = .ok (.invokestatic 206, 3) := by decide +kernel
theorem d_Rf_done_17 : decode m_Rf_done.2.1 17 = .ok (.aload_n 0, 1) := by decide +kernel
theorem d_Rf_done_18 : decode m_Rf_done.2.1 18 = .ok (.invokevirtual 165, 3) := by decide +kernel
theorem d_Rf_done_21 : decode m_Rf_done.2.1 21 = .ok (.aload_n 0, 1) := by decide +kernel
theorem d_Rf_done_22 : decode m_Rf_done.2.1 22 = .ok (.getfield 29, 3) := by decide +kernel
theorem d_Rf_done_25 : decode m_Rf_done.2.1 25 = .ok (.bipush 24, 2) := by decide +kernel
theorem d_Rf_done_27 : decode m_Rf_done.2.1 27 = .ok (.iaload, 1) := by decide +kernel
theorem d_Rf_done_28 : decode m_Rf_done.2.1 28 = .ok (.bipush 60, 2) := by decide +kernel
theorem d_Rf_done_30 : decode m_Rf_done.2.1 30 = .ok (.if_icmp .ge 17, 3) := by decide +kernel
theorem d_Rf_done_33 : decode m_Rf_done.2.1 33 = .ok (.aload_n 0, 1) := by decide +kernel
theorem d_Rf_done_34 : decode m_Rf_done.2.1 34 = .ok (.invokevirtual 210, 3) := by decide +kernel
theorem d_Rf_done_37 : decode m_Rf_done.2.1 37 = .ok (.ifCond .ne 10, 3) := by decide +kernel
theorem d_Rf_done_40 : decode m_Rf_done.2.1 40 = .ok (.aload_n 0, 1) := by decide +kernel
theorem d_Rf_done_41 : decode m_Rf_done.2.1 41 = .ok (.invokevirtual 203, 3) := by decide +kernel
theorem d_Rf_done_44 : decode m_Rf_done.2.1 44 = .ok (.goto (-23), 3) := by decide +kernel
theorem d_Rf_done_47 : decode m_Rf_done.2.1 47 = .ok (.aload_n 0, 1) := by decide +kernel
theorem d_Rf_done_48 : decode m_Rf_done.2.1 48 = .ok (.invokevirtual 210, 3) := by decide +kernel
theorem d_Rf_done_51 : decode m_Rf_done.2.1 51 = .ok (.ifCond .eq 13, 3) := by decide +kernel
theorem d_Rf_done_54 : decode m_Rf_done.2.1 54 = .ok (.aload_n 0, 1) := by decide +kernel
theorem d_Rf_done_55 : decode m_Rf_done.2.1 55 = .ok (.getfield 29, 3) := by decide +kernel
theorem d_Rf_done_58 : decode m_Rf_done.2.1 58 = .ok (.bipush 24, 2) := by decide +kernel
theorem d_Rf_done_60 : decode m_Rf_done.2.1 60 = .ok (.iaload, 1) := by decide +kernel
theorem d_Rf_done_61 : decode m_Rf_done.2.1 61 = .ok (.goto 4, 3) := by decide +kernel
theorem d_Rf_done_64 : decode m_Rf_done.2.1 64 = .ok (.iconst (-1), 1) := by decide +kernel
theorem d_Rf_done_65 : decode m_Rf_done.2.1 65 = .ok (.istore_n 1, 1) := by decide +kernel
theorem d_Rf_done_66 : decode m_Rf_done.2.1 66 = .ok (.aload_n 0, 1) := by decide +kernel
theorem d_Rf_done_67 : decode m_Rf_done.2.1 67 = .ok (.getfield 32, 3) := by decide +kernel
theorem d_Rf_done_70 : decode m_Rf_done.2.1 70 = .ok (.iconst 0, 1) := by decide +kernel
theorem d_Rf_done_71 : decode m_Rf_done.2.1 71 = .ok (.aload_n 0, 1) := by decide +kernel
theorem d_Rf_done_72 : decode m_Rf_done.2.1 72 = .ok (.getfield 29, 3) := by decide +kernel
theorem d_Rf_done_75 : decode m_Rf_done.2.1 75 = .ok (.iconst 0, 1) := by decide +kernel
theorem d_Rf_done_76 : decode m_Rf_done.2.1 76 = .ok (.invokestatic 206, 3) := by decide +kernel
theorem d_Rf_done_79 : decode m_Rf_done.2.1 79 = .ok (.iload_n 1, 1) := by decide +kernel
theorem d_Rf_done_80 : decode m_Rf_done.2.1 80 = .ok (.ireturn, 1) := by decide +kernel
theorem g_Rf_done_0 {X : XS}  (h : Hp) (Q : Option AV → Hp → Prop)  (k : (∃ Q'4, EvV X m_Rf_sizesAsTold [vR [1]] h Q'4 ∧ ∀ (h3 : Hp), Q'4 h3 → (∃ Q'8, EvV X m_Rf_copy [vR [18, 1], vI 0, vR [19, 1], vI 0] h3 Q'8 ∧ ∀ (h7 : Hp), Q'8 h7 → (∃ Q'12, EvV X m_Rf_begin [vR [1]] h7 Q'12 ∧ ∀ (h11 : Hp), Q'12 h11 → Rn X m_Rf_done 21 [some (vR [1]), none] [] h11 Q)))) : Rn X m_Rf_done 0 [some (vR [1]), none] [] h Q := by
  refine Rn.aload_n (n := 1) (i := 0) d_Rf_done_0 rfl rfl rfl ?_
  obtain ⟨Q'4, ev1, k⟩ := k
  refine Rn.callV (n := 4) (av := []) d_Rf_done_1 rfl ml_Rf_done_200 mi_Rf_sizesAsTold Lv_1 rfl rfl rfl rfl (Nat.le_of_ble_eq_true rfl) ev1 (fun v h3 hq => ?_)
  obtain ⟨rfl, hq⟩ := hq
  have k := k h3 hq
  show Rn X m_Rf_done 4 [some (vR [1]), none] [] h3 Q
  refine Rn.aload_n (n := 5) (i := 0) d_Rf_done_4 rfl rfl rfl ?_
  refine Rn.getf (n := 8) (v := vR [18, 1]) d_Rf_done_5 rfl fl_Rf_29 Lv_1 rfl ?_
  refine Rn.iconst (n := 9) (v := 0) d_Rf_done_8 rfl (by decide) ?_
  refine Rn.aload_n (n := 10) (i := 0) d_Rf_done_9 rfl rfl rfl ?_
  refine Rn.getf (n := 13) (v := vR [19, 1]) d_Rf_done_10 rfl fl_Rf_32 Lv_1 rfl ?_
  refine Rn.iconst (n := 14) (v := 0) d_Rf_done_13 rfl (by decide) ?_
  obtain ⟨Q'8, ev5, k⟩ := k
  refine Rn.callS (n := 17) (av := [vR [18, 1], vI 0, vR [19, 1], vI 0]) d_Rf_done_14 rfl ml_Rf_done_206 ms_Rf_copy rfl rfl (Nat.le_of_ble_eq_true rfl) ev5 (fun v h7 hq => ?_)
  obtain ⟨rfl, hq⟩ := hq
  have k := k h7 hq
  show Rn X m_Rf_done 17 [some (vR [1]), none] [] h7 Q
  refine Rn.aload_n (n := 18) (i := 0) d_Rf_done_17 rfl rfl rfl ?_
  obtain ⟨Q'12, ev9, k⟩ := k
  refine Rn.callV (n := 21) (av := []) d_Rf_done_18 rfl ml_Rf_done_165 mi_Rf_begin Lv_1 rfl rfl rfl rfl (Nat.le_of_ble_eq_true rfl) ev9 (fun v h11 hq => ?_)
  obtain ⟨rfl, hq⟩ := hq
  have k := k h11 hq
  show Rn X m_Rf_done 21 [some (vR [1]), none] [] h11 Q
  exact k
theorem g_Rf_done_21 {X : XS}  (h : Hp) (Q : Option AV → Hp → Prop)  (k : ((60 ≤ (h.1 [18, 1] 24) → Rn X m_Rf_done 47 [some (vR [1]), none] [] h Q) ∧ (¬ 60 ≤ (h.1 [18, 1] 24) → (∃ Q'4, EvI X m_Rf_areThrough [vR [1]] h Q'4 ∧ ∀ (r5 : Int32) (h3 : Hp), Q'4 r5 h3 → ((¬ r5 = 0 → Rn X m_Rf_done 47 [some (vR [1]), none] [] h3 Q) ∧ (r5 = 0 → (∃ Q'9, EvV X m_Rf_goTick [vR [1]] h3 Q'9 ∧ ∀ (h8 : Hp), Q'9 h8 → Rn X m_Rf_done 21 [some (vR [1]), none] [] h8 Q))))))) : Rn X m_Rf_done 21 [some (vR [1]), none] [] h Q := by
  refine Rn.aload_n (n := 22) (i := 0) d_Rf_done_21 rfl rfl rfl ?_
  refine Rn.getf (n := 25) (v := vR [18, 1]) d_Rf_done_22 rfl fl_Rf_29 Lv_1 rfl ?_
  refine Rn.bipush (n := 27) (v := 24) d_Rf_done_25 rfl (by decide) ?_
  refine Rn.iald (n := 28) (v := h.1 [18, 1] 24) d_Rf_done_27 rfl Lv_18_1 (by unfold vp_in; decide) rfl ?_
  refine Rn.bipush (n := 30) (v := 60) d_Rf_done_28 rfl (by decide) ?_
  refine Rn.icmp_ge (n := 33) (t := 47) d_Rf_done_30 rfl (by decide) (fun cc => ?_) (fun cc => ?_)
  · have k := k.1 cc
    exact k
  · have k := k.2 cc
    refine Rn.aload_n (n := 34) (i := 0) d_Rf_done_33 rfl rfl rfl ?_
    obtain ⟨Q'4, ev1, k⟩ := k
    refine Rn.callV (n := 37) (av := []) d_Rf_done_34 rfl ml_Rf_done_210 mi_Rf_areThrough Lv_1 rfl rfl rfl rfl (Nat.le_of_ble_eq_true rfl) ev1 (fun v h3 hq => ?_)
    obtain ⟨r5, rfl, hq⟩ := hq
    have k := k r5 h3 hq
    show Rn X m_Rf_done 37 [some (vR [1]), none] [vI r5] h3 Q
    refine Rn.if_ne (n := 40) (t := 47) d_Rf_done_37 rfl (by decide) (fun cc => ?_) (fun cc => ?_)
    · have k := k.1 cc
      exact k
    · have k := k.2 cc
      refine Rn.aload_n (n := 41) (i := 0) d_Rf_done_40 rfl rfl rfl ?_
      obtain ⟨Q'9, ev6, k⟩ := k
      refine Rn.callV (n := 44) (av := []) d_Rf_done_41 rfl ml_Rf_done_203 mi_Rf_goTick Lv_1 rfl rfl rfl rfl (Nat.le_of_ble_eq_true rfl) ev6 (fun v h8 hq => ?_)
      obtain ⟨rfl, hq⟩ := hq
      have k := k h8 hq
      show Rn X m_Rf_done 44 [some (vR [1]), none] [] h8 Q
      refine Rn.goto (n := 21) d_Rf_done_44 (by decide) ?_
      exact k
theorem g_Rf_done_47 {X : XS}  (h : Hp) (Q : Option AV → Hp → Prop)  (k : (∃ Q'4, EvI X m_Rf_areThrough [vR [1]] h Q'4 ∧ ∀ (r5 : Int32) (h3 : Hp), Q'4 r5 h3 → ((r5 = 0 → Rn X m_Rf_done 65 [some (vR [1]), none] [vI (-1)] h3 Q) ∧ (¬ r5 = 0 → Rn X m_Rf_done 65 [some (vR [1]), none] [vI (h3.1 [18, 1] 24)] h3 Q)))) : Rn X m_Rf_done 47 [some (vR [1]), none] [] h Q := by
  refine Rn.aload_n (n := 48) (i := 0) d_Rf_done_47 rfl rfl rfl ?_
  obtain ⟨Q'4, ev1, k⟩ := k
  refine Rn.callV (n := 51) (av := []) d_Rf_done_48 rfl ml_Rf_done_210 mi_Rf_areThrough Lv_1 rfl rfl rfl rfl (Nat.le_of_ble_eq_true rfl) ev1 (fun v h3 hq => ?_)
  obtain ⟨r5, rfl, hq⟩ := hq
  have k := k r5 h3 hq
  show Rn X m_Rf_done 51 [some (vR [1]), none] [vI r5] h3 Q
  refine Rn.if_eq (n := 54) (t := 64) d_Rf_done_51 rfl (by decide) (fun cc => ?_) (fun cc => ?_)
  · have k := k.1 cc
    refine Rn.iconst (n := 65) (v := (-1)) d_Rf_done_64 rfl (by decide) ?_
    exact k
  · have k := k.2 cc
    refine Rn.aload_n (n := 55) (i := 0) d_Rf_done_54 rfl rfl rfl ?_
    refine Rn.getf (n := 58) (v := vR [18, 1]) d_Rf_done_55 rfl fl_Rf_29 Lv_1 rfl ?_
    refine Rn.bipush (n := 60) (v := 24) d_Rf_done_58 rfl (by decide) ?_
    refine Rn.iald (n := 61) (v := h3.1 [18, 1] 24) d_Rf_done_60 rfl Lv_18_1 (by unfold vp_in; decide) rfl ?_
    refine Rn.goto (n := 65) d_Rf_done_61 (by decide) ?_
    exact k
theorem g_Rf_done_65 {X : XS} (s0 : Int32) (h : Hp) (Q : Option AV → Hp → Prop)  (k : (∃ Q'4, EvV X m_Rf_copy [vR [19, 1], vI 0, vR [18, 1], vI 0] h Q'4 ∧ ∀ (h3 : Hp), Q'4 h3 → Q (some (vI s0)) h3)) : Rn X m_Rf_done 65 [some (vR [1]), none] [vI s0] h Q := by
  refine Rn.istore_n (n := 66) (i := 1) (ls2 := [some (vR [1]), some (vI s0)]) d_Rf_done_65 rfl rfl (Nat.le_of_ble_eq_true rfl) rfl ?_
  refine Rn.aload_n (n := 67) (i := 0) d_Rf_done_66 rfl rfl rfl ?_
  refine Rn.getf (n := 70) (v := vR [19, 1]) d_Rf_done_67 rfl fl_Rf_32 Lv_1 rfl ?_
  refine Rn.iconst (n := 71) (v := 0) d_Rf_done_70 rfl (by decide) ?_
  refine Rn.aload_n (n := 72) (i := 0) d_Rf_done_71 rfl rfl rfl ?_
  refine Rn.getf (n := 75) (v := vR [18, 1]) d_Rf_done_72 rfl fl_Rf_29 Lv_1 rfl ?_
  refine Rn.iconst (n := 76) (v := 0) d_Rf_done_75 rfl (by decide) ?_
  obtain ⟨Q'4, ev1, k⟩ := k
  refine Rn.callS (n := 79) (av := [vR [19, 1], vI 0, vR [18, 1], vI 0]) d_Rf_done_76 rfl ml_Rf_done_206 ms_Rf_copy rfl rfl (Nat.le_of_ble_eq_true rfl) ev1 (fun v h3 hq => ?_)
  obtain ⟨rfl, hq⟩ := hq
  have k := k h3 hq
  show Rn X m_Rf_done 79 [some (vR [1]), some (vI s0)] [] h3 Q
  refine Rn.iload_n (n := 80) (i := 1) d_Rf_done_79 rfl rfl rfl ?_
  exact Rn.iret d_Rf_done_80 rfl rfl k
theorem e_Rf_done {X : XS}  (h : Hp) (Q : Option AV → Hp → Prop) (k : Rn X m_Rf_done 0 [some (vR [1]), none] [] h Q) : Ev X m_Rf_done [vR [1]] h Q := Ev.intro (plainFor_of_name (by decide +kernel)) (Nat.le_of_ble_eq_true rfl) (ls := [some (vR [1]), none]) rfl k
theorem d_Rf_goWhole_0 : decode m_Rf_goWhole.2.1 0 = .ok (.aload_n 0, 1) := by decide +kernel
theorem d_Rf_goWhole_1 : decode m_Rf_goWhole.2.1 1 = .ok (.getfield 29, 3) := by decide +kernel
theorem d_Rf_goWhole_4 : decode m_Rf_goWhole.2.1 4 = .ok (.iconst 0, 1) := by decide +kernel
theorem d_Rf_goWhole_5 : decode m_Rf_goWhole.2.1 5 = .ok (.aload_n 0, 1) := by decide +kernel
theorem d_Rf_goWhole_6 : decode m_Rf_goWhole.2.1 6 = .ok (.getfield 32, 3) := by decide +kernel
theorem d_Rf_goWhole_9 : decode m_Rf_goWhole.2.1 9 = .ok (.iconst 0, 1) := by decide +kernel
theorem d_Rf_goWhole_10 : decode m_Rf_goWhole.2.1 10 = .ok (.invokestatic 206, 3) := by decide +kernel
theorem d_Rf_goWhole_13 : decode m_Rf_goWhole.2.1 13 = .ok (.aload_n 0, 1) := by decide +kernel
theorem d_Rf_goWhole_14 : decode m_Rf_goWhole.2.1 14 = .ok (.invokevirtual 165, 3) := by decide +kernel
theorem d_Rf_goWhole_17 : decode m_Rf_goWhole.2.1 17 = .ok (.iconst 0, 1) := by decide +kernel
theorem d_Rf_goWhole_18 : decode m_Rf_goWhole.2.1 18 = .ok (.istore_n 3, 1) := by decide +kernel
theorem d_Rf_goWhole_19 : decode m_Rf_goWhole.2.1 19 = .ok (.iload_n 3, 1) := by decide +kernel
theorem d_Rf_goWhole_20 : decode m_Rf_goWhole.2.1 20 = .ok (.bipush 72, 2) := by decide +kernel
theorem d_Rf_goWhole_22 : decode m_Rf_goWhole.2.1 22 = .ok (.if_icmp .ge 16, 3) := by decide +kernel
theorem d_Rf_goWhole_25 : decode m_Rf_goWhole.2.1 25 = .ok (.aload_n 0, 1) := by decide +kernel
theorem d_Rf_goWhole_26 : decode m_Rf_goWhole.2.1 26 = .ok (.getfield 48, 3) := by decide +kernel
theorem d_Rf_goWhole_29 : decode m_Rf_goWhole.2.1 29 = .ok (.iload_n 3, 1) := by decide +kernel
theorem d_Rf_goWhole_30 : decode m_Rf_goWhole.2.1 30 = .ok (.iconst (-1), 1) := by decide +kernel
theorem d_Rf_goWhole_31 : decode m_Rf_goWhole.2.1 31 = .ok (.iastore, 1) := by decide +kernel
theorem d_Rf_goWhole_32 : decode m_Rf_goWhole.2.1 32 = .ok (.iinc 3 1, 3) := by decide +kernel
theorem d_Rf_goWhole_35 : decode m_Rf_goWhole.2.1 35 = .ok (.goto (-16), 3) := by decide +kernel
theorem d_Rf_goWhole_38 : decode m_Rf_goWhole.2.1 38 = .ok (.aload_n 0, 1) := by decide +kernel
theorem d_Rf_goWhole_39 : decode m_Rf_goWhole.2.1 39 = .ok (.getfield 29, 3) := by decide +kernel
theorem d_Rf_goWhole_42 : decode m_Rf_goWhole.2.1 42 = .ok (.bipush 24, 2) := by decide +kernel
theorem d_Rf_goWhole_44 : decode m_Rf_goWhole.2.1 44 = .ok (.iaload, 1) := by decide +kernel
theorem d_Rf_goWhole_45 : decode m_Rf_goWhole.2.1 45 = .ok (.bipush 60, 2) := by decide +kernel
theorem d_Rf_goWhole_47 : decode m_Rf_goWhole.2.1 47 = .ok (.if_icmp .ge 10, 3) := by decide +kernel
theorem d_Rf_goWhole_50 : decode m_Rf_goWhole.2.1 50 = .ok (.aload_n 0, 1) := by decide +kernel
theorem d_Rf_goWhole_51 : decode m_Rf_goWhole.2.1 51 = .ok (.invokevirtual 203, 3) := by decide +kernel
theorem d_Rf_goWhole_54 : decode m_Rf_goWhole.2.1 54 = .ok (.goto (-16), 3) := by decide +kernel
theorem d_Rf_goWhole_57 : decode m_Rf_goWhole.2.1 57 = .ok (.iconst 0, 1) := by decide +kernel
theorem d_Rf_goWhole_58 : decode m_Rf_goWhole.2.1 58 = .ok (.istore_n 3, 1) := by decide +kernel
theorem d_Rf_goWhole_59 : decode m_Rf_goWhole.2.1 59 = .ok (.iload_n 3, 1) := by decide +kernel
theorem d_Rf_goWhole_60 : decode m_Rf_goWhole.2.1 60 = .ok (.bipush 6, 2) := by decide +kernel
theorem d_Rf_goWhole_62 : decode m_Rf_goWhole.2.1 62 = .ok (.if_icmp .ge 45, 3) := by decide +kernel
theorem d_Rf_goWhole_65 : decode m_Rf_goWhole.2.1 65 = .ok (.aload_n 0, 1) := by decide +kernel
theorem d_Rf_goWhole_66 : decode m_Rf_goWhole.2.1 66 = .ok (.getfield 60, 3) := by decide +kernel
theorem d_Rf_goWhole_69 : decode m_Rf_goWhole.2.1 69 = .ok (.iload_n 3, 1) := by decide +kernel
theorem d_Rf_goWhole_70 : decode m_Rf_goWhole.2.1 70 = .ok (.aload_n 0, 1) := by decide +kernel
theorem d_Rf_goWhole_71 : decode m_Rf_goWhole.2.1 71 = .ok (.getfield 29, 3) := by decide +kernel
theorem d_Rf_goWhole_74 : decode m_Rf_goWhole.2.1 74 = .ok (.bipush 6, 2) := by decide +kernel
theorem d_Rf_goWhole_76 : decode m_Rf_goWhole.2.1 76 = .ok (.iload_n 3, 1) := by decide +kernel
theorem d_Rf_goWhole_77 : decode m_Rf_goWhole.2.1 77 = .ok (.iadd, 1) := by decide +kernel
theorem d_Rf_goWhole_78 : decode m_Rf_goWhole.2.1 78 = .ok (.iaload, 1) := by decide +kernel
theorem d_Rf_goWhole_79 : decode m_Rf_goWhole.2.1 79 = .ok (.iload_n 1, 1) := by decide +kernel
theorem d_Rf_goWhole_80 : decode m_Rf_goWhole.2.1 80 = .ok (.aload_n 0, 1) := by decide +kernel
theorem d_Rf_goWhole_81 : decode m_Rf_goWhole.2.1 81 = .ok (.getfield 42, 3) := by decide +kernel
theorem d_Rf_goWhole_84 : decode m_Rf_goWhole.2.1 84 = .ok (.iload_n 3, 1) := by decide +kernel
theorem d_Rf_goWhole_85 : decode m_Rf_goWhole.2.1 85 = .ok (.iaload, 1) := by decide +kernel
theorem d_Rf_goWhole_86 : decode m_Rf_goWhole.2.1 86 = .ok (.imul, 1) := by decide +kernel
theorem d_Rf_goWhole_87 : decode m_Rf_goWhole.2.1 87 = .ok (.iadd, 1) := by decide +kernel
theorem d_Rf_goWhole_88 : decode m_Rf_goWhole.2.1 88 = .ok (.iload_n 2, 1) := by decide +kernel
theorem d_Rf_goWhole_89 : decode m_Rf_goWhole.2.1 89 = .ok (.aload_n 0, 1) := by decide +kernel
theorem d_Rf_goWhole_90 : decode m_Rf_goWhole.2.1 90 = .ok (.getfield 29, 3) := by decide +kernel
theorem d_Rf_goWhole_93 : decode m_Rf_goWhole.2.1 93 = .ok (.bipush 12, 2) := by decide +kernel
theorem d_Rf_goWhole_95 : decode m_Rf_goWhole.2.1 95 = .ok (.iload_n 3, 1) := by decide +kernel
theorem d_Rf_goWhole_96 : decode m_Rf_goWhole.2.1 96 = .ok (.iadd, 1) := by decide +kernel
theorem d_Rf_goWhole_97 : decode m_Rf_goWhole.2.1 97 = .ok (.iaload, 1) := by decide +kernel
theorem d_Rf_goWhole_98 : decode m_Rf_goWhole.2.1 98 = .ok (.imul, 1) := by decide +kernel
theorem d_Rf_goWhole_99 : decode m_Rf_goWhole.2.1 99 = .ok (.iadd, 1) := by decide +kernel
theorem d_Rf_goWhole_100 : decode m_Rf_goWhole.2.1 100 = .ok (.iastore, 1) := by decide +kernel
theorem d_Rf_goWhole_101 : decode m_Rf_goWhole.2.1 101 = .ok (.iinc 3 1, 3) := by decide +kernel
theorem d_Rf_goWhole_104 : decode m_Rf_goWhole.2.1 104 = .ok (.goto (-45), 3) := by decide +kernel
theorem d_Rf_goWhole_107 : decode m_Rf_goWhole.2.1 107 = .ok (.aload_n 0, 1) := by decide +kernel
theorem d_Rf_goWhole_108 : decode m_Rf_goWhole.2.1 108 = .ok (.getfield 32, 3) := by decide +kernel
theorem d_Rf_goWhole_111 : decode m_Rf_goWhole.2.1 111 = .ok (.iconst 0, 1) := by decide +kernel
theorem d_Rf_goWhole_112 : decode m_Rf_goWhole.2.1 112 = .ok (.aload_n 0, 1) := by decide +kernel
theorem d_Rf_goWhole_113 : decode m_Rf_goWhole.2.1 113 = .ok (.getfield 29, 3) := by decide +kernel
theorem d_Rf_goWhole_116 : decode m_Rf_goWhole.2.1 116 = .ok (.iconst 0, 1) := by decide +kernel
theorem d_Rf_goWhole_117 : decode m_Rf_goWhole.2.1 117 = .ok (.invokestatic 206, 3) := by decide +kernel
theorem d_Rf_goWhole_120 : decode m_Rf_goWhole.2.1 120 = .ok (.return_, 1) := by decide +kernel
theorem g_Rf_goWhole_0 {X : XS} (a1 : Int32) (a2 : Int32) (h : Hp) (Q : Option AV → Hp → Prop)  (k : (∃ Q'4, EvV X m_Rf_copy [vR [18, 1], vI 0, vR [19, 1], vI 0] h Q'4 ∧ ∀ (h3 : Hp), Q'4 h3 → (∃ Q'8, EvV X m_Rf_begin [vR [1]] h3 Q'8 ∧ ∀ (h7 : Hp), Q'8 h7 → Rn X m_Rf_goWhole 19 [some (vR [1]), some (vI a1), some (vI a2), some (vI 0)] [] h7 Q))) : Rn X m_Rf_goWhole 0 [some (vR [1]), some (vI a1), some (vI a2), none] [] h Q := by
  refine Rn.aload_n (n := 1) (i := 0) d_Rf_goWhole_0 rfl rfl rfl ?_
  refine Rn.getf (n := 4) (v := vR [18, 1]) d_Rf_goWhole_1 rfl fl_Rf_29 Lv_1 rfl ?_
  refine Rn.iconst (n := 5) (v := 0) d_Rf_goWhole_4 rfl (by decide) ?_
  refine Rn.aload_n (n := 6) (i := 0) d_Rf_goWhole_5 rfl rfl rfl ?_
  refine Rn.getf (n := 9) (v := vR [19, 1]) d_Rf_goWhole_6 rfl fl_Rf_32 Lv_1 rfl ?_
  refine Rn.iconst (n := 10) (v := 0) d_Rf_goWhole_9 rfl (by decide) ?_
  obtain ⟨Q'4, ev1, k⟩ := k
  refine Rn.callS (n := 13) (av := [vR [18, 1], vI 0, vR [19, 1], vI 0]) d_Rf_goWhole_10 rfl ml_Rf_goWhole_206 ms_Rf_copy rfl rfl (Nat.le_of_ble_eq_true rfl) ev1 (fun v h3 hq => ?_)
  obtain ⟨rfl, hq⟩ := hq
  have k := k h3 hq
  show Rn X m_Rf_goWhole 13 [some (vR [1]), some (vI a1), some (vI a2), none] [] h3 Q
  refine Rn.aload_n (n := 14) (i := 0) d_Rf_goWhole_13 rfl rfl rfl ?_
  obtain ⟨Q'8, ev5, k⟩ := k
  refine Rn.callV (n := 17) (av := []) d_Rf_goWhole_14 rfl ml_Rf_goWhole_165 mi_Rf_begin Lv_1 rfl rfl rfl rfl (Nat.le_of_ble_eq_true rfl) ev5 (fun v h7 hq => ?_)
  obtain ⟨rfl, hq⟩ := hq
  have k := k h7 hq
  show Rn X m_Rf_goWhole 17 [some (vR [1]), some (vI a1), some (vI a2), none] [] h7 Q
  refine Rn.iconst (n := 18) (v := 0) d_Rf_goWhole_17 rfl (by decide) ?_
  refine Rn.istore_n (n := 19) (i := 3) (ls2 := [some (vR [1]), some (vI a1), some (vI a2), some (vI 0)]) d_Rf_goWhole_18 rfl rfl (Nat.le_of_ble_eq_true rfl) rfl ?_
  exact k
theorem g_Rf_goWhole_19 {X : XS} (a1 : Int32) (a2 : Int32) (a3 : Int32) (h : Hp) (Q : Option AV → Hp → Prop)  (k : ((72 ≤ a3 → Rn X m_Rf_goWhole 38 [some (vR [1]), some (vI a1), some (vI a2), some (vI a3)] [] h Q) ∧ (¬ 72 ≤ a3 → (vp_in a3 72 ∧ Rn X m_Rf_goWhole 19 [some (vR [1]), some (vI a1), some (vI a2), some (vI (a3 + 1))] [] (hsI h [24, 1] a3.toNatClampNeg (-1)) Q)))) : Rn X m_Rf_goWhole 19 [some (vR [1]), some (vI a1), some (vI a2), some (vI a3)] [] h Q := by
  refine Rn.iload_n (n := 20) (i := 3) d_Rf_goWhole_19 rfl rfl rfl ?_
  refine Rn.bipush (n := 22) (v := 72) d_Rf_goWhole_20 rfl (by decide) ?_
  refine Rn.icmp_ge (n := 25) (t := 38) d_Rf_goWhole_22 rfl (by decide) (fun cc => ?_) (fun cc => ?_)
  · have k := k.1 cc
    exact k
  · have k := k.2 cc
    refine Rn.aload_n (n := 26) (i := 0) d_Rf_goWhole_25 rfl rfl rfl ?_
    refine Rn.getf (n := 29) (v := vR [24, 1]) d_Rf_goWhole_26 rfl fl_Rf_48 Lv_1 rfl ?_
    refine Rn.iload_n (n := 30) (i := 3) d_Rf_goWhole_29 rfl rfl rfl ?_
    refine Rn.iconst (n := 31) (v := (-1)) d_Rf_goWhole_30 rfl (by decide) ?_
    obtain ⟨b1, k⟩ := k
    refine Rn.iast (n := 32) d_Rf_goWhole_31 rfl Lv_24_1 b1 ?_
    refine Rn.iinc (n := 35) (i := 3) (v := a3 + 1) (ls2 := [some (vR [1]), some (vI a1), some (vI a2), some (vI (a3 + 1))]) d_Rf_goWhole_32 rfl rfl rfl (Nat.le_of_ble_eq_true rfl) rfl ?_
    refine Rn.goto (n := 19) d_Rf_goWhole_35 (by decide) ?_
    exact k
theorem g_Rf_goWhole_38 {X : XS} (a1 : Int32) (a2 : Int32) (a3 : Int32) (h : Hp) (Q : Option AV → Hp → Prop)  (k : ((60 ≤ (h.1 [18, 1] 24) → Rn X m_Rf_goWhole 59 [some (vR [1]), some (vI a1), some (vI a2), some (vI 0)] [] h Q) ∧ (¬ 60 ≤ (h.1 [18, 1] 24) → (∃ Q'4, EvV X m_Rf_goTick [vR [1]] h Q'4 ∧ ∀ (h3 : Hp), Q'4 h3 → Rn X m_Rf_goWhole 38 [some (vR [1]), some (vI a1), some (vI a2), some (vI a3)] [] h3 Q)))) : Rn X m_Rf_goWhole 38 [some (vR [1]), some (vI a1), some (vI a2), some (vI a3)] [] h Q := by
  refine Rn.aload_n (n := 39) (i := 0) d_Rf_goWhole_38 rfl rfl rfl ?_
  refine Rn.getf (n := 42) (v := vR [18, 1]) d_Rf_goWhole_39 rfl fl_Rf_29 Lv_1 rfl ?_
  refine Rn.bipush (n := 44) (v := 24) d_Rf_goWhole_42 rfl (by decide) ?_
  refine Rn.iald (n := 45) (v := h.1 [18, 1] 24) d_Rf_goWhole_44 rfl Lv_18_1 (by unfold vp_in; decide) rfl ?_
  refine Rn.bipush (n := 47) (v := 60) d_Rf_goWhole_45 rfl (by decide) ?_
  refine Rn.icmp_ge (n := 50) (t := 57) d_Rf_goWhole_47 rfl (by decide) (fun cc => ?_) (fun cc => ?_)
  · have k := k.1 cc
    refine Rn.iconst (n := 58) (v := 0) d_Rf_goWhole_57 rfl (by decide) ?_
    refine Rn.istore_n (n := 59) (i := 3) (ls2 := [some (vR [1]), some (vI a1), some (vI a2), some (vI 0)]) d_Rf_goWhole_58 rfl rfl (Nat.le_of_ble_eq_true rfl) rfl ?_
    exact k
  · have k := k.2 cc
    refine Rn.aload_n (n := 51) (i := 0) d_Rf_goWhole_50 rfl rfl rfl ?_
    obtain ⟨Q'4, ev1, k⟩ := k
    refine Rn.callV (n := 54) (av := []) d_Rf_goWhole_51 rfl ml_Rf_goWhole_203 mi_Rf_goTick Lv_1 rfl rfl rfl rfl (Nat.le_of_ble_eq_true rfl) ev1 (fun v h3 hq => ?_)
    obtain ⟨rfl, hq⟩ := hq
    have k := k h3 hq
    show Rn X m_Rf_goWhole 54 [some (vR [1]), some (vI a1), some (vI a2), some (vI a3)] [] h3 Q
    refine Rn.goto (n := 38) d_Rf_goWhole_54 (by decide) ?_
    exact k
theorem g_Rf_goWhole_59 {X : XS} (a1 : Int32) (a2 : Int32) (a3 : Int32) (h : Hp) (Q : Option AV → Hp → Prop)  (k : ((6 ≤ a3 → (∃ Q'4, EvV X m_Rf_copy [vR [19, 1], vI 0, vR [18, 1], vI 0] h Q'4 ∧ ∀ (h3 : Hp), Q'4 h3 → Q none h3)) ∧ (¬ 6 ≤ a3 → (vp_in (6 + a3) 26 ∧ (vp_in a3 6 ∧ (vp_in (12 + a3) 26 ∧ (vp_in a3 6 ∧ Rn X m_Rf_goWhole 59 [some (vR [1]), some (vI a1), some (vI a2), some (vI (a3 + 1))] [] (hsI h [29, 1] a3.toNatClampNeg (((h.1 [18, 1] (6 + a3).toNatClampNeg) + (a1 * (h.1 [22, 1] a3.toNatClampNeg))) + (a2 * (h.1 [18, 1] (12 + a3).toNatClampNeg)))) Q))))))) : Rn X m_Rf_goWhole 59 [some (vR [1]), some (vI a1), some (vI a2), some (vI a3)] [] h Q := by
  refine Rn.iload_n (n := 60) (i := 3) d_Rf_goWhole_59 rfl rfl rfl ?_
  refine Rn.bipush (n := 62) (v := 6) d_Rf_goWhole_60 rfl (by decide) ?_
  refine Rn.icmp_ge (n := 65) (t := 107) d_Rf_goWhole_62 rfl (by decide) (fun cc => ?_) (fun cc => ?_)
  · have k := k.1 cc
    refine Rn.aload_n (n := 108) (i := 0) d_Rf_goWhole_107 rfl rfl rfl ?_
    refine Rn.getf (n := 111) (v := vR [19, 1]) d_Rf_goWhole_108 rfl fl_Rf_32 Lv_1 rfl ?_
    refine Rn.iconst (n := 112) (v := 0) d_Rf_goWhole_111 rfl (by decide) ?_
    refine Rn.aload_n (n := 113) (i := 0) d_Rf_goWhole_112 rfl rfl rfl ?_
    refine Rn.getf (n := 116) (v := vR [18, 1]) d_Rf_goWhole_113 rfl fl_Rf_29 Lv_1 rfl ?_
    refine Rn.iconst (n := 117) (v := 0) d_Rf_goWhole_116 rfl (by decide) ?_
    obtain ⟨Q'4, ev1, k⟩ := k
    refine Rn.callS (n := 120) (av := [vR [19, 1], vI 0, vR [18, 1], vI 0]) d_Rf_goWhole_117 rfl ml_Rf_goWhole_206 ms_Rf_copy rfl rfl (Nat.le_of_ble_eq_true rfl) ev1 (fun v h3 hq => ?_)
    obtain ⟨rfl, hq⟩ := hq
    have k := k h3 hq
    show Rn X m_Rf_goWhole 120 [some (vR [1]), some (vI a1), some (vI a2), some (vI a3)] [] h3 Q
    exact Rn.vret d_Rf_goWhole_120 rfl k
  · have k := k.2 cc
    refine Rn.aload_n (n := 66) (i := 0) d_Rf_goWhole_65 rfl rfl rfl ?_
    refine Rn.getf (n := 69) (v := vR [29, 1]) d_Rf_goWhole_66 rfl fl_Rf_60 Lv_1 rfl ?_
    refine Rn.iload_n (n := 70) (i := 3) d_Rf_goWhole_69 rfl rfl rfl ?_
    refine Rn.aload_n (n := 71) (i := 0) d_Rf_goWhole_70 rfl rfl rfl ?_
    refine Rn.getf (n := 74) (v := vR [18, 1]) d_Rf_goWhole_71 rfl fl_Rf_29 Lv_1 rfl ?_
    refine Rn.bipush (n := 76) (v := 6) d_Rf_goWhole_74 rfl (by decide) ?_
    refine Rn.iload_n (n := 77) (i := 3) d_Rf_goWhole_76 rfl rfl rfl ?_
    refine Rn.iadd (n := 78) d_Rf_goWhole_77 rfl ?_
    obtain ⟨b5, k⟩ := k
    refine Rn.iald (n := 79) (v := h.1 [18, 1] (6 + a3).toNatClampNeg) d_Rf_goWhole_78 rfl Lv_18_1 b5 rfl ?_
    refine Rn.iload_n (n := 80) (i := 1) d_Rf_goWhole_79 rfl rfl rfl ?_
    refine Rn.aload_n (n := 81) (i := 0) d_Rf_goWhole_80 rfl rfl rfl ?_
    refine Rn.getf (n := 84) (v := vR [22, 1]) d_Rf_goWhole_81 rfl fl_Rf_42 Lv_1 rfl ?_
    refine Rn.iload_n (n := 85) (i := 3) d_Rf_goWhole_84 rfl rfl rfl ?_
    obtain ⟨b6, k⟩ := k
    refine Rn.iald (n := 86) (v := h.1 [22, 1] a3.toNatClampNeg) d_Rf_goWhole_85 rfl Lv_22_1 b6 rfl ?_
    refine Rn.imul (n := 87) d_Rf_goWhole_86 rfl ?_
    refine Rn.iadd (n := 88) d_Rf_goWhole_87 rfl ?_
    refine Rn.iload_n (n := 89) (i := 2) d_Rf_goWhole_88 rfl rfl rfl ?_
    refine Rn.aload_n (n := 90) (i := 0) d_Rf_goWhole_89 rfl rfl rfl ?_
    refine Rn.getf (n := 93) (v := vR [18, 1]) d_Rf_goWhole_90 rfl fl_Rf_29 Lv_1 rfl ?_
    refine Rn.bipush (n := 95) (v := 12) d_Rf_goWhole_93 rfl (by decide) ?_
    refine Rn.iload_n (n := 96) (i := 3) d_Rf_goWhole_95 rfl rfl rfl ?_
    refine Rn.iadd (n := 97) d_Rf_goWhole_96 rfl ?_
    obtain ⟨b7, k⟩ := k
    refine Rn.iald (n := 98) (v := h.1 [18, 1] (12 + a3).toNatClampNeg) d_Rf_goWhole_97 rfl Lv_18_1 b7 rfl ?_
    refine Rn.imul (n := 99) d_Rf_goWhole_98 rfl ?_
    refine Rn.iadd (n := 100) d_Rf_goWhole_99 rfl ?_
    obtain ⟨b8, k⟩ := k
    refine Rn.iast (n := 101) d_Rf_goWhole_100 rfl Lv_29_1 b8 ?_
    refine Rn.iinc (n := 104) (i := 3) (v := a3 + 1) (ls2 := [some (vR [1]), some (vI a1), some (vI a2), some (vI (a3 + 1))]) d_Rf_goWhole_101 rfl rfl rfl (Nat.le_of_ble_eq_true rfl) rfl ?_
    refine Rn.goto (n := 59) d_Rf_goWhole_104 (by decide) ?_
    exact k
theorem e_Rf_goWhole {X : XS} (a1 : Int32) (a2 : Int32) (h : Hp) (Q : Option AV → Hp → Prop) (k : Rn X m_Rf_goWhole 0 [some (vR [1]), some (vI a1), some (vI a2), none] [] h Q) : Ev X m_Rf_goWhole [vR [1], vI a1, vI a2] h Q := Ev.intro (plainFor_of_name (by decide +kernel)) (Nat.le_of_ble_eq_true rfl) (ls := [some (vR [1]), some (vI a1), some (vI a2), none]) rfl k
theorem d_Rf_takeSizes_0 : decode m_Rf_takeSizes.2.1 0 = .ok (.iconst 0, 1) := by decide +kernel
theorem d_Rf_takeSizes_1 : decode m_Rf_takeSizes.2.1 1 = .ok (.istore_n 2, 1) := by decide +kernel
theorem d_Rf_takeSizes_2 : decode m_Rf_takeSizes.2.1 2 = .ok (.iconst 1, 1) := by decide +kernel
theorem d_Rf_takeSizes_3 : decode m_Rf_takeSizes.2.1 3 = .ok (.istore_n 3, 1) := by decide +kernel
theorem d_Rf_takeSizes_4 : decode m_Rf_takeSizes.2.1 4 = .ok (.iconst 0, 1) := by decide +kernel
theorem d_Rf_takeSizes_5 : decode m_Rf_takeSizes.2.1 5 = .ok (.istore 4, 2) := by decide +kernel
theorem d_Rf_takeSizes_7 : decode m_Rf_takeSizes.2.1 7 = .ok (.iload 4, 2) := by decide +kernel
theorem d_Rf_takeSizes_9 : decode m_Rf_takeSizes.2.1 9 = .ok (.bipush 6, 2) := by decide +kernel
theorem d_Rf_takeSizes_11 : decode m_Rf_takeSizes.2.1 11 = .ok (.if_icmp .ge 59, 3) := by decide +kernel
theorem d_Rf_takeSizes_14 : decode m_Rf_takeSizes.2.1 14 = .ok (.aload_n 0, 1) := by decide +kernel
theorem d_Rf_takeSizes_15 : decode m_Rf_takeSizes.2.1 15 = .ok (.getfield 70, 3) := by decide +kernel
theorem d_Rf_takeSizes_18 : decode m_Rf_takeSizes.2.1 18 = .ok (.iload 4, 2) := by decide +kernel
theorem d_Rf_takeSizes_20 : decode m_Rf_takeSizes.2.1 20 = .ok (.invokestatic 73, 3) := by decide +kernel
theorem d_Rf_takeSizes_23 : decode m_Rf_takeSizes.2.1 23 = .ok (.ifCond .eq 41, 3) := by decide +kernel
theorem d_Rf_takeSizes_26 : decode m_Rf_takeSizes.2.1 26 = .ok (.aload_n 0, 1) := by decide +kernel
theorem d_Rf_takeSizes_27 : decode m_Rf_takeSizes.2.1 27 = .ok (.getfield 42, 3) := by decide +kernel
theorem d_Rf_takeSizes_30 : decode m_Rf_takeSizes.2.1 30 = .ok (.iload 4, 2) := by decide +kernel
theorem d_Rf_takeSizes_32 : decode m_Rf_takeSizes.2.1 32 = .ok (.iload_n 1, 1) := by decide +kernel
theorem d_Rf_takeSizes_33 : decode m_Rf_takeSizes.2.1 33 = .ok (.iconst 2, 1) := by decide +kernel
theorem d_Rf_takeSizes_34 : decode m_Rf_takeSizes.2.1 34 = .ok (.iload_n 2, 1) := by decide +kernel
theorem d_Rf_takeSizes_35 : decode m_Rf_takeSizes.2.1 35 = .ok (.imul, 1) := by decide +kernel
theorem d_Rf_takeSizes_36 : decode m_Rf_takeSizes.2.1 36 = .ok (.ishr, 1) := by decide +kernel
theorem d_Rf_takeSizes_37 : decode m_Rf_takeSizes.2.1 37 = .ok (.iconst 3, 1) := by decide +kernel
theorem d_Rf_takeSizes_38 : decode m_Rf_takeSizes.2.1 38 = .ok (.iand, 1) := by decide +kernel
theorem d_Rf_takeSizes_39 : decode m_Rf_takeSizes.2.1 39 = .ok (.iastore, 1) := by decide +kernel
theorem d_Rf_takeSizes_40 : decode m_Rf_takeSizes.2.1 40 = .ok (.iload_n 3, 1) := by decide +kernel
theorem d_Rf_takeSizes_41 : decode m_Rf_takeSizes.2.1 41 = .ok (.ifCond .eq 18, 3) := by decide +kernel
theorem d_Rf_takeSizes_44 : decode m_Rf_takeSizes.2.1 44 = .ok (.aload_n 0, 1) := by decide +kernel
theorem d_Rf_takeSizes_45 : decode m_Rf_takeSizes.2.1 45 = .ok (.getfield 42, 3) := by decide +kernel
theorem d_Rf_takeSizes_48 : decode m_Rf_takeSizes.2.1 48 = .ok (.iload 4, 2) := by decide +kernel
theorem d_Rf_takeSizes_50 : decode m_Rf_takeSizes.2.1 50 = .ok (.iaload, 1) := by decide +kernel
theorem d_Rf_takeSizes_51 : decode m_Rf_takeSizes.2.1 51 = .ok (.iconst 3, 1) := by decide +kernel
theorem d_Rf_takeSizes_52 : decode m_Rf_takeSizes.2.1 52 = .ok (.if_icmp .ge 7, 3) := by decide +kernel
theorem d_Rf_takeSizes_55 : decode m_Rf_takeSizes.2.1 55 = .ok (.iconst 1, 1) := by decide +kernel
theorem d_Rf_takeSizes_56 : decode m_Rf_takeSizes.2.1 56 = .ok (.goto 4, 3) := by decide +kernel
theorem d_Rf_takeSizes_59 : decode m_Rf_takeSizes.2.1 59 = .ok (.iconst 0, 1) := by decide +kernel
theorem d_Rf_takeSizes_60 : decode m_Rf_takeSizes.2.1 60 = .ok (.istore_n 3, 1) := by decide +kernel
theorem d_Rf_takeSizes_61 : decode m_Rf_takeSizes.2.1 61 = .ok (.iinc 2 1, 3) := by decide +kernel
theorem d_Rf_takeSizes_64 : decode m_Rf_takeSizes.2.1 64 = .ok (.iinc 4 1, 3) := by decide +kernel
theorem d_Rf_takeSizes_67 : decode m_Rf_takeSizes.2.1 67 = .ok (.goto (-60), 3) := by decide +kernel
theorem d_Rf_takeSizes_70 : decode m_Rf_takeSizes.2.1 70 = .ok (.iload_n 3, 1) := by decide +kernel
theorem d_Rf_takeSizes_71 : decode m_Rf_takeSizes.2.1 71 = .ok (.ireturn, 1) := by decide +kernel
theorem g_Rf_takeSizes_0 {X : XS} (a1 : Int32) (h : Hp) (Q : Option AV → Hp → Prop)  (k : Rn X m_Rf_takeSizes 7 [some (vR [1]), some (vI a1), some (vI 0), some (vI 1), some (vI 0)] [] h Q) : Rn X m_Rf_takeSizes 0 [some (vR [1]), some (vI a1), none, none, none] [] h Q := by
  refine Rn.iconst (n := 1) (v := 0) d_Rf_takeSizes_0 rfl (by decide) ?_
  refine Rn.istore_n (n := 2) (i := 2) (ls2 := [some (vR [1]), some (vI a1), some (vI 0), none, none]) d_Rf_takeSizes_1 rfl rfl (Nat.le_of_ble_eq_true rfl) rfl ?_
  refine Rn.iconst (n := 3) (v := 1) d_Rf_takeSizes_2 rfl (by decide) ?_
  refine Rn.istore_n (n := 4) (i := 3) (ls2 := [some (vR [1]), some (vI a1), some (vI 0), some (vI 1), none]) d_Rf_takeSizes_3 rfl rfl (Nat.le_of_ble_eq_true rfl) rfl ?_
  refine Rn.iconst (n := 5) (v := 0) d_Rf_takeSizes_4 rfl (by decide) ?_
  refine Rn.istore (n := 7) (i := 4) (ls2 := [some (vR [1]), some (vI a1), some (vI 0), some (vI 1), some (vI 0)]) d_Rf_takeSizes_5 rfl (Nat.le_of_ble_eq_true rfl) rfl ?_
  exact k
theorem g_Rf_takeSizes_7 {X : XS} (a1 : Int32) (a2 : Int32) (a3 : Int32) (a4 : Int32) (h : Hp) (Q : Option AV → Hp → Prop)  (k : ((6 ≤ a4 → ((a3 = 0 ∨ a3 = 1) ∧ Q (some (vI a3)) h)) ∧ (¬ 6 ≤ a4 → (∃ Q'4, EvI X m_Rf_has [vI (h.1 [1] 3), vI a4] h Q'4 ∧ ∀ (r5 : Int32) (h3 : Hp), Q'4 r5 h3 → ((r5 = 0 → Rn X m_Rf_takeSizes 7 [some (vR [1]), some (vI a1), some (vI a2), some (vI a3), some (vI (a4 + 1))] [] h3 Q) ∧ (¬ r5 = 0 → (vp_in a4 6 ∧ ((a3 = 0 → Rn X m_Rf_takeSizes 7 [some (vR [1]), some (vI a1), some (vI (a2 + 1)), some (vI 0), some (vI (a4 + 1))] [] (hsI h3 [22, 1] a4.toNatClampNeg ((iShr a1 (2 * a2)) &&& 3)) Q) ∧ (¬ a3 = 0 → (vp_in a4 6 ∧ ((3 ≤ ((hsI h3 [22, 1] a4.toNatClampNeg ((iShr a1 (2 * a2)) &&& 3)).1 [22, 1] a4.toNatClampNeg) → Rn X m_Rf_takeSizes 7 [some (vR [1]), some (vI a1), some (vI (a2 + 1)), some (vI 0), some (vI (a4 + 1))] [] (hsI h3 [22, 1] a4.toNatClampNeg ((iShr a1 (2 * a2)) &&& 3)) Q) ∧ (¬ 3 ≤ ((hsI h3 [22, 1] a4.toNatClampNeg ((iShr a1 (2 * a2)) &&& 3)).1 [22, 1] a4.toNatClampNeg) → Rn X m_Rf_takeSizes 7 [some (vR [1]), some (vI a1), some (vI (a2 + 1)), some (vI 1), some (vI (a4 + 1))] [] (hsI h3 [22, 1] a4.toNatClampNeg ((iShr a1 (2 * a2)) &&& 3)) Q)))))))))))) : Rn X m_Rf_takeSizes 7 [some (vR [1]), some (vI a1), some (vI a2), some (vI a3), some (vI a4)] [] h Q := by
  refine Rn.iload (n := 9) (i := 4) d_Rf_takeSizes_7 rfl rfl ?_
  refine Rn.bipush (n := 11) (v := 6) d_Rf_takeSizes_9 rfl (by decide) ?_
  refine Rn.icmp_ge (n := 14) (t := 70) d_Rf_takeSizes_11 rfl (by decide) (fun cc => ?_) (fun cc => ?_)
  · have k := k.1 cc
    refine Rn.iload_n (n := 71) (i := 3) d_Rf_takeSizes_70 rfl rfl rfl ?_
    obtain ⟨hz, k⟩ := k
    exact Rn.iret d_Rf_takeSizes_71 rfl (nar_z hz) k
  · have k := k.2 cc
    refine Rn.aload_n (n := 15) (i := 0) d_Rf_takeSizes_14 rfl rfl rfl ?_
    refine Rn.getf (n := 18) (v := vI (h.1 [1] 3)) d_Rf_takeSizes_15 rfl fl_Rf_70 Lv_1 rfl ?_
    refine Rn.iload (n := 20) (i := 4) d_Rf_takeSizes_18 rfl rfl ?_
    obtain ⟨Q'4, ev1, k⟩ := k
    refine Rn.callS (n := 23) (av := [vI (h.1 [1] 3), vI a4]) d_Rf_takeSizes_20 rfl ml_Rf_takeSizes_73 ms_Rf_has rfl rfl (Nat.le_of_ble_eq_true rfl) ev1 (fun v h3 hq => ?_)
    obtain ⟨r5, rfl, hq⟩ := hq
    have k := k r5 h3 hq
    show Rn X m_Rf_takeSizes 23 [some (vR [1]), some (vI a1), some (vI a2), some (vI a3), some (vI a4)] [vI r5] h3 Q
    refine Rn.if_eq (n := 26) (t := 64) d_Rf_takeSizes_23 rfl (by decide) (fun cc => ?_) (fun cc => ?_)
    · have k := k.1 cc
      refine Rn.iinc (n := 67) (i := 4) (v := a4 + 1) (ls2 := [some (vR [1]), some (vI a1), some (vI a2), some (vI a3), some (vI (a4 + 1))]) d_Rf_takeSizes_64 rfl rfl rfl (Nat.le_of_ble_eq_true rfl) rfl ?_
      refine Rn.goto (n := 7) d_Rf_takeSizes_67 (by decide) ?_
      exact k
    · have k := k.2 cc
      refine Rn.aload_n (n := 27) (i := 0) d_Rf_takeSizes_26 rfl rfl rfl ?_
      refine Rn.getf (n := 30) (v := vR [22, 1]) d_Rf_takeSizes_27 rfl fl_Rf_42 Lv_1 rfl ?_
      refine Rn.iload (n := 32) (i := 4) d_Rf_takeSizes_30 rfl rfl ?_
      refine Rn.iload_n (n := 33) (i := 1) d_Rf_takeSizes_32 rfl rfl rfl ?_
      refine Rn.iconst (n := 34) (v := 2) d_Rf_takeSizes_33 rfl (by decide) ?_
      refine Rn.iload_n (n := 35) (i := 2) d_Rf_takeSizes_34 rfl rfl rfl ?_
      refine Rn.imul (n := 36) d_Rf_takeSizes_35 rfl ?_
      refine Rn.ishr (n := 37) d_Rf_takeSizes_36 rfl ?_
      refine Rn.iconst (n := 38) (v := 3) d_Rf_takeSizes_37 rfl (by decide) ?_
      refine Rn.iand (n := 39) d_Rf_takeSizes_38 rfl ?_
      obtain ⟨b6, k⟩ := k
      refine Rn.iast (n := 40) d_Rf_takeSizes_39 rfl Lv_22_1 b6 ?_
      refine Rn.iload_n (n := 41) (i := 3) d_Rf_takeSizes_40 rfl rfl rfl ?_
      refine Rn.if_eq (n := 44) (t := 59) d_Rf_takeSizes_41 rfl (by decide) (fun cc => ?_) (fun cc => ?_)
      · have k := k.1 cc
        refine Rn.iconst (n := 60) (v := 0) d_Rf_takeSizes_59 rfl (by decide) ?_
        refine Rn.istore_n (n := 61) (i := 3) (ls2 := [some (vR [1]), some (vI a1), some (vI a2), some (vI 0), some (vI a4)]) d_Rf_takeSizes_60 rfl rfl (Nat.le_of_ble_eq_true rfl) rfl ?_
        refine Rn.iinc (n := 64) (i := 2) (v := a2 + 1) (ls2 := [some (vR [1]), some (vI a1), some (vI (a2 + 1)), some (vI 0), some (vI a4)]) d_Rf_takeSizes_61 rfl rfl rfl (Nat.le_of_ble_eq_true rfl) rfl ?_
        refine Rn.iinc (n := 67) (i := 4) (v := a4 + 1) (ls2 := [some (vR [1]), some (vI a1), some (vI (a2 + 1)), some (vI 0), some (vI (a4 + 1))]) d_Rf_takeSizes_64 rfl rfl rfl (Nat.le_of_ble_eq_true rfl) rfl ?_
        refine Rn.goto (n := 7) d_Rf_takeSizes_67 (by decide) ?_
        exact k
      · have k := k.2 cc
        refine Rn.aload_n (n := 45) (i := 0) d_Rf_takeSizes_44 rfl rfl rfl ?_
        refine Rn.getf (n := 48) (v := vR [22, 1]) d_Rf_takeSizes_45 rfl fl_Rf_42 Lv_1 rfl ?_
        refine Rn.iload (n := 50) (i := 4) d_Rf_takeSizes_48 rfl rfl ?_
        obtain ⟨b7, k⟩ := k
        refine Rn.iald (n := 51) (v := (hsI h3 [22, 1] a4.toNatClampNeg ((iShr a1 (2 * a2)) &&& 3)).1 [22, 1] a4.toNatClampNeg) d_Rf_takeSizes_50 rfl Lv_22_1 b7 rfl ?_
        refine Rn.iconst (n := 52) (v := 3) d_Rf_takeSizes_51 rfl (by decide) ?_
        refine Rn.icmp_ge (n := 55) (t := 59) d_Rf_takeSizes_52 rfl (by decide) (fun cc => ?_) (fun cc => ?_)
        · have k := k.1 cc
          refine Rn.iconst (n := 60) (v := 0) d_Rf_takeSizes_59 rfl (by decide) ?_
          refine Rn.istore_n (n := 61) (i := 3) (ls2 := [some (vR [1]), some (vI a1), some (vI a2), some (vI 0), some (vI a4)]) d_Rf_takeSizes_60 rfl rfl (Nat.le_of_ble_eq_true rfl) rfl ?_
          refine Rn.iinc (n := 64) (i := 2) (v := a2 + 1) (ls2 := [some (vR [1]), some (vI a1), some (vI (a2 + 1)), some (vI 0), some (vI a4)]) d_Rf_takeSizes_61 rfl rfl rfl (Nat.le_of_ble_eq_true rfl) rfl ?_
          refine Rn.iinc (n := 67) (i := 4) (v := a4 + 1) (ls2 := [some (vR [1]), some (vI a1), some (vI (a2 + 1)), some (vI 0), some (vI (a4 + 1))]) d_Rf_takeSizes_64 rfl rfl rfl (Nat.le_of_ble_eq_true rfl) rfl ?_
          refine Rn.goto (n := 7) d_Rf_takeSizes_67 (by decide) ?_
          exact k
        · have k := k.2 cc
          refine Rn.iconst (n := 56) (v := 1) d_Rf_takeSizes_55 rfl (by decide) ?_
          refine Rn.goto (n := 60) d_Rf_takeSizes_56 (by decide) ?_
          refine Rn.istore_n (n := 61) (i := 3) (ls2 := [some (vR [1]), some (vI a1), some (vI a2), some (vI 1), some (vI a4)]) d_Rf_takeSizes_60 rfl rfl (Nat.le_of_ble_eq_true rfl) rfl ?_
          refine Rn.iinc (n := 64) (i := 2) (v := a2 + 1) (ls2 := [some (vR [1]), some (vI a1), some (vI (a2 + 1)), some (vI 1), some (vI a4)]) d_Rf_takeSizes_61 rfl rfl rfl (Nat.le_of_ble_eq_true rfl) rfl ?_
          refine Rn.iinc (n := 67) (i := 4) (v := a4 + 1) (ls2 := [some (vR [1]), some (vI a1), some (vI (a2 + 1)), some (vI 1), some (vI (a4 + 1))]) d_Rf_takeSizes_64 rfl rfl rfl (Nat.le_of_ble_eq_true rfl) rfl ?_
          refine Rn.goto (n := 7) d_Rf_takeSizes_67 (by decide) ?_
          exact k
theorem e_Rf_takeSizes {X : XS} (a1 : Int32) (h : Hp) (Q : Option AV → Hp → Prop) (k : Rn X m_Rf_takeSizes 0 [some (vR [1]), some (vI a1), none, none, none] [] h Q) : Ev X m_Rf_takeSizes [vR [1], vI a1] h Q := Ev.intro (plainFor_of_name (by decide +kernel)) (Nat.le_of_ble_eq_true rfl) (ls := [some (vR [1]), some (vI a1), none, none, none]) rfl k
theorem d_Rf_arePrices_0 : decode m_Rf_arePrices.2.1 0 = .ok (.iload_n 0, 1) := by decide +kernel
theorem d_Rf_arePrices_1 : decode m_Rf_arePrices.2.1 1 = .ok (.iconst 0, 1) := by decide +kernel
theorem d_Rf_arePrices_2 : decode m_Rf_arePrices.2.1 2 = .ok (.bipush 99, 2) := by decide +kernel
theorem d_Rf_arePrices_4 : decode m_Rf_arePrices.2.1 4 = .ok (.invokestatic 66, 3) := by decide +kernel
theorem d_Rf_arePrices_7 : decode m_Rf_arePrices.2.1 7 = .ok (.ifCond .eq 17, 3) := by decide +kernel
theorem d_Rf_arePrices_10 : decode m_Rf_arePrices.2.1 10 = .ok (.iload_n 1, 1) := by decide +kernel
theorem d_Rf_arePrices_11 : decode m_Rf_arePrices.2.1 11 = .ok (.iconst 0, 1) := by decide +kernel
theorem d_Rf_arePrices_12 : decode m_Rf_arePrices.2.1 12 = .ok (.bipush 99, 2) := by decide +kernel
theorem d_Rf_arePrices_14 : decode m_Rf_arePrices.2.1 14 = .ok (.invokestatic 66, 3) := by decide +kernel
theorem d_Rf_arePrices_17 : decode m_Rf_arePrices.2.1 17 = .ok (.ifCond .eq 7, 3) := by decide +kernel
theorem d_Rf_arePrices_20 : decode m_Rf_arePrices.2.1 20 = .ok (.iconst 1, 1) := by decide +kernel
theorem d_Rf_arePrices_21 : decode m_Rf_arePrices.2.1 21 = .ok (.goto 4, 3) := by decide +kernel
theorem d_Rf_arePrices_24 : decode m_Rf_arePrices.2.1 24 = .ok (.iconst 0, 1) := by decide +kernel
theorem d_Rf_arePrices_25 : decode m_Rf_arePrices.2.1 25 = .ok (.ireturn, 1) := by decide +kernel
theorem g_Rf_arePrices_0 {X : XS} (a0 : Int32) (a1 : Int32) (h : Hp) (Q : Option AV → Hp → Prop)  (k : (∃ Q'4, EvI X m_Rf_in [vI a0, vI 0, vI 99] h Q'4 ∧ ∀ (r5 : Int32) (h3 : Hp), Q'4 r5 h3 → ((r5 = 0 → Q (some (vI 0)) h3) ∧ (¬ r5 = 0 → (∃ Q'9, EvI X m_Rf_in [vI a1, vI 0, vI 99] h3 Q'9 ∧ ∀ (r10 : Int32) (h8 : Hp), Q'9 r10 h8 → ((r10 = 0 → Q (some (vI 0)) h8) ∧ (¬ r10 = 0 → Q (some (vI 1)) h8))))))) : Rn X m_Rf_arePrices 0 [some (vI a0), some (vI a1)] [] h Q := by
  refine Rn.iload_n (n := 1) (i := 0) d_Rf_arePrices_0 rfl rfl rfl ?_
  refine Rn.iconst (n := 2) (v := 0) d_Rf_arePrices_1 rfl (by decide) ?_
  refine Rn.bipush (n := 4) (v := 99) d_Rf_arePrices_2 rfl (by decide) ?_
  obtain ⟨Q'4, ev1, k⟩ := k
  refine Rn.callS (n := 7) (av := [vI a0, vI 0, vI 99]) d_Rf_arePrices_4 rfl ml_Rf_arePrices_66 ms_Rf_in rfl rfl (Nat.le_of_ble_eq_true rfl) ev1 (fun v h3 hq => ?_)
  obtain ⟨r5, rfl, hq⟩ := hq
  have k := k r5 h3 hq
  show Rn X m_Rf_arePrices 7 [some (vI a0), some (vI a1)] [vI r5] h3 Q
  refine Rn.if_eq (n := 10) (t := 24) d_Rf_arePrices_7 rfl (by decide) (fun cc => ?_) (fun cc => ?_)
  · have k := k.1 cc
    refine Rn.iconst (n := 25) (v := 0) d_Rf_arePrices_24 rfl (by decide) ?_
    exact Rn.iret d_Rf_arePrices_25 rfl rfl k
  · have k := k.2 cc
    refine Rn.iload_n (n := 11) (i := 1) d_Rf_arePrices_10 rfl rfl rfl ?_
    refine Rn.iconst (n := 12) (v := 0) d_Rf_arePrices_11 rfl (by decide) ?_
    refine Rn.bipush (n := 14) (v := 99) d_Rf_arePrices_12 rfl (by decide) ?_
    obtain ⟨Q'9, ev6, k⟩ := k
    refine Rn.callS (n := 17) (av := [vI a1, vI 0, vI 99]) d_Rf_arePrices_14 rfl ml_Rf_arePrices_66 ms_Rf_in rfl rfl (Nat.le_of_ble_eq_true rfl) ev6 (fun v h8 hq => ?_)
    obtain ⟨r10, rfl, hq⟩ := hq
    have k := k r10 h8 hq
    show Rn X m_Rf_arePrices 17 [some (vI a0), some (vI a1)] [vI r10] h8 Q
    refine Rn.if_eq (n := 20) (t := 24) d_Rf_arePrices_17 rfl (by decide) (fun cc => ?_) (fun cc => ?_)
    · have k := k.1 cc
      refine Rn.iconst (n := 25) (v := 0) d_Rf_arePrices_24 rfl (by decide) ?_
      exact Rn.iret d_Rf_arePrices_25 rfl rfl k
    · have k := k.2 cc
      refine Rn.iconst (n := 21) (v := 1) d_Rf_arePrices_20 rfl (by decide) ?_
      refine Rn.goto (n := 25) d_Rf_arePrices_21 (by decide) ?_
      exact Rn.iret d_Rf_arePrices_25 rfl rfl k
theorem e_Rf_arePrices {X : XS} (a0 : Int32) (a1 : Int32) (h : Hp) (Q : Option AV → Hp → Prop) (k : Rn X m_Rf_arePrices 0 [some (vI a0), some (vI a1)] [] h Q) : Ev X m_Rf_arePrices [vI a0, vI a1] h Q := Ev.intro (plainFor_of_name (by decide +kernel)) (Nat.le_of_ble_eq_true rfl) (ls := [some (vI a0), some (vI a1)]) rfl k
theorem d_Rf_pays_0 : decode m_Rf_pays.2.1 0 = .ok (.aload_n 0, 1) := by decide +kernel
theorem d_Rf_pays_1 : decode m_Rf_pays.2.1 1 = .ok (.iload_n 1, 1) := by decide +kernel
theorem d_Rf_pays_2 : decode m_Rf_pays.2.1 2 = .ok (.invokevirtual 172, 3) := by decide +kernel
theorem d_Rf_pays_5 : decode m_Rf_pays.2.1 5 = .ok (.ifCond .ne 6, 3) := by decide +kernel
theorem d_Rf_pays_8 : decode m_Rf_pays.2.1 8 = .ok (.bipush (-2), 2) := by decide +kernel
theorem d_Rf_pays_10 : decode m_Rf_pays.2.1 10 = .ok (.ireturn, 1) := by decide +kernel
theorem d_Rf_pays_11 : decode m_Rf_pays.2.1 11 = .ok (.aload_n 0, 1) := by decide +kernel
theorem d_Rf_pays_12 : decode m_Rf_pays.2.1 12 = .ok (.iload_n 2, 1) := by decide +kernel
theorem d_Rf_pays_13 : decode m_Rf_pays.2.1 13 = .ok (.invokevirtual 213, 3) := by decide +kernel
theorem d_Rf_pays_16 : decode m_Rf_pays.2.1 16 = .ok (.ifCond .eq 12, 3) := by decide +kernel
theorem d_Rf_pays_19 : decode m_Rf_pays.2.1 19 = .ok (.iload_n 3, 1) := by decide +kernel
theorem d_Rf_pays_20 : decode m_Rf_pays.2.1 20 = .ok (.iload 4, 2) := by decide +kernel
theorem d_Rf_pays_22 : decode m_Rf_pays.2.1 22 = .ok (.invokestatic 216, 3) := by decide +kernel
theorem d_Rf_pays_25 : decode m_Rf_pays.2.1 25 = .ok (.ifCond .ne 6, 3) := by decide +kernel
theorem d_Rf_pays_28 : decode m_Rf_pays.2.1 28 = .ok (.bipush (-3), 2) := by decide +kernel
theorem d_Rf_pays_30 : decode m_Rf_pays.2.1 30 = .ok (.ireturn, 1) := by decide +kernel
theorem d_Rf_pays_31 : decode m_Rf_pays.2.1 31 = .ok (.aload_n 0, 1) := by decide +kernel
theorem d_Rf_pays_32 : decode m_Rf_pays.2.1 32 = .ok (.getfield 70, 3) := by decide +kernel
theorem d_Rf_pays_35 : decode m_Rf_pays.2.1 35 = .ok (.invokestatic 219, 3) := by decide +kernel
theorem d_Rf_pays_38 : decode m_Rf_pays.2.1 38 = .ok (.iconst 4, 1) := by decide +kernel
theorem d_Rf_pays_39 : decode m_Rf_pays.2.1 39 = .ok (.if_icmp .le 6, 3) := by decide +kernel
theorem d_Rf_pays_42 : decode m_Rf_pays.2.1 42 = .ok (.bipush (-4), 2) := by decide +kernel
theorem d_Rf_pays_44 : decode m_Rf_pays.2.1 44 = .ok (.ireturn, 1) := by decide +kernel
theorem d_Rf_pays_45 : decode m_Rf_pays.2.1 45 = .ok (.aload_n 0, 1) := by decide +kernel
theorem d_Rf_pays_46 : decode m_Rf_pays.2.1 46 = .ok (.iload_n 3, 1) := by decide +kernel
theorem d_Rf_pays_47 : decode m_Rf_pays.2.1 47 = .ok (.iload 4, 2) := by decide +kernel
theorem d_Rf_pays_49 : decode m_Rf_pays.2.1 49 = .ok (.invokevirtual 222, 3) := by decide +kernel
theorem d_Rf_pays_52 : decode m_Rf_pays.2.1 52 = .ok (.aload_n 0, 1) := by decide +kernel
theorem d_Rf_pays_53 : decode m_Rf_pays.2.1 53 = .ok (.getfield 60, 3) := by decide +kernel
theorem d_Rf_pays_56 : decode m_Rf_pays.2.1 56 = .ok (.iload_n 1, 1) := by decide +kernel
theorem d_Rf_pays_57 : decode m_Rf_pays.2.1 57 = .ok (.iaload, 1) := by decide +kernel
theorem d_Rf_pays_58 : decode m_Rf_pays.2.1 58 = .ok (.ireturn, 1) := by decide +kernel
theorem g_Rf_pays_0 {X : XS} (a1 : Int32) (a2 : Int32) (a3 : Int32) (a4 : Int32) (h : Hp) (Q : Option AV → Hp → Prop)  (k : (∃ Q'4, EvI X m_Rf_isWalker [vR [1], vI a1] h Q'4 ∧ ∀ (r5 : Int32) (h3 : Hp), Q'4 r5 h3 → ((¬ r5 = 0 → (∃ Q'9, EvI X m_Rf_takeSizes [vR [1], vI a2] h3 Q'9 ∧ ∀ (r10 : Int32) (h8 : Hp), Q'9 r10 h8 → ((r10 = 0 → Q (some (vI (-3))) h8) ∧ (¬ r10 = 0 → (∃ Q'14, EvI X m_Rf_arePrices [vI a3, vI a4] h8 Q'14 ∧ ∀ (r15 : Int32) (h13 : Hp), Q'14 r15 h13 → ((¬ r15 = 0 → (∃ Q'19, EvI X m_Rf_bits [vI (h13.1 [1] 3)] h13 Q'19 ∧ ∀ (r20 : Int32) (h18 : Hp), Q'19 r20 h18 → ((r20 ≤ 4 → (∃ Q'24, EvV X m_Rf_goWhole [vR [1], vI a3, vI a4] h18 Q'24 ∧ ∀ (h23 : Hp), Q'24 h23 → (vp_in a1 6 ∧ Q (some (vI (h23.1 [29, 1] a1.toNatClampNeg))) h23))) ∧ (¬ r20 ≤ 4 → Q (some (vI (-4))) h18)))) ∧ (r15 = 0 → Q (some (vI (-3))) h13))))))) ∧ (r5 = 0 → Q (some (vI (-2))) h3)))) : Rn X m_Rf_pays 0 [some (vR [1]), some (vI a1), some (vI a2), some (vI a3), some (vI a4)] [] h Q := by
  refine Rn.aload_n (n := 1) (i := 0) d_Rf_pays_0 rfl rfl rfl ?_
  refine Rn.iload_n (n := 2) (i := 1) d_Rf_pays_1 rfl rfl rfl ?_
  obtain ⟨Q'4, ev1, k⟩ := k
  refine Rn.callV (n := 5) (av := [vI a1]) d_Rf_pays_2 rfl ml_Rf_pays_172 mi_Rf_isWalker Lv_1 rfl rfl rfl rfl (Nat.le_of_ble_eq_true rfl) ev1 (fun v h3 hq => ?_)
  obtain ⟨r5, rfl, hq⟩ := hq
  have k := k r5 h3 hq
  show Rn X m_Rf_pays 5 [some (vR [1]), some (vI a1), some (vI a2), some (vI a3), some (vI a4)] [vI r5] h3 Q
  refine Rn.if_ne (n := 8) (t := 11) d_Rf_pays_5 rfl (by decide) (fun cc => ?_) (fun cc => ?_)
  · have k := k.1 cc
    refine Rn.aload_n (n := 12) (i := 0) d_Rf_pays_11 rfl rfl rfl ?_
    refine Rn.iload_n (n := 13) (i := 2) d_Rf_pays_12 rfl rfl rfl ?_
    obtain ⟨Q'9, ev6, k⟩ := k
    refine Rn.callV (n := 16) (av := [vI a2]) d_Rf_pays_13 rfl ml_Rf_pays_213 mi_Rf_takeSizes Lv_1 rfl rfl rfl rfl (Nat.le_of_ble_eq_true rfl) ev6 (fun v h8 hq => ?_)
    obtain ⟨r10, rfl, hq⟩ := hq
    have k := k r10 h8 hq
    show Rn X m_Rf_pays 16 [some (vR [1]), some (vI a1), some (vI a2), some (vI a3), some (vI a4)] [vI r10] h8 Q
    refine Rn.if_eq (n := 19) (t := 28) d_Rf_pays_16 rfl (by decide) (fun cc => ?_) (fun cc => ?_)
    · have k := k.1 cc
      refine Rn.bipush (n := 30) (v := (-3)) d_Rf_pays_28 rfl (by decide) ?_
      exact Rn.iret d_Rf_pays_30 rfl rfl k
    · have k := k.2 cc
      refine Rn.iload_n (n := 20) (i := 3) d_Rf_pays_19 rfl rfl rfl ?_
      refine Rn.iload (n := 22) (i := 4) d_Rf_pays_20 rfl rfl ?_
      obtain ⟨Q'14, ev11, k⟩ := k
      refine Rn.callS (n := 25) (av := [vI a3, vI a4]) d_Rf_pays_22 rfl ml_Rf_pays_216 ms_Rf_arePrices rfl rfl (Nat.le_of_ble_eq_true rfl) ev11 (fun v h13 hq => ?_)
      obtain ⟨r15, rfl, hq⟩ := hq
      have k := k r15 h13 hq
      show Rn X m_Rf_pays 25 [some (vR [1]), some (vI a1), some (vI a2), some (vI a3), some (vI a4)] [vI r15] h13 Q
      refine Rn.if_ne (n := 28) (t := 31) d_Rf_pays_25 rfl (by decide) (fun cc => ?_) (fun cc => ?_)
      · have k := k.1 cc
        refine Rn.aload_n (n := 32) (i := 0) d_Rf_pays_31 rfl rfl rfl ?_
        refine Rn.getf (n := 35) (v := vI (h13.1 [1] 3)) d_Rf_pays_32 rfl fl_Rf_70 Lv_1 rfl ?_
        obtain ⟨Q'19, ev16, k⟩ := k
        refine Rn.callS (n := 38) (av := [vI (h13.1 [1] 3)]) d_Rf_pays_35 rfl ml_Rf_pays_219 ms_Rf_bits rfl rfl (Nat.le_of_ble_eq_true rfl) ev16 (fun v h18 hq => ?_)
        obtain ⟨r20, rfl, hq⟩ := hq
        have k := k r20 h18 hq
        show Rn X m_Rf_pays 38 [some (vR [1]), some (vI a1), some (vI a2), some (vI a3), some (vI a4)] [vI r20] h18 Q
        refine Rn.iconst (n := 39) (v := 4) d_Rf_pays_38 rfl (by decide) ?_
        refine Rn.icmp_le (n := 42) (t := 45) d_Rf_pays_39 rfl (by decide) (fun cc => ?_) (fun cc => ?_)
        · have k := k.1 cc
          refine Rn.aload_n (n := 46) (i := 0) d_Rf_pays_45 rfl rfl rfl ?_
          refine Rn.iload_n (n := 47) (i := 3) d_Rf_pays_46 rfl rfl rfl ?_
          refine Rn.iload (n := 49) (i := 4) d_Rf_pays_47 rfl rfl ?_
          obtain ⟨Q'24, ev21, k⟩ := k
          refine Rn.callV (n := 52) (av := [vI a3, vI a4]) d_Rf_pays_49 rfl ml_Rf_pays_222 mi_Rf_goWhole Lv_1 rfl rfl rfl rfl (Nat.le_of_ble_eq_true rfl) ev21 (fun v h23 hq => ?_)
          obtain ⟨rfl, hq⟩ := hq
          have k := k h23 hq
          show Rn X m_Rf_pays 52 [some (vR [1]), some (vI a1), some (vI a2), some (vI a3), some (vI a4)] [] h23 Q
          refine Rn.aload_n (n := 53) (i := 0) d_Rf_pays_52 rfl rfl rfl ?_
          refine Rn.getf (n := 56) (v := vR [29, 1]) d_Rf_pays_53 rfl fl_Rf_60 Lv_1 rfl ?_
          refine Rn.iload_n (n := 57) (i := 1) d_Rf_pays_56 rfl rfl rfl ?_
          obtain ⟨b25, k⟩ := k
          refine Rn.iald (n := 58) (v := h23.1 [29, 1] a1.toNatClampNeg) d_Rf_pays_57 rfl Lv_29_1 b25 rfl ?_
          exact Rn.iret d_Rf_pays_58 rfl rfl k
        · have k := k.2 cc
          refine Rn.bipush (n := 44) (v := (-4)) d_Rf_pays_42 rfl (by decide) ?_
          exact Rn.iret d_Rf_pays_44 rfl rfl k
      · have k := k.2 cc
        refine Rn.bipush (n := 30) (v := (-3)) d_Rf_pays_28 rfl (by decide) ?_
        exact Rn.iret d_Rf_pays_30 rfl rfl k
  · have k := k.2 cc
    refine Rn.bipush (n := 10) (v := (-2)) d_Rf_pays_8 rfl (by decide) ?_
    exact Rn.iret d_Rf_pays_10 rfl rfl k
theorem e_Rf_pays {X : XS} (a1 : Int32) (a2 : Int32) (a3 : Int32) (a4 : Int32) (h : Hp) (Q : Option AV → Hp → Prop) (k : Rn X m_Rf_pays 0 [some (vR [1]), some (vI a1), some (vI a2), some (vI a3), some (vI a4)] [] h Q) : Ev X m_Rf_pays [vR [1], vI a1, vI a2, vI a3, vI a4] h Q := Ev.intro (plainFor_of_name (by decide +kernel)) (Nat.le_of_ble_eq_true rfl) (ls := [some (vR [1]), some (vI a1), some (vI a2), some (vI a3), some (vI a4)]) rfl k
theorem d_Rf_power_0 : decode m_Rf_power.2.1 0 = .ok (.iload_n 0, 1) := by decide +kernel
theorem d_Rf_power_1 : decode m_Rf_power.2.1 1 = .ok (.ifCond .ne 7, 3) := by decide +kernel
theorem d_Rf_power_4 : decode m_Rf_power.2.1 4 = .ok (.iconst 1, 1) := by decide +kernel
theorem d_Rf_power_5 : decode m_Rf_power.2.1 5 = .ok (.goto 34, 3) := by decide +kernel
theorem d_Rf_power_8 : decode m_Rf_power.2.1 8 = .ok (.iload_n 0, 1) := by decide +kernel
theorem d_Rf_power_9 : decode m_Rf_power.2.1 9 = .ok (.iconst 1, 1) := by decide +kernel
theorem d_Rf_power_10 : decode m_Rf_power.2.1 10 = .ok (.if_icmp .ne 7, 3) := by decide +kernel
theorem d_Rf_power_13 : decode m_Rf_power.2.1 13 = .ok (.iconst 3, 1) := by decide +kernel
theorem d_Rf_power_14 : decode m_Rf_power.2.1 14 = .ok (.goto 25, 3) := by decide +kernel
theorem d_Rf_power_17 : decode m_Rf_power.2.1 17 = .ok (.iload_n 0, 1) := by decide +kernel
theorem d_Rf_power_18 : decode m_Rf_power.2.1 18 = .ok (.iconst 2, 1) := by decide +kernel
theorem d_Rf_power_19 : decode m_Rf_power.2.1 19 = .ok (.if_icmp .ne 8, 3) := by decide +kernel
theorem d_Rf_power_22 : decode m_Rf_power.2.1 22 = .ok (.bipush 9, 2) := by decide +kernel
theorem d_Rf_power_24 : decode m_Rf_power.2.1 24 = .ok (.goto 15, 3) := by decide +kernel
theorem d_Rf_power_27 : decode m_Rf_power.2.1 27 = .ok (.iload_n 0, 1) := by decide +kernel
theorem d_Rf_power_28 : decode m_Rf_power.2.1 28 = .ok (.iconst 3, 1) := by decide +kernel
theorem d_Rf_power_29 : decode m_Rf_power.2.1 29 = .ok (.if_icmp .ne 8, 3) := by decide +kernel
theorem d_Rf_power_32 : decode m_Rf_power.2.1 32 = .ok (.bipush 27, 2) := by decide +kernel
theorem d_Rf_power_34 : decode m_Rf_power.2.1 34 = .ok (.goto 5, 3) := by decide +kernel
theorem d_Rf_power_37 : decode m_Rf_power.2.1 37 = .ok (.bipush 81, 2) := by decide +kernel
theorem d_Rf_power_39 : decode m_Rf_power.2.1 39 = .ok (.ireturn, 1) := by decide +kernel
theorem g_Rf_power_0 {X : XS} (a0 : Int32) (h : Hp) (Q : Option AV → Hp → Prop)  (k : ((¬ a0 = 0 → ((¬ a0 = 1 → ((¬ a0 = 2 → ((¬ a0 = 3 → Q (some (vI 81)) h) ∧ (a0 = 3 → Q (some (vI 27)) h))) ∧ (a0 = 2 → Q (some (vI 9)) h))) ∧ (a0 = 1 → Q (some (vI 3)) h))) ∧ (a0 = 0 → Q (some (vI 1)) h))) : Rn X m_Rf_power 0 [some (vI a0)] [] h Q := by
  refine Rn.iload_n (n := 1) (i := 0) d_Rf_power_0 rfl rfl rfl ?_
  refine Rn.if_ne (n := 4) (t := 8) d_Rf_power_1 rfl (by decide) (fun cc => ?_) (fun cc => ?_)
  · have k := k.1 cc
    refine Rn.iload_n (n := 9) (i := 0) d_Rf_power_8 rfl rfl rfl ?_
    refine Rn.iconst (n := 10) (v := 1) d_Rf_power_9 rfl (by decide) ?_
    refine Rn.icmp_ne (n := 13) (t := 17) d_Rf_power_10 rfl (by decide) (fun cc => ?_) (fun cc => ?_)
    · have k := k.1 cc
      refine Rn.iload_n (n := 18) (i := 0) d_Rf_power_17 rfl rfl rfl ?_
      refine Rn.iconst (n := 19) (v := 2) d_Rf_power_18 rfl (by decide) ?_
      refine Rn.icmp_ne (n := 22) (t := 27) d_Rf_power_19 rfl (by decide) (fun cc => ?_) (fun cc => ?_)
      · have k := k.1 cc
        refine Rn.iload_n (n := 28) (i := 0) d_Rf_power_27 rfl rfl rfl ?_
        refine Rn.iconst (n := 29) (v := 3) d_Rf_power_28 rfl (by decide) ?_
        refine Rn.icmp_ne (n := 32) (t := 37) d_Rf_power_29 rfl (by decide) (fun cc => ?_) (fun cc => ?_)
        · have k := k.1 cc
          refine Rn.bipush (n := 39) (v := 81) d_Rf_power_37 rfl (by decide) ?_
          exact Rn.iret d_Rf_power_39 rfl rfl k
        · have k := k.2 cc
          refine Rn.bipush (n := 34) (v := 27) d_Rf_power_32 rfl (by decide) ?_
          refine Rn.goto (n := 39) d_Rf_power_34 (by decide) ?_
          exact Rn.iret d_Rf_power_39 rfl rfl k
      · have k := k.2 cc
        refine Rn.bipush (n := 24) (v := 9) d_Rf_power_22 rfl (by decide) ?_
        refine Rn.goto (n := 39) d_Rf_power_24 (by decide) ?_
        exact Rn.iret d_Rf_power_39 rfl rfl k
    · have k := k.2 cc
      refine Rn.iconst (n := 14) (v := 3) d_Rf_power_13 rfl (by decide) ?_
      refine Rn.goto (n := 39) d_Rf_power_14 (by decide) ?_
      exact Rn.iret d_Rf_power_39 rfl rfl k
  · have k := k.2 cc
    refine Rn.iconst (n := 5) (v := 1) d_Rf_power_4 rfl (by decide) ?_
    refine Rn.goto (n := 39) d_Rf_power_5 (by decide) ?_
    exact Rn.iret d_Rf_power_39 rfl rfl k
theorem e_Rf_power {X : XS} (a0 : Int32) (h : Hp) (Q : Option AV → Hp → Prop) (k : Rn X m_Rf_power 0 [some (vI a0)] [] h Q) : Ev X m_Rf_power [vI a0] h Q := Ev.intro (plainFor_of_name (by decide +kernel)) (Nat.le_of_ble_eq_true rfl) (ls := [some (vI a0)]) rfl k
theorem d_Rf_figure_0 : decode m_Rf_figure.2.1 0 = .ok (.iload_n 0, 1) := by decide +kernel
theorem d_Rf_figure_1 : decode m_Rf_figure.2.1 1 = .ok (.iload_n 2, 1) := by decide +kernel
theorem d_Rf_figure_2 : decode m_Rf_figure.2.1 2 = .ok (.iconst 1, 1) := by decide +kernel
theorem d_Rf_figure_3 : decode m_Rf_figure.2.1 3 = .ok (.isub, 1) := by decide +kernel
theorem d_Rf_figure_4 : decode m_Rf_figure.2.1 4 = .ok (.iload_n 1, 1) := by decide +kernel
theorem d_Rf_figure_5 : decode m_Rf_figure.2.1 5 = .ok (.isub, 1) := by decide +kernel
theorem d_Rf_figure_6 : decode m_Rf_figure.2.1 6 = .ok (.invokestatic 226, 3) := by decide +kernel
theorem d_Rf_figure_9 : decode m_Rf_figure.2.1 9 = .ok (.idiv, 1) := by decide +kernel
theorem d_Rf_figure_10 : decode m_Rf_figure.2.1 10 = .ok (.iconst 3, 1) := by decide +kernel
theorem d_Rf_figure_11 : decode m_Rf_figure.2.1 11 = .ok (.irem, 1) := by decide +kernel
theorem d_Rf_figure_12 : decode m_Rf_figure.2.1 12 = .ok (.ireturn, 1) := by decide +kernel
theorem g_Rf_figure_0 {X : XS} (a0 : Int32) (a1 : Int32) (a2 : Int32) (h : Hp) (Q : Option AV → Hp → Prop)  (k : (∃ Q'4, EvI X m_Rf_power [vI ((a2 - 1) - a1)] h Q'4 ∧ ∀ (r5 : Int32) (h3 : Hp), Q'4 r5 h3 → (¬ r5 = 0 ∧ Q (some (vI (iR (a0 / r5) 3))) h3))) : Rn X m_Rf_figure 0 [some (vI a0), some (vI a1), some (vI a2)] [] h Q := by
  refine Rn.iload_n (n := 1) (i := 0) d_Rf_figure_0 rfl rfl rfl ?_
  refine Rn.iload_n (n := 2) (i := 2) d_Rf_figure_1 rfl rfl rfl ?_
  refine Rn.iconst (n := 3) (v := 1) d_Rf_figure_2 rfl (by decide) ?_
  refine Rn.isub (n := 4) d_Rf_figure_3 rfl ?_
  refine Rn.iload_n (n := 5) (i := 1) d_Rf_figure_4 rfl rfl rfl ?_
  refine Rn.isub (n := 6) d_Rf_figure_5 rfl ?_
  obtain ⟨Q'4, ev1, k⟩ := k
  refine Rn.callS (n := 9) (av := [vI ((a2 - 1) - a1)]) d_Rf_figure_6 rfl ml_Rf_figure_226 ms_Rf_power rfl rfl (Nat.le_of_ble_eq_true rfl) ev1 (fun v h3 hq => ?_)
  obtain ⟨r5, rfl, hq⟩ := hq
  have k := k r5 h3 hq
  show Rn X m_Rf_figure 9 [some (vI a0), some (vI a1), some (vI a2)] [vI r5, vI a0] h3 Q
  obtain ⟨z6, k⟩ := k
  refine Rn.idiv (n := 10) d_Rf_figure_9 rfl z6 ?_
  refine Rn.iconst (n := 11) (v := 3) d_Rf_figure_10 rfl (by decide) ?_
  refine Rn.irem (n := 12) d_Rf_figure_11 rfl (by decide) ?_
  exact Rn.iret d_Rf_figure_12 rfl rfl k
theorem e_Rf_figure {X : XS} (a0 : Int32) (a1 : Int32) (a2 : Int32) (h : Hp) (Q : Option AV → Hp → Prop) (k : Rn X m_Rf_figure 0 [some (vI a0), some (vI a1), some (vI a2)] [] h Q) : Ev X m_Rf_figure [vI a0, vI a1, vI a2] h Q := Ev.intro (plainFor_of_name (by decide +kernel)) (Nat.le_of_ble_eq_true rfl) (ls := [some (vI a0), some (vI a1), some (vI a2)]) rfl k
theorem d_Rf_layPaid_0 : decode m_Rf_layPaid.2.1 0 = .ok (.iconst 0, 1) := by decide +kernel
theorem d_Rf_layPaid_1 : decode m_Rf_layPaid.2.1 1 = .ok (.istore 4, 2) := by decide +kernel
theorem d_Rf_layPaid_3 : decode m_Rf_layPaid.2.1 3 = .ok (.iload 4, 2) := by decide +kernel
theorem d_Rf_layPaid_5 : decode m_Rf_layPaid.2.1 5 = .ok (.iload_n 1, 1) := by decide +kernel
theorem d_Rf_layPaid_6 : decode m_Rf_layPaid.2.1 6 = .ok (.invokestatic 226, 3) := by decide +kernel
theorem d_Rf_layPaid_9 : decode m_Rf_layPaid.2.1 9 = .ok (.if_icmp .ge 117, 3) := by decide +kernel
theorem d_Rf_layPaid_12 : decode m_Rf_layPaid.2.1 12 = .ok (.iconst 0, 1) := by decide +kernel
theorem d_Rf_layPaid_13 : decode m_Rf_layPaid.2.1 13 = .ok (.istore 5, 2) := by decide +kernel
theorem d_Rf_layPaid_15 : decode m_Rf_layPaid.2.1 15 = .ok (.iconst 0, 1) := by decide +kernel
theorem d_Rf_layPaid_16 : decode m_Rf_layPaid.2.1 16 = .ok (.istore 6, 2) := by decide +kernel
theorem d_Rf_layPaid_18 : decode m_Rf_layPaid.2.1 18 = .ok (.iload 6, 2) := by decide +kernel
theorem d_Rf_layPaid_20 : decode m_Rf_layPaid.2.1 20 = .ok (.bipush 6, 2) := by decide +kernel
theorem d_Rf_layPaid_22 : decode m_Rf_layPaid.2.1 22 = .ok (.if_icmp .ge 39, 3) := by decide +kernel
theorem d_Rf_layPaid_25 : decode m_Rf_layPaid.2.1 25 = .ok (.aload_n 0, 1) := by decide +kernel
theorem d_Rf_layPaid_26 : decode m_Rf_layPaid.2.1 26 = .ok (.getfield 70, 3) := by decide +kernel
theorem d_Rf_layPaid_29 : decode m_Rf_layPaid.2.1 29 = .ok (.iload 6, 2) := by decide +kernel
theorem d_Rf_layPaid_31 : decode m_Rf_layPaid.2.1 31 = .ok (.invokestatic 73, 3) := by decide +kernel
theorem d_Rf_layPaid_34 : decode m_Rf_layPaid.2.1 34 = .ok (.ifCond .eq 21, 3) := by decide +kernel
theorem d_Rf_layPaid_37 : decode m_Rf_layPaid.2.1 37 = .ok (.aload_n 0, 1) := by decide +kernel
theorem d_Rf_layPaid_38 : decode m_Rf_layPaid.2.1 38 = .ok (.getfield 42, 3) := by decide +kernel
theorem d_Rf_layPaid_41 : decode m_Rf_layPaid.2.1 41 = .ok (.iload 6, 2) := by decide +kernel
theorem d_Rf_layPaid_43 : decode m_Rf_layPaid.2.1 43 = .ok (.iload 4, 2) := by decide +kernel
theorem d_Rf_layPaid_45 : decode m_Rf_layPaid.2.1 45 = .ok (.iload 5, 2) := by decide +kernel
theorem d_Rf_layPaid_47 : decode m_Rf_layPaid.2.1 47 = .ok (.iload_n 1, 1) := by decide +kernel
theorem d_Rf_layPaid_48 : decode m_Rf_layPaid.2.1 48 = .ok (.invokestatic 229, 3) := by decide +kernel
theorem d_Rf_layPaid_51 : decode m_Rf_layPaid.2.1 51 = .ok (.iastore, 1) := by decide +kernel
theorem d_Rf_layPaid_52 : decode m_Rf_layPaid.2.1 52 = .ok (.iinc 5 1, 3) := by decide +kernel
theorem d_Rf_layPaid_55 : decode m_Rf_layPaid.2.1 55 = .ok (.iinc 6 1, 3) := by decide +kernel
theorem d_Rf_layPaid_58 : decode m_Rf_layPaid.2.1 58 = .ok (.goto (-40), 3) := by decide +kernel
theorem d_Rf_layPaid_61 : decode m_Rf_layPaid.2.1 61 = .ok (.aload_n 0, 1) := by decide +kernel
theorem d_Rf_layPaid_62 : decode m_Rf_layPaid.2.1 62 = .ok (.iload_n 2, 1) := by decide +kernel
theorem d_Rf_layPaid_63 : decode m_Rf_layPaid.2.1 63 = .ok (.iload_n 3, 1) := by decide +kernel
theorem d_Rf_layPaid_64 : decode m_Rf_layPaid.2.1 64 = .ok (.invokevirtual 222, 3) := by decide +kernel
theorem d_Rf_layPaid_67 : decode m_Rf_layPaid.2.1 67 = .ok (.iconst 0, 1) := by decide +kernel
theorem d_Rf_layPaid_68 : decode m_Rf_layPaid.2.1 68 = .ok (.istore 5, 2) := by decide +kernel
theorem d_Rf_layPaid_70 : decode m_Rf_layPaid.2.1 70 = .ok (.iconst 0, 1) := by decide +kernel
theorem d_Rf_layPaid_71 : decode m_Rf_layPaid.2.1 71 = .ok (.istore 6, 2) := by decide +kernel
theorem d_Rf_layPaid_73 : decode m_Rf_layPaid.2.1 73 = .ok (.iload 6, 2) := by decide +kernel
theorem d_Rf_layPaid_75 : decode m_Rf_layPaid.2.1 75 = .ok (.bipush 6, 2) := by decide +kernel
theorem d_Rf_layPaid_77 : decode m_Rf_layPaid.2.1 77 = .ok (.if_icmp .ge 43, 3) := by decide +kernel
theorem d_Rf_layPaid_80 : decode m_Rf_layPaid.2.1 80 = .ok (.aload_n 0, 1) := by decide +kernel
theorem d_Rf_layPaid_81 : decode m_Rf_layPaid.2.1 81 = .ok (.getfield 70, 3) := by decide +kernel
theorem d_Rf_layPaid_84 : decode m_Rf_layPaid.2.1 84 = .ok (.iload 6, 2) := by decide +kernel
theorem d_Rf_layPaid_86 : decode m_Rf_layPaid.2.1 86 = .ok (.invokestatic 73, 3) := by decide +kernel
theorem d_Rf_layPaid_89 : decode m_Rf_layPaid.2.1 89 = .ok (.ifCond .eq 25, 3) := by decide +kernel
theorem d_Rf_layPaid_92 : decode m_Rf_layPaid.2.1 92 = .ok (.aload_n 0, 1) := by decide +kernel
theorem d_Rf_layPaid_93 : decode m_Rf_layPaid.2.1 93 = .ok (.getfield 63, 3) := by decide +kernel
theorem d_Rf_layPaid_96 : decode m_Rf_layPaid.2.1 96 = .ok (.iconst 4, 1) := by decide +kernel
theorem d_Rf_layPaid_97 : decode m_Rf_layPaid.2.1 97 = .ok (.iload 4, 2) := by decide +kernel
theorem d_Rf_layPaid_99 : decode m_Rf_layPaid.2.1 99 = .ok (.imul, 1) := by decide +kernel
theorem d_Rf_layPaid_100 : decode m_Rf_layPaid.2.1 100 = .ok (.iload 5, 2) := by decide +kernel
theorem d_Rf_layPaid_102 : decode m_Rf_layPaid.2.1 102 = .ok (.iadd, 1) := by decide +kernel
theorem d_Rf_layPaid_103 : decode m_Rf_layPaid.2.1 103 = .ok (.aload_n 0, 1) := by decide +kernel
theorem d_Rf_layPaid_104 : decode m_Rf_layPaid.2.1 104 = .ok (.getfield 60, 3) := by decide +kernel
theorem d_Rf_layPaid_107 : decode m_Rf_layPaid.2.1 107 = .ok (.iload 6, 2) := by decide +kernel
theorem d_Rf_layPaid_109 : decode m_Rf_layPaid.2.1 109 = .ok (.iaload, 1) := by decide +kernel
theorem d_Rf_layPaid_110 : decode m_Rf_layPaid.2.1 110 = .ok (.iastore, 1) := by decide +kernel
theorem d_Rf_layPaid_111 : decode m_Rf_layPaid.2.1 111 = .ok (.iinc 5 1, 3) := by decide +kernel
theorem d_Rf_layPaid_114 : decode m_Rf_layPaid.2.1 114 = .ok (.iinc 6 1, 3) := by decide +kernel
theorem d_Rf_layPaid_117 : decode m_Rf_layPaid.2.1 117 = .ok (.goto (-44), 3) := by decide +kernel
theorem d_Rf_layPaid_120 : decode m_Rf_layPaid.2.1 120 = .ok (.iinc 4 1, 3) := by decide +kernel
theorem d_Rf_layPaid_123 : decode m_Rf_layPaid.2.1 123 = .ok (.goto (-120), 3) := by decide +kernel
theorem d_Rf_layPaid_126 : decode m_Rf_layPaid.2.1 126 = .ok (.return_, 1) := by decide +kernel
theorem g_Rf_layPaid_0 {X : XS} (a1 : Int32) (a2 : Int32) (a3 : Int32) (h : Hp) (Q : Option AV → Hp → Prop)  (k : Rn X m_Rf_layPaid 3 [some (vR [1]), some (vI a1), some (vI a2), some (vI a3), some (vI 0), none, none] [] h Q) : Rn X m_Rf_layPaid 0 [some (vR [1]), some (vI a1), some (vI a2), some (vI a3), none, none, none] [] h Q := by
  refine Rn.iconst (n := 1) (v := 0) d_Rf_layPaid_0 rfl (by decide) ?_
  refine Rn.istore (n := 3) (i := 4) (ls2 := [some (vR [1]), some (vI a1), some (vI a2), some (vI a3), some (vI 0), none, none]) d_Rf_layPaid_1 rfl (Nat.le_of_ble_eq_true rfl) rfl ?_
  exact k
theorem g_Rf_layPaid_3 {X : XS} (a1 : Int32) (a2 : Int32) (a3 : Int32) (a4 : Int32) (h : Hp) (Q : Option AV → Hp → Prop)  (k : (∃ Q'4, EvI X m_Rf_power [vI a1] h Q'4 ∧ ∀ (r5 : Int32) (h3 : Hp), Q'4 r5 h3 → ((r5 ≤ a4 → Q none h3) ∧ (¬ r5 ≤ a4 → Rn X m_Rf_layPaid 18 [some (vR [1]), some (vI a1), some (vI a2), some (vI a3), some (vI a4), some (vI 0), some (vI 0)] [] h3 Q)))) : Rn X m_Rf_layPaid 3 [some (vR [1]), some (vI a1), some (vI a2), some (vI a3), some (vI a4), none, none] [] h Q := by
  refine Rn.iload (n := 5) (i := 4) d_Rf_layPaid_3 rfl rfl ?_
  refine Rn.iload_n (n := 6) (i := 1) d_Rf_layPaid_5 rfl rfl rfl ?_
  obtain ⟨Q'4, ev1, k⟩ := k
  refine Rn.callS (n := 9) (av := [vI a1]) d_Rf_layPaid_6 rfl ml_Rf_layPaid_226 ms_Rf_power rfl rfl (Nat.le_of_ble_eq_true rfl) ev1 (fun v h3 hq => ?_)
  obtain ⟨r5, rfl, hq⟩ := hq
  have k := k r5 h3 hq
  show Rn X m_Rf_layPaid 9 [some (vR [1]), some (vI a1), some (vI a2), some (vI a3), some (vI a4), none, none] [vI r5, vI a4] h3 Q
  refine Rn.icmp_ge (n := 12) (t := 126) d_Rf_layPaid_9 rfl (by decide) (fun cc => ?_) (fun cc => ?_)
  · have k := k.1 cc
    exact Rn.vret d_Rf_layPaid_126 rfl k
  · have k := k.2 cc
    refine Rn.iconst (n := 13) (v := 0) d_Rf_layPaid_12 rfl (by decide) ?_
    refine Rn.istore (n := 15) (i := 5) (ls2 := [some (vR [1]), some (vI a1), some (vI a2), some (vI a3), some (vI a4), some (vI 0), none]) d_Rf_layPaid_13 rfl (Nat.le_of_ble_eq_true rfl) rfl ?_
    refine Rn.iconst (n := 16) (v := 0) d_Rf_layPaid_15 rfl (by decide) ?_
    refine Rn.istore (n := 18) (i := 6) (ls2 := [some (vR [1]), some (vI a1), some (vI a2), some (vI a3), some (vI a4), some (vI 0), some (vI 0)]) d_Rf_layPaid_16 rfl (Nat.le_of_ble_eq_true rfl) rfl ?_
    exact k
theorem g_Rf_layPaid_18 {X : XS} (a1 : Int32) (a2 : Int32) (a3 : Int32) (a4 : Int32) (a5 : Int32) (a6 : Int32) (h : Hp) (Q : Option AV → Hp → Prop)  (k : ((6 ≤ a6 → (∃ Q'4, EvV X m_Rf_goWhole [vR [1], vI a2, vI a3] h Q'4 ∧ ∀ (h3 : Hp), Q'4 h3 → Rn X m_Rf_layPaid 73 [some (vR [1]), some (vI a1), some (vI a2), some (vI a3), some (vI a4), some (vI 0), some (vI 0)] [] h3 Q)) ∧ (¬ 6 ≤ a6 → (∃ Q'8, EvI X m_Rf_has [vI (h.1 [1] 3), vI a6] h Q'8 ∧ ∀ (r9 : Int32) (h7 : Hp), Q'8 r9 h7 → ((r9 = 0 → Rn X m_Rf_layPaid 18 [some (vR [1]), some (vI a1), some (vI a2), some (vI a3), some (vI a4), some (vI a5), some (vI (a6 + 1))] [] h7 Q) ∧ (¬ r9 = 0 → (∃ Q'13, EvI X m_Rf_figure [vI a4, vI a5, vI a1] h7 Q'13 ∧ ∀ (r14 : Int32) (h12 : Hp), Q'13 r14 h12 → (vp_in a6 6 ∧ Rn X m_Rf_layPaid 18 [some (vR [1]), some (vI a1), some (vI a2), some (vI a3), some (vI a4), some (vI (a5 + 1)), some (vI (a6 + 1))] [] (hsI h12 [22, 1] a6.toNatClampNeg r14) Q)))))))) : Rn X m_Rf_layPaid 18 [some (vR [1]), some (vI a1), some (vI a2), some (vI a3), some (vI a4), some (vI a5), some (vI a6)] [] h Q := by
  refine Rn.iload (n := 20) (i := 6) d_Rf_layPaid_18 rfl rfl ?_
  refine Rn.bipush (n := 22) (v := 6) d_Rf_layPaid_20 rfl (by decide) ?_
  refine Rn.icmp_ge (n := 25) (t := 61) d_Rf_layPaid_22 rfl (by decide) (fun cc => ?_) (fun cc => ?_)
  · have k := k.1 cc
    refine Rn.aload_n (n := 62) (i := 0) d_Rf_layPaid_61 rfl rfl rfl ?_
    refine Rn.iload_n (n := 63) (i := 2) d_Rf_layPaid_62 rfl rfl rfl ?_
    refine Rn.iload_n (n := 64) (i := 3) d_Rf_layPaid_63 rfl rfl rfl ?_
    obtain ⟨Q'4, ev1, k⟩ := k
    refine Rn.callV (n := 67) (av := [vI a2, vI a3]) d_Rf_layPaid_64 rfl ml_Rf_layPaid_222 mi_Rf_goWhole Lv_1 rfl rfl rfl rfl (Nat.le_of_ble_eq_true rfl) ev1 (fun v h3 hq => ?_)
    obtain ⟨rfl, hq⟩ := hq
    have k := k h3 hq
    show Rn X m_Rf_layPaid 67 [some (vR [1]), some (vI a1), some (vI a2), some (vI a3), some (vI a4), some (vI a5), some (vI a6)] [] h3 Q
    refine Rn.iconst (n := 68) (v := 0) d_Rf_layPaid_67 rfl (by decide) ?_
    refine Rn.istore (n := 70) (i := 5) (ls2 := [some (vR [1]), some (vI a1), some (vI a2), some (vI a3), some (vI a4), some (vI 0), some (vI a6)]) d_Rf_layPaid_68 rfl (Nat.le_of_ble_eq_true rfl) rfl ?_
    refine Rn.iconst (n := 71) (v := 0) d_Rf_layPaid_70 rfl (by decide) ?_
    refine Rn.istore (n := 73) (i := 6) (ls2 := [some (vR [1]), some (vI a1), some (vI a2), some (vI a3), some (vI a4), some (vI 0), some (vI 0)]) d_Rf_layPaid_71 rfl (Nat.le_of_ble_eq_true rfl) rfl ?_
    exact k
  · have k := k.2 cc
    refine Rn.aload_n (n := 26) (i := 0) d_Rf_layPaid_25 rfl rfl rfl ?_
    refine Rn.getf (n := 29) (v := vI (h.1 [1] 3)) d_Rf_layPaid_26 rfl fl_Rf_70 Lv_1 rfl ?_
    refine Rn.iload (n := 31) (i := 6) d_Rf_layPaid_29 rfl rfl ?_
    obtain ⟨Q'8, ev5, k⟩ := k
    refine Rn.callS (n := 34) (av := [vI (h.1 [1] 3), vI a6]) d_Rf_layPaid_31 rfl ml_Rf_layPaid_73 ms_Rf_has rfl rfl (Nat.le_of_ble_eq_true rfl) ev5 (fun v h7 hq => ?_)
    obtain ⟨r9, rfl, hq⟩ := hq
    have k := k r9 h7 hq
    show Rn X m_Rf_layPaid 34 [some (vR [1]), some (vI a1), some (vI a2), some (vI a3), some (vI a4), some (vI a5), some (vI a6)] [vI r9] h7 Q
    refine Rn.if_eq (n := 37) (t := 55) d_Rf_layPaid_34 rfl (by decide) (fun cc => ?_) (fun cc => ?_)
    · have k := k.1 cc
      refine Rn.iinc (n := 58) (i := 6) (v := a6 + 1) (ls2 := [some (vR [1]), some (vI a1), some (vI a2), some (vI a3), some (vI a4), some (vI a5), some (vI (a6 + 1))]) d_Rf_layPaid_55 rfl rfl rfl (Nat.le_of_ble_eq_true rfl) rfl ?_
      refine Rn.goto (n := 18) d_Rf_layPaid_58 (by decide) ?_
      exact k
    · have k := k.2 cc
      refine Rn.aload_n (n := 38) (i := 0) d_Rf_layPaid_37 rfl rfl rfl ?_
      refine Rn.getf (n := 41) (v := vR [22, 1]) d_Rf_layPaid_38 rfl fl_Rf_42 Lv_1 rfl ?_
      refine Rn.iload (n := 43) (i := 6) d_Rf_layPaid_41 rfl rfl ?_
      refine Rn.iload (n := 45) (i := 4) d_Rf_layPaid_43 rfl rfl ?_
      refine Rn.iload (n := 47) (i := 5) d_Rf_layPaid_45 rfl rfl ?_
      refine Rn.iload_n (n := 48) (i := 1) d_Rf_layPaid_47 rfl rfl rfl ?_
      obtain ⟨Q'13, ev10, k⟩ := k
      refine Rn.callS (n := 51) (av := [vI a4, vI a5, vI a1]) d_Rf_layPaid_48 rfl ml_Rf_layPaid_229 ms_Rf_figure rfl rfl (Nat.le_of_ble_eq_true rfl) ev10 (fun v h12 hq => ?_)
      obtain ⟨r14, rfl, hq⟩ := hq
      have k := k r14 h12 hq
      show Rn X m_Rf_layPaid 51 [some (vR [1]), some (vI a1), some (vI a2), some (vI a3), some (vI a4), some (vI a5), some (vI a6)] [vI r14, vI a6, vR [22, 1]] h12 Q
      obtain ⟨b15, k⟩ := k
      refine Rn.iast (n := 52) d_Rf_layPaid_51 rfl Lv_22_1 b15 ?_
      refine Rn.iinc (n := 55) (i := 5) (v := a5 + 1) (ls2 := [some (vR [1]), some (vI a1), some (vI a2), some (vI a3), some (vI a4), some (vI (a5 + 1)), some (vI a6)]) d_Rf_layPaid_52 rfl rfl rfl (Nat.le_of_ble_eq_true rfl) rfl ?_
      refine Rn.iinc (n := 58) (i := 6) (v := a6 + 1) (ls2 := [some (vR [1]), some (vI a1), some (vI a2), some (vI a3), some (vI a4), some (vI (a5 + 1)), some (vI (a6 + 1))]) d_Rf_layPaid_55 rfl rfl rfl (Nat.le_of_ble_eq_true rfl) rfl ?_
      refine Rn.goto (n := 18) d_Rf_layPaid_58 (by decide) ?_
      exact k
theorem g_Rf_layPaid_73 {X : XS} (a1 : Int32) (a2 : Int32) (a3 : Int32) (a4 : Int32) (a5 : Int32) (a6 : Int32) (h : Hp) (Q : Option AV → Hp → Prop)  (k : ((6 ≤ a6 → Rn X m_Rf_layPaid 3 [some (vR [1]), some (vI a1), some (vI a2), some (vI a3), some (vI (a4 + 1)), none, none] [] h Q) ∧ (¬ 6 ≤ a6 → (∃ Q'4, EvI X m_Rf_has [vI (h.1 [1] 3), vI a6] h Q'4 ∧ ∀ (r5 : Int32) (h3 : Hp), Q'4 r5 h3 → ((r5 = 0 → Rn X m_Rf_layPaid 73 [some (vR [1]), some (vI a1), some (vI a2), some (vI a3), some (vI a4), some (vI a5), some (vI (a6 + 1))] [] h3 Q) ∧ (¬ r5 = 0 → (vp_in a6 6 ∧ (vp_in ((4 * a4) + a5) 324 ∧ Rn X m_Rf_layPaid 73 [some (vR [1]), some (vI a1), some (vI a2), some (vI a3), some (vI a4), some (vI (a5 + 1)), some (vI (a6 + 1))] [] (hsI h3 [30, 1] (((4 * a4) + a5).toNatClampNeg) (h3.1 [29, 1] a6.toNatClampNeg)) Q)))))))) : Rn X m_Rf_layPaid 73 [some (vR [1]), some (vI a1), some (vI a2), some (vI a3), some (vI a4), some (vI a5), some (vI a6)] [] h Q := by
  refine Rn.iload (n := 75) (i := 6) d_Rf_layPaid_73 rfl rfl ?_
  refine Rn.bipush (n := 77) (v := 6) d_Rf_layPaid_75 rfl (by decide) ?_
  refine Rn.icmp_ge (n := 80) (t := 120) d_Rf_layPaid_77 rfl (by decide) (fun cc => ?_) (fun cc => ?_)
  · have k := k.1 cc
    refine Rn.iinc (n := 123) (i := 4) (v := a4 + 1) (ls2 := [some (vR [1]), some (vI a1), some (vI a2), some (vI a3), some (vI (a4 + 1)), some (vI a5), some (vI a6)]) d_Rf_layPaid_120 rfl rfl rfl (Nat.le_of_ble_eq_true rfl) rfl ?_
    refine Rn.goto (n := 3) d_Rf_layPaid_123 (by decide) ?_
    exact Rn.loc [some (vR [1]), some (vI a1), some (vI a2), some (vI a3), some (vI (a4 + 1)), none, none] (LLe_ok ⟨rfl, ⟨rfl, ⟨rfl, ⟨rfl, ⟨rfl, trivial⟩⟩⟩⟩⟩) k
  · have k := k.2 cc
    refine Rn.aload_n (n := 81) (i := 0) d_Rf_layPaid_80 rfl rfl rfl ?_
    refine Rn.getf (n := 84) (v := vI (h.1 [1] 3)) d_Rf_layPaid_81 rfl fl_Rf_70 Lv_1 rfl ?_
    refine Rn.iload (n := 86) (i := 6) d_Rf_layPaid_84 rfl rfl ?_
    obtain ⟨Q'4, ev1, k⟩ := k
    refine Rn.callS (n := 89) (av := [vI (h.1 [1] 3), vI a6]) d_Rf_layPaid_86 rfl ml_Rf_layPaid_73 ms_Rf_has rfl rfl (Nat.le_of_ble_eq_true rfl) ev1 (fun v h3 hq => ?_)
    obtain ⟨r5, rfl, hq⟩ := hq
    have k := k r5 h3 hq
    show Rn X m_Rf_layPaid 89 [some (vR [1]), some (vI a1), some (vI a2), some (vI a3), some (vI a4), some (vI a5), some (vI a6)] [vI r5] h3 Q
    refine Rn.if_eq (n := 92) (t := 114) d_Rf_layPaid_89 rfl (by decide) (fun cc => ?_) (fun cc => ?_)
    · have k := k.1 cc
      refine Rn.iinc (n := 117) (i := 6) (v := a6 + 1) (ls2 := [some (vR [1]), some (vI a1), some (vI a2), some (vI a3), some (vI a4), some (vI a5), some (vI (a6 + 1))]) d_Rf_layPaid_114 rfl rfl rfl (Nat.le_of_ble_eq_true rfl) rfl ?_
      refine Rn.goto (n := 73) d_Rf_layPaid_117 (by decide) ?_
      exact k
    · have k := k.2 cc
      refine Rn.aload_n (n := 93) (i := 0) d_Rf_layPaid_92 rfl rfl rfl ?_
      refine Rn.getf (n := 96) (v := vR [30, 1]) d_Rf_layPaid_93 rfl fl_Rf_63 Lv_1 rfl ?_
      refine Rn.iconst (n := 97) (v := 4) d_Rf_layPaid_96 rfl (by decide) ?_
      refine Rn.iload (n := 99) (i := 4) d_Rf_layPaid_97 rfl rfl ?_
      refine Rn.imul (n := 100) d_Rf_layPaid_99 rfl ?_
      refine Rn.iload (n := 102) (i := 5) d_Rf_layPaid_100 rfl rfl ?_
      refine Rn.iadd (n := 103) d_Rf_layPaid_102 rfl ?_
      refine Rn.aload_n (n := 104) (i := 0) d_Rf_layPaid_103 rfl rfl rfl ?_
      refine Rn.getf (n := 107) (v := vR [29, 1]) d_Rf_layPaid_104 rfl fl_Rf_60 Lv_1 rfl ?_
      refine Rn.iload (n := 109) (i := 6) d_Rf_layPaid_107 rfl rfl ?_
      obtain ⟨b6, k⟩ := k
      refine Rn.iald (n := 110) (v := h3.1 [29, 1] a6.toNatClampNeg) d_Rf_layPaid_109 rfl Lv_29_1 b6 rfl ?_
      obtain ⟨b7, k⟩ := k
      refine Rn.iast (n := 111) d_Rf_layPaid_110 rfl Lv_30_1 b7 ?_
      refine Rn.iinc (n := 114) (i := 5) (v := a5 + 1) (ls2 := [some (vR [1]), some (vI a1), some (vI a2), some (vI a3), some (vI a4), some (vI (a5 + 1)), some (vI a6)]) d_Rf_layPaid_111 rfl rfl rfl (Nat.le_of_ble_eq_true rfl) rfl ?_
      refine Rn.iinc (n := 117) (i := 6) (v := a6 + 1) (ls2 := [some (vR [1]), some (vI a1), some (vI a2), some (vI a3), some (vI a4), some (vI (a5 + 1)), some (vI (a6 + 1))]) d_Rf_layPaid_114 rfl rfl rfl (Nat.le_of_ble_eq_true rfl) rfl ?_
      refine Rn.goto (n := 73) d_Rf_layPaid_117 (by decide) ?_
      exact k
theorem e_Rf_layPaid {X : XS} (a1 : Int32) (a2 : Int32) (a3 : Int32) (h : Hp) (Q : Option AV → Hp → Prop) (k : Rn X m_Rf_layPaid 0 [some (vR [1]), some (vI a1), some (vI a2), some (vI a3), none, none, none] [] h Q) : Ev X m_Rf_layPaid [vR [1], vI a1, vI a2, vI a3] h Q := Ev.intro (plainFor_of_name (by decide +kernel)) (Nat.le_of_ble_eq_true rfl) (ls := [some (vR [1]), some (vI a1), some (vI a2), some (vI a3), none, none, none]) rfl k
theorem d_Rf_doesRest_0 : decode m_Rf_doesRest.2.1 0 = .ok (.iconst 1, 1) := by decide +kernel
theorem d_Rf_doesRest_1 : decode m_Rf_doesRest.2.1 1 = .ok (.istore_n 3, 1) := by decide +kernel
theorem d_Rf_doesRest_2 : decode m_Rf_doesRest.2.1 2 = .ok (.iconst 0, 1) := by decide +kernel
theorem d_Rf_doesRest_3 : decode m_Rf_doesRest.2.1 3 = .ok (.istore 4, 2) := by decide +kernel
theorem d_Rf_doesRest_5 : decode m_Rf_doesRest.2.1 5 = .ok (.iload 4, 2) := by decide +kernel
theorem d_Rf_doesRest_7 : decode m_Rf_doesRest.2.1 7 = .ok (.iload_n 2, 1) := by decide +kernel
theorem d_Rf_doesRest_8 : decode m_Rf_doesRest.2.1 8 = .ok (.if_icmp .ge 94, 3) := by decide +kernel
theorem d_Rf_doesRest_11 : decode m_Rf_doesRest.2.1 11 = .ok (.iload_n 1, 1) := by decide +kernel
theorem d_Rf_doesRest_12 : decode m_Rf_doesRest.2.1 12 = .ok (.iload_n 1, 1) := by decide +kernel
theorem d_Rf_doesRest_13 : decode m_Rf_doesRest.2.1 13 = .ok (.iload 4, 2) := by decide +kernel
theorem d_Rf_doesRest_15 : decode m_Rf_doesRest.2.1 15 = .ok (.iload_n 2, 1) := by decide +kernel
theorem d_Rf_doesRest_16 : decode m_Rf_doesRest.2.1 16 = .ok (.invokestatic 229, 3) := by decide +kernel
theorem d_Rf_doesRest_19 : decode m_Rf_doesRest.2.1 19 = .ok (.iload_n 2, 1) := by decide +kernel
theorem d_Rf_doesRest_20 : decode m_Rf_doesRest.2.1 20 = .ok (.iconst 1, 1) := by decide +kernel
theorem d_Rf_doesRest_21 : decode m_Rf_doesRest.2.1 21 = .ok (.isub, 1) := by decide +kernel
theorem d_Rf_doesRest_22 : decode m_Rf_doesRest.2.1 22 = .ok (.iload 4, 2) := by decide +kernel
theorem d_Rf_doesRest_24 : decode m_Rf_doesRest.2.1 24 = .ok (.isub, 1) := by decide +kernel
theorem d_Rf_doesRest_25 : decode m_Rf_doesRest.2.1 25 = .ok (.invokestatic 226, 3) := by decide +kernel
theorem d_Rf_doesRest_28 : decode m_Rf_doesRest.2.1 28 = .ok (.imul, 1) := by decide +kernel
theorem d_Rf_doesRest_29 : decode m_Rf_doesRest.2.1 29 = .ok (.isub, 1) := by decide +kernel
theorem d_Rf_doesRest_30 : decode m_Rf_doesRest.2.1 30 = .ok (.istore 5, 2) := by decide +kernel
theorem d_Rf_doesRest_32 : decode m_Rf_doesRest.2.1 32 = .ok (.iconst 0, 1) := by decide +kernel
theorem d_Rf_doesRest_33 : decode m_Rf_doesRest.2.1 33 = .ok (.istore 6, 2) := by decide +kernel
theorem d_Rf_doesRest_35 : decode m_Rf_doesRest.2.1 35 = .ok (.iload 6, 2) := by decide +kernel
theorem d_Rf_doesRest_37 : decode m_Rf_doesRest.2.1 37 = .ok (.iconst 3, 1) := by decide +kernel
theorem d_Rf_doesRest_38 : decode m_Rf_doesRest.2.1 38 = .ok (.if_icmp .ge 58, 3) := by decide +kernel
theorem d_Rf_doesRest_41 : decode m_Rf_doesRest.2.1 41 = .ok (.iload_n 3, 1) := by decide +kernel
theorem d_Rf_doesRest_42 : decode m_Rf_doesRest.2.1 42 = .ok (.ifCond .eq 46, 3) := by decide +kernel
theorem d_Rf_doesRest_45 : decode m_Rf_doesRest.2.1 45 = .ok (.aload_n 0, 1) := by decide +kernel
theorem d_Rf_doesRest_46 : decode m_Rf_doesRest.2.1 46 = .ok (.getfield 63, 3) := by decide +kernel
theorem d_Rf_doesRest_49 : decode m_Rf_doesRest.2.1 49 = .ok (.iconst 4, 1) := by decide +kernel
theorem d_Rf_doesRest_50 : decode m_Rf_doesRest.2.1 50 = .ok (.iload 5, 2) := by decide +kernel
theorem d_Rf_doesRest_52 : decode m_Rf_doesRest.2.1 52 = .ok (.iload 6, 2) := by decide +kernel
theorem d_Rf_doesRest_54 : decode m_Rf_doesRest.2.1 54 = .ok (.iload_n 2, 1) := by decide +kernel
theorem d_Rf_doesRest_55 : decode m_Rf_doesRest.2.1 55 = .ok (.iconst 1, 1) := by decide +kernel
theorem d_Rf_doesRest_56 : decode m_Rf_doesRest.2.1 56 = .ok (.isub, 1) := by decide +kernel
theorem d_Rf_doesRest_57 : decode m_Rf_doesRest.2.1 57 = .ok (.iload 4, 2) := by decide +kernel
theorem d_Rf_doesRest_59 : decode m_Rf_doesRest.2.1 59 = .ok (.isub, 1) := by decide +kernel
theorem d_Rf_doesRest_60 : decode m_Rf_doesRest.2.1 60 = .ok (.invokestatic 226, 3) := by decide +kernel
theorem d_Rf_doesRest_63 : decode m_Rf_doesRest.2.1 63 = .ok (.imul, 1) := by decide +kernel
theorem d_Rf_doesRest_64 : decode m_Rf_doesRest.2.1 64 = .ok (.iadd, 1) := by decide +kernel
theorem d_Rf_doesRest_65 : decode m_Rf_doesRest.2.1 65 = .ok (.imul, 1) := by decide +kernel
theorem d_Rf_doesRest_66 : decode m_Rf_doesRest.2.1 66 = .ok (.iload 4, 2) := by decide +kernel
theorem d_Rf_doesRest_68 : decode m_Rf_doesRest.2.1 68 = .ok (.iadd, 1) := by decide +kernel
theorem d_Rf_doesRest_69 : decode m_Rf_doesRest.2.1 69 = .ok (.iaload, 1) := by decide +kernel
theorem d_Rf_doesRest_70 : decode m_Rf_doesRest.2.1 70 = .ok (.aload_n 0, 1) := by decide +kernel
theorem d_Rf_doesRest_71 : decode m_Rf_doesRest.2.1 71 = .ok (.getfield 63, 3) := by decide +kernel
theorem d_Rf_doesRest_74 : decode m_Rf_doesRest.2.1 74 = .ok (.iconst 4, 1) := by decide +kernel
theorem d_Rf_doesRest_75 : decode m_Rf_doesRest.2.1 75 = .ok (.iload_n 1, 1) := by decide +kernel
theorem d_Rf_doesRest_76 : decode m_Rf_doesRest.2.1 76 = .ok (.imul, 1) := by decide +kernel
theorem d_Rf_doesRest_77 : decode m_Rf_doesRest.2.1 77 = .ok (.iload 4, 2) := by decide +kernel
theorem d_Rf_doesRest_79 : decode m_Rf_doesRest.2.1 79 = .ok (.iadd, 1) := by decide +kernel
theorem d_Rf_doesRest_80 : decode m_Rf_doesRest.2.1 80 = .ok (.iaload, 1) := by decide +kernel
theorem d_Rf_doesRest_81 : decode m_Rf_doesRest.2.1 81 = .ok (.if_icmp .lt 7, 3) := by decide +kernel
theorem d_Rf_doesRest_84 : decode m_Rf_doesRest.2.1 84 = .ok (.iconst 1, 1) := by decide +kernel
theorem d_Rf_doesRest_85 : decode m_Rf_doesRest.2.1 85 = .ok (.goto 4, 3) := by decide +kernel
theorem d_Rf_doesRest_88 : decode m_Rf_doesRest.2.1 88 = .ok (.iconst 0, 1) := by decide +kernel
theorem d_Rf_doesRest_89 : decode m_Rf_doesRest.2.1 89 = .ok (.istore_n 3, 1) := by decide +kernel
theorem d_Rf_doesRest_90 : decode m_Rf_doesRest.2.1 90 = .ok (.iinc 6 1, 3) := by decide +kernel
theorem d_Rf_doesRest_93 : decode m_Rf_doesRest.2.1 93 = .ok (.goto (-58), 3) := by decide +kernel
theorem d_Rf_doesRest_96 : decode m_Rf_doesRest.2.1 96 = .ok (.iinc 4 1, 3) := by decide +kernel
theorem d_Rf_doesRest_99 : decode m_Rf_doesRest.2.1 99 = .ok (.goto (-94), 3) := by decide +kernel
theorem d_Rf_doesRest_102 : decode m_Rf_doesRest.2.1 102 = .ok (.iload_n 3, 1) := by decide +kernel
theorem d_Rf_doesRest_103 : decode m_Rf_doesRest.2.1 103 = .ok (.ireturn, 1) := by decide +kernel
theorem g_Rf_doesRest_0 {X : XS} (a1 : Int32) (a2 : Int32) (h : Hp) (Q : Option AV → Hp → Prop)  (k : Rn X m_Rf_doesRest 5 [some (vR [1]), some (vI a1), some (vI a2), some (vI 1), some (vI 0), none, none] [] h Q) : Rn X m_Rf_doesRest 0 [some (vR [1]), some (vI a1), some (vI a2), none, none, none, none] [] h Q := by
  refine Rn.iconst (n := 1) (v := 1) d_Rf_doesRest_0 rfl (by decide) ?_
  refine Rn.istore_n (n := 2) (i := 3) (ls2 := [some (vR [1]), some (vI a1), some (vI a2), some (vI 1), none, none, none]) d_Rf_doesRest_1 rfl rfl (Nat.le_of_ble_eq_true rfl) rfl ?_
  refine Rn.iconst (n := 3) (v := 0) d_Rf_doesRest_2 rfl (by decide) ?_
  refine Rn.istore (n := 5) (i := 4) (ls2 := [some (vR [1]), some (vI a1), some (vI a2), some (vI 1), some (vI 0), none, none]) d_Rf_doesRest_3 rfl (Nat.le_of_ble_eq_true rfl) rfl ?_
  exact k
theorem g_Rf_doesRest_5 {X : XS} (a1 : Int32) (a2 : Int32) (a3 : Int32) (a4 : Int32) (h : Hp) (Q : Option AV → Hp → Prop)  (k : ((a2 ≤ a4 → ((a3 = 0 ∨ a3 = 1) ∧ Q (some (vI a3)) h)) ∧ (¬ a2 ≤ a4 → (∃ Q'4, EvI X m_Rf_figure [vI a1, vI a4, vI a2] h Q'4 ∧ ∀ (r5 : Int32) (h3 : Hp), Q'4 r5 h3 → (∃ Q'9, EvI X m_Rf_power [vI ((a2 - 1) - a4)] h3 Q'9 ∧ ∀ (r10 : Int32) (h8 : Hp), Q'9 r10 h8 → Rn X m_Rf_doesRest 35 [some (vR [1]), some (vI a1), some (vI a2), some (vI a3), some (vI a4), some (vI (a1 - (r5 * r10))), some (vI 0)] [] h8 Q))))) : Rn X m_Rf_doesRest 5 [some (vR [1]), some (vI a1), some (vI a2), some (vI a3), some (vI a4), none, none] [] h Q := by
  refine Rn.iload (n := 7) (i := 4) d_Rf_doesRest_5 rfl rfl ?_
  refine Rn.iload_n (n := 8) (i := 2) d_Rf_doesRest_7 rfl rfl rfl ?_
  refine Rn.icmp_ge (n := 11) (t := 102) d_Rf_doesRest_8 rfl (by decide) (fun cc => ?_) (fun cc => ?_)
  · have k := k.1 cc
    refine Rn.iload_n (n := 103) (i := 3) d_Rf_doesRest_102 rfl rfl rfl ?_
    obtain ⟨hz, k⟩ := k
    exact Rn.iret d_Rf_doesRest_103 rfl (nar_z hz) k
  · have k := k.2 cc
    refine Rn.iload_n (n := 12) (i := 1) d_Rf_doesRest_11 rfl rfl rfl ?_
    refine Rn.iload_n (n := 13) (i := 1) d_Rf_doesRest_12 rfl rfl rfl ?_
    refine Rn.iload (n := 15) (i := 4) d_Rf_doesRest_13 rfl rfl ?_
    refine Rn.iload_n (n := 16) (i := 2) d_Rf_doesRest_15 rfl rfl rfl ?_
    obtain ⟨Q'4, ev1, k⟩ := k
    refine Rn.callS (n := 19) (av := [vI a1, vI a4, vI a2]) d_Rf_doesRest_16 rfl ml_Rf_doesRest_229 ms_Rf_figure rfl rfl (Nat.le_of_ble_eq_true rfl) ev1 (fun v h3 hq => ?_)
    obtain ⟨r5, rfl, hq⟩ := hq
    have k := k r5 h3 hq
    show Rn X m_Rf_doesRest 19 [some (vR [1]), some (vI a1), some (vI a2), some (vI a3), some (vI a4), none, none] [vI r5, vI a1] h3 Q
    refine Rn.iload_n (n := 20) (i := 2) d_Rf_doesRest_19 rfl rfl rfl ?_
    refine Rn.iconst (n := 21) (v := 1) d_Rf_doesRest_20 rfl (by decide) ?_
    refine Rn.isub (n := 22) d_Rf_doesRest_21 rfl ?_
    refine Rn.iload (n := 24) (i := 4) d_Rf_doesRest_22 rfl rfl ?_
    refine Rn.isub (n := 25) d_Rf_doesRest_24 rfl ?_
    obtain ⟨Q'9, ev6, k⟩ := k
    refine Rn.callS (n := 28) (av := [vI ((a2 - 1) - a4)]) d_Rf_doesRest_25 rfl ml_Rf_doesRest_226 ms_Rf_power rfl rfl (Nat.le_of_ble_eq_true rfl) ev6 (fun v h8 hq => ?_)
    obtain ⟨r10, rfl, hq⟩ := hq
    have k := k r10 h8 hq
    show Rn X m_Rf_doesRest 28 [some (vR [1]), some (vI a1), some (vI a2), some (vI a3), some (vI a4), none, none] [vI r10, vI r5, vI a1] h8 Q
    refine Rn.imul (n := 29) d_Rf_doesRest_28 rfl ?_
    refine Rn.isub (n := 30) d_Rf_doesRest_29 rfl ?_
    refine Rn.istore (n := 32) (i := 5) (ls2 := [some (vR [1]), some (vI a1), some (vI a2), some (vI a3), some (vI a4), some (vI (a1 - (r5 * r10))), none]) d_Rf_doesRest_30 rfl (Nat.le_of_ble_eq_true rfl) rfl ?_
    refine Rn.iconst (n := 33) (v := 0) d_Rf_doesRest_32 rfl (by decide) ?_
    refine Rn.istore (n := 35) (i := 6) (ls2 := [some (vR [1]), some (vI a1), some (vI a2), some (vI a3), some (vI a4), some (vI (a1 - (r5 * r10))), some (vI 0)]) d_Rf_doesRest_33 rfl (Nat.le_of_ble_eq_true rfl) rfl ?_
    exact k
theorem g_Rf_doesRest_35 {X : XS} (a1 : Int32) (a2 : Int32) (a3 : Int32) (a4 : Int32) (a5 : Int32) (a6 : Int32) (h : Hp) (Q : Option AV → Hp → Prop)  (k : ((3 ≤ a6 → Rn X m_Rf_doesRest 5 [some (vR [1]), some (vI a1), some (vI a2), some (vI a3), some (vI (a4 + 1)), none, none] [] h Q) ∧ (¬ 3 ≤ a6 → ((a3 = 0 → Rn X m_Rf_doesRest 35 [some (vR [1]), some (vI a1), some (vI a2), some (vI 0), some (vI a4), some (vI a5), some (vI (a6 + 1))] [] h Q) ∧ (¬ a3 = 0 → (∃ Q'4, EvI X m_Rf_power [vI ((a2 - 1) - a4)] h Q'4 ∧ ∀ (r5 : Int32) (h3 : Hp), Q'4 r5 h3 → (vp_in ((4 * (a5 + (a6 * r5))) + a4) 324 ∧ (vp_in ((4 * a1) + a4) 324 ∧ (((h3.1 [30, 1] ((4 * (a5 + (a6 * r5))) + a4).toNatClampNeg) < (h3.1 [30, 1] ((4 * a1) + a4).toNatClampNeg) → Rn X m_Rf_doesRest 35 [some (vR [1]), some (vI a1), some (vI a2), some (vI 0), some (vI a4), some (vI a5), some (vI (a6 + 1))] [] h3 Q) ∧ (¬ (h3.1 [30, 1] ((4 * (a5 + (a6 * r5))) + a4).toNatClampNeg) < (h3.1 [30, 1] ((4 * a1) + a4).toNatClampNeg) → Rn X m_Rf_doesRest 35 [some (vR [1]), some (vI a1), some (vI a2), some (vI 1), some (vI a4), some (vI a5), some (vI (a6 + 1))] [] h3 Q)))))))))) : Rn X m_Rf_doesRest 35 [some (vR [1]), some (vI a1), some (vI a2), some (vI a3), some (vI a4), some (vI a5), some (vI a6)] [] h Q := by
  refine Rn.iload (n := 37) (i := 6) d_Rf_doesRest_35 rfl rfl ?_
  refine Rn.iconst (n := 38) (v := 3) d_Rf_doesRest_37 rfl (by decide) ?_
  refine Rn.icmp_ge (n := 41) (t := 96) d_Rf_doesRest_38 rfl (by decide) (fun cc => ?_) (fun cc => ?_)
  · have k := k.1 cc
    refine Rn.iinc (n := 99) (i := 4) (v := a4 + 1) (ls2 := [some (vR [1]), some (vI a1), some (vI a2), some (vI a3), some (vI (a4 + 1)), some (vI a5), some (vI a6)]) d_Rf_doesRest_96 rfl rfl rfl (Nat.le_of_ble_eq_true rfl) rfl ?_
    refine Rn.goto (n := 5) d_Rf_doesRest_99 (by decide) ?_
    exact Rn.loc [some (vR [1]), some (vI a1), some (vI a2), some (vI a3), some (vI (a4 + 1)), none, none] (LLe_ok ⟨rfl, ⟨rfl, ⟨rfl, ⟨rfl, ⟨rfl, trivial⟩⟩⟩⟩⟩) k
  · have k := k.2 cc
    refine Rn.iload_n (n := 42) (i := 3) d_Rf_doesRest_41 rfl rfl rfl ?_
    refine Rn.if_eq (n := 45) (t := 88) d_Rf_doesRest_42 rfl (by decide) (fun cc => ?_) (fun cc => ?_)
    · have k := k.1 cc
      refine Rn.iconst (n := 89) (v := 0) d_Rf_doesRest_88 rfl (by decide) ?_
      refine Rn.istore_n (n := 90) (i := 3) (ls2 := [some (vR [1]), some (vI a1), some (vI a2), some (vI 0), some (vI a4), some (vI a5), some (vI a6)]) d_Rf_doesRest_89 rfl rfl (Nat.le_of_ble_eq_true rfl) rfl ?_
      refine Rn.iinc (n := 93) (i := 6) (v := a6 + 1) (ls2 := [some (vR [1]), some (vI a1), some (vI a2), some (vI 0), some (vI a4), some (vI a5), some (vI (a6 + 1))]) d_Rf_doesRest_90 rfl rfl rfl (Nat.le_of_ble_eq_true rfl) rfl ?_
      refine Rn.goto (n := 35) d_Rf_doesRest_93 (by decide) ?_
      exact k
    · have k := k.2 cc
      refine Rn.aload_n (n := 46) (i := 0) d_Rf_doesRest_45 rfl rfl rfl ?_
      refine Rn.getf (n := 49) (v := vR [30, 1]) d_Rf_doesRest_46 rfl fl_Rf_63 Lv_1 rfl ?_
      refine Rn.iconst (n := 50) (v := 4) d_Rf_doesRest_49 rfl (by decide) ?_
      refine Rn.iload (n := 52) (i := 5) d_Rf_doesRest_50 rfl rfl ?_
      refine Rn.iload (n := 54) (i := 6) d_Rf_doesRest_52 rfl rfl ?_
      refine Rn.iload_n (n := 55) (i := 2) d_Rf_doesRest_54 rfl rfl rfl ?_
      refine Rn.iconst (n := 56) (v := 1) d_Rf_doesRest_55 rfl (by decide) ?_
      refine Rn.isub (n := 57) d_Rf_doesRest_56 rfl ?_
      refine Rn.iload (n := 59) (i := 4) d_Rf_doesRest_57 rfl rfl ?_
      refine Rn.isub (n := 60) d_Rf_doesRest_59 rfl ?_
      obtain ⟨Q'4, ev1, k⟩ := k
      refine Rn.callS (n := 63) (av := [vI ((a2 - 1) - a4)]) d_Rf_doesRest_60 rfl ml_Rf_doesRest_226 ms_Rf_power rfl rfl (Nat.le_of_ble_eq_true rfl) ev1 (fun v h3 hq => ?_)
      obtain ⟨r5, rfl, hq⟩ := hq
      have k := k r5 h3 hq
      show Rn X m_Rf_doesRest 63 [some (vR [1]), some (vI a1), some (vI a2), some (vI a3), some (vI a4), some (vI a5), some (vI a6)] [vI r5, vI a6, vI a5, vI 4, vR [30, 1]] h3 Q
      refine Rn.imul (n := 64) d_Rf_doesRest_63 rfl ?_
      refine Rn.iadd (n := 65) d_Rf_doesRest_64 rfl ?_
      refine Rn.imul (n := 66) d_Rf_doesRest_65 rfl ?_
      refine Rn.iload (n := 68) (i := 4) d_Rf_doesRest_66 rfl rfl ?_
      refine Rn.iadd (n := 69) d_Rf_doesRest_68 rfl ?_
      obtain ⟨b6, k⟩ := k
      refine Rn.iald (n := 70) (v := h3.1 [30, 1] ((4 * (a5 + (a6 * r5))) + a4).toNatClampNeg) d_Rf_doesRest_69 rfl Lv_30_1 b6 rfl ?_
      refine Rn.aload_n (n := 71) (i := 0) d_Rf_doesRest_70 rfl rfl rfl ?_
      refine Rn.getf (n := 74) (v := vR [30, 1]) d_Rf_doesRest_71 rfl fl_Rf_63 Lv_1 rfl ?_
      refine Rn.iconst (n := 75) (v := 4) d_Rf_doesRest_74 rfl (by decide) ?_
      refine Rn.iload_n (n := 76) (i := 1) d_Rf_doesRest_75 rfl rfl rfl ?_
      refine Rn.imul (n := 77) d_Rf_doesRest_76 rfl ?_
      refine Rn.iload (n := 79) (i := 4) d_Rf_doesRest_77 rfl rfl ?_
      refine Rn.iadd (n := 80) d_Rf_doesRest_79 rfl ?_
      obtain ⟨b7, k⟩ := k
      refine Rn.iald (n := 81) (v := h3.1 [30, 1] ((4 * a1) + a4).toNatClampNeg) d_Rf_doesRest_80 rfl Lv_30_1 b7 rfl ?_
      refine Rn.icmp_lt (n := 84) (t := 88) d_Rf_doesRest_81 rfl (by decide) (fun cc => ?_) (fun cc => ?_)
      · have k := k.1 cc
        refine Rn.iconst (n := 89) (v := 0) d_Rf_doesRest_88 rfl (by decide) ?_
        refine Rn.istore_n (n := 90) (i := 3) (ls2 := [some (vR [1]), some (vI a1), some (vI a2), some (vI 0), some (vI a4), some (vI a5), some (vI a6)]) d_Rf_doesRest_89 rfl rfl (Nat.le_of_ble_eq_true rfl) rfl ?_
        refine Rn.iinc (n := 93) (i := 6) (v := a6 + 1) (ls2 := [some (vR [1]), some (vI a1), some (vI a2), some (vI 0), some (vI a4), some (vI a5), some (vI (a6 + 1))]) d_Rf_doesRest_90 rfl rfl rfl (Nat.le_of_ble_eq_true rfl) rfl ?_
        refine Rn.goto (n := 35) d_Rf_doesRest_93 (by decide) ?_
        exact k
      · have k := k.2 cc
        refine Rn.iconst (n := 85) (v := 1) d_Rf_doesRest_84 rfl (by decide) ?_
        refine Rn.goto (n := 89) d_Rf_doesRest_85 (by decide) ?_
        refine Rn.istore_n (n := 90) (i := 3) (ls2 := [some (vR [1]), some (vI a1), some (vI a2), some (vI 1), some (vI a4), some (vI a5), some (vI a6)]) d_Rf_doesRest_89 rfl rfl (Nat.le_of_ble_eq_true rfl) rfl ?_
        refine Rn.iinc (n := 93) (i := 6) (v := a6 + 1) (ls2 := [some (vR [1]), some (vI a1), some (vI a2), some (vI 1), some (vI a4), some (vI a5), some (vI (a6 + 1))]) d_Rf_doesRest_90 rfl rfl rfl (Nat.le_of_ble_eq_true rfl) rfl ?_
        refine Rn.goto (n := 35) d_Rf_doesRest_93 (by decide) ?_
        exact k
theorem e_Rf_doesRest {X : XS} (a1 : Int32) (a2 : Int32) (h : Hp) (Q : Option AV → Hp → Prop) (k : Rn X m_Rf_doesRest 0 [some (vR [1]), some (vI a1), some (vI a2), none, none, none, none] [] h Q) : Ev X m_Rf_doesRest [vR [1], vI a1, vI a2] h Q := Ev.intro (plainFor_of_name (by decide +kernel)) (Nat.le_of_ble_eq_true rfl) (ls := [some (vR [1]), some (vI a1), some (vI a2), none, none, none, none]) rfl k
theorem d_Rf_rests_0 : decode m_Rf_rests.2.1 0 = .ok (.iload_n 1, 1) := by decide +kernel
theorem d_Rf_rests_1 : decode m_Rf_rests.2.1 1 = .ok (.iload_n 2, 1) := by decide +kernel
theorem d_Rf_rests_2 : decode m_Rf_rests.2.1 2 = .ok (.invokestatic 216, 3) := by decide +kernel
theorem d_Rf_rests_5 : decode m_Rf_rests.2.1 5 = .ok (.ifCond .eq 12, 3) := by decide +kernel
theorem d_Rf_rests_8 : decode m_Rf_rests.2.1 8 = .ok (.iload_n 3, 1) := by decide +kernel
theorem d_Rf_rests_9 : decode m_Rf_rests.2.1 9 = .ok (.iconst 0, 1) := by decide +kernel
theorem d_Rf_rests_10 : decode m_Rf_rests.2.1 10 = .ok (.iconst 1, 1) := by decide +kernel
theorem d_Rf_rests_11 : decode m_Rf_rests.2.1 11 = .ok (.invokestatic 66, 3) := by decide +kernel
theorem d_Rf_rests_14 : decode m_Rf_rests.2.1 14 = .ok (.ifCond .ne 6, 3) := by decide +kernel
theorem d_Rf_rests_17 : decode m_Rf_rests.2.1 17 = .ok (.bipush (-3), 2) := by decide +kernel
theorem d_Rf_rests_19 : decode m_Rf_rests.2.1 19 = .ok (.ireturn, 1) := by decide +kernel
theorem d_Rf_rests_20 : decode m_Rf_rests.2.1 20 = .ok (.aload_n 0, 1) := by decide +kernel
theorem d_Rf_rests_21 : decode m_Rf_rests.2.1 21 = .ok (.getfield 70, 3) := by decide +kernel
theorem d_Rf_rests_24 : decode m_Rf_rests.2.1 24 = .ok (.invokestatic 219, 3) := by decide +kernel
theorem d_Rf_rests_27 : decode m_Rf_rests.2.1 27 = .ok (.istore 4, 2) := by decide +kernel
theorem d_Rf_rests_29 : decode m_Rf_rests.2.1 29 = .ok (.iload 4, 2) := by decide +kernel
theorem d_Rf_rests_31 : decode m_Rf_rests.2.1 31 = .ok (.iconst 4, 1) := by decide +kernel
theorem d_Rf_rests_32 : decode m_Rf_rests.2.1 32 = .ok (.if_icmp .le 6, 3) := by decide +kernel
theorem d_Rf_rests_35 : decode m_Rf_rests.2.1 35 = .ok (.bipush (-4), 2) := by decide +kernel
theorem d_Rf_rests_37 : decode m_Rf_rests.2.1 37 = .ok (.ireturn, 1) := by decide +kernel
theorem d_Rf_rests_38 : decode m_Rf_rests.2.1 38 = .ok (.aload_n 0, 1) := by decide +kernel
theorem d_Rf_rests_39 : decode m_Rf_rests.2.1 39 = .ok (.iload 4, 2) := by decide +kernel
theorem d_Rf_rests_41 : decode m_Rf_rests.2.1 41 = .ok (.iload_n 1, 1) := by decide +kernel
theorem d_Rf_rests_42 : decode m_Rf_rests.2.1 42 = .ok (.iload_n 2, 1) := by decide +kernel
theorem d_Rf_rests_43 : decode m_Rf_rests.2.1 43 = .ok (.invokevirtual 233, 3) := by decide +kernel
theorem d_Rf_rests_46 : decode m_Rf_rests.2.1 46 = .ok (.iconst 0, 1) := by decide +kernel
theorem d_Rf_rests_47 : decode m_Rf_rests.2.1 47 = .ok (.istore 5, 2) := by decide +kernel
theorem d_Rf_rests_49 : decode m_Rf_rests.2.1 49 = .ok (.iconst (-1), 1) := by decide +kernel
theorem d_Rf_rests_50 : decode m_Rf_rests.2.1 50 = .ok (.istore 6, 2) := by decide +kernel
theorem d_Rf_rests_52 : decode m_Rf_rests.2.1 52 = .ok (.iconst 0, 1) := by decide +kernel
theorem d_Rf_rests_53 : decode m_Rf_rests.2.1 53 = .ok (.istore 7, 2) := by decide +kernel
theorem d_Rf_rests_55 : decode m_Rf_rests.2.1 55 = .ok (.iload 7, 2) := by decide +kernel
theorem d_Rf_rests_57 : decode m_Rf_rests.2.1 57 = .ok (.iload 4, 2) := by decide +kernel
theorem d_Rf_rests_59 : decode m_Rf_rests.2.1 59 = .ok (.invokestatic 226, 3) := by decide +kernel
theorem d_Rf_rests_62 : decode m_Rf_rests.2.1 62 = .ok (.if_icmp .ge 37, 3) := by decide +kernel
theorem d_Rf_rests_65 : decode m_Rf_rests.2.1 65 = .ok (.aload_n 0, 1) := by decide +kernel
theorem d_Rf_rests_66 : decode m_Rf_rests.2.1 66 = .ok (.iload 7, 2) := by decide +kernel
theorem d_Rf_rests_68 : decode m_Rf_rests.2.1 68 = .ok (.iload 4, 2) := by decide +kernel
theorem d_Rf_rests_70 : decode m_Rf_rests.2.1 70 = .ok (.invokevirtual 237, 3) := by decide +kernel
theorem d_Rf_rests_73 : decode m_Rf_rests.2.1 73 = .ok (.ifCond .eq 20, 3) := by decide +kernel
theorem d_Rf_rests_76 : decode m_Rf_rests.2.1 76 = .ok (.iload 5, 2) := by decide +kernel
theorem d_Rf_rests_78 : decode m_Rf_rests.2.1 78 = .ok (.ifCond .ne 8, 3) := by decide +kernel
theorem d_Rf_rests_81 : decode m_Rf_rests.2.1 81 = .ok (.iload 7, 2) := by decide +kernel
theorem d_Rf_rests_83 : decode m_Rf_rests.2.1 83 = .ok (.goto 5, 3) := by decide +kernel
theorem d_Rf_rests_86 : decode m_Rf_rests.2.1 86 = .ok (.iload 6, 2) := by decide +kernel
theorem d_Rf_rests_88 : decode m_Rf_rests.2.1 88 = .ok (.istore 6, 2) := by decide +kernel
theorem d_Rf_rests_90 : decode m_Rf_rests.2.1 90 = .ok (.iinc 5 1, 3) := by decide +kernel
theorem d_Rf_rests_93 : decode m_Rf_rests.2.1 93 = .ok (.iinc 7 1, 3) := by decide +kernel
theorem d_Rf_rests_96 : decode m_Rf_rests.2.1 96 = .ok (.goto (-41), 3) := by decide +kernel
theorem d_Rf_rests_99 : decode m_Rf_rests.2.1 99 = .ok (.iload_n 3, 1) := by decide +kernel
theorem d_Rf_rests_100 : decode m_Rf_rests.2.1 100 = .ok (.ifCond .eq 9, 3) := by decide +kernel
theorem d_Rf_rests_103 : decode m_Rf_rests.2.1 103 = .ok (.iload 6, 2) := by decide +kernel
theorem d_Rf_rests_105 : decode m_Rf_rests.2.1 105 = .ok (.iconst (-1), 1) := by decide +kernel
theorem d_Rf_rests_106 : decode m_Rf_rests.2.1 106 = .ok (.if_icmp .ne 14, 3) := by decide +kernel
theorem d_Rf_rests_109 : decode m_Rf_rests.2.1 109 = .ok (.iload_n 3, 1) := by decide +kernel
theorem d_Rf_rests_110 : decode m_Rf_rests.2.1 110 = .ok (.ifCond .ne 8, 3) := by decide +kernel
theorem d_Rf_rests_113 : decode m_Rf_rests.2.1 113 = .ok (.iload 5, 2) := by decide +kernel
theorem d_Rf_rests_115 : decode m_Rf_rests.2.1 115 = .ok (.goto 4, 3) := by decide +kernel
theorem d_Rf_rests_118 : decode m_Rf_rests.2.1 118 = .ok (.iconst (-1), 1) := by decide +kernel
theorem d_Rf_rests_119 : decode m_Rf_rests.2.1 119 = .ok (.ireturn, 1) := by decide +kernel
theorem d_Rf_rests_120 : decode m_Rf_rests.2.1 120 = .ok (.iconst 0, 1) := by decide +kernel
theorem d_Rf_rests_121 : decode m_Rf_rests.2.1 121 = .ok (.istore 7, 2) := by decide +kernel
theorem d_Rf_rests_123 : decode m_Rf_rests.2.1 123 = .ok (.iconst 0, 1) := by decide +kernel
theorem d_Rf_rests_124 : decode m_Rf_rests.2.1 124 = .ok (.istore 8, 2) := by decide +kernel
theorem d_Rf_rests_126 : decode m_Rf_rests.2.1 126 = .ok (.iload 8, 2) := by decide +kernel
theorem d_Rf_rests_128 : decode m_Rf_rests.2.1 128 = .ok (.iload 4, 2) := by decide +kernel
theorem d_Rf_rests_130 : decode m_Rf_rests.2.1 130 = .ok (.if_icmp .ge 28, 3) := by decide +kernel
theorem d_Rf_rests_133 : decode m_Rf_rests.2.1 133 = .ok (.iload 7, 2) := by decide +kernel
theorem d_Rf_rests_135 : decode m_Rf_rests.2.1 135 = .ok (.iload 6, 2) := by decide +kernel
theorem d_Rf_rests_137 : decode m_Rf_rests.2.1 137 = .ok (.iload 8, 2) := by decide +kernel
theorem d_Rf_rests_139 : decode m_Rf_rests.2.1 139 = .ok (.iload 4, 2) := by decide +kernel
theorem d_Rf_rests_141 : decode m_Rf_rests.2.1 141 = .ok (.invokestatic 229, 3) := by decide +kernel
theorem d_Rf_rests_144 : decode m_Rf_rests.2.1 144 = .ok (.iconst 2, 1) := by decide +kernel
theorem d_Rf_rests_145 : decode m_Rf_rests.2.1 145 = .ok (.iload 8, 2) := by decide +kernel
theorem d_Rf_rests_147 : decode m_Rf_rests.2.1 147 = .ok (.imul, 1) := by decide +kernel
theorem d_Rf_rests_148 : decode m_Rf_rests.2.1 148 = .ok (.ishl, 1) := by decide +kernel
theorem d_Rf_rests_149 : decode m_Rf_rests.2.1 149 = .ok (.ior, 1) := by decide +kernel
theorem d_Rf_rests_150 : decode m_Rf_rests.2.1 150 = .ok (.istore 7, 2) := by decide +kernel
theorem d_Rf_rests_152 : decode m_Rf_rests.2.1 152 = .ok (.iinc 8 1, 3) := by decide +kernel
theorem d_Rf_rests_155 : decode m_Rf_rests.2.1 155 = .ok (.goto (-29), 3) := by decide +kernel
theorem d_Rf_rests_158 : decode m_Rf_rests.2.1 158 = .ok (.iload 7, 2) := by decide +kernel
theorem d_Rf_rests_160 : decode m_Rf_rests.2.1 160 = .ok (.ireturn, 1) := by decide +kernel
theorem g_Rf_rests_0 {X : XS} (a1 : Int32) (a2 : Int32) (a3 : Int32) (h : Hp) (Q : Option AV → Hp → Prop)  (k : (∃ Q'4, EvI X m_Rf_arePrices [vI a1, vI a2] h Q'4 ∧ ∀ (r5 : Int32) (h3 : Hp), Q'4 r5 h3 → ((r5 = 0 → Q (some (vI (-3))) h3) ∧ (¬ r5 = 0 → (∃ Q'9, EvI X m_Rf_in [vI a3, vI 0, vI 1] h3 Q'9 ∧ ∀ (r10 : Int32) (h8 : Hp), Q'9 r10 h8 → ((¬ r10 = 0 → (∃ Q'14, EvI X m_Rf_bits [vI (h8.1 [1] 3)] h8 Q'14 ∧ ∀ (r15 : Int32) (h13 : Hp), Q'14 r15 h13 → ((r15 ≤ 4 → (∃ Q'19, EvV X m_Rf_layPaid [vR [1], vI r15, vI a1, vI a2] h13 Q'19 ∧ ∀ (h18 : Hp), Q'19 h18 → Rn X m_Rf_rests 55 [some (vR [1]), some (vI a1), some (vI a2), some (vI a3), some (vI r15), some (vI 0), some (vI (-1)), some (vI 0), none] [] h18 Q)) ∧ (¬ r15 ≤ 4 → Q (some (vI (-4))) h13)))) ∧ (r10 = 0 → Q (some (vI (-3))) h8))))))) : Rn X m_Rf_rests 0 [some (vR [1]), some (vI a1), some (vI a2), some (vI a3), none, none, none, none, none] [] h Q := by
  refine Rn.iload_n (n := 1) (i := 1) d_Rf_rests_0 rfl rfl rfl ?_
  refine Rn.iload_n (n := 2) (i := 2) d_Rf_rests_1 rfl rfl rfl ?_
  obtain ⟨Q'4, ev1, k⟩ := k
  refine Rn.callS (n := 5) (av := [vI a1, vI a2]) d_Rf_rests_2 rfl ml_Rf_rests_216 ms_Rf_arePrices rfl rfl (Nat.le_of_ble_eq_true rfl) ev1 (fun v h3 hq => ?_)
  obtain ⟨r5, rfl, hq⟩ := hq
  have k := k r5 h3 hq
  show Rn X m_Rf_rests 5 [some (vR [1]), some (vI a1), some (vI a2), some (vI a3), none, none, none, none, none] [vI r5] h3 Q
  refine Rn.if_eq (n := 8) (t := 17) d_Rf_rests_5 rfl (by decide) (fun cc => ?_) (fun cc => ?_)
  · have k := k.1 cc
    refine Rn.bipush (n := 19) (v := (-3)) d_Rf_rests_17 rfl (by decide) ?_
    exact Rn.iret d_Rf_rests_19 rfl rfl k
  · have k := k.2 cc
    refine Rn.iload_n (n := 9) (i := 3) d_Rf_rests_8 rfl rfl rfl ?_
    refine Rn.iconst (n := 10) (v := 0) d_Rf_rests_9 rfl (by decide) ?_
    refine Rn.iconst (n := 11) (v := 1) d_Rf_rests_10 rfl (by decide) ?_
    obtain ⟨Q'9, ev6, k⟩ := k
    refine Rn.callS (n := 14) (av := [vI a3, vI 0, vI 1]) d_Rf_rests_11 rfl ml_Rf_rests_66 ms_Rf_in rfl rfl (Nat.le_of_ble_eq_true rfl) ev6 (fun v h8 hq => ?_)
    obtain ⟨r10, rfl, hq⟩ := hq
    have k := k r10 h8 hq
    show Rn X m_Rf_rests 14 [some (vR [1]), some (vI a1), some (vI a2), some (vI a3), none, none, none, none, none] [vI r10] h8 Q
    refine Rn.if_ne (n := 17) (t := 20) d_Rf_rests_14 rfl (by decide) (fun cc => ?_) (fun cc => ?_)
    · have k := k.1 cc
      refine Rn.aload_n (n := 21) (i := 0) d_Rf_rests_20 rfl rfl rfl ?_
      refine Rn.getf (n := 24) (v := vI (h8.1 [1] 3)) d_Rf_rests_21 rfl fl_Rf_70 Lv_1 rfl ?_
      obtain ⟨Q'14, ev11, k⟩ := k
      refine Rn.callS (n := 27) (av := [vI (h8.1 [1] 3)]) d_Rf_rests_24 rfl ml_Rf_rests_219 ms_Rf_bits rfl rfl (Nat.le_of_ble_eq_true rfl) ev11 (fun v h13 hq => ?_)
      obtain ⟨r15, rfl, hq⟩ := hq
      have k := k r15 h13 hq
      show Rn X m_Rf_rests 27 [some (vR [1]), some (vI a1), some (vI a2), some (vI a3), none, none, none, none, none] [vI r15] h13 Q
      refine Rn.istore (n := 29) (i := 4) (ls2 := [some (vR [1]), some (vI a1), some (vI a2), some (vI a3), some (vI r15), none, none, none, none]) d_Rf_rests_27 rfl (Nat.le_of_ble_eq_true rfl) rfl ?_
      refine Rn.iload (n := 31) (i := 4) d_Rf_rests_29 rfl rfl ?_
      refine Rn.iconst (n := 32) (v := 4) d_Rf_rests_31 rfl (by decide) ?_
      refine Rn.icmp_le (n := 35) (t := 38) d_Rf_rests_32 rfl (by decide) (fun cc => ?_) (fun cc => ?_)
      · have k := k.1 cc
        refine Rn.aload_n (n := 39) (i := 0) d_Rf_rests_38 rfl rfl rfl ?_
        refine Rn.iload (n := 41) (i := 4) d_Rf_rests_39 rfl rfl ?_
        refine Rn.iload_n (n := 42) (i := 1) d_Rf_rests_41 rfl rfl rfl ?_
        refine Rn.iload_n (n := 43) (i := 2) d_Rf_rests_42 rfl rfl rfl ?_
        obtain ⟨Q'19, ev16, k⟩ := k
        refine Rn.callV (n := 46) (av := [vI r15, vI a1, vI a2]) d_Rf_rests_43 rfl ml_Rf_rests_233 mi_Rf_layPaid Lv_1 rfl rfl rfl rfl (Nat.le_of_ble_eq_true rfl) ev16 (fun v h18 hq => ?_)
        obtain ⟨rfl, hq⟩ := hq
        have k := k h18 hq
        show Rn X m_Rf_rests 46 [some (vR [1]), some (vI a1), some (vI a2), some (vI a3), some (vI r15), none, none, none, none] [] h18 Q
        refine Rn.iconst (n := 47) (v := 0) d_Rf_rests_46 rfl (by decide) ?_
        refine Rn.istore (n := 49) (i := 5) (ls2 := [some (vR [1]), some (vI a1), some (vI a2), some (vI a3), some (vI r15), some (vI 0), none, none, none]) d_Rf_rests_47 rfl (Nat.le_of_ble_eq_true rfl) rfl ?_
        refine Rn.iconst (n := 50) (v := (-1)) d_Rf_rests_49 rfl (by decide) ?_
        refine Rn.istore (n := 52) (i := 6) (ls2 := [some (vR [1]), some (vI a1), some (vI a2), some (vI a3), some (vI r15), some (vI 0), some (vI (-1)), none, none]) d_Rf_rests_50 rfl (Nat.le_of_ble_eq_true rfl) rfl ?_
        refine Rn.iconst (n := 53) (v := 0) d_Rf_rests_52 rfl (by decide) ?_
        refine Rn.istore (n := 55) (i := 7) (ls2 := [some (vR [1]), some (vI a1), some (vI a2), some (vI a3), some (vI r15), some (vI 0), some (vI (-1)), some (vI 0), none]) d_Rf_rests_53 rfl (Nat.le_of_ble_eq_true rfl) rfl ?_
        exact k
      · have k := k.2 cc
        refine Rn.bipush (n := 37) (v := (-4)) d_Rf_rests_35 rfl (by decide) ?_
        exact Rn.iret d_Rf_rests_37 rfl rfl k
    · have k := k.2 cc
      refine Rn.bipush (n := 19) (v := (-3)) d_Rf_rests_17 rfl (by decide) ?_
      exact Rn.iret d_Rf_rests_19 rfl rfl k
theorem g_Rf_rests_55 {X : XS} (a1 : Int32) (a2 : Int32) (a3 : Int32) (a4 : Int32) (a5 : Int32) (a6 : Int32) (a7 : Int32) (h : Hp) (Q : Option AV → Hp → Prop)  (k : (∃ Q'4, EvI X m_Rf_power [vI a4] h Q'4 ∧ ∀ (r5 : Int32) (h3 : Hp), Q'4 r5 h3 → ((r5 ≤ a7 → ((a3 = 0 → Rn X m_Rf_rests 109 [some (vR [1]), some (vI a1), some (vI a2), some (vI a3), some (vI a4), some (vI a5), some (vI a6), some (vI a7), none] [] h3 Q) ∧ (¬ a3 = 0 → ((¬ a6 = (-1) → Rn X m_Rf_rests 126 [some (vR [1]), some (vI a1), some (vI a2), some (vI a3), some (vI a4), some (vI a5), some (vI a6), some (vI 0), some (vI 0)] [] h3 Q) ∧ (a6 = (-1) → Rn X m_Rf_rests 109 [some (vR [1]), some (vI a1), some (vI a2), some (vI a3), some (vI a4), some (vI a5), some (vI a6), some (vI a7), none] [] h3 Q))))) ∧ (¬ r5 ≤ a7 → (∃ Q'9, EvI X m_Rf_doesRest [vR [1], vI a7, vI a4] h3 Q'9 ∧ ∀ (r10 : Int32) (h8 : Hp), Q'9 r10 h8 → ((r10 = 0 → Rn X m_Rf_rests 55 [some (vR [1]), some (vI a1), some (vI a2), some (vI a3), some (vI a4), some (vI a5), some (vI a6), some (vI (a7 + 1)), none] [] h8 Q) ∧ (¬ r10 = 0 → ((¬ a5 = 0 → Rn X m_Rf_rests 55 [some (vR [1]), some (vI a1), some (vI a2), some (vI a3), some (vI a4), some (vI (a5 + 1)), some (vI a6), some (vI (a7 + 1)), none] [] h8 Q) ∧ (a5 = 0 → Rn X m_Rf_rests 55 [some (vR [1]), some (vI a1), some (vI a2), some (vI a3), some (vI a4), some (vI (a5 + 1)), some (vI a7), some (vI (a7 + 1)), none] [] h8 Q))))))))) : Rn X m_Rf_rests 55 [some (vR [1]), some (vI a1), some (vI a2), some (vI a3), some (vI a4), some (vI a5), some (vI a6), some (vI a7), none] [] h Q := by
  refine Rn.iload (n := 57) (i := 7) d_Rf_rests_55 rfl rfl ?_
  refine Rn.iload (n := 59) (i := 4) d_Rf_rests_57 rfl rfl ?_
  obtain ⟨Q'4, ev1, k⟩ := k
  refine Rn.callS (n := 62) (av := [vI a4]) d_Rf_rests_59 rfl ml_Rf_rests_226 ms_Rf_power rfl rfl (Nat.le_of_ble_eq_true rfl) ev1 (fun v h3 hq => ?_)
  obtain ⟨r5, rfl, hq⟩ := hq
  have k := k r5 h3 hq
  show Rn X m_Rf_rests 62 [some (vR [1]), some (vI a1), some (vI a2), some (vI a3), some (vI a4), some (vI a5), some (vI a6), some (vI a7), none] [vI r5, vI a7] h3 Q
  refine Rn.icmp_ge (n := 65) (t := 99) d_Rf_rests_62 rfl (by decide) (fun cc => ?_) (fun cc => ?_)
  · have k := k.1 cc
    refine Rn.iload_n (n := 100) (i := 3) d_Rf_rests_99 rfl rfl rfl ?_
    refine Rn.if_eq (n := 103) (t := 109) d_Rf_rests_100 rfl (by decide) (fun cc => ?_) (fun cc => ?_)
    · have k := k.1 cc
      exact k
    · have k := k.2 cc
      refine Rn.iload (n := 105) (i := 6) d_Rf_rests_103 rfl rfl ?_
      refine Rn.iconst (n := 106) (v := (-1)) d_Rf_rests_105 rfl (by decide) ?_
      refine Rn.icmp_ne (n := 109) (t := 120) d_Rf_rests_106 rfl (by decide) (fun cc => ?_) (fun cc => ?_)
      · have k := k.1 cc
        refine Rn.iconst (n := 121) (v := 0) d_Rf_rests_120 rfl (by decide) ?_
        refine Rn.istore (n := 123) (i := 7) (ls2 := [some (vR [1]), some (vI a1), some (vI a2), some (vI a3), some (vI a4), some (vI a5), some (vI a6), some (vI 0), none]) d_Rf_rests_121 rfl (Nat.le_of_ble_eq_true rfl) rfl ?_
        refine Rn.iconst (n := 124) (v := 0) d_Rf_rests_123 rfl (by decide) ?_
        refine Rn.istore (n := 126) (i := 8) (ls2 := [some (vR [1]), some (vI a1), some (vI a2), some (vI a3), some (vI a4), some (vI a5), some (vI a6), some (vI 0), some (vI 0)]) d_Rf_rests_124 rfl (Nat.le_of_ble_eq_true rfl) rfl ?_
        exact k
      · have k := k.2 cc
        exact k
  · have k := k.2 cc
    refine Rn.aload_n (n := 66) (i := 0) d_Rf_rests_65 rfl rfl rfl ?_
    refine Rn.iload (n := 68) (i := 7) d_Rf_rests_66 rfl rfl ?_
    refine Rn.iload (n := 70) (i := 4) d_Rf_rests_68 rfl rfl ?_
    obtain ⟨Q'9, ev6, k⟩ := k
    refine Rn.callV (n := 73) (av := [vI a7, vI a4]) d_Rf_rests_70 rfl ml_Rf_rests_237 mi_Rf_doesRest Lv_1 rfl rfl rfl rfl (Nat.le_of_ble_eq_true rfl) ev6 (fun v h8 hq => ?_)
    obtain ⟨r10, rfl, hq⟩ := hq
    have k := k r10 h8 hq
    show Rn X m_Rf_rests 73 [some (vR [1]), some (vI a1), some (vI a2), some (vI a3), some (vI a4), some (vI a5), some (vI a6), some (vI a7), none] [vI r10] h8 Q
    refine Rn.if_eq (n := 76) (t := 93) d_Rf_rests_73 rfl (by decide) (fun cc => ?_) (fun cc => ?_)
    · have k := k.1 cc
      refine Rn.iinc (n := 96) (i := 7) (v := a7 + 1) (ls2 := [some (vR [1]), some (vI a1), some (vI a2), some (vI a3), some (vI a4), some (vI a5), some (vI a6), some (vI (a7 + 1)), none]) d_Rf_rests_93 rfl rfl rfl (Nat.le_of_ble_eq_true rfl) rfl ?_
      refine Rn.goto (n := 55) d_Rf_rests_96 (by decide) ?_
      exact k
    · have k := k.2 cc
      refine Rn.iload (n := 78) (i := 5) d_Rf_rests_76 rfl rfl ?_
      refine Rn.if_ne (n := 81) (t := 86) d_Rf_rests_78 rfl (by decide) (fun cc => ?_) (fun cc => ?_)
      · have k := k.1 cc
        refine Rn.iload (n := 88) (i := 6) d_Rf_rests_86 rfl rfl ?_
        refine Rn.istore (n := 90) (i := 6) (ls2 := [some (vR [1]), some (vI a1), some (vI a2), some (vI a3), some (vI a4), some (vI a5), some (vI a6), some (vI a7), none]) d_Rf_rests_88 rfl (Nat.le_of_ble_eq_true rfl) rfl ?_
        refine Rn.iinc (n := 93) (i := 5) (v := a5 + 1) (ls2 := [some (vR [1]), some (vI a1), some (vI a2), some (vI a3), some (vI a4), some (vI (a5 + 1)), some (vI a6), some (vI a7), none]) d_Rf_rests_90 rfl rfl rfl (Nat.le_of_ble_eq_true rfl) rfl ?_
        refine Rn.iinc (n := 96) (i := 7) (v := a7 + 1) (ls2 := [some (vR [1]), some (vI a1), some (vI a2), some (vI a3), some (vI a4), some (vI (a5 + 1)), some (vI a6), some (vI (a7 + 1)), none]) d_Rf_rests_93 rfl rfl rfl (Nat.le_of_ble_eq_true rfl) rfl ?_
        refine Rn.goto (n := 55) d_Rf_rests_96 (by decide) ?_
        exact k
      · have k := k.2 cc
        refine Rn.iload (n := 83) (i := 7) d_Rf_rests_81 rfl rfl ?_
        refine Rn.goto (n := 88) d_Rf_rests_83 (by decide) ?_
        refine Rn.istore (n := 90) (i := 6) (ls2 := [some (vR [1]), some (vI a1), some (vI a2), some (vI a3), some (vI a4), some (vI a5), some (vI a7), some (vI a7), none]) d_Rf_rests_88 rfl (Nat.le_of_ble_eq_true rfl) rfl ?_
        refine Rn.iinc (n := 93) (i := 5) (v := a5 + 1) (ls2 := [some (vR [1]), some (vI a1), some (vI a2), some (vI a3), some (vI a4), some (vI (a5 + 1)), some (vI a7), some (vI a7), none]) d_Rf_rests_90 rfl rfl rfl (Nat.le_of_ble_eq_true rfl) rfl ?_
        refine Rn.iinc (n := 96) (i := 7) (v := a7 + 1) (ls2 := [some (vR [1]), some (vI a1), some (vI a2), some (vI a3), some (vI a4), some (vI (a5 + 1)), some (vI a7), some (vI (a7 + 1)), none]) d_Rf_rests_93 rfl rfl rfl (Nat.le_of_ble_eq_true rfl) rfl ?_
        refine Rn.goto (n := 55) d_Rf_rests_96 (by decide) ?_
        exact k
theorem g_Rf_rests_109 {X : XS} (a1 : Int32) (a2 : Int32) (a3 : Int32) (a4 : Int32) (a5 : Int32) (a6 : Int32) (a7 : Int32) (h : Hp) (Q : Option AV → Hp → Prop)  (k : ((¬ a3 = 0 → Q (some (vI (-1))) h) ∧ (a3 = 0 → Q (some (vI a5)) h))) : Rn X m_Rf_rests 109 [some (vR [1]), some (vI a1), some (vI a2), some (vI a3), some (vI a4), some (vI a5), some (vI a6), some (vI a7), none] [] h Q := by
  refine Rn.iload_n (n := 110) (i := 3) d_Rf_rests_109 rfl rfl rfl ?_
  refine Rn.if_ne (n := 113) (t := 118) d_Rf_rests_110 rfl (by decide) (fun cc => ?_) (fun cc => ?_)
  · have k := k.1 cc
    refine Rn.iconst (n := 119) (v := (-1)) d_Rf_rests_118 rfl (by decide) ?_
    exact Rn.iret d_Rf_rests_119 rfl rfl k
  · have k := k.2 cc
    refine Rn.iload (n := 115) (i := 5) d_Rf_rests_113 rfl rfl ?_
    refine Rn.goto (n := 119) d_Rf_rests_115 (by decide) ?_
    exact Rn.iret d_Rf_rests_119 rfl rfl k
theorem g_Rf_rests_126 {X : XS} (a1 : Int32) (a2 : Int32) (a3 : Int32) (a4 : Int32) (a5 : Int32) (a6 : Int32) (a7 : Int32) (a8 : Int32) (h : Hp) (Q : Option AV → Hp → Prop)  (k : ((a4 ≤ a8 → Q (some (vI a7)) h) ∧ (¬ a4 ≤ a8 → (∃ Q'4, EvI X m_Rf_figure [vI a6, vI a8, vI a4] h Q'4 ∧ ∀ (r5 : Int32) (h3 : Hp), Q'4 r5 h3 → Rn X m_Rf_rests 126 [some (vR [1]), some (vI a1), some (vI a2), some (vI a3), some (vI a4), some (vI a5), some (vI a6), some (vI (a7 ||| (iShl r5 (2 * a8)))), some (vI (a8 + 1))] [] h3 Q)))) : Rn X m_Rf_rests 126 [some (vR [1]), some (vI a1), some (vI a2), some (vI a3), some (vI a4), some (vI a5), some (vI a6), some (vI a7), some (vI a8)] [] h Q := by
  refine Rn.iload (n := 128) (i := 8) d_Rf_rests_126 rfl rfl ?_
  refine Rn.iload (n := 130) (i := 4) d_Rf_rests_128 rfl rfl ?_
  refine Rn.icmp_ge (n := 133) (t := 158) d_Rf_rests_130 rfl (by decide) (fun cc => ?_) (fun cc => ?_)
  · have k := k.1 cc
    refine Rn.iload (n := 160) (i := 7) d_Rf_rests_158 rfl rfl ?_
    exact Rn.iret d_Rf_rests_160 rfl rfl k
  · have k := k.2 cc
    refine Rn.iload (n := 135) (i := 7) d_Rf_rests_133 rfl rfl ?_
    refine Rn.iload (n := 137) (i := 6) d_Rf_rests_135 rfl rfl ?_
    refine Rn.iload (n := 139) (i := 8) d_Rf_rests_137 rfl rfl ?_
    refine Rn.iload (n := 141) (i := 4) d_Rf_rests_139 rfl rfl ?_
    obtain ⟨Q'4, ev1, k⟩ := k
    refine Rn.callS (n := 144) (av := [vI a6, vI a8, vI a4]) d_Rf_rests_141 rfl ml_Rf_rests_229 ms_Rf_figure rfl rfl (Nat.le_of_ble_eq_true rfl) ev1 (fun v h3 hq => ?_)
    obtain ⟨r5, rfl, hq⟩ := hq
    have k := k r5 h3 hq
    show Rn X m_Rf_rests 144 [some (vR [1]), some (vI a1), some (vI a2), some (vI a3), some (vI a4), some (vI a5), some (vI a6), some (vI a7), some (vI a8)] [vI r5, vI a7] h3 Q
    refine Rn.iconst (n := 145) (v := 2) d_Rf_rests_144 rfl (by decide) ?_
    refine Rn.iload (n := 147) (i := 8) d_Rf_rests_145 rfl rfl ?_
    refine Rn.imul (n := 148) d_Rf_rests_147 rfl ?_
    refine Rn.ishl (n := 149) d_Rf_rests_148 rfl ?_
    refine Rn.ior (n := 150) d_Rf_rests_149 rfl ?_
    refine Rn.istore (n := 152) (i := 7) (ls2 := [some (vR [1]), some (vI a1), some (vI a2), some (vI a3), some (vI a4), some (vI a5), some (vI a6), some (vI (a7 ||| (iShl r5 (2 * a8)))), some (vI a8)]) d_Rf_rests_150 rfl (Nat.le_of_ble_eq_true rfl) rfl ?_
    refine Rn.iinc (n := 155) (i := 8) (v := a8 + 1) (ls2 := [some (vR [1]), some (vI a1), some (vI a2), some (vI a3), some (vI a4), some (vI a5), some (vI a6), some (vI (a7 ||| (iShl r5 (2 * a8)))), some (vI (a8 + 1))]) d_Rf_rests_152 rfl rfl rfl (Nat.le_of_ble_eq_true rfl) rfl ?_
    refine Rn.goto (n := 126) d_Rf_rests_155 (by decide) ?_
    exact k
theorem e_Rf_rests {X : XS} (a1 : Int32) (a2 : Int32) (a3 : Int32) (h : Hp) (Q : Option AV → Hp → Prop) (k : Rn X m_Rf_rests 0 [some (vR [1]), some (vI a1), some (vI a2), some (vI a3), none, none, none, none, none] [] h Q) : Ev X m_Rf_rests [vR [1], vI a1, vI a2, vI a3] h Q := Ev.intro (plainFor_of_name (by decide +kernel)) (Nat.le_of_ble_eq_true rfl) (ls := [some (vR [1]), some (vI a1), some (vI a2), some (vI a3), none, none, none, none, none]) rfl k
theorem d_Rf_common_0 : decode m_Rf_common.2.1 0 = .ok (.iload_n 1, 1) := by decide +kernel
theorem d_Rf_common_1 : decode m_Rf_common.2.1 1 = .ok (.iload_n 2, 1) := by decide +kernel
theorem d_Rf_common_2 : decode m_Rf_common.2.1 2 = .ok (.invokestatic 216, 3) := by decide +kernel
theorem d_Rf_common_5 : decode m_Rf_common.2.1 5 = .ok (.ifCond .eq 12, 3) := by decide +kernel
theorem d_Rf_common_8 : decode m_Rf_common.2.1 8 = .ok (.iload_n 3, 1) := by decide +kernel
theorem d_Rf_common_9 : decode m_Rf_common.2.1 9 = .ok (.iconst 0, 1) := by decide +kernel
theorem d_Rf_common_10 : decode m_Rf_common.2.1 10 = .ok (.iconst 1, 1) := by decide +kernel
theorem d_Rf_common_11 : decode m_Rf_common.2.1 11 = .ok (.invokestatic 66, 3) := by decide +kernel
theorem d_Rf_common_14 : decode m_Rf_common.2.1 14 = .ok (.ifCond .ne 6, 3) := by decide +kernel
theorem d_Rf_common_17 : decode m_Rf_common.2.1 17 = .ok (.bipush (-3), 2) := by decide +kernel
theorem d_Rf_common_19 : decode m_Rf_common.2.1 19 = .ok (.ireturn, 1) := by decide +kernel
theorem d_Rf_common_20 : decode m_Rf_common.2.1 20 = .ok (.aload_n 0, 1) := by decide +kernel
theorem d_Rf_common_21 : decode m_Rf_common.2.1 21 = .ok (.getfield 70, 3) := by decide +kernel
theorem d_Rf_common_24 : decode m_Rf_common.2.1 24 = .ok (.invokestatic 219, 3) := by decide +kernel
theorem d_Rf_common_27 : decode m_Rf_common.2.1 27 = .ok (.iconst 4, 1) := by decide +kernel
theorem d_Rf_common_28 : decode m_Rf_common.2.1 28 = .ok (.if_icmp .le 6, 3) := by decide +kernel
theorem d_Rf_common_31 : decode m_Rf_common.2.1 31 = .ok (.bipush (-4), 2) := by decide +kernel
theorem d_Rf_common_33 : decode m_Rf_common.2.1 33 = .ok (.ireturn, 1) := by decide +kernel
theorem d_Rf_common_34 : decode m_Rf_common.2.1 34 = .ok (.iconst 0, 1) := by decide +kernel
theorem d_Rf_common_35 : decode m_Rf_common.2.1 35 = .ok (.istore 4, 2) := by decide +kernel
theorem d_Rf_common_37 : decode m_Rf_common.2.1 37 = .ok (.iconst 0, 1) := by decide +kernel
theorem d_Rf_common_38 : decode m_Rf_common.2.1 38 = .ok (.istore 5, 2) := by decide +kernel
theorem d_Rf_common_40 : decode m_Rf_common.2.1 40 = .ok (.iconst 0, 1) := by decide +kernel
theorem d_Rf_common_41 : decode m_Rf_common.2.1 41 = .ok (.istore 6, 2) := by decide +kernel
theorem d_Rf_common_43 : decode m_Rf_common.2.1 43 = .ok (.iload 6, 2) := by decide +kernel
theorem d_Rf_common_45 : decode m_Rf_common.2.1 45 = .ok (.iconst 3, 1) := by decide +kernel
theorem d_Rf_common_46 : decode m_Rf_common.2.1 46 = .ok (.if_icmp .ge 129, 3) := by decide +kernel
theorem d_Rf_common_49 : decode m_Rf_common.2.1 49 = .ok (.iconst 0, 1) := by decide +kernel
theorem d_Rf_common_50 : decode m_Rf_common.2.1 50 = .ok (.istore 7, 2) := by decide +kernel
theorem d_Rf_common_52 : decode m_Rf_common.2.1 52 = .ok (.iconst 0, 1) := by decide +kernel
theorem d_Rf_common_53 : decode m_Rf_common.2.1 53 = .ok (.istore 8, 2) := by decide +kernel
theorem d_Rf_common_55 : decode m_Rf_common.2.1 55 = .ok (.iload 8, 2) := by decide +kernel
theorem d_Rf_common_57 : decode m_Rf_common.2.1 57 = .ok (.bipush 6, 2) := by decide +kernel
theorem d_Rf_common_59 : decode m_Rf_common.2.1 59 = .ok (.if_icmp .ge 18, 3) := by decide +kernel
theorem d_Rf_common_62 : decode m_Rf_common.2.1 62 = .ok (.aload_n 0, 1) := by decide +kernel
theorem d_Rf_common_63 : decode m_Rf_common.2.1 63 = .ok (.getfield 42, 3) := by decide +kernel
theorem d_Rf_common_66 : decode m_Rf_common.2.1 66 = .ok (.iload 8, 2) := by decide +kernel
theorem d_Rf_common_68 : decode m_Rf_common.2.1 68 = .ok (.iload 6, 2) := by decide +kernel
theorem d_Rf_common_70 : decode m_Rf_common.2.1 70 = .ok (.iastore, 1) := by decide +kernel
theorem d_Rf_common_71 : decode m_Rf_common.2.1 71 = .ok (.iinc 8 1, 3) := by decide +kernel
theorem d_Rf_common_74 : decode m_Rf_common.2.1 74 = .ok (.goto (-19), 3) := by decide +kernel
theorem d_Rf_common_77 : decode m_Rf_common.2.1 77 = .ok (.aload_n 0, 1) := by decide +kernel
theorem d_Rf_common_78 : decode m_Rf_common.2.1 78 = .ok (.iload_n 1, 1) := by decide +kernel
theorem d_Rf_common_79 : decode m_Rf_common.2.1 79 = .ok (.iload_n 2, 1) := by decide +kernel
theorem d_Rf_common_80 : decode m_Rf_common.2.1 80 = .ok (.invokevirtual 222, 3) := by decide +kernel
theorem d_Rf_common_83 : decode m_Rf_common.2.1 83 = .ok (.iconst 0, 1) := by decide +kernel
theorem d_Rf_common_84 : decode m_Rf_common.2.1 84 = .ok (.istore 8, 2) := by decide +kernel
theorem d_Rf_common_86 : decode m_Rf_common.2.1 86 = .ok (.iload 8, 2) := by decide +kernel
theorem d_Rf_common_88 : decode m_Rf_common.2.1 88 = .ok (.bipush 6, 2) := by decide +kernel
theorem d_Rf_common_90 : decode m_Rf_common.2.1 90 = .ok (.if_icmp .ge 37, 3) := by decide +kernel
theorem d_Rf_common_93 : decode m_Rf_common.2.1 93 = .ok (.iload 7, 2) := by decide +kernel
theorem d_Rf_common_95 : decode m_Rf_common.2.1 95 = .ok (.aload_n 0, 1) := by decide +kernel
theorem d_Rf_common_96 : decode m_Rf_common.2.1 96 = .ok (.getfield 70, 3) := by decide +kernel
theorem d_Rf_common_99 : decode m_Rf_common.2.1 99 = .ok (.iload 8, 2) := by decide +kernel
theorem d_Rf_common_101 : decode m_Rf_common.2.1 101 = .ok (.invokestatic 73, 3) := by decide +kernel
theorem d_Rf_common_104 : decode m_Rf_common.2.1 104 = .ok (.ifCond .eq 13, 3) := by decide +kernel
theorem d_Rf_common_107 : decode m_Rf_common.2.1 107 = .ok (.aload_n 0, 1) := by decide +kernel
theorem d_Rf_common_108 : decode m_Rf_common.2.1 108 = .ok (.getfield 60, 3) := by decide +kernel
theorem d_Rf_common_111 : decode m_Rf_common.2.1 111 = .ok (.iload 8, 2) := by decide +kernel
theorem d_Rf_common_113 : decode m_Rf_common.2.1 113 = .ok (.iaload, 1) := by decide +kernel
theorem d_Rf_common_114 : decode m_Rf_common.2.1 114 = .ok (.goto 4, 3) := by decide +kernel
theorem d_Rf_common_117 : decode m_Rf_common.2.1 117 = .ok (.iconst 0, 1) := by decide +kernel
theorem d_Rf_common_118 : decode m_Rf_common.2.1 118 = .ok (.iadd, 1) := by decide +kernel
theorem d_Rf_common_119 : decode m_Rf_common.2.1 119 = .ok (.istore 7, 2) := by decide +kernel
theorem d_Rf_common_121 : decode m_Rf_common.2.1 121 = .ok (.iinc 8 1, 3) := by decide +kernel
theorem d_Rf_common_124 : decode m_Rf_common.2.1 124 = .ok (.goto (-38), 3) := by decide +kernel
theorem d_Rf_common_127 : decode m_Rf_common.2.1 127 = .ok (.iload 6, 2) := by decide +kernel
theorem d_Rf_common_129 : decode m_Rf_common.2.1 129 = .ok (.ifCond .eq 10, 3) := by decide +kernel
theorem d_Rf_common_132 : decode m_Rf_common.2.1 132 = .ok (.iload 7, 2) := by decide +kernel
theorem d_Rf_common_134 : decode m_Rf_common.2.1 134 = .ok (.iload 5, 2) := by decide +kernel
theorem d_Rf_common_136 : decode m_Rf_common.2.1 136 = .ok (.if_icmp .ge 8, 3) := by decide +kernel
theorem d_Rf_common_139 : decode m_Rf_common.2.1 139 = .ok (.iload 6, 2) := by decide +kernel
theorem d_Rf_common_141 : decode m_Rf_common.2.1 141 = .ok (.goto 5, 3) := by decide +kernel
theorem d_Rf_common_144 : decode m_Rf_common.2.1 144 = .ok (.iload 4, 2) := by decide +kernel
theorem d_Rf_common_146 : decode m_Rf_common.2.1 146 = .ok (.istore 4, 2) := by decide +kernel
theorem d_Rf_common_148 : decode m_Rf_common.2.1 148 = .ok (.iload 6, 2) := by decide +kernel
theorem d_Rf_common_150 : decode m_Rf_common.2.1 150 = .ok (.ifCond .eq 10, 3) := by decide +kernel
theorem d_Rf_common_153 : decode m_Rf_common.2.1 153 = .ok (.iload 7, 2) := by decide +kernel
theorem d_Rf_common_155 : decode m_Rf_common.2.1 155 = .ok (.iload 5, 2) := by decide +kernel
theorem d_Rf_common_157 : decode m_Rf_common.2.1 157 = .ok (.if_icmp .ge 8, 3) := by decide +kernel
theorem d_Rf_common_160 : decode m_Rf_common.2.1 160 = .ok (.iload 7, 2) := by decide +kernel
theorem d_Rf_common_162 : decode m_Rf_common.2.1 162 = .ok (.goto 5, 3) := by decide +kernel
theorem d_Rf_common_165 : decode m_Rf_common.2.1 165 = .ok (.iload 5, 2) := by decide +kernel
theorem d_Rf_common_167 : decode m_Rf_common.2.1 167 = .ok (.istore 5, 2) := by decide +kernel
theorem d_Rf_common_169 : decode m_Rf_common.2.1 169 = .ok (.iinc 6 1, 3) := by decide +kernel
theorem d_Rf_common_172 : decode m_Rf_common.2.1 172 = .ok (.goto (-129), 3) := by decide +kernel
theorem d_Rf_common_175 : decode m_Rf_common.2.1 175 = .ok (.iload_n 3, 1) := by decide +kernel
theorem d_Rf_common_176 : decode m_Rf_common.2.1 176 = .ok (.ifCond .ne 8, 3) := by decide +kernel
theorem d_Rf_common_179 : decode m_Rf_common.2.1 179 = .ok (.iload 4, 2) := by decide +kernel
theorem d_Rf_common_181 : decode m_Rf_common.2.1 181 = .ok (.goto 5, 3) := by decide +kernel
theorem d_Rf_common_184 : decode m_Rf_common.2.1 184 = .ok (.iload 5, 2) := by decide +kernel
theorem d_Rf_common_186 : decode m_Rf_common.2.1 186 = .ok (.ireturn, 1) := by decide +kernel
theorem g_Rf_common_0 {X : XS} (a1 : Int32) (a2 : Int32) (a3 : Int32) (h : Hp) (Q : Option AV → Hp → Prop)  (k : (∃ Q'4, EvI X m_Rf_arePrices [vI a1, vI a2] h Q'4 ∧ ∀ (r5 : Int32) (h3 : Hp), Q'4 r5 h3 → ((r5 = 0 → Q (some (vI (-3))) h3) ∧ (¬ r5 = 0 → (∃ Q'9, EvI X m_Rf_in [vI a3, vI 0, vI 1] h3 Q'9 ∧ ∀ (r10 : Int32) (h8 : Hp), Q'9 r10 h8 → ((¬ r10 = 0 → (∃ Q'14, EvI X m_Rf_bits [vI (h8.1 [1] 3)] h8 Q'14 ∧ ∀ (r15 : Int32) (h13 : Hp), Q'14 r15 h13 → ((r15 ≤ 4 → Rn X m_Rf_common 43 [some (vR [1]), some (vI a1), some (vI a2), some (vI a3), some (vI 0), some (vI 0), some (vI 0), none, none] [] h13 Q) ∧ (¬ r15 ≤ 4 → Q (some (vI (-4))) h13)))) ∧ (r10 = 0 → Q (some (vI (-3))) h8))))))) : Rn X m_Rf_common 0 [some (vR [1]), some (vI a1), some (vI a2), some (vI a3), none, none, none, none, none] [] h Q := by
  refine Rn.iload_n (n := 1) (i := 1) d_Rf_common_0 rfl rfl rfl ?_
  refine Rn.iload_n (n := 2) (i := 2) d_Rf_common_1 rfl rfl rfl ?_
  obtain ⟨Q'4, ev1, k⟩ := k
  refine Rn.callS (n := 5) (av := [vI a1, vI a2]) d_Rf_common_2 rfl ml_Rf_common_216 ms_Rf_arePrices rfl rfl (Nat.le_of_ble_eq_true rfl) ev1 (fun v h3 hq => ?_)
  obtain ⟨r5, rfl, hq⟩ := hq
  have k := k r5 h3 hq
  show Rn X m_Rf_common 5 [some (vR [1]), some (vI a1), some (vI a2), some (vI a3), none, none, none, none, none] [vI r5] h3 Q
  refine Rn.if_eq (n := 8) (t := 17) d_Rf_common_5 rfl (by decide) (fun cc => ?_) (fun cc => ?_)
  · have k := k.1 cc
    refine Rn.bipush (n := 19) (v := (-3)) d_Rf_common_17 rfl (by decide) ?_
    exact Rn.iret d_Rf_common_19 rfl rfl k
  · have k := k.2 cc
    refine Rn.iload_n (n := 9) (i := 3) d_Rf_common_8 rfl rfl rfl ?_
    refine Rn.iconst (n := 10) (v := 0) d_Rf_common_9 rfl (by decide) ?_
    refine Rn.iconst (n := 11) (v := 1) d_Rf_common_10 rfl (by decide) ?_
    obtain ⟨Q'9, ev6, k⟩ := k
    refine Rn.callS (n := 14) (av := [vI a3, vI 0, vI 1]) d_Rf_common_11 rfl ml_Rf_common_66 ms_Rf_in rfl rfl (Nat.le_of_ble_eq_true rfl) ev6 (fun v h8 hq => ?_)
    obtain ⟨r10, rfl, hq⟩ := hq
    have k := k r10 h8 hq
    show Rn X m_Rf_common 14 [some (vR [1]), some (vI a1), some (vI a2), some (vI a3), none, none, none, none, none] [vI r10] h8 Q
    refine Rn.if_ne (n := 17) (t := 20) d_Rf_common_14 rfl (by decide) (fun cc => ?_) (fun cc => ?_)
    · have k := k.1 cc
      refine Rn.aload_n (n := 21) (i := 0) d_Rf_common_20 rfl rfl rfl ?_
      refine Rn.getf (n := 24) (v := vI (h8.1 [1] 3)) d_Rf_common_21 rfl fl_Rf_70 Lv_1 rfl ?_
      obtain ⟨Q'14, ev11, k⟩ := k
      refine Rn.callS (n := 27) (av := [vI (h8.1 [1] 3)]) d_Rf_common_24 rfl ml_Rf_common_219 ms_Rf_bits rfl rfl (Nat.le_of_ble_eq_true rfl) ev11 (fun v h13 hq => ?_)
      obtain ⟨r15, rfl, hq⟩ := hq
      have k := k r15 h13 hq
      show Rn X m_Rf_common 27 [some (vR [1]), some (vI a1), some (vI a2), some (vI a3), none, none, none, none, none] [vI r15] h13 Q
      refine Rn.iconst (n := 28) (v := 4) d_Rf_common_27 rfl (by decide) ?_
      refine Rn.icmp_le (n := 31) (t := 34) d_Rf_common_28 rfl (by decide) (fun cc => ?_) (fun cc => ?_)
      · have k := k.1 cc
        refine Rn.iconst (n := 35) (v := 0) d_Rf_common_34 rfl (by decide) ?_
        refine Rn.istore (n := 37) (i := 4) (ls2 := [some (vR [1]), some (vI a1), some (vI a2), some (vI a3), some (vI 0), none, none, none, none]) d_Rf_common_35 rfl (Nat.le_of_ble_eq_true rfl) rfl ?_
        refine Rn.iconst (n := 38) (v := 0) d_Rf_common_37 rfl (by decide) ?_
        refine Rn.istore (n := 40) (i := 5) (ls2 := [some (vR [1]), some (vI a1), some (vI a2), some (vI a3), some (vI 0), some (vI 0), none, none, none]) d_Rf_common_38 rfl (Nat.le_of_ble_eq_true rfl) rfl ?_
        refine Rn.iconst (n := 41) (v := 0) d_Rf_common_40 rfl (by decide) ?_
        refine Rn.istore (n := 43) (i := 6) (ls2 := [some (vR [1]), some (vI a1), some (vI a2), some (vI a3), some (vI 0), some (vI 0), some (vI 0), none, none]) d_Rf_common_41 rfl (Nat.le_of_ble_eq_true rfl) rfl ?_
        exact k
      · have k := k.2 cc
        refine Rn.bipush (n := 33) (v := (-4)) d_Rf_common_31 rfl (by decide) ?_
        exact Rn.iret d_Rf_common_33 rfl rfl k
    · have k := k.2 cc
      refine Rn.bipush (n := 19) (v := (-3)) d_Rf_common_17 rfl (by decide) ?_
      exact Rn.iret d_Rf_common_19 rfl rfl k
theorem g_Rf_common_43 {X : XS} (a1 : Int32) (a2 : Int32) (a3 : Int32) (a4 : Int32) (a5 : Int32) (a6 : Int32) (h : Hp) (Q : Option AV → Hp → Prop)  (k : ((3 ≤ a6 → ((¬ a3 = 0 → Q (some (vI a5)) h) ∧ (a3 = 0 → Q (some (vI a4)) h))) ∧ (¬ 3 ≤ a6 → Rn X m_Rf_common 55 [some (vR [1]), some (vI a1), some (vI a2), some (vI a3), some (vI a4), some (vI a5), some (vI a6), some (vI 0), some (vI 0)] [] h Q))) : Rn X m_Rf_common 43 [some (vR [1]), some (vI a1), some (vI a2), some (vI a3), some (vI a4), some (vI a5), some (vI a6), none, none] [] h Q := by
  refine Rn.iload (n := 45) (i := 6) d_Rf_common_43 rfl rfl ?_
  refine Rn.iconst (n := 46) (v := 3) d_Rf_common_45 rfl (by decide) ?_
  refine Rn.icmp_ge (n := 49) (t := 175) d_Rf_common_46 rfl (by decide) (fun cc => ?_) (fun cc => ?_)
  · have k := k.1 cc
    refine Rn.iload_n (n := 176) (i := 3) d_Rf_common_175 rfl rfl rfl ?_
    refine Rn.if_ne (n := 179) (t := 184) d_Rf_common_176 rfl (by decide) (fun cc => ?_) (fun cc => ?_)
    · have k := k.1 cc
      refine Rn.iload (n := 186) (i := 5) d_Rf_common_184 rfl rfl ?_
      exact Rn.iret d_Rf_common_186 rfl rfl k
    · have k := k.2 cc
      refine Rn.iload (n := 181) (i := 4) d_Rf_common_179 rfl rfl ?_
      refine Rn.goto (n := 186) d_Rf_common_181 (by decide) ?_
      exact Rn.iret d_Rf_common_186 rfl rfl k
  · have k := k.2 cc
    refine Rn.iconst (n := 50) (v := 0) d_Rf_common_49 rfl (by decide) ?_
    refine Rn.istore (n := 52) (i := 7) (ls2 := [some (vR [1]), some (vI a1), some (vI a2), some (vI a3), some (vI a4), some (vI a5), some (vI a6), some (vI 0), none]) d_Rf_common_50 rfl (Nat.le_of_ble_eq_true rfl) rfl ?_
    refine Rn.iconst (n := 53) (v := 0) d_Rf_common_52 rfl (by decide) ?_
    refine Rn.istore (n := 55) (i := 8) (ls2 := [some (vR [1]), some (vI a1), some (vI a2), some (vI a3), some (vI a4), some (vI a5), some (vI a6), some (vI 0), some (vI 0)]) d_Rf_common_53 rfl (Nat.le_of_ble_eq_true rfl) rfl ?_
    exact k
theorem g_Rf_common_55 {X : XS} (a1 : Int32) (a2 : Int32) (a3 : Int32) (a4 : Int32) (a5 : Int32) (a6 : Int32) (a7 : Int32) (a8 : Int32) (h : Hp) (Q : Option AV → Hp → Prop)  (k : ((6 ≤ a8 → (∃ Q'4, EvV X m_Rf_goWhole [vR [1], vI a1, vI a2] h Q'4 ∧ ∀ (h3 : Hp), Q'4 h3 → Rn X m_Rf_common 86 [some (vR [1]), some (vI a1), some (vI a2), some (vI a3), some (vI a4), some (vI a5), some (vI a6), some (vI a7), some (vI 0)] [] h3 Q)) ∧ (¬ 6 ≤ a8 → (vp_in a8 6 ∧ Rn X m_Rf_common 55 [some (vR [1]), some (vI a1), some (vI a2), some (vI a3), some (vI a4), some (vI a5), some (vI a6), some (vI a7), some (vI (a8 + 1))] [] (hsI h [22, 1] a8.toNatClampNeg a6) Q)))) : Rn X m_Rf_common 55 [some (vR [1]), some (vI a1), some (vI a2), some (vI a3), some (vI a4), some (vI a5), some (vI a6), some (vI a7), some (vI a8)] [] h Q := by
  refine Rn.iload (n := 57) (i := 8) d_Rf_common_55 rfl rfl ?_
  refine Rn.bipush (n := 59) (v := 6) d_Rf_common_57 rfl (by decide) ?_
  refine Rn.icmp_ge (n := 62) (t := 77) d_Rf_common_59 rfl (by decide) (fun cc => ?_) (fun cc => ?_)
  · have k := k.1 cc
    refine Rn.aload_n (n := 78) (i := 0) d_Rf_common_77 rfl rfl rfl ?_
    refine Rn.iload_n (n := 79) (i := 1) d_Rf_common_78 rfl rfl rfl ?_
    refine Rn.iload_n (n := 80) (i := 2) d_Rf_common_79 rfl rfl rfl ?_
    obtain ⟨Q'4, ev1, k⟩ := k
    refine Rn.callV (n := 83) (av := [vI a1, vI a2]) d_Rf_common_80 rfl ml_Rf_common_222 mi_Rf_goWhole Lv_1 rfl rfl rfl rfl (Nat.le_of_ble_eq_true rfl) ev1 (fun v h3 hq => ?_)
    obtain ⟨rfl, hq⟩ := hq
    have k := k h3 hq
    show Rn X m_Rf_common 83 [some (vR [1]), some (vI a1), some (vI a2), some (vI a3), some (vI a4), some (vI a5), some (vI a6), some (vI a7), some (vI a8)] [] h3 Q
    refine Rn.iconst (n := 84) (v := 0) d_Rf_common_83 rfl (by decide) ?_
    refine Rn.istore (n := 86) (i := 8) (ls2 := [some (vR [1]), some (vI a1), some (vI a2), some (vI a3), some (vI a4), some (vI a5), some (vI a6), some (vI a7), some (vI 0)]) d_Rf_common_84 rfl (Nat.le_of_ble_eq_true rfl) rfl ?_
    exact k
  · have k := k.2 cc
    refine Rn.aload_n (n := 63) (i := 0) d_Rf_common_62 rfl rfl rfl ?_
    refine Rn.getf (n := 66) (v := vR [22, 1]) d_Rf_common_63 rfl fl_Rf_42 Lv_1 rfl ?_
    refine Rn.iload (n := 68) (i := 8) d_Rf_common_66 rfl rfl ?_
    refine Rn.iload (n := 70) (i := 6) d_Rf_common_68 rfl rfl ?_
    obtain ⟨b5, k⟩ := k
    refine Rn.iast (n := 71) d_Rf_common_70 rfl Lv_22_1 b5 ?_
    refine Rn.iinc (n := 74) (i := 8) (v := a8 + 1) (ls2 := [some (vR [1]), some (vI a1), some (vI a2), some (vI a3), some (vI a4), some (vI a5), some (vI a6), some (vI a7), some (vI (a8 + 1))]) d_Rf_common_71 rfl rfl rfl (Nat.le_of_ble_eq_true rfl) rfl ?_
    refine Rn.goto (n := 55) d_Rf_common_74 (by decide) ?_
    exact k
theorem g_Rf_common_86 {X : XS} (a1 : Int32) (a2 : Int32) (a3 : Int32) (a4 : Int32) (a5 : Int32) (a6 : Int32) (a7 : Int32) (a8 : Int32) (h : Hp) (Q : Option AV → Hp → Prop)  (k : ((6 ≤ a8 → ((a6 = 0 → Rn X m_Rf_common 139 [some (vR [1]), some (vI a1), some (vI a2), some (vI a3), some (vI a4), some (vI a5), some (vI a6), some (vI a7), some (vI a8)] [] h Q) ∧ (¬ a6 = 0 → ((a5 ≤ a7 → Rn X m_Rf_common 146 [some (vR [1]), some (vI a1), some (vI a2), some (vI a3), some (vI a4), some (vI a5), some (vI a6), some (vI a7), some (vI a8)] [vI a4] h Q) ∧ (¬ a5 ≤ a7 → Rn X m_Rf_common 139 [some (vR [1]), some (vI a1), some (vI a2), some (vI a3), some (vI a4), some (vI a5), some (vI a6), some (vI a7), some (vI a8)] [] h Q))))) ∧ (¬ 6 ≤ a8 → (∃ Q'4, EvI X m_Rf_has [vI (h.1 [1] 3), vI a8] h Q'4 ∧ ∀ (r5 : Int32) (h3 : Hp), Q'4 r5 h3 → ((r5 = 0 → Rn X m_Rf_common 86 [some (vR [1]), some (vI a1), some (vI a2), some (vI a3), some (vI a4), some (vI a5), some (vI a6), some (vI (a7 + 0)), some (vI (a8 + 1))] [] h3 Q) ∧ (¬ r5 = 0 → (vp_in a8 6 ∧ Rn X m_Rf_common 86 [some (vR [1]), some (vI a1), some (vI a2), some (vI a3), some (vI a4), some (vI a5), some (vI a6), some (vI (a7 + (h3.1 [29, 1] a8.toNatClampNeg))), some (vI (a8 + 1))] [] h3 Q))))))) : Rn X m_Rf_common 86 [some (vR [1]), some (vI a1), some (vI a2), some (vI a3), some (vI a4), some (vI a5), some (vI a6), some (vI a7), some (vI a8)] [] h Q := by
  refine Rn.iload (n := 88) (i := 8) d_Rf_common_86 rfl rfl ?_
  refine Rn.bipush (n := 90) (v := 6) d_Rf_common_88 rfl (by decide) ?_
  refine Rn.icmp_ge (n := 93) (t := 127) d_Rf_common_90 rfl (by decide) (fun cc => ?_) (fun cc => ?_)
  · have k := k.1 cc
    refine Rn.iload (n := 129) (i := 6) d_Rf_common_127 rfl rfl ?_
    refine Rn.if_eq (n := 132) (t := 139) d_Rf_common_129 rfl (by decide) (fun cc => ?_) (fun cc => ?_)
    · have k := k.1 cc
      exact k
    · have k := k.2 cc
      refine Rn.iload (n := 134) (i := 7) d_Rf_common_132 rfl rfl ?_
      refine Rn.iload (n := 136) (i := 5) d_Rf_common_134 rfl rfl ?_
      refine Rn.icmp_ge (n := 139) (t := 144) d_Rf_common_136 rfl (by decide) (fun cc => ?_) (fun cc => ?_)
      · have k := k.1 cc
        refine Rn.iload (n := 146) (i := 4) d_Rf_common_144 rfl rfl ?_
        exact k
      · have k := k.2 cc
        exact k
  · have k := k.2 cc
    refine Rn.iload (n := 95) (i := 7) d_Rf_common_93 rfl rfl ?_
    refine Rn.aload_n (n := 96) (i := 0) d_Rf_common_95 rfl rfl rfl ?_
    refine Rn.getf (n := 99) (v := vI (h.1 [1] 3)) d_Rf_common_96 rfl fl_Rf_70 Lv_1 rfl ?_
    refine Rn.iload (n := 101) (i := 8) d_Rf_common_99 rfl rfl ?_
    obtain ⟨Q'4, ev1, k⟩ := k
    refine Rn.callS (n := 104) (av := [vI (h.1 [1] 3), vI a8]) d_Rf_common_101 rfl ml_Rf_common_73 ms_Rf_has rfl rfl (Nat.le_of_ble_eq_true rfl) ev1 (fun v h3 hq => ?_)
    obtain ⟨r5, rfl, hq⟩ := hq
    have k := k r5 h3 hq
    show Rn X m_Rf_common 104 [some (vR [1]), some (vI a1), some (vI a2), some (vI a3), some (vI a4), some (vI a5), some (vI a6), some (vI a7), some (vI a8)] [vI r5, vI a7] h3 Q
    refine Rn.if_eq (n := 107) (t := 117) d_Rf_common_104 rfl (by decide) (fun cc => ?_) (fun cc => ?_)
    · have k := k.1 cc
      refine Rn.iconst (n := 118) (v := 0) d_Rf_common_117 rfl (by decide) ?_
      refine Rn.iadd (n := 119) d_Rf_common_118 rfl ?_
      refine Rn.istore (n := 121) (i := 7) (ls2 := [some (vR [1]), some (vI a1), some (vI a2), some (vI a3), some (vI a4), some (vI a5), some (vI a6), some (vI (a7 + 0)), some (vI a8)]) d_Rf_common_119 rfl (Nat.le_of_ble_eq_true rfl) rfl ?_
      refine Rn.iinc (n := 124) (i := 8) (v := a8 + 1) (ls2 := [some (vR [1]), some (vI a1), some (vI a2), some (vI a3), some (vI a4), some (vI a5), some (vI a6), some (vI (a7 + 0)), some (vI (a8 + 1))]) d_Rf_common_121 rfl rfl rfl (Nat.le_of_ble_eq_true rfl) rfl ?_
      refine Rn.goto (n := 86) d_Rf_common_124 (by decide) ?_
      exact k
    · have k := k.2 cc
      refine Rn.aload_n (n := 108) (i := 0) d_Rf_common_107 rfl rfl rfl ?_
      refine Rn.getf (n := 111) (v := vR [29, 1]) d_Rf_common_108 rfl fl_Rf_60 Lv_1 rfl ?_
      refine Rn.iload (n := 113) (i := 8) d_Rf_common_111 rfl rfl ?_
      obtain ⟨b6, k⟩ := k
      refine Rn.iald (n := 114) (v := h3.1 [29, 1] a8.toNatClampNeg) d_Rf_common_113 rfl Lv_29_1 b6 rfl ?_
      refine Rn.goto (n := 118) d_Rf_common_114 (by decide) ?_
      refine Rn.iadd (n := 119) d_Rf_common_118 rfl ?_
      refine Rn.istore (n := 121) (i := 7) (ls2 := [some (vR [1]), some (vI a1), some (vI a2), some (vI a3), some (vI a4), some (vI a5), some (vI a6), some (vI (a7 + (h3.1 [29, 1] a8.toNatClampNeg))), some (vI a8)]) d_Rf_common_119 rfl (Nat.le_of_ble_eq_true rfl) rfl ?_
      refine Rn.iinc (n := 124) (i := 8) (v := a8 + 1) (ls2 := [some (vR [1]), some (vI a1), some (vI a2), some (vI a3), some (vI a4), some (vI a5), some (vI a6), some (vI (a7 + (h3.1 [29, 1] a8.toNatClampNeg))), some (vI (a8 + 1))]) d_Rf_common_121 rfl rfl rfl (Nat.le_of_ble_eq_true rfl) rfl ?_
      refine Rn.goto (n := 86) d_Rf_common_124 (by decide) ?_
      exact k
theorem g_Rf_common_139 {X : XS} (a1 : Int32) (a2 : Int32) (a3 : Int32) (a4 : Int32) (a5 : Int32) (a6 : Int32) (a7 : Int32) (a8 : Int32) (h : Hp) (Q : Option AV → Hp → Prop)  (k : Rn X m_Rf_common 146 [some (vR [1]), some (vI a1), some (vI a2), some (vI a3), some (vI a4), some (vI a5), some (vI a6), some (vI a7), some (vI a8)] [vI a6] h Q) : Rn X m_Rf_common 139 [some (vR [1]), some (vI a1), some (vI a2), some (vI a3), some (vI a4), some (vI a5), some (vI a6), some (vI a7), some (vI a8)] [] h Q := by
  refine Rn.iload (n := 141) (i := 6) d_Rf_common_139 rfl rfl ?_
  refine Rn.goto (n := 146) d_Rf_common_141 (by decide) ?_
  exact k
theorem g_Rf_common_146 {X : XS} (a1 : Int32) (a2 : Int32) (a3 : Int32) (a4 : Int32) (a5 : Int32) (a6 : Int32) (a7 : Int32) (a8 : Int32) (s0 : Int32) (h : Hp) (Q : Option AV → Hp → Prop)  (k : ((a6 = 0 → Rn X m_Rf_common 43 [some (vR [1]), some (vI a1), some (vI a2), some (vI a3), some (vI s0), some (vI a7), some (vI (a6 + 1)), none, none] [] h Q) ∧ (¬ a6 = 0 → ((a5 ≤ a7 → Rn X m_Rf_common 43 [some (vR [1]), some (vI a1), some (vI a2), some (vI a3), some (vI s0), some (vI a5), some (vI (a6 + 1)), none, none] [] h Q) ∧ (¬ a5 ≤ a7 → Rn X m_Rf_common 43 [some (vR [1]), some (vI a1), some (vI a2), some (vI a3), some (vI s0), some (vI a7), some (vI (a6 + 1)), none, none] [] h Q))))) : Rn X m_Rf_common 146 [some (vR [1]), some (vI a1), some (vI a2), some (vI a3), some (vI a4), some (vI a5), some (vI a6), some (vI a7), some (vI a8)] [vI s0] h Q := by
  refine Rn.istore (n := 148) (i := 4) (ls2 := [some (vR [1]), some (vI a1), some (vI a2), some (vI a3), some (vI s0), some (vI a5), some (vI a6), some (vI a7), some (vI a8)]) d_Rf_common_146 rfl (Nat.le_of_ble_eq_true rfl) rfl ?_
  refine Rn.iload (n := 150) (i := 6) d_Rf_common_148 rfl rfl ?_
  refine Rn.if_eq (n := 153) (t := 160) d_Rf_common_150 rfl (by decide) (fun cc => ?_) (fun cc => ?_)
  · have k := k.1 cc
    refine Rn.iload (n := 162) (i := 7) d_Rf_common_160 rfl rfl ?_
    refine Rn.goto (n := 167) d_Rf_common_162 (by decide) ?_
    refine Rn.istore (n := 169) (i := 5) (ls2 := [some (vR [1]), some (vI a1), some (vI a2), some (vI a3), some (vI s0), some (vI a7), some (vI a6), some (vI a7), some (vI a8)]) d_Rf_common_167 rfl (Nat.le_of_ble_eq_true rfl) rfl ?_
    refine Rn.iinc (n := 172) (i := 6) (v := a6 + 1) (ls2 := [some (vR [1]), some (vI a1), some (vI a2), some (vI a3), some (vI s0), some (vI a7), some (vI (a6 + 1)), some (vI a7), some (vI a8)]) d_Rf_common_169 rfl rfl rfl (Nat.le_of_ble_eq_true rfl) rfl ?_
    refine Rn.goto (n := 43) d_Rf_common_172 (by decide) ?_
    exact Rn.loc [some (vR [1]), some (vI a1), some (vI a2), some (vI a3), some (vI s0), some (vI a7), some (vI (a6 + 1)), none, none] (LLe_ok ⟨rfl, ⟨rfl, ⟨rfl, ⟨rfl, ⟨rfl, ⟨rfl, ⟨rfl, trivial⟩⟩⟩⟩⟩⟩⟩) k
  · have k := k.2 cc
    refine Rn.iload (n := 155) (i := 7) d_Rf_common_153 rfl rfl ?_
    refine Rn.iload (n := 157) (i := 5) d_Rf_common_155 rfl rfl ?_
    refine Rn.icmp_ge (n := 160) (t := 165) d_Rf_common_157 rfl (by decide) (fun cc => ?_) (fun cc => ?_)
    · have k := k.1 cc
      refine Rn.iload (n := 167) (i := 5) d_Rf_common_165 rfl rfl ?_
      refine Rn.istore (n := 169) (i := 5) (ls2 := [some (vR [1]), some (vI a1), some (vI a2), some (vI a3), some (vI s0), some (vI a5), some (vI a6), some (vI a7), some (vI a8)]) d_Rf_common_167 rfl (Nat.le_of_ble_eq_true rfl) rfl ?_
      refine Rn.iinc (n := 172) (i := 6) (v := a6 + 1) (ls2 := [some (vR [1]), some (vI a1), some (vI a2), some (vI a3), some (vI s0), some (vI a5), some (vI (a6 + 1)), some (vI a7), some (vI a8)]) d_Rf_common_169 rfl rfl rfl (Nat.le_of_ble_eq_true rfl) rfl ?_
      refine Rn.goto (n := 43) d_Rf_common_172 (by decide) ?_
      exact Rn.loc [some (vR [1]), some (vI a1), some (vI a2), some (vI a3), some (vI s0), some (vI a5), some (vI (a6 + 1)), none, none] (LLe_ok ⟨rfl, ⟨rfl, ⟨rfl, ⟨rfl, ⟨rfl, ⟨rfl, ⟨rfl, trivial⟩⟩⟩⟩⟩⟩⟩) k
    · have k := k.2 cc
      refine Rn.iload (n := 162) (i := 7) d_Rf_common_160 rfl rfl ?_
      refine Rn.goto (n := 167) d_Rf_common_162 (by decide) ?_
      refine Rn.istore (n := 169) (i := 5) (ls2 := [some (vR [1]), some (vI a1), some (vI a2), some (vI a3), some (vI s0), some (vI a7), some (vI a6), some (vI a7), some (vI a8)]) d_Rf_common_167 rfl (Nat.le_of_ble_eq_true rfl) rfl ?_
      refine Rn.iinc (n := 172) (i := 6) (v := a6 + 1) (ls2 := [some (vR [1]), some (vI a1), some (vI a2), some (vI a3), some (vI s0), some (vI a7), some (vI (a6 + 1)), some (vI a7), some (vI a8)]) d_Rf_common_169 rfl rfl rfl (Nat.le_of_ble_eq_true rfl) rfl ?_
      refine Rn.goto (n := 43) d_Rf_common_172 (by decide) ?_
      exact Rn.loc [some (vR [1]), some (vI a1), some (vI a2), some (vI a3), some (vI s0), some (vI a7), some (vI (a6 + 1)), none, none] (LLe_ok ⟨rfl, ⟨rfl, ⟨rfl, ⟨rfl, ⟨rfl, ⟨rfl, ⟨rfl, trivial⟩⟩⟩⟩⟩⟩⟩) k
theorem e_Rf_common {X : XS} (a1 : Int32) (a2 : Int32) (a3 : Int32) (h : Hp) (Q : Option AV → Hp → Prop) (k : Rn X m_Rf_common 0 [some (vR [1]), some (vI a1), some (vI a2), some (vI a3), none, none, none, none, none] [] h Q) : Ev X m_Rf_common [vR [1], vI a1, vI a2, vI a3] h Q := Ev.intro (plainFor_of_name (by decide +kernel)) (Nat.le_of_ble_eq_true rfl) (ls := [some (vR [1]), some (vI a1), some (vI a2), some (vI a3), none, none, none, none, none]) rfl k
theorem d_Rf_stand_0 : decode m_Rf_stand.2.1 0 = .ok (.iload_n 1, 1) := by decide +kernel
theorem d_Rf_stand_1 : decode m_Rf_stand.2.1 1 = .ok (.iconst 0, 1) := by decide +kernel
theorem d_Rf_stand_2 : decode m_Rf_stand.2.1 2 = .ok (.bipush 19, 2) := by decide +kernel
theorem d_Rf_stand_4 : decode m_Rf_stand.2.1 4 = .ok (.invokestatic 66, 3) := by decide +kernel
theorem d_Rf_stand_7 : decode m_Rf_stand.2.1 7 = .ok (.ifCond .eq 22, 3) := by decide +kernel
theorem d_Rf_stand_10 : decode m_Rf_stand.2.1 10 = .ok (.iload_n 2, 1) := by decide +kernel
theorem d_Rf_stand_11 : decode m_Rf_stand.2.1 11 = .ok (.iconst 0, 1) := by decide +kernel
theorem d_Rf_stand_12 : decode m_Rf_stand.2.1 12 = .ok (.iconst 3, 1) := by decide +kernel
theorem d_Rf_stand_13 : decode m_Rf_stand.2.1 13 = .ok (.invokestatic 66, 3) := by decide +kernel
theorem d_Rf_stand_16 : decode m_Rf_stand.2.1 16 = .ok (.ifCond .eq 13, 3) := by decide +kernel
theorem d_Rf_stand_19 : decode m_Rf_stand.2.1 19 = .ok (.iload_n 3, 1) := by decide +kernel
theorem d_Rf_stand_20 : decode m_Rf_stand.2.1 20 = .ok (.iconst 0, 1) := by decide +kernel
theorem d_Rf_stand_21 : decode m_Rf_stand.2.1 21 = .ok (.bipush 9, 2) := by decide +kernel
theorem d_Rf_stand_23 : decode m_Rf_stand.2.1 23 = .ok (.invokestatic 66, 3) := by decide +kernel
theorem d_Rf_stand_26 : decode m_Rf_stand.2.1 26 = .ok (.ifCond .ne 6, 3) := by decide +kernel
theorem d_Rf_stand_29 : decode m_Rf_stand.2.1 29 = .ok (.bipush (-3), 2) := by decide +kernel
theorem d_Rf_stand_31 : decode m_Rf_stand.2.1 31 = .ok (.ireturn, 1) := by decide +kernel
theorem d_Rf_stand_32 : decode m_Rf_stand.2.1 32 = .ok (.iconst 0, 1) := by decide +kernel
theorem d_Rf_stand_33 : decode m_Rf_stand.2.1 33 = .ok (.istore 4, 2) := by decide +kernel
theorem d_Rf_stand_35 : decode m_Rf_stand.2.1 35 = .ok (.iload 4, 2) := by decide +kernel
theorem d_Rf_stand_37 : decode m_Rf_stand.2.1 37 = .ok (.aload_n 0, 1) := by decide +kernel
theorem d_Rf_stand_38 : decode m_Rf_stand.2.1 38 = .ok (.getfield 240, 3) := by decide +kernel
theorem d_Rf_stand_41 : decode m_Rf_stand.2.1 41 = .ok (.if_icmp .ge 25, 3) := by decide +kernel
theorem d_Rf_stand_44 : decode m_Rf_stand.2.1 44 = .ok (.aload_n 0, 1) := by decide +kernel
theorem d_Rf_stand_45 : decode m_Rf_stand.2.1 45 = .ok (.getfield 51, 3) := by decide +kernel
theorem d_Rf_stand_48 : decode m_Rf_stand.2.1 48 = .ok (.iconst 3, 1) := by decide +kernel
theorem d_Rf_stand_49 : decode m_Rf_stand.2.1 49 = .ok (.iload 4, 2) := by decide +kernel
theorem d_Rf_stand_51 : decode m_Rf_stand.2.1 51 = .ok (.imul, 1) := by decide +kernel
theorem d_Rf_stand_52 : decode m_Rf_stand.2.1 52 = .ok (.iaload, 1) := by decide +kernel
theorem d_Rf_stand_53 : decode m_Rf_stand.2.1 53 = .ok (.iload_n 1, 1) := by decide +kernel
theorem d_Rf_stand_54 : decode m_Rf_stand.2.1 54 = .ok (.if_icmp .ne 6, 3) := by decide +kernel
theorem d_Rf_stand_57 : decode m_Rf_stand.2.1 57 = .ok (.bipush (-4), 2) := by decide +kernel
theorem d_Rf_stand_59 : decode m_Rf_stand.2.1 59 = .ok (.ireturn, 1) := by decide +kernel
theorem d_Rf_stand_60 : decode m_Rf_stand.2.1 60 = .ok (.iinc 4 1, 3) := by decide +kernel
theorem d_Rf_stand_63 : decode m_Rf_stand.2.1 63 = .ok (.goto (-28), 3) := by decide +kernel
theorem d_Rf_stand_66 : decode m_Rf_stand.2.1 66 = .ok (.aload_n 0, 1) := by decide +kernel
theorem d_Rf_stand_67 : decode m_Rf_stand.2.1 67 = .ok (.getfield 240, 3) := by decide +kernel
theorem d_Rf_stand_70 : decode m_Rf_stand.2.1 70 = .ok (.bipush 8, 2) := by decide +kernel
theorem d_Rf_stand_72 : decode m_Rf_stand.2.1 72 = .ok (.if_icmp .ne 6, 3) := by decide +kernel
theorem d_Rf_stand_75 : decode m_Rf_stand.2.1 75 = .ok (.bipush (-5), 2) := by decide +kernel
theorem d_Rf_stand_77 : decode m_Rf_stand.2.1 77 = .ok (.ireturn, 1) := by decide +kernel
theorem d_Rf_stand_78 : decode m_Rf_stand.2.1 78 = .ok (.aload_n 0, 1) := by decide +kernel
theorem d_Rf_stand_79 : decode m_Rf_stand.2.1 79 = .ok (.getfield 51, 3) := by decide +kernel
theorem d_Rf_stand_82 : decode m_Rf_stand.2.1 82 = .ok (.iconst 3, 1) := by decide +kernel
theorem d_Rf_stand_83 : decode m_Rf_stand.2.1 83 = .ok (.aload_n 0, 1) := by decide +kernel
theorem d_Rf_stand_84 : decode m_Rf_stand.2.1 84 = .ok (.getfield 240, 3) := by decide +kernel
theorem d_Rf_stand_87 : decode m_Rf_stand.2.1 87 = .ok (.imul, 1) := by decide +kernel
theorem d_Rf_stand_88 : decode m_Rf_stand.2.1 88 = .ok (.iload_n 1, 1) := by decide +kernel
theorem d_Rf_stand_89 : decode m_Rf_stand.2.1 89 = .ok (.iastore, 1) := by decide +kernel
theorem d_Rf_stand_90 : decode m_Rf_stand.2.1 90 = .ok (.aload_n 0, 1) := by decide +kernel
theorem d_Rf_stand_91 : decode m_Rf_stand.2.1 91 = .ok (.getfield 51, 3) := by decide +kernel
theorem d_Rf_stand_94 : decode m_Rf_stand.2.1 94 = .ok (.iconst 3, 1) := by decide +kernel
theorem d_Rf_stand_95 : decode m_Rf_stand.2.1 95 = .ok (.aload_n 0, 1) := by decide +kernel
theorem d_Rf_stand_96 : decode m_Rf_stand.2.1 96 = .ok (.getfield 240, 3) := by decide +kernel
theorem d_Rf_stand_99 : decode m_Rf_stand.2.1 99 = .ok (.imul, 1) := by decide +kernel
theorem d_Rf_stand_100 : decode m_Rf_stand.2.1 100 = .ok (.iconst 1, 1) := by decide +kernel
theorem d_Rf_stand_101 : decode m_Rf_stand.2.1 101 = .ok (.iadd, 1) := by decide +kernel
theorem d_Rf_stand_102 : decode m_Rf_stand.2.1 102 = .ok (.iload_n 2, 1) := by decide +kernel
theorem d_Rf_stand_103 : decode m_Rf_stand.2.1 103 = .ok (.iastore, 1) := by decide +kernel
theorem d_Rf_stand_104 : decode m_Rf_stand.2.1 104 = .ok (.aload_n 0, 1) := by decide +kernel
theorem d_Rf_stand_105 : decode m_Rf_stand.2.1 105 = .ok (.getfield 51, 3) := by decide +kernel
theorem d_Rf_stand_108 : decode m_Rf_stand.2.1 108 = .ok (.iconst 3, 1) := by decide +kernel
theorem d_Rf_stand_109 : decode m_Rf_stand.2.1 109 = .ok (.aload_n 0, 1) := by decide +kernel
theorem d_Rf_stand_110 : decode m_Rf_stand.2.1 110 = .ok (.getfield 240, 3) := by decide +kernel
theorem d_Rf_stand_113 : decode m_Rf_stand.2.1 113 = .ok (.imul, 1) := by decide +kernel
theorem d_Rf_stand_114 : decode m_Rf_stand.2.1 114 = .ok (.iconst 2, 1) := by decide +kernel
theorem d_Rf_stand_115 : decode m_Rf_stand.2.1 115 = .ok (.iadd, 1) := by decide +kernel
theorem d_Rf_stand_116 : decode m_Rf_stand.2.1 116 = .ok (.iload_n 3, 1) := by decide +kernel
theorem d_Rf_stand_117 : decode m_Rf_stand.2.1 117 = .ok (.iastore, 1) := by decide +kernel
theorem d_Rf_stand_118 : decode m_Rf_stand.2.1 118 = .ok (.aload_n 0, 1) := by decide +kernel
theorem d_Rf_stand_119 : decode m_Rf_stand.2.1 119 = .ok (.dup, 1) := by decide +kernel
theorem d_Rf_stand_120 : decode m_Rf_stand.2.1 120 = .ok (.getfield 240, 3) := by decide +kernel
theorem d_Rf_stand_123 : decode m_Rf_stand.2.1 123 = .ok (.iconst 1, 1) := by decide +kernel
theorem d_Rf_stand_124 : decode m_Rf_stand.2.1 124 = .ok (.iadd, 1) := by decide +kernel
theorem d_Rf_stand_125 : decode m_Rf_stand.2.1 125 = .ok (.putfield 240, 3) := by decide +kernel
theorem d_Rf_stand_128 : decode m_Rf_stand.2.1 128 = .ok (.aload_n 0, 1) := by decide +kernel
theorem d_Rf_stand_129 : decode m_Rf_stand.2.1 129 = .ok (.getfield 240, 3) := by decide +kernel
theorem d_Rf_stand_132 : decode m_Rf_stand.2.1 132 = .ok (.ireturn, 1) := by decide +kernel
theorem g_Rf_stand_0 {X : XS} (a1 : Int32) (a2 : Int32) (a3 : Int32) (h : Hp) (Q : Option AV → Hp → Prop)  (k : (∃ Q'4, EvI X m_Rf_in [vI a1, vI 0, vI 19] h Q'4 ∧ ∀ (r5 : Int32) (h3 : Hp), Q'4 r5 h3 → ((r5 = 0 → Q (some (vI (-3))) h3) ∧ (¬ r5 = 0 → (∃ Q'9, EvI X m_Rf_in [vI a2, vI 0, vI 3] h3 Q'9 ∧ ∀ (r10 : Int32) (h8 : Hp), Q'9 r10 h8 → ((r10 = 0 → Q (some (vI (-3))) h8) ∧ (¬ r10 = 0 → (∃ Q'14, EvI X m_Rf_in [vI a3, vI 0, vI 9] h8 Q'14 ∧ ∀ (r15 : Int32) (h13 : Hp), Q'14 r15 h13 → ((¬ r15 = 0 → Rn X m_Rf_stand 35 [some (vR [1]), some (vI a1), some (vI a2), some (vI a3), some (vI 0)] [] h13 Q) ∧ (r15 = 0 → Q (some (vI (-3))) h13)))))))))) : Rn X m_Rf_stand 0 [some (vR [1]), some (vI a1), some (vI a2), some (vI a3), none] [] h Q := by
  refine Rn.iload_n (n := 1) (i := 1) d_Rf_stand_0 rfl rfl rfl ?_
  refine Rn.iconst (n := 2) (v := 0) d_Rf_stand_1 rfl (by decide) ?_
  refine Rn.bipush (n := 4) (v := 19) d_Rf_stand_2 rfl (by decide) ?_
  obtain ⟨Q'4, ev1, k⟩ := k
  refine Rn.callS (n := 7) (av := [vI a1, vI 0, vI 19]) d_Rf_stand_4 rfl ml_Rf_stand_66 ms_Rf_in rfl rfl (Nat.le_of_ble_eq_true rfl) ev1 (fun v h3 hq => ?_)
  obtain ⟨r5, rfl, hq⟩ := hq
  have k := k r5 h3 hq
  show Rn X m_Rf_stand 7 [some (vR [1]), some (vI a1), some (vI a2), some (vI a3), none] [vI r5] h3 Q
  refine Rn.if_eq (n := 10) (t := 29) d_Rf_stand_7 rfl (by decide) (fun cc => ?_) (fun cc => ?_)
  · have k := k.1 cc
    refine Rn.bipush (n := 31) (v := (-3)) d_Rf_stand_29 rfl (by decide) ?_
    exact Rn.iret d_Rf_stand_31 rfl rfl k
  · have k := k.2 cc
    refine Rn.iload_n (n := 11) (i := 2) d_Rf_stand_10 rfl rfl rfl ?_
    refine Rn.iconst (n := 12) (v := 0) d_Rf_stand_11 rfl (by decide) ?_
    refine Rn.iconst (n := 13) (v := 3) d_Rf_stand_12 rfl (by decide) ?_
    obtain ⟨Q'9, ev6, k⟩ := k
    refine Rn.callS (n := 16) (av := [vI a2, vI 0, vI 3]) d_Rf_stand_13 rfl ml_Rf_stand_66 ms_Rf_in rfl rfl (Nat.le_of_ble_eq_true rfl) ev6 (fun v h8 hq => ?_)
    obtain ⟨r10, rfl, hq⟩ := hq
    have k := k r10 h8 hq
    show Rn X m_Rf_stand 16 [some (vR [1]), some (vI a1), some (vI a2), some (vI a3), none] [vI r10] h8 Q
    refine Rn.if_eq (n := 19) (t := 29) d_Rf_stand_16 rfl (by decide) (fun cc => ?_) (fun cc => ?_)
    · have k := k.1 cc
      refine Rn.bipush (n := 31) (v := (-3)) d_Rf_stand_29 rfl (by decide) ?_
      exact Rn.iret d_Rf_stand_31 rfl rfl k
    · have k := k.2 cc
      refine Rn.iload_n (n := 20) (i := 3) d_Rf_stand_19 rfl rfl rfl ?_
      refine Rn.iconst (n := 21) (v := 0) d_Rf_stand_20 rfl (by decide) ?_
      refine Rn.bipush (n := 23) (v := 9) d_Rf_stand_21 rfl (by decide) ?_
      obtain ⟨Q'14, ev11, k⟩ := k
      refine Rn.callS (n := 26) (av := [vI a3, vI 0, vI 9]) d_Rf_stand_23 rfl ml_Rf_stand_66 ms_Rf_in rfl rfl (Nat.le_of_ble_eq_true rfl) ev11 (fun v h13 hq => ?_)
      obtain ⟨r15, rfl, hq⟩ := hq
      have k := k r15 h13 hq
      show Rn X m_Rf_stand 26 [some (vR [1]), some (vI a1), some (vI a2), some (vI a3), none] [vI r15] h13 Q
      refine Rn.if_ne (n := 29) (t := 32) d_Rf_stand_26 rfl (by decide) (fun cc => ?_) (fun cc => ?_)
      · have k := k.1 cc
        refine Rn.iconst (n := 33) (v := 0) d_Rf_stand_32 rfl (by decide) ?_
        refine Rn.istore (n := 35) (i := 4) (ls2 := [some (vR [1]), some (vI a1), some (vI a2), some (vI a3), some (vI 0)]) d_Rf_stand_33 rfl (Nat.le_of_ble_eq_true rfl) rfl ?_
        exact k
      · have k := k.2 cc
        refine Rn.bipush (n := 31) (v := (-3)) d_Rf_stand_29 rfl (by decide) ?_
        exact Rn.iret d_Rf_stand_31 rfl rfl k
theorem g_Rf_stand_35 {X : XS} (a1 : Int32) (a2 : Int32) (a3 : Int32) (a4 : Int32) (h : Hp) (Q : Option AV → Hp → Prop)  (k : (((h.1 [1] 25) ≤ a4 → ((¬ (h.1 [1] 25) = 8 → (vp_in (3 * (h.1 [1] 25)) 24 ∧ (vp_in ((3 * ((hsI h [26, 1] ((3 * (h.1 [1] 25)).toNatClampNeg) a1).1 [1] 25)) + 1) 24 ∧ (vp_in ((3 * ((hsI (hsI h [26, 1] ((3 * (h.1 [1] 25)).toNatClampNeg) a1) [26, 1] (((3 * ((hsI h [26, 1] ((3 * (h.1 [1] 25)).toNatClampNeg) a1).1 [1] 25)) + 1).toNatClampNeg) a2).1 [1] 25)) + 2) 24 ∧ Q (some (vI ((hsI (hsI (hsI (hsI h [26, 1] ((3 * (h.1 [1] 25)).toNatClampNeg) a1) [26, 1] (((3 * ((hsI h [26, 1] ((3 * (h.1 [1] 25)).toNatClampNeg) a1).1 [1] 25)) + 1).toNatClampNeg) a2) [26, 1] (((3 * ((hsI (hsI h [26, 1] ((3 * (h.1 [1] 25)).toNatClampNeg) a1) [26, 1] (((3 * ((hsI h [26, 1] ((3 * (h.1 [1] 25)).toNatClampNeg) a1).1 [1] 25)) + 1).toNatClampNeg) a2).1 [1] 25)) + 2).toNatClampNeg) a3) [1] 25 (((hsI (hsI (hsI h [26, 1] ((3 * (h.1 [1] 25)).toNatClampNeg) a1) [26, 1] (((3 * ((hsI h [26, 1] ((3 * (h.1 [1] 25)).toNatClampNeg) a1).1 [1] 25)) + 1).toNatClampNeg) a2) [26, 1] (((3 * ((hsI (hsI h [26, 1] ((3 * (h.1 [1] 25)).toNatClampNeg) a1) [26, 1] (((3 * ((hsI h [26, 1] ((3 * (h.1 [1] 25)).toNatClampNeg) a1).1 [1] 25)) + 1).toNatClampNeg) a2).1 [1] 25)) + 2).toNatClampNeg) a3).1 [1] 25) + 1)).1 [1] 25))) (hsI (hsI (hsI (hsI h [26, 1] ((3 * (h.1 [1] 25)).toNatClampNeg) a1) [26, 1] (((3 * ((hsI h [26, 1] ((3 * (h.1 [1] 25)).toNatClampNeg) a1).1 [1] 25)) + 1).toNatClampNeg) a2) [26, 1] (((3 * ((hsI (hsI h [26, 1] ((3 * (h.1 [1] 25)).toNatClampNeg) a1) [26, 1] (((3 * ((hsI h [26, 1] ((3 * (h.1 [1] 25)).toNatClampNeg) a1).1 [1] 25)) + 1).toNatClampNeg) a2).1 [1] 25)) + 2).toNatClampNeg) a3) [1] 25 (((hsI (hsI (hsI h [26, 1] ((3 * (h.1 [1] 25)).toNatClampNeg) a1) [26, 1] (((3 * ((hsI h [26, 1] ((3 * (h.1 [1] 25)).toNatClampNeg) a1).1 [1] 25)) + 1).toNatClampNeg) a2) [26, 1] (((3 * ((hsI (hsI h [26, 1] ((3 * (h.1 [1] 25)).toNatClampNeg) a1) [26, 1] (((3 * ((hsI h [26, 1] ((3 * (h.1 [1] 25)).toNatClampNeg) a1).1 [1] 25)) + 1).toNatClampNeg) a2).1 [1] 25)) + 2).toNatClampNeg) a3).1 [1] 25) + 1)))))) ∧ ((h.1 [1] 25) = 8 → Q (some (vI (-5))) h))) ∧ (¬ (h.1 [1] 25) ≤ a4 → (vp_in (3 * a4) 24 ∧ ((¬ (h.1 [26, 1] (3 * a4).toNatClampNeg) = a1 → Rn X m_Rf_stand 35 [some (vR [1]), some (vI a1), some (vI a2), some (vI a3), some (vI (a4 + 1))] [] h Q) ∧ ((h.1 [26, 1] (3 * a4).toNatClampNeg) = a1 → Q (some (vI (-4))) h)))))) : Rn X m_Rf_stand 35 [some (vR [1]), some (vI a1), some (vI a2), some (vI a3), some (vI a4)] [] h Q := by
  refine Rn.iload (n := 37) (i := 4) d_Rf_stand_35 rfl rfl ?_
  refine Rn.aload_n (n := 38) (i := 0) d_Rf_stand_37 rfl rfl rfl ?_
  refine Rn.getf (n := 41) (v := vI (h.1 [1] 25)) d_Rf_stand_38 rfl fl_Rf_240 Lv_1 rfl ?_
  refine Rn.icmp_ge (n := 44) (t := 66) d_Rf_stand_41 rfl (by decide) (fun cc => ?_) (fun cc => ?_)
  · have k := k.1 cc
    refine Rn.aload_n (n := 67) (i := 0) d_Rf_stand_66 rfl rfl rfl ?_
    refine Rn.getf (n := 70) (v := vI (h.1 [1] 25)) d_Rf_stand_67 rfl fl_Rf_240 Lv_1 rfl ?_
    refine Rn.bipush (n := 72) (v := 8) d_Rf_stand_70 rfl (by decide) ?_
    refine Rn.icmp_ne (n := 75) (t := 78) d_Rf_stand_72 rfl (by decide) (fun cc => ?_) (fun cc => ?_)
    · have k := k.1 cc
      refine Rn.aload_n (n := 79) (i := 0) d_Rf_stand_78 rfl rfl rfl ?_
      refine Rn.getf (n := 82) (v := vR [26, 1]) d_Rf_stand_79 rfl fl_Rf_51 Lv_1 rfl ?_
      refine Rn.iconst (n := 83) (v := 3) d_Rf_stand_82 rfl (by decide) ?_
      refine Rn.aload_n (n := 84) (i := 0) d_Rf_stand_83 rfl rfl rfl ?_
      refine Rn.getf (n := 87) (v := vI (h.1 [1] 25)) d_Rf_stand_84 rfl fl_Rf_240 Lv_1 rfl ?_
      refine Rn.imul (n := 88) d_Rf_stand_87 rfl ?_
      refine Rn.iload_n (n := 89) (i := 1) d_Rf_stand_88 rfl rfl rfl ?_
      obtain ⟨b1, k⟩ := k
      refine Rn.iast (n := 90) d_Rf_stand_89 rfl Lv_26_1 b1 ?_
      refine Rn.aload_n (n := 91) (i := 0) d_Rf_stand_90 rfl rfl rfl ?_
      refine Rn.getf (n := 94) (v := vR [26, 1]) d_Rf_stand_91 rfl fl_Rf_51 Lv_1 rfl ?_
      refine Rn.iconst (n := 95) (v := 3) d_Rf_stand_94 rfl (by decide) ?_
      refine Rn.aload_n (n := 96) (i := 0) d_Rf_stand_95 rfl rfl rfl ?_
      refine Rn.getf (n := 99) (v := vI ((hsI h [26, 1] ((3 * (h.1 [1] 25)).toNatClampNeg) a1).1 [1] 25)) d_Rf_stand_96 rfl fl_Rf_240 Lv_1 rfl ?_
      refine Rn.imul (n := 100) d_Rf_stand_99 rfl ?_
      refine Rn.iconst (n := 101) (v := 1) d_Rf_stand_100 rfl (by decide) ?_
      refine Rn.iadd (n := 102) d_Rf_stand_101 rfl ?_
      refine Rn.iload_n (n := 103) (i := 2) d_Rf_stand_102 rfl rfl rfl ?_
      obtain ⟨b2, k⟩ := k
      refine Rn.iast (n := 104) d_Rf_stand_103 rfl Lv_26_1 b2 ?_
      refine Rn.aload_n (n := 105) (i := 0) d_Rf_stand_104 rfl rfl rfl ?_
      refine Rn.getf (n := 108) (v := vR [26, 1]) d_Rf_stand_105 rfl fl_Rf_51 Lv_1 rfl ?_
      refine Rn.iconst (n := 109) (v := 3) d_Rf_stand_108 rfl (by decide) ?_
      refine Rn.aload_n (n := 110) (i := 0) d_Rf_stand_109 rfl rfl rfl ?_
      refine Rn.getf (n := 113) (v := vI ((hsI (hsI h [26, 1] ((3 * (h.1 [1] 25)).toNatClampNeg) a1) [26, 1] (((3 * ((hsI h [26, 1] ((3 * (h.1 [1] 25)).toNatClampNeg) a1).1 [1] 25)) + 1).toNatClampNeg) a2).1 [1] 25)) d_Rf_stand_110 rfl fl_Rf_240 Lv_1 rfl ?_
      refine Rn.imul (n := 114) d_Rf_stand_113 rfl ?_
      refine Rn.iconst (n := 115) (v := 2) d_Rf_stand_114 rfl (by decide) ?_
      refine Rn.iadd (n := 116) d_Rf_stand_115 rfl ?_
      refine Rn.iload_n (n := 117) (i := 3) d_Rf_stand_116 rfl rfl rfl ?_
      obtain ⟨b3, k⟩ := k
      refine Rn.iast (n := 118) d_Rf_stand_117 rfl Lv_26_1 b3 ?_
      refine Rn.aload_n (n := 119) (i := 0) d_Rf_stand_118 rfl rfl rfl ?_
      refine Rn.dup (n := 120) d_Rf_stand_119 rfl rfl ?_
      refine Rn.getf (n := 123) (v := vI ((hsI (hsI (hsI h [26, 1] ((3 * (h.1 [1] 25)).toNatClampNeg) a1) [26, 1] (((3 * ((hsI h [26, 1] ((3 * (h.1 [1] 25)).toNatClampNeg) a1).1 [1] 25)) + 1).toNatClampNeg) a2) [26, 1] (((3 * ((hsI (hsI h [26, 1] ((3 * (h.1 [1] 25)).toNatClampNeg) a1) [26, 1] (((3 * ((hsI h [26, 1] ((3 * (h.1 [1] 25)).toNatClampNeg) a1).1 [1] 25)) + 1).toNatClampNeg) a2).1 [1] 25)) + 2).toNatClampNeg) a3).1 [1] 25)) d_Rf_stand_120 rfl fl_Rf_240 Lv_1 rfl ?_
      refine Rn.iconst (n := 124) (v := 1) d_Rf_stand_123 rfl (by decide) ?_
      refine Rn.iadd (n := 125) d_Rf_stand_124 rfl ?_
      refine Rn.putI (n := 128) d_Rf_stand_125 rfl fl_Rf_240 pl_Rf_25 Lv_1 rfl ?_
      refine Rn.aload_n (n := 129) (i := 0) d_Rf_stand_128 rfl rfl rfl ?_
      refine Rn.getf (n := 132) (v := vI ((hsI (hsI (hsI (hsI h [26, 1] ((3 * (h.1 [1] 25)).toNatClampNeg) a1) [26, 1] (((3 * ((hsI h [26, 1] ((3 * (h.1 [1] 25)).toNatClampNeg) a1).1 [1] 25)) + 1).toNatClampNeg) a2) [26, 1] (((3 * ((hsI (hsI h [26, 1] ((3 * (h.1 [1] 25)).toNatClampNeg) a1) [26, 1] (((3 * ((hsI h [26, 1] ((3 * (h.1 [1] 25)).toNatClampNeg) a1).1 [1] 25)) + 1).toNatClampNeg) a2).1 [1] 25)) + 2).toNatClampNeg) a3) [1] 25 (((hsI (hsI (hsI h [26, 1] ((3 * (h.1 [1] 25)).toNatClampNeg) a1) [26, 1] (((3 * ((hsI h [26, 1] ((3 * (h.1 [1] 25)).toNatClampNeg) a1).1 [1] 25)) + 1).toNatClampNeg) a2) [26, 1] (((3 * ((hsI (hsI h [26, 1] ((3 * (h.1 [1] 25)).toNatClampNeg) a1) [26, 1] (((3 * ((hsI h [26, 1] ((3 * (h.1 [1] 25)).toNatClampNeg) a1).1 [1] 25)) + 1).toNatClampNeg) a2).1 [1] 25)) + 2).toNatClampNeg) a3).1 [1] 25) + 1)).1 [1] 25)) d_Rf_stand_129 rfl fl_Rf_240 Lv_1 rfl ?_
      exact Rn.iret d_Rf_stand_132 rfl rfl k
    · have k := k.2 cc
      refine Rn.bipush (n := 77) (v := (-5)) d_Rf_stand_75 rfl (by decide) ?_
      exact Rn.iret d_Rf_stand_77 rfl rfl k
  · have k := k.2 cc
    refine Rn.aload_n (n := 45) (i := 0) d_Rf_stand_44 rfl rfl rfl ?_
    refine Rn.getf (n := 48) (v := vR [26, 1]) d_Rf_stand_45 rfl fl_Rf_51 Lv_1 rfl ?_
    refine Rn.iconst (n := 49) (v := 3) d_Rf_stand_48 rfl (by decide) ?_
    refine Rn.iload (n := 51) (i := 4) d_Rf_stand_49 rfl rfl ?_
    refine Rn.imul (n := 52) d_Rf_stand_51 rfl ?_
    obtain ⟨b4, k⟩ := k
    refine Rn.iald (n := 53) (v := h.1 [26, 1] (3 * a4).toNatClampNeg) d_Rf_stand_52 rfl Lv_26_1 b4 rfl ?_
    refine Rn.iload_n (n := 54) (i := 1) d_Rf_stand_53 rfl rfl rfl ?_
    refine Rn.icmp_ne (n := 57) (t := 60) d_Rf_stand_54 rfl (by decide) (fun cc => ?_) (fun cc => ?_)
    · have k := k.1 cc
      refine Rn.iinc (n := 63) (i := 4) (v := a4 + 1) (ls2 := [some (vR [1]), some (vI a1), some (vI a2), some (vI a3), some (vI (a4 + 1))]) d_Rf_stand_60 rfl rfl rfl (Nat.le_of_ble_eq_true rfl) rfl ?_
      refine Rn.goto (n := 35) d_Rf_stand_63 (by decide) ?_
      exact k
    · have k := k.2 cc
      refine Rn.bipush (n := 59) (v := (-4)) d_Rf_stand_57 rfl (by decide) ?_
      exact Rn.iret d_Rf_stand_59 rfl rfl k
theorem e_Rf_stand {X : XS} (a1 : Int32) (a2 : Int32) (a3 : Int32) (h : Hp) (Q : Option AV → Hp → Prop) (k : Rn X m_Rf_stand 0 [some (vR [1]), some (vI a1), some (vI a2), some (vI a3), none] [] h Q) : Ev X m_Rf_stand [vR [1], vI a1, vI a2, vI a3] h Q := Ev.intro (plainFor_of_name (by decide +kernel)) (Nat.le_of_ble_eq_true rfl) (ls := [some (vR [1]), some (vI a1), some (vI a2), some (vI a3), none]) rfl k
theorem d_Rf_bus_0 : decode m_Rf_bus.2.1 0 = .ok (.aload_n 0, 1) := by decide +kernel
theorem d_Rf_bus_1 : decode m_Rf_bus.2.1 1 = .ok (.getfield 240, 3) := by decide +kernel
theorem d_Rf_bus_4 : decode m_Rf_bus.2.1 4 = .ok (.istore_n 1, 1) := by decide +kernel
theorem d_Rf_bus_5 : decode m_Rf_bus.2.1 5 = .ok (.aload_n 0, 1) := by decide +kernel
theorem d_Rf_bus_6 : decode m_Rf_bus.2.1 6 = .ok (.iconst 0, 1) := by decide +kernel
theorem d_Rf_bus_7 : decode m_Rf_bus.2.1 7 = .ok (.putfield 240, 3) := by decide +kernel
theorem d_Rf_bus_10 : decode m_Rf_bus.2.1 10 = .ok (.iload_n 1, 1) := by decide +kernel
theorem d_Rf_bus_11 : decode m_Rf_bus.2.1 11 = .ok (.ireturn, 1) := by decide +kernel
theorem g_Rf_bus_0 {X : XS}  (h : Hp) (Q : Option AV → Hp → Prop)  (k : Q (some (vI (h.1 [1] 25))) (hsI h [1] 25 0)) : Rn X m_Rf_bus 0 [some (vR [1]), none] [] h Q := by
  refine Rn.aload_n (n := 1) (i := 0) d_Rf_bus_0 rfl rfl rfl ?_
  refine Rn.getf (n := 4) (v := vI (h.1 [1] 25)) d_Rf_bus_1 rfl fl_Rf_240 Lv_1 rfl ?_
  refine Rn.istore_n (n := 5) (i := 1) (ls2 := [some (vR [1]), some (vI (h.1 [1] 25))]) d_Rf_bus_4 rfl rfl (Nat.le_of_ble_eq_true rfl) rfl ?_
  refine Rn.aload_n (n := 6) (i := 0) d_Rf_bus_5 rfl rfl rfl ?_
  refine Rn.iconst (n := 7) (v := 0) d_Rf_bus_6 rfl (by decide) ?_
  refine Rn.putI (n := 10) d_Rf_bus_7 rfl fl_Rf_240 pl_Rf_25 Lv_1 rfl ?_
  refine Rn.iload_n (n := 11) (i := 1) d_Rf_bus_10 rfl rfl rfl ?_
  exact Rn.iret d_Rf_bus_11 rfl rfl k
theorem e_Rf_bus {X : XS}  (h : Hp) (Q : Option AV → Hp → Prop) (k : Rn X m_Rf_bus 0 [some (vR [1]), none] [] h Q) : Ev X m_Rf_bus [vR [1]] h Q := Ev.intro (plainFor_of_name (by decide +kernel)) (Nat.le_of_ble_eq_true rfl) (ls := [some (vR [1]), none]) rfl k
theorem d_Rf_isHigher_0 : decode m_Rf_isHigher.2.1 0 = .ok (.aload_n 0, 1) := by decide +kernel
theorem d_Rf_isHigher_1 : decode m_Rf_isHigher.2.1 1 = .ok (.getfield 51, 3) := by decide +kernel
theorem d_Rf_isHigher_4 : decode m_Rf_isHigher.2.1 4 = .ok (.iconst 3, 1) := by decide +kernel
theorem d_Rf_isHigher_5 : decode m_Rf_isHigher.2.1 5 = .ok (.iload_n 1, 1) := by decide +kernel
theorem d_Rf_isHigher_6 : decode m_Rf_isHigher.2.1 6 = .ok (.imul, 1) := by decide +kernel
theorem d_Rf_isHigher_7 : decode m_Rf_isHigher.2.1 7 = .ok (.iconst 2, 1) := by decide +kernel
theorem d_Rf_isHigher_8 : decode m_Rf_isHigher.2.1 8 = .ok (.iadd, 1) := by decide +kernel
theorem d_Rf_isHigher_9 : decode m_Rf_isHigher.2.1 9 = .ok (.iaload, 1) := by decide +kernel
theorem d_Rf_isHigher_10 : decode m_Rf_isHigher.2.1 10 = .ok (.aload_n 0, 1) := by decide +kernel
theorem d_Rf_isHigher_11 : decode m_Rf_isHigher.2.1 11 = .ok (.getfield 51, 3) := by decide +kernel
theorem d_Rf_isHigher_14 : decode m_Rf_isHigher.2.1 14 = .ok (.iconst 3, 1) := by decide +kernel
theorem d_Rf_isHigher_15 : decode m_Rf_isHigher.2.1 15 = .ok (.iload_n 2, 1) := by decide +kernel
theorem d_Rf_isHigher_16 : decode m_Rf_isHigher.2.1 16 = .ok (.imul, 1) := by decide +kernel
theorem d_Rf_isHigher_17 : decode m_Rf_isHigher.2.1 17 = .ok (.iconst 2, 1) := by decide +kernel
theorem d_Rf_isHigher_18 : decode m_Rf_isHigher.2.1 18 = .ok (.iadd, 1) := by decide +kernel
theorem d_Rf_isHigher_19 : decode m_Rf_isHigher.2.1 19 = .ok (.iaload, 1) := by decide +kernel
theorem d_Rf_isHigher_20 : decode m_Rf_isHigher.2.1 20 = .ok (.if_icmp .gt 31, 3) := by decide +kernel
theorem d_Rf_isHigher_23 : decode m_Rf_isHigher.2.1 23 = .ok (.aload_n 0, 1) := by decide +kernel
theorem d_Rf_isHigher_24 : decode m_Rf_isHigher.2.1 24 = .ok (.getfield 51, 3) := by decide +kernel
theorem d_Rf_isHigher_27 : decode m_Rf_isHigher.2.1 27 = .ok (.iconst 3, 1) := by decide +kernel
theorem d_Rf_isHigher_28 : decode m_Rf_isHigher.2.1 28 = .ok (.iload_n 1, 1) := by decide +kernel
theorem d_Rf_isHigher_29 : decode m_Rf_isHigher.2.1 29 = .ok (.imul, 1) := by decide +kernel
theorem d_Rf_isHigher_30 : decode m_Rf_isHigher.2.1 30 = .ok (.iconst 2, 1) := by decide +kernel
theorem d_Rf_isHigher_31 : decode m_Rf_isHigher.2.1 31 = .ok (.iadd, 1) := by decide +kernel
theorem d_Rf_isHigher_32 : decode m_Rf_isHigher.2.1 32 = .ok (.iaload, 1) := by decide +kernel
theorem d_Rf_isHigher_33 : decode m_Rf_isHigher.2.1 33 = .ok (.aload_n 0, 1) := by decide +kernel
theorem d_Rf_isHigher_34 : decode m_Rf_isHigher.2.1 34 = .ok (.getfield 51, 3) := by decide +kernel
theorem d_Rf_isHigher_37 : decode m_Rf_isHigher.2.1 37 = .ok (.iconst 3, 1) := by decide +kernel
theorem d_Rf_isHigher_38 : decode m_Rf_isHigher.2.1 38 = .ok (.iload_n 2, 1) := by decide +kernel
theorem d_Rf_isHigher_39 : decode m_Rf_isHigher.2.1 39 = .ok (.imul, 1) := by decide +kernel
theorem d_Rf_isHigher_40 : decode m_Rf_isHigher.2.1 40 = .ok (.iconst 2, 1) := by decide +kernel
theorem d_Rf_isHigher_41 : decode m_Rf_isHigher.2.1 41 = .ok (.iadd, 1) := by decide +kernel
theorem d_Rf_isHigher_42 : decode m_Rf_isHigher.2.1 42 = .ok (.iaload, 1) := by decide +kernel
theorem d_Rf_isHigher_43 : decode m_Rf_isHigher.2.1 43 = .ok (.if_icmp .ne 12, 3) := by decide +kernel
theorem d_Rf_isHigher_46 : decode m_Rf_isHigher.2.1 46 = .ok (.iload_n 1, 1) := by decide +kernel
theorem d_Rf_isHigher_47 : decode m_Rf_isHigher.2.1 47 = .ok (.iload_n 2, 1) := by decide +kernel
theorem d_Rf_isHigher_48 : decode m_Rf_isHigher.2.1 48 = .ok (.if_icmp .le 7, 3) := by decide +kernel
theorem d_Rf_isHigher_51 : decode m_Rf_isHigher.2.1 51 = .ok (.iconst 1, 1) := by decide +kernel
theorem d_Rf_isHigher_52 : decode m_Rf_isHigher.2.1 52 = .ok (.goto 4, 3) := by decide +kernel
theorem d_Rf_isHigher_55 : decode m_Rf_isHigher.2.1 55 = .ok (.iconst 0, 1) := by decide +kernel
theorem d_Rf_isHigher_56 : decode m_Rf_isHigher.2.1 56 = .ok (.ireturn, 1) := by decide +kernel
theorem g_Rf_isHigher_0 {X : XS} (a1 : Int32) (a2 : Int32) (h : Hp) (Q : Option AV → Hp → Prop)  (k : (vp_in ((3 * a1) + 2) 24 ∧ (vp_in ((3 * a2) + 2) 24 ∧ (((h.1 [26, 1] ((3 * a2) + 2).toNatClampNeg) < (h.1 [26, 1] ((3 * a1) + 2).toNatClampNeg) → Q (some (vI 1)) h) ∧ (¬ (h.1 [26, 1] ((3 * a2) + 2).toNatClampNeg) < (h.1 [26, 1] ((3 * a1) + 2).toNatClampNeg) → (vp_in ((3 * a1) + 2) 24 ∧ (vp_in ((3 * a2) + 2) 24 ∧ ((¬ (h.1 [26, 1] ((3 * a1) + 2).toNatClampNeg) = (h.1 [26, 1] ((3 * a2) + 2).toNatClampNeg) → Q (some (vI 0)) h) ∧ ((h.1 [26, 1] ((3 * a1) + 2).toNatClampNeg) = (h.1 [26, 1] ((3 * a2) + 2).toNatClampNeg) → ((a1 ≤ a2 → Q (some (vI 0)) h) ∧ (¬ a1 ≤ a2 → Q (some (vI 1)) h))))))))))) : Rn X m_Rf_isHigher 0 [some (vR [1]), some (vI a1), some (vI a2)] [] h Q := by
  refine Rn.aload_n (n := 1) (i := 0) d_Rf_isHigher_0 rfl rfl rfl ?_
  refine Rn.getf (n := 4) (v := vR [26, 1]) d_Rf_isHigher_1 rfl fl_Rf_51 Lv_1 rfl ?_
  refine Rn.iconst (n := 5) (v := 3) d_Rf_isHigher_4 rfl (by decide) ?_
  refine Rn.iload_n (n := 6) (i := 1) d_Rf_isHigher_5 rfl rfl rfl ?_
  refine Rn.imul (n := 7) d_Rf_isHigher_6 rfl ?_
  refine Rn.iconst (n := 8) (v := 2) d_Rf_isHigher_7 rfl (by decide) ?_
  refine Rn.iadd (n := 9) d_Rf_isHigher_8 rfl ?_
  obtain ⟨b1, k⟩ := k
  refine Rn.iald (n := 10) (v := h.1 [26, 1] ((3 * a1) + 2).toNatClampNeg) d_Rf_isHigher_9 rfl Lv_26_1 b1 rfl ?_
  refine Rn.aload_n (n := 11) (i := 0) d_Rf_isHigher_10 rfl rfl rfl ?_
  refine Rn.getf (n := 14) (v := vR [26, 1]) d_Rf_isHigher_11 rfl fl_Rf_51 Lv_1 rfl ?_
  refine Rn.iconst (n := 15) (v := 3) d_Rf_isHigher_14 rfl (by decide) ?_
  refine Rn.iload_n (n := 16) (i := 2) d_Rf_isHigher_15 rfl rfl rfl ?_
  refine Rn.imul (n := 17) d_Rf_isHigher_16 rfl ?_
  refine Rn.iconst (n := 18) (v := 2) d_Rf_isHigher_17 rfl (by decide) ?_
  refine Rn.iadd (n := 19) d_Rf_isHigher_18 rfl ?_
  obtain ⟨b2, k⟩ := k
  refine Rn.iald (n := 20) (v := h.1 [26, 1] ((3 * a2) + 2).toNatClampNeg) d_Rf_isHigher_19 rfl Lv_26_1 b2 rfl ?_
  refine Rn.icmp_gt (n := 23) (t := 51) d_Rf_isHigher_20 rfl (by decide) (fun cc => ?_) (fun cc => ?_)
  · have k := k.1 cc
    refine Rn.iconst (n := 52) (v := 1) d_Rf_isHigher_51 rfl (by decide) ?_
    refine Rn.goto (n := 56) d_Rf_isHigher_52 (by decide) ?_
    exact Rn.iret d_Rf_isHigher_56 rfl rfl k
  · have k := k.2 cc
    refine Rn.aload_n (n := 24) (i := 0) d_Rf_isHigher_23 rfl rfl rfl ?_
    refine Rn.getf (n := 27) (v := vR [26, 1]) d_Rf_isHigher_24 rfl fl_Rf_51 Lv_1 rfl ?_
    refine Rn.iconst (n := 28) (v := 3) d_Rf_isHigher_27 rfl (by decide) ?_
    refine Rn.iload_n (n := 29) (i := 1) d_Rf_isHigher_28 rfl rfl rfl ?_
    refine Rn.imul (n := 30) d_Rf_isHigher_29 rfl ?_
    refine Rn.iconst (n := 31) (v := 2) d_Rf_isHigher_30 rfl (by decide) ?_
    refine Rn.iadd (n := 32) d_Rf_isHigher_31 rfl ?_
    obtain ⟨b3, k⟩ := k
    refine Rn.iald (n := 33) (v := h.1 [26, 1] ((3 * a1) + 2).toNatClampNeg) d_Rf_isHigher_32 rfl Lv_26_1 b3 rfl ?_
    refine Rn.aload_n (n := 34) (i := 0) d_Rf_isHigher_33 rfl rfl rfl ?_
    refine Rn.getf (n := 37) (v := vR [26, 1]) d_Rf_isHigher_34 rfl fl_Rf_51 Lv_1 rfl ?_
    refine Rn.iconst (n := 38) (v := 3) d_Rf_isHigher_37 rfl (by decide) ?_
    refine Rn.iload_n (n := 39) (i := 2) d_Rf_isHigher_38 rfl rfl rfl ?_
    refine Rn.imul (n := 40) d_Rf_isHigher_39 rfl ?_
    refine Rn.iconst (n := 41) (v := 2) d_Rf_isHigher_40 rfl (by decide) ?_
    refine Rn.iadd (n := 42) d_Rf_isHigher_41 rfl ?_
    obtain ⟨b4, k⟩ := k
    refine Rn.iald (n := 43) (v := h.1 [26, 1] ((3 * a2) + 2).toNatClampNeg) d_Rf_isHigher_42 rfl Lv_26_1 b4 rfl ?_
    refine Rn.icmp_ne (n := 46) (t := 55) d_Rf_isHigher_43 rfl (by decide) (fun cc => ?_) (fun cc => ?_)
    · have k := k.1 cc
      refine Rn.iconst (n := 56) (v := 0) d_Rf_isHigher_55 rfl (by decide) ?_
      exact Rn.iret d_Rf_isHigher_56 rfl rfl k
    · have k := k.2 cc
      refine Rn.iload_n (n := 47) (i := 1) d_Rf_isHigher_46 rfl rfl rfl ?_
      refine Rn.iload_n (n := 48) (i := 2) d_Rf_isHigher_47 rfl rfl rfl ?_
      refine Rn.icmp_le (n := 51) (t := 55) d_Rf_isHigher_48 rfl (by decide) (fun cc => ?_) (fun cc => ?_)
      · have k := k.1 cc
        refine Rn.iconst (n := 56) (v := 0) d_Rf_isHigher_55 rfl (by decide) ?_
        exact Rn.iret d_Rf_isHigher_56 rfl rfl k
      · have k := k.2 cc
        refine Rn.iconst (n := 52) (v := 1) d_Rf_isHigher_51 rfl (by decide) ?_
        refine Rn.goto (n := 56) d_Rf_isHigher_52 (by decide) ?_
        exact Rn.iret d_Rf_isHigher_56 rfl rfl k
theorem e_Rf_isHigher {X : XS} (a1 : Int32) (a2 : Int32) (h : Hp) (Q : Option AV → Hp → Prop) (k : Rn X m_Rf_isHigher 0 [some (vR [1]), some (vI a1), some (vI a2)] [] h Q) : Ev X m_Rf_isHigher [vR [1], vI a1, vI a2] h Q := Ev.intro (plainFor_of_name (by decide +kernel)) (Nat.le_of_ble_eq_true rfl) (ls := [some (vR [1]), some (vI a1), some (vI a2)]) rfl k
theorem d_Rf_umbrellaAt_0 : decode m_Rf_umbrellaAt.2.1 0 = .ok (.iconst (-1), 1) := by decide +kernel
theorem d_Rf_umbrellaAt_1 : decode m_Rf_umbrellaAt.2.1 1 = .ok (.istore_n 3, 1) := by decide +kernel
theorem d_Rf_umbrellaAt_2 : decode m_Rf_umbrellaAt.2.1 2 = .ok (.iconst 0, 1) := by decide +kernel
theorem d_Rf_umbrellaAt_3 : decode m_Rf_umbrellaAt.2.1 3 = .ok (.istore 4, 2) := by decide +kernel
theorem d_Rf_umbrellaAt_5 : decode m_Rf_umbrellaAt.2.1 5 = .ok (.iload 4, 2) := by decide +kernel
theorem d_Rf_umbrellaAt_7 : decode m_Rf_umbrellaAt.2.1 7 = .ok (.aload_n 0, 1) := by decide +kernel
theorem d_Rf_umbrellaAt_8 : decode m_Rf_umbrellaAt.2.1 8 = .ok (.getfield 240, 3) := by decide +kernel
theorem d_Rf_umbrellaAt_11 : decode m_Rf_umbrellaAt.2.1 11 = .ok (.if_icmp .ge 85, 3) := by decide +kernel
theorem d_Rf_umbrellaAt_14 : decode m_Rf_umbrellaAt.2.1 14 = .ok (.aload_n 0, 1) := by decide +kernel
theorem d_Rf_umbrellaAt_15 : decode m_Rf_umbrellaAt.2.1 15 = .ok (.getfield 51, 3) := by decide +kernel
theorem d_Rf_umbrellaAt_18 : decode m_Rf_umbrellaAt.2.1 18 = .ok (.iconst 3, 1) := by decide +kernel
theorem d_Rf_umbrellaAt_19 : decode m_Rf_umbrellaAt.2.1 19 = .ok (.iload 4, 2) := by decide +kernel
theorem d_Rf_umbrellaAt_21 : decode m_Rf_umbrellaAt.2.1 21 = .ok (.imul, 1) := by decide +kernel
theorem d_Rf_umbrellaAt_22 : decode m_Rf_umbrellaAt.2.1 22 = .ok (.iaload, 1) := by decide +kernel
theorem d_Rf_umbrellaAt_23 : decode m_Rf_umbrellaAt.2.1 23 = .ok (.iload_n 1, 1) := by decide +kernel
theorem d_Rf_umbrellaAt_24 : decode m_Rf_umbrellaAt.2.1 24 = .ok (.invokestatic 184, 3) := by decide +kernel
theorem d_Rf_umbrellaAt_27 : decode m_Rf_umbrellaAt.2.1 27 = .ok (.aload_n 0, 1) := by decide +kernel
theorem d_Rf_umbrellaAt_28 : decode m_Rf_umbrellaAt.2.1 28 = .ok (.getfield 51, 3) := by decide +kernel
theorem d_Rf_umbrellaAt_31 : decode m_Rf_umbrellaAt.2.1 31 = .ok (.iconst 3, 1) := by decide +kernel
theorem d_Rf_umbrellaAt_32 : decode m_Rf_umbrellaAt.2.1 32 = .ok (.iload 4, 2) := by decide +kernel
theorem d_Rf_umbrellaAt_34 : decode m_Rf_umbrellaAt.2.1 34 = .ok (.imul, 1) := by decide +kernel
theorem d_Rf_umbrellaAt_35 : decode m_Rf_umbrellaAt.2.1 35 = .ok (.iconst 1, 1) := by decide +kernel
theorem d_Rf_umbrellaAt_36 : decode m_Rf_umbrellaAt.2.1 36 = .ok (.iadd, 1) := by decide +kernel
theorem d_Rf_umbrellaAt_37 : decode m_Rf_umbrellaAt.2.1 37 = .ok (.iaload, 1) := by decide +kernel
theorem d_Rf_umbrellaAt_38 : decode m_Rf_umbrellaAt.2.1 38 = .ok (.if_icmp .ge 22, 3) := by decide +kernel
theorem d_Rf_umbrellaAt_41 : decode m_Rf_umbrellaAt.2.1 41 = .ok (.iload_n 2, 1) := by decide +kernel
theorem d_Rf_umbrellaAt_42 : decode m_Rf_umbrellaAt.2.1 42 = .ok (.iconst (-1), 1) := by decide +kernel
theorem d_Rf_umbrellaAt_43 : decode m_Rf_umbrellaAt.2.1 43 = .ok (.if_icmp .eq 13, 3) := by decide +kernel
theorem d_Rf_umbrellaAt_46 : decode m_Rf_umbrellaAt.2.1 46 = .ok (.aload_n 0, 1) := by decide +kernel
theorem d_Rf_umbrellaAt_47 : decode m_Rf_umbrellaAt.2.1 47 = .ok (.iload_n 2, 1) := by decide +kernel
theorem d_Rf_umbrellaAt_48 : decode m_Rf_umbrellaAt.2.1 48 = .ok (.iload 4, 2) := by decide +kernel
theorem d_Rf_umbrellaAt_50 : decode m_Rf_umbrellaAt.2.1 50 = .ok (.invokevirtual 243, 3) := by decide +kernel
theorem d_Rf_umbrellaAt_53 : decode m_Rf_umbrellaAt.2.1 53 = .ok (.ifCond .eq 7, 3) := by decide +kernel
theorem d_Rf_umbrellaAt_56 : decode m_Rf_umbrellaAt.2.1 56 = .ok (.iconst 1, 1) := by decide +kernel
theorem d_Rf_umbrellaAt_57 : decode m_Rf_umbrellaAt.2.1 57 = .ok (.goto 4, 3) := by decide +kernel
theorem d_Rf_umbrellaAt_60 : decode m_Rf_umbrellaAt.2.1 60 = .ok (.iconst 0, 1) := by decide +kernel
theorem d_Rf_umbrellaAt_61 : decode m_Rf_umbrellaAt.2.1 61 = .ok (.istore 5, 2) := by decide +kernel
theorem d_Rf_umbrellaAt_63 : decode m_Rf_umbrellaAt.2.1 63 = .ok (.iload 5, 2) := by decide +kernel
theorem d_Rf_umbrellaAt_65 : decode m_Rf_umbrellaAt.2.1 65 = .ok (.ifCond .eq 23, 3) := by decide +kernel
theorem d_Rf_umbrellaAt_68 : decode m_Rf_umbrellaAt.2.1 68 = .ok (.iload_n 3, 1) := by decide +kernel
theorem d_Rf_umbrellaAt_69 : decode m_Rf_umbrellaAt.2.1 69 = .ok (.iconst (-1), 1) := by decide +kernel
theorem d_Rf_umbrellaAt_70 : decode m_Rf_umbrellaAt.2.1 70 = .ok (.if_icmp .eq 13, 3) := by decide +kernel
theorem d_Rf_umbrellaAt_73 : decode m_Rf_umbrellaAt.2.1 73 = .ok (.aload_n 0, 1) := by decide +kernel
theorem d_Rf_umbrellaAt_74 : decode m_Rf_umbrellaAt.2.1 74 = .ok (.iload 4, 2) := by decide +kernel
theorem d_Rf_umbrellaAt_76 : decode m_Rf_umbrellaAt.2.1 76 = .ok (.iload_n 3, 1) := by decide +kernel
theorem d_Rf_umbrellaAt_77 : decode m_Rf_umbrellaAt.2.1 77 = .ok (.invokevirtual 243, 3) := by decide +kernel
theorem d_Rf_umbrellaAt_80 : decode m_Rf_umbrellaAt.2.1 80 = .ok (.ifCond .eq 8, 3) := by decide +kernel
theorem d_Rf_umbrellaAt_83 : decode m_Rf_umbrellaAt.2.1 83 = .ok (.iload 4, 2) := by decide +kernel
theorem d_Rf_umbrellaAt_85 : decode m_Rf_umbrellaAt.2.1 85 = .ok (.goto 4, 3) := by decide +kernel
theorem d_Rf_umbrellaAt_88 : decode m_Rf_umbrellaAt.2.1 88 = .ok (.iload_n 3, 1) := by decide +kernel
theorem d_Rf_umbrellaAt_89 : decode m_Rf_umbrellaAt.2.1 89 = .ok (.istore_n 3, 1) := by decide +kernel
theorem d_Rf_umbrellaAt_90 : decode m_Rf_umbrellaAt.2.1 90 = .ok (.iinc 4 1, 3) := by decide +kernel
theorem d_Rf_umbrellaAt_93 : decode m_Rf_umbrellaAt.2.1 93 = .ok (.goto (-88), 3) := by decide +kernel
theorem d_Rf_umbrellaAt_96 : decode m_Rf_umbrellaAt.2.1 96 = .ok (.iload_n 3, 1) := by decide +kernel
theorem d_Rf_umbrellaAt_97 : decode m_Rf_umbrellaAt.2.1 97 = .ok (.ireturn, 1) := by decide +kernel
theorem g_Rf_umbrellaAt_0 {X : XS} (a1 : Int32) (a2 : Int32) (h : Hp) (Q : Option AV → Hp → Prop)  (k : Rn X m_Rf_umbrellaAt 5 [some (vR [1]), some (vI a1), some (vI a2), some (vI (-1)), some (vI 0), none] [] h Q) : Rn X m_Rf_umbrellaAt 0 [some (vR [1]), some (vI a1), some (vI a2), none, none, none] [] h Q := by
  refine Rn.iconst (n := 1) (v := (-1)) d_Rf_umbrellaAt_0 rfl (by decide) ?_
  refine Rn.istore_n (n := 2) (i := 3) (ls2 := [some (vR [1]), some (vI a1), some (vI a2), some (vI (-1)), none, none]) d_Rf_umbrellaAt_1 rfl rfl (Nat.le_of_ble_eq_true rfl) rfl ?_
  refine Rn.iconst (n := 3) (v := 0) d_Rf_umbrellaAt_2 rfl (by decide) ?_
  refine Rn.istore (n := 5) (i := 4) (ls2 := [some (vR [1]), some (vI a1), some (vI a2), some (vI (-1)), some (vI 0), none]) d_Rf_umbrellaAt_3 rfl (Nat.le_of_ble_eq_true rfl) rfl ?_
  exact k
theorem g_Rf_umbrellaAt_5 {X : XS} (a1 : Int32) (a2 : Int32) (a3 : Int32) (a4 : Int32) (h : Hp) (Q : Option AV → Hp → Prop)  (k : (((h.1 [1] 25) ≤ a4 → Q (some (vI a3)) h) ∧ (¬ (h.1 [1] 25) ≤ a4 → (vp_in (3 * a4) 24 ∧ (∃ Q'5, EvI X m_Rf_off [vI (h.1 [26, 1] (3 * a4).toNatClampNeg), vI a1] h Q'5 ∧ ∀ (r6 : Int32) (h4 : Hp), Q'5 r6 h4 → (vp_in ((3 * a4) + 1) 24 ∧ (((h4.1 [26, 1] ((3 * a4) + 1).toNatClampNeg) ≤ r6 → Rn X m_Rf_umbrellaAt 60 [some (vR [1]), some (vI a1), some (vI a2), some (vI a3), some (vI a4), none] [] h4 Q) ∧ (¬ (h4.1 [26, 1] ((3 * a4) + 1).toNatClampNeg) ≤ r6 → ((a2 = (-1) → Rn X m_Rf_umbrellaAt 56 [some (vR [1]), some (vI a1), some (vI a2), some (vI a3), some (vI a4), none] [] h4 Q) ∧ (¬ a2 = (-1) → (∃ Q'11, EvI X m_Rf_isHigher [vR [1], vI a2, vI a4] h4 Q'11 ∧ ∀ (r12 : Int32) (h10 : Hp), Q'11 r12 h10 → ((r12 = 0 → Rn X m_Rf_umbrellaAt 60 [some (vR [1]), some (vI a1), some (vI a2), some (vI a3), some (vI a4), none] [] h10 Q) ∧ (¬ r12 = 0 → Rn X m_Rf_umbrellaAt 56 [some (vR [1]), some (vI a1), some (vI a2), some (vI a3), some (vI a4), none] [] h10 Q))))))))))))) : Rn X m_Rf_umbrellaAt 5 [some (vR [1]), some (vI a1), some (vI a2), some (vI a3), some (vI a4), none] [] h Q := by
  refine Rn.iload (n := 7) (i := 4) d_Rf_umbrellaAt_5 rfl rfl ?_
  refine Rn.aload_n (n := 8) (i := 0) d_Rf_umbrellaAt_7 rfl rfl rfl ?_
  refine Rn.getf (n := 11) (v := vI (h.1 [1] 25)) d_Rf_umbrellaAt_8 rfl fl_Rf_240 Lv_1 rfl ?_
  refine Rn.icmp_ge (n := 14) (t := 96) d_Rf_umbrellaAt_11 rfl (by decide) (fun cc => ?_) (fun cc => ?_)
  · have k := k.1 cc
    refine Rn.iload_n (n := 97) (i := 3) d_Rf_umbrellaAt_96 rfl rfl rfl ?_
    exact Rn.iret d_Rf_umbrellaAt_97 rfl rfl k
  · have k := k.2 cc
    refine Rn.aload_n (n := 15) (i := 0) d_Rf_umbrellaAt_14 rfl rfl rfl ?_
    refine Rn.getf (n := 18) (v := vR [26, 1]) d_Rf_umbrellaAt_15 rfl fl_Rf_51 Lv_1 rfl ?_
    refine Rn.iconst (n := 19) (v := 3) d_Rf_umbrellaAt_18 rfl (by decide) ?_
    refine Rn.iload (n := 21) (i := 4) d_Rf_umbrellaAt_19 rfl rfl ?_
    refine Rn.imul (n := 22) d_Rf_umbrellaAt_21 rfl ?_
    obtain ⟨b1, k⟩ := k
    refine Rn.iald (n := 23) (v := h.1 [26, 1] (3 * a4).toNatClampNeg) d_Rf_umbrellaAt_22 rfl Lv_26_1 b1 rfl ?_
    refine Rn.iload_n (n := 24) (i := 1) d_Rf_umbrellaAt_23 rfl rfl rfl ?_
    obtain ⟨Q'5, ev2, k⟩ := k
    refine Rn.callS (n := 27) (av := [vI (h.1 [26, 1] (3 * a4).toNatClampNeg), vI a1]) d_Rf_umbrellaAt_24 rfl ml_Rf_umbrellaAt_184 ms_Rf_off rfl rfl (Nat.le_of_ble_eq_true rfl) ev2 (fun v h4 hq => ?_)
    obtain ⟨r6, rfl, hq⟩ := hq
    have k := k r6 h4 hq
    show Rn X m_Rf_umbrellaAt 27 [some (vR [1]), some (vI a1), some (vI a2), some (vI a3), some (vI a4), none] [vI r6] h4 Q
    refine Rn.aload_n (n := 28) (i := 0) d_Rf_umbrellaAt_27 rfl rfl rfl ?_
    refine Rn.getf (n := 31) (v := vR [26, 1]) d_Rf_umbrellaAt_28 rfl fl_Rf_51 Lv_1 rfl ?_
    refine Rn.iconst (n := 32) (v := 3) d_Rf_umbrellaAt_31 rfl (by decide) ?_
    refine Rn.iload (n := 34) (i := 4) d_Rf_umbrellaAt_32 rfl rfl ?_
    refine Rn.imul (n := 35) d_Rf_umbrellaAt_34 rfl ?_
    refine Rn.iconst (n := 36) (v := 1) d_Rf_umbrellaAt_35 rfl (by decide) ?_
    refine Rn.iadd (n := 37) d_Rf_umbrellaAt_36 rfl ?_
    obtain ⟨b7, k⟩ := k
    refine Rn.iald (n := 38) (v := h4.1 [26, 1] ((3 * a4) + 1).toNatClampNeg) d_Rf_umbrellaAt_37 rfl Lv_26_1 b7 rfl ?_
    refine Rn.icmp_ge (n := 41) (t := 60) d_Rf_umbrellaAt_38 rfl (by decide) (fun cc => ?_) (fun cc => ?_)
    · have k := k.1 cc
      exact k
    · have k := k.2 cc
      refine Rn.iload_n (n := 42) (i := 2) d_Rf_umbrellaAt_41 rfl rfl rfl ?_
      refine Rn.iconst (n := 43) (v := (-1)) d_Rf_umbrellaAt_42 rfl (by decide) ?_
      refine Rn.icmp_eq (n := 46) (t := 56) d_Rf_umbrellaAt_43 rfl (by decide) (fun cc => ?_) (fun cc => ?_)
      · have k := k.1 cc
        exact k
      · have k := k.2 cc
        refine Rn.aload_n (n := 47) (i := 0) d_Rf_umbrellaAt_46 rfl rfl rfl ?_
        refine Rn.iload_n (n := 48) (i := 2) d_Rf_umbrellaAt_47 rfl rfl rfl ?_
        refine Rn.iload (n := 50) (i := 4) d_Rf_umbrellaAt_48 rfl rfl ?_
        obtain ⟨Q'11, ev8, k⟩ := k
        refine Rn.callV (n := 53) (av := [vI a2, vI a4]) d_Rf_umbrellaAt_50 rfl ml_Rf_umbrellaAt_243 mi_Rf_isHigher Lv_1 rfl rfl rfl rfl (Nat.le_of_ble_eq_true rfl) ev8 (fun v h10 hq => ?_)
        obtain ⟨r12, rfl, hq⟩ := hq
        have k := k r12 h10 hq
        show Rn X m_Rf_umbrellaAt 53 [some (vR [1]), some (vI a1), some (vI a2), some (vI a3), some (vI a4), none] [vI r12] h10 Q
        refine Rn.if_eq (n := 56) (t := 60) d_Rf_umbrellaAt_53 rfl (by decide) (fun cc => ?_) (fun cc => ?_)
        · have k := k.1 cc
          exact k
        · have k := k.2 cc
          exact k
theorem g_Rf_umbrellaAt_56 {X : XS} (a1 : Int32) (a2 : Int32) (a3 : Int32) (a4 : Int32) (h : Hp) (Q : Option AV → Hp → Prop)  (k : Rn X m_Rf_umbrellaAt 61 [some (vR [1]), some (vI a1), some (vI a2), some (vI a3), some (vI a4), none] [vI 1] h Q) : Rn X m_Rf_umbrellaAt 56 [some (vR [1]), some (vI a1), some (vI a2), some (vI a3), some (vI a4), none] [] h Q := by
  refine Rn.iconst (n := 57) (v := 1) d_Rf_umbrellaAt_56 rfl (by decide) ?_
  refine Rn.goto (n := 61) d_Rf_umbrellaAt_57 (by decide) ?_
  exact k
theorem g_Rf_umbrellaAt_60 {X : XS} (a1 : Int32) (a2 : Int32) (a3 : Int32) (a4 : Int32) (h : Hp) (Q : Option AV → Hp → Prop)  (k : Rn X m_Rf_umbrellaAt 61 [some (vR [1]), some (vI a1), some (vI a2), some (vI a3), some (vI a4), none] [vI 0] h Q) : Rn X m_Rf_umbrellaAt 60 [some (vR [1]), some (vI a1), some (vI a2), some (vI a3), some (vI a4), none] [] h Q := by
  refine Rn.iconst (n := 61) (v := 0) d_Rf_umbrellaAt_60 rfl (by decide) ?_
  exact k
theorem g_Rf_umbrellaAt_61 {X : XS} (a1 : Int32) (a2 : Int32) (a3 : Int32) (a4 : Int32) (s0 : Int32) (h : Hp) (Q : Option AV → Hp → Prop)  (k : ((s0 = 0 → Rn X m_Rf_umbrellaAt 5 [some (vR [1]), some (vI a1), some (vI a2), some (vI a3), some (vI (a4 + 1)), none] [] h Q) ∧ (¬ s0 = 0 → ((a3 = (-1) → Rn X m_Rf_umbrellaAt 5 [some (vR [1]), some (vI a1), some (vI a2), some (vI a4), some (vI (a4 + 1)), none] [] h Q) ∧ (¬ a3 = (-1) → (∃ Q'4, EvI X m_Rf_isHigher [vR [1], vI a4, vI a3] h Q'4 ∧ ∀ (r5 : Int32) (h3 : Hp), Q'4 r5 h3 → ((r5 = 0 → Rn X m_Rf_umbrellaAt 5 [some (vR [1]), some (vI a1), some (vI a2), some (vI a3), some (vI (a4 + 1)), none] [] h3 Q) ∧ (¬ r5 = 0 → Rn X m_Rf_umbrellaAt 5 [some (vR [1]), some (vI a1), some (vI a2), some (vI a4), some (vI (a4 + 1)), none] [] h3 Q)))))))) : Rn X m_Rf_umbrellaAt 61 [some (vR [1]), some (vI a1), some (vI a2), some (vI a3), some (vI a4), none] [vI s0] h Q := by
  refine Rn.istore (n := 63) (i := 5) (ls2 := [some (vR [1]), some (vI a1), some (vI a2), some (vI a3), some (vI a4), some (vI s0)]) d_Rf_umbrellaAt_61 rfl (Nat.le_of_ble_eq_true rfl) rfl ?_
  refine Rn.iload (n := 65) (i := 5) d_Rf_umbrellaAt_63 rfl rfl ?_
  refine Rn.if_eq (n := 68) (t := 88) d_Rf_umbrellaAt_65 rfl (by decide) (fun cc => ?_) (fun cc => ?_)
  · have k := k.1 cc
    refine Rn.iload_n (n := 89) (i := 3) d_Rf_umbrellaAt_88 rfl rfl rfl ?_
    refine Rn.istore_n (n := 90) (i := 3) (ls2 := [some (vR [1]), some (vI a1), some (vI a2), some (vI a3), some (vI a4), some (vI s0)]) d_Rf_umbrellaAt_89 rfl rfl (Nat.le_of_ble_eq_true rfl) rfl ?_
    refine Rn.iinc (n := 93) (i := 4) (v := a4 + 1) (ls2 := [some (vR [1]), some (vI a1), some (vI a2), some (vI a3), some (vI (a4 + 1)), some (vI s0)]) d_Rf_umbrellaAt_90 rfl rfl rfl (Nat.le_of_ble_eq_true rfl) rfl ?_
    refine Rn.goto (n := 5) d_Rf_umbrellaAt_93 (by decide) ?_
    exact Rn.loc [some (vR [1]), some (vI a1), some (vI a2), some (vI a3), some (vI (a4 + 1)), none] (LLe_ok ⟨rfl, ⟨rfl, ⟨rfl, ⟨rfl, ⟨rfl, trivial⟩⟩⟩⟩⟩) k
  · have k := k.2 cc
    refine Rn.iload_n (n := 69) (i := 3) d_Rf_umbrellaAt_68 rfl rfl rfl ?_
    refine Rn.iconst (n := 70) (v := (-1)) d_Rf_umbrellaAt_69 rfl (by decide) ?_
    refine Rn.icmp_eq (n := 73) (t := 83) d_Rf_umbrellaAt_70 rfl (by decide) (fun cc => ?_) (fun cc => ?_)
    · have k := k.1 cc
      refine Rn.iload (n := 85) (i := 4) d_Rf_umbrellaAt_83 rfl rfl ?_
      refine Rn.goto (n := 89) d_Rf_umbrellaAt_85 (by decide) ?_
      refine Rn.istore_n (n := 90) (i := 3) (ls2 := [some (vR [1]), some (vI a1), some (vI a2), some (vI a4), some (vI a4), some (vI s0)]) d_Rf_umbrellaAt_89 rfl rfl (Nat.le_of_ble_eq_true rfl) rfl ?_
      refine Rn.iinc (n := 93) (i := 4) (v := a4 + 1) (ls2 := [some (vR [1]), some (vI a1), some (vI a2), some (vI a4), some (vI (a4 + 1)), some (vI s0)]) d_Rf_umbrellaAt_90 rfl rfl rfl (Nat.le_of_ble_eq_true rfl) rfl ?_
      refine Rn.goto (n := 5) d_Rf_umbrellaAt_93 (by decide) ?_
      exact Rn.loc [some (vR [1]), some (vI a1), some (vI a2), some (vI a4), some (vI (a4 + 1)), none] (LLe_ok ⟨rfl, ⟨rfl, ⟨rfl, ⟨rfl, ⟨rfl, trivial⟩⟩⟩⟩⟩) k
    · have k := k.2 cc
      refine Rn.aload_n (n := 74) (i := 0) d_Rf_umbrellaAt_73 rfl rfl rfl ?_
      refine Rn.iload (n := 76) (i := 4) d_Rf_umbrellaAt_74 rfl rfl ?_
      refine Rn.iload_n (n := 77) (i := 3) d_Rf_umbrellaAt_76 rfl rfl rfl ?_
      obtain ⟨Q'4, ev1, k⟩ := k
      refine Rn.callV (n := 80) (av := [vI a4, vI a3]) d_Rf_umbrellaAt_77 rfl ml_Rf_umbrellaAt_243 mi_Rf_isHigher Lv_1 rfl rfl rfl rfl (Nat.le_of_ble_eq_true rfl) ev1 (fun v h3 hq => ?_)
      obtain ⟨r5, rfl, hq⟩ := hq
      have k := k r5 h3 hq
      show Rn X m_Rf_umbrellaAt 80 [some (vR [1]), some (vI a1), some (vI a2), some (vI a3), some (vI a4), some (vI s0)] [vI r5] h3 Q
      refine Rn.if_eq (n := 83) (t := 88) d_Rf_umbrellaAt_80 rfl (by decide) (fun cc => ?_) (fun cc => ?_)
      · have k := k.1 cc
        refine Rn.iload_n (n := 89) (i := 3) d_Rf_umbrellaAt_88 rfl rfl rfl ?_
        refine Rn.istore_n (n := 90) (i := 3) (ls2 := [some (vR [1]), some (vI a1), some (vI a2), some (vI a3), some (vI a4), some (vI s0)]) d_Rf_umbrellaAt_89 rfl rfl (Nat.le_of_ble_eq_true rfl) rfl ?_
        refine Rn.iinc (n := 93) (i := 4) (v := a4 + 1) (ls2 := [some (vR [1]), some (vI a1), some (vI a2), some (vI a3), some (vI (a4 + 1)), some (vI s0)]) d_Rf_umbrellaAt_90 rfl rfl rfl (Nat.le_of_ble_eq_true rfl) rfl ?_
        refine Rn.goto (n := 5) d_Rf_umbrellaAt_93 (by decide) ?_
        exact Rn.loc [some (vR [1]), some (vI a1), some (vI a2), some (vI a3), some (vI (a4 + 1)), none] (LLe_ok ⟨rfl, ⟨rfl, ⟨rfl, ⟨rfl, ⟨rfl, trivial⟩⟩⟩⟩⟩) k
      · have k := k.2 cc
        refine Rn.iload (n := 85) (i := 4) d_Rf_umbrellaAt_83 rfl rfl ?_
        refine Rn.goto (n := 89) d_Rf_umbrellaAt_85 (by decide) ?_
        refine Rn.istore_n (n := 90) (i := 3) (ls2 := [some (vR [1]), some (vI a1), some (vI a2), some (vI a4), some (vI a4), some (vI s0)]) d_Rf_umbrellaAt_89 rfl rfl (Nat.le_of_ble_eq_true rfl) rfl ?_
        refine Rn.iinc (n := 93) (i := 4) (v := a4 + 1) (ls2 := [some (vR [1]), some (vI a1), some (vI a2), some (vI a4), some (vI (a4 + 1)), some (vI s0)]) d_Rf_umbrellaAt_90 rfl rfl rfl (Nat.le_of_ble_eq_true rfl) rfl ?_
        refine Rn.goto (n := 5) d_Rf_umbrellaAt_93 (by decide) ?_
        exact Rn.loc [some (vR [1]), some (vI a1), some (vI a2), some (vI a4), some (vI (a4 + 1)), none] (LLe_ok ⟨rfl, ⟨rfl, ⟨rfl, ⟨rfl, ⟨rfl, trivial⟩⟩⟩⟩⟩) k
theorem e_Rf_umbrellaAt {X : XS} (a1 : Int32) (a2 : Int32) (h : Hp) (Q : Option AV → Hp → Prop) (k : Rn X m_Rf_umbrellaAt 0 [some (vR [1]), some (vI a1), some (vI a2), none, none, none] [] h Q) : Ev X m_Rf_umbrellaAt [vR [1], vI a1, vI a2] h Q := Ev.intro (plainFor_of_name (by decide +kernel)) (Nat.le_of_ble_eq_true rfl) (ls := [some (vR [1]), some (vI a1), some (vI a2), none, none, none]) rfl k
theorem d_Rf_falls_0 : decode m_Rf_falls.2.1 0 = .ok (.iload_n 1, 1) := by decide +kernel
theorem d_Rf_falls_1 : decode m_Rf_falls.2.1 1 = .ok (.iconst 0, 1) := by decide +kernel
theorem d_Rf_falls_2 : decode m_Rf_falls.2.1 2 = .ok (.bipush 19, 2) := by decide +kernel
theorem d_Rf_falls_4 : decode m_Rf_falls.2.1 4 = .ok (.invokestatic 66, 3) := by decide +kernel
theorem d_Rf_falls_7 : decode m_Rf_falls.2.1 7 = .ok (.ifCond .eq 41, 3) := by decide +kernel
theorem d_Rf_falls_10 : decode m_Rf_falls.2.1 10 = .ok (.aload_n 0, 1) := by decide +kernel
theorem d_Rf_falls_11 : decode m_Rf_falls.2.1 11 = .ok (.iload_n 1, 1) := by decide +kernel
theorem d_Rf_falls_12 : decode m_Rf_falls.2.1 12 = .ok (.iload_n 3, 1) := by decide +kernel
theorem d_Rf_falls_13 : decode m_Rf_falls.2.1 13 = .ok (.invokevirtual 246, 3) := by decide +kernel
theorem d_Rf_falls_16 : decode m_Rf_falls.2.1 16 = .ok (.istore 4, 2) := by decide +kernel
theorem d_Rf_falls_18 : decode m_Rf_falls.2.1 18 = .ok (.iload 4, 2) := by decide +kernel
theorem d_Rf_falls_20 : decode m_Rf_falls.2.1 20 = .ok (.iconst (-1), 1) := by decide +kernel
theorem d_Rf_falls_21 : decode m_Rf_falls.2.1 21 = .ok (.if_icmp .ne 16, 3) := by decide +kernel
theorem d_Rf_falls_24 : decode m_Rf_falls.2.1 24 = .ok (.aload_n 0, 1) := by decide +kernel
theorem d_Rf_falls_25 : decode m_Rf_falls.2.1 25 = .ok (.getfield 57, 3) := by decide +kernel
theorem d_Rf_falls_28 : decode m_Rf_falls.2.1 28 = .ok (.iload_n 1, 1) := by decide +kernel
theorem d_Rf_falls_29 : decode m_Rf_falls.2.1 29 = .ok (.dup2, 1) := by decide +kernel
theorem d_Rf_falls_30 : decode m_Rf_falls.2.1 30 = .ok (.iaload, 1) := by decide +kernel
theorem d_Rf_falls_31 : decode m_Rf_falls.2.1 31 = .ok (.iload_n 2, 1) := by decide +kernel
theorem d_Rf_falls_32 : decode m_Rf_falls.2.1 32 = .ok (.iadd, 1) := by decide +kernel
theorem d_Rf_falls_33 : decode m_Rf_falls.2.1 33 = .ok (.iastore, 1) := by decide +kernel
theorem d_Rf_falls_34 : decode m_Rf_falls.2.1 34 = .ok (.goto 14, 3) := by decide +kernel
theorem d_Rf_falls_37 : decode m_Rf_falls.2.1 37 = .ok (.aload_n 0, 1) := by decide +kernel
theorem d_Rf_falls_38 : decode m_Rf_falls.2.1 38 = .ok (.getfield 54, 3) := by decide +kernel
theorem d_Rf_falls_41 : decode m_Rf_falls.2.1 41 = .ok (.iload 4, 2) := by decide +kernel
theorem d_Rf_falls_43 : decode m_Rf_falls.2.1 43 = .ok (.dup2, 1) := by decide +kernel
theorem d_Rf_falls_44 : decode m_Rf_falls.2.1 44 = .ok (.iaload, 1) := by decide +kernel
theorem d_Rf_falls_45 : decode m_Rf_falls.2.1 45 = .ok (.iload_n 2, 1) := by decide +kernel
theorem d_Rf_falls_46 : decode m_Rf_falls.2.1 46 = .ok (.iadd, 1) := by decide +kernel
theorem d_Rf_falls_47 : decode m_Rf_falls.2.1 47 = .ok (.iastore, 1) := by decide +kernel
theorem d_Rf_falls_48 : decode m_Rf_falls.2.1 48 = .ok (.return_, 1) := by decide +kernel
theorem g_Rf_falls_0 {X : XS} (a1 : Int32) (a2 : Int32) (a3 : Int32) (h : Hp) (Q : Option AV → Hp → Prop)  (k : (∃ Q'4, EvI X m_Rf_in [vI a1, vI 0, vI 19] h Q'4 ∧ ∀ (r5 : Int32) (h3 : Hp), Q'4 r5 h3 → ((r5 = 0 → Q none h3) ∧ (¬ r5 = 0 → (∃ Q'9, EvI X m_Rf_umbrellaAt [vR [1], vI a1, vI a3] h3 Q'9 ∧ ∀ (r10 : Int32) (h8 : Hp), Q'9 r10 h8 → ((¬ r10 = (-1) → (vp_in r10 8 ∧ (vp_in r10 8 ∧ Q none (hsI h8 [27, 1] r10.toNatClampNeg ((h8.1 [27, 1] r10.toNatClampNeg) + a2))))) ∧ (r10 = (-1) → (vp_in a1 20 ∧ (vp_in a1 20 ∧ Q none (hsI h8 [28, 1] a1.toNatClampNeg ((h8.1 [28, 1] a1.toNatClampNeg) + a2))))))))))) : Rn X m_Rf_falls 0 [some (vR [1]), some (vI a1), some (vI a2), some (vI a3), none] [] h Q := by
  refine Rn.iload_n (n := 1) (i := 1) d_Rf_falls_0 rfl rfl rfl ?_
  refine Rn.iconst (n := 2) (v := 0) d_Rf_falls_1 rfl (by decide) ?_
  refine Rn.bipush (n := 4) (v := 19) d_Rf_falls_2 rfl (by decide) ?_
  obtain ⟨Q'4, ev1, k⟩ := k
  refine Rn.callS (n := 7) (av := [vI a1, vI 0, vI 19]) d_Rf_falls_4 rfl ml_Rf_falls_66 ms_Rf_in rfl rfl (Nat.le_of_ble_eq_true rfl) ev1 (fun v h3 hq => ?_)
  obtain ⟨r5, rfl, hq⟩ := hq
  have k := k r5 h3 hq
  show Rn X m_Rf_falls 7 [some (vR [1]), some (vI a1), some (vI a2), some (vI a3), none] [vI r5] h3 Q
  refine Rn.if_eq (n := 10) (t := 48) d_Rf_falls_7 rfl (by decide) (fun cc => ?_) (fun cc => ?_)
  · have k := k.1 cc
    exact Rn.vret d_Rf_falls_48 rfl k
  · have k := k.2 cc
    refine Rn.aload_n (n := 11) (i := 0) d_Rf_falls_10 rfl rfl rfl ?_
    refine Rn.iload_n (n := 12) (i := 1) d_Rf_falls_11 rfl rfl rfl ?_
    refine Rn.iload_n (n := 13) (i := 3) d_Rf_falls_12 rfl rfl rfl ?_
    obtain ⟨Q'9, ev6, k⟩ := k
    refine Rn.callV (n := 16) (av := [vI a1, vI a3]) d_Rf_falls_13 rfl ml_Rf_falls_246 mi_Rf_umbrellaAt Lv_1 rfl rfl rfl rfl (Nat.le_of_ble_eq_true rfl) ev6 (fun v h8 hq => ?_)
    obtain ⟨r10, rfl, hq⟩ := hq
    have k := k r10 h8 hq
    show Rn X m_Rf_falls 16 [some (vR [1]), some (vI a1), some (vI a2), some (vI a3), none] [vI r10] h8 Q
    refine Rn.istore (n := 18) (i := 4) (ls2 := [some (vR [1]), some (vI a1), some (vI a2), some (vI a3), some (vI r10)]) d_Rf_falls_16 rfl (Nat.le_of_ble_eq_true rfl) rfl ?_
    refine Rn.iload (n := 20) (i := 4) d_Rf_falls_18 rfl rfl ?_
    refine Rn.iconst (n := 21) (v := (-1)) d_Rf_falls_20 rfl (by decide) ?_
    refine Rn.icmp_ne (n := 24) (t := 37) d_Rf_falls_21 rfl (by decide) (fun cc => ?_) (fun cc => ?_)
    · have k := k.1 cc
      refine Rn.aload_n (n := 38) (i := 0) d_Rf_falls_37 rfl rfl rfl ?_
      refine Rn.getf (n := 41) (v := vR [27, 1]) d_Rf_falls_38 rfl fl_Rf_54 Lv_1 rfl ?_
      refine Rn.iload (n := 43) (i := 4) d_Rf_falls_41 rfl rfl ?_
      refine Rn.dup2 (n := 44) d_Rf_falls_43 rfl rfl rfl ?_
      obtain ⟨b11, k⟩ := k
      refine Rn.iald (n := 45) (v := h8.1 [27, 1] r10.toNatClampNeg) d_Rf_falls_44 rfl Lv_27_1 b11 rfl ?_
      refine Rn.iload_n (n := 46) (i := 2) d_Rf_falls_45 rfl rfl rfl ?_
      refine Rn.iadd (n := 47) d_Rf_falls_46 rfl ?_
      obtain ⟨b12, k⟩ := k
      refine Rn.iast (n := 48) d_Rf_falls_47 rfl Lv_27_1 b12 ?_
      exact Rn.vret d_Rf_falls_48 rfl k
    · have k := k.2 cc
      refine Rn.aload_n (n := 25) (i := 0) d_Rf_falls_24 rfl rfl rfl ?_
      refine Rn.getf (n := 28) (v := vR [28, 1]) d_Rf_falls_25 rfl fl_Rf_57 Lv_1 rfl ?_
      refine Rn.iload_n (n := 29) (i := 1) d_Rf_falls_28 rfl rfl rfl ?_
      refine Rn.dup2 (n := 30) d_Rf_falls_29 rfl rfl rfl ?_
      obtain ⟨b13, k⟩ := k
      refine Rn.iald (n := 31) (v := h8.1 [28, 1] a1.toNatClampNeg) d_Rf_falls_30 rfl Lv_28_1 b13 rfl ?_
      refine Rn.iload_n (n := 32) (i := 2) d_Rf_falls_31 rfl rfl rfl ?_
      refine Rn.iadd (n := 33) d_Rf_falls_32 rfl ?_
      obtain ⟨b14, k⟩ := k
      refine Rn.iast (n := 34) d_Rf_falls_33 rfl Lv_28_1 b14 ?_
      refine Rn.goto (n := 48) d_Rf_falls_34 (by decide) ?_
      exact Rn.vret d_Rf_falls_48 rfl k
theorem e_Rf_falls {X : XS} (a1 : Int32) (a2 : Int32) (a3 : Int32) (h : Hp) (Q : Option AV → Hp → Prop) (k : Rn X m_Rf_falls 0 [some (vR [1]), some (vI a1), some (vI a2), some (vI a3), none] [] h Q) : Ev X m_Rf_falls [vR [1], vI a1, vI a2, vI a3] h Q := Ev.intro (plainFor_of_name (by decide +kernel)) (Nat.le_of_ble_eq_true rfl) (ls := [some (vR [1]), some (vI a1), some (vI a2), some (vI a3), none]) rfl k
theorem d_Rf_pour_0 : decode m_Rf_pour.2.1 0 = .ok (.iconst 0, 1) := by decide +kernel
theorem d_Rf_pour_1 : decode m_Rf_pour.2.1 1 = .ok (.istore_n 1, 1) := by decide +kernel
theorem d_Rf_pour_2 : decode m_Rf_pour.2.1 2 = .ok (.iconst 0, 1) := by decide +kernel
theorem d_Rf_pour_3 : decode m_Rf_pour.2.1 3 = .ok (.istore_n 2, 1) := by decide +kernel
theorem d_Rf_pour_4 : decode m_Rf_pour.2.1 4 = .ok (.iload_n 2, 1) := by decide +kernel
theorem d_Rf_pour_5 : decode m_Rf_pour.2.1 5 = .ok (.bipush 8, 2) := by decide +kernel
theorem d_Rf_pour_7 : decode m_Rf_pour.2.1 7 = .ok (.if_icmp .ge 16, 3) := by decide +kernel
theorem d_Rf_pour_10 : decode m_Rf_pour.2.1 10 = .ok (.aload_n 0, 1) := by decide +kernel
theorem d_Rf_pour_11 : decode m_Rf_pour.2.1 11 = .ok (.getfield 54, 3) := by decide +kernel
theorem d_Rf_pour_14 : decode m_Rf_pour.2.1 14 = .ok (.iload_n 2, 1) := by decide +kernel
theorem d_Rf_pour_15 : decode m_Rf_pour.2.1 15 = .ok (.iconst 0, 1) := by decide +kernel
theorem d_Rf_pour_16 : decode m_Rf_pour.2.1 16 = .ok (.iastore, 1) := by decide +kernel
theorem d_Rf_pour_17 : decode m_Rf_pour.2.1 17 = .ok (.iinc 2 1, 3) := by decide +kernel
theorem d_Rf_pour_20 : decode m_Rf_pour.2.1 20 = .ok (.goto (-16), 3) := by decide +kernel
theorem d_Rf_pour_23 : decode m_Rf_pour.2.1 23 = .ok (.iconst 0, 1) := by decide +kernel
theorem d_Rf_pour_24 : decode m_Rf_pour.2.1 24 = .ok (.istore_n 2, 1) := by decide +kernel
theorem d_Rf_pour_25 : decode m_Rf_pour.2.1 25 = .ok (.iload_n 2, 1) := by decide +kernel
theorem d_Rf_pour_26 : decode m_Rf_pour.2.1 26 = .ok (.bipush 20, 2) := by decide +kernel
theorem d_Rf_pour_28 : decode m_Rf_pour.2.1 28 = .ok (.if_icmp .ge 16, 3) := by decide +kernel
theorem d_Rf_pour_31 : decode m_Rf_pour.2.1 31 = .ok (.aload_n 0, 1) := by decide +kernel
theorem d_Rf_pour_32 : decode m_Rf_pour.2.1 32 = .ok (.getfield 57, 3) := by decide +kernel
theorem d_Rf_pour_35 : decode m_Rf_pour.2.1 35 = .ok (.iload_n 2, 1) := by decide +kernel
theorem d_Rf_pour_36 : decode m_Rf_pour.2.1 36 = .ok (.iconst 0, 1) := by decide +kernel
theorem d_Rf_pour_37 : decode m_Rf_pour.2.1 37 = .ok (.iastore, 1) := by decide +kernel
theorem d_Rf_pour_38 : decode m_Rf_pour.2.1 38 = .ok (.iinc 2 1, 3) := by decide +kernel
theorem d_Rf_pour_41 : decode m_Rf_pour.2.1 41 = .ok (.goto (-16), 3) := by decide +kernel
theorem d_Rf_pour_44 : decode m_Rf_pour.2.1 44 = .ok (.iconst 0, 1) := by decide +kernel
theorem d_Rf_pour_45 : decode m_Rf_pour.2.1 45 = .ok (.istore_n 2, 1) := by decide +kernel
theorem d_Rf_pour_46 : decode m_Rf_pour.2.1 46 = .ok (.iload_n 2, 1) := by decide +kernel
theorem d_Rf_pour_47 : decode m_Rf_pour.2.1 47 = .ok (.bipush 20, 2) := by decide +kernel
theorem d_Rf_pour_49 : decode m_Rf_pour.2.1 49 = .ok (.if_icmp .ge 18, 3) := by decide +kernel
theorem d_Rf_pour_52 : decode m_Rf_pour.2.1 52 = .ok (.aload_n 0, 1) := by decide +kernel
theorem d_Rf_pour_53 : decode m_Rf_pour.2.1 53 = .ok (.iload_n 2, 1) := by decide +kernel
theorem d_Rf_pour_54 : decode m_Rf_pour.2.1 54 = .ok (.sipush 1024, 3) := by decide +kernel
theorem d_Rf_pour_57 : decode m_Rf_pour.2.1 57 = .ok (.iconst (-1), 1) := by decide +kernel
theorem d_Rf_pour_58 : decode m_Rf_pour.2.1 58 = .ok (.invokevirtual 249, 3) := by decide +kernel
theorem d_Rf_pour_61 : decode m_Rf_pour.2.1 61 = .ok (.iinc 2 1, 3) := by decide +kernel
theorem d_Rf_pour_64 : decode m_Rf_pour.2.1 64 = .ok (.goto (-18), 3) := by decide +kernel
theorem d_Rf_pour_67 : decode m_Rf_pour.2.1 67 = .ok (.iconst 0, 1) := by decide +kernel
theorem d_Rf_pour_68 : decode m_Rf_pour.2.1 68 = .ok (.istore_n 2, 1) := by decide +kernel
theorem d_Rf_pour_69 : decode m_Rf_pour.2.1 69 = .ok (.iload_n 2, 1) := by decide +kernel
theorem d_Rf_pour_70 : decode m_Rf_pour.2.1 70 = .ok (.aload_n 0, 1) := by decide +kernel
theorem d_Rf_pour_71 : decode m_Rf_pour.2.1 71 = .ok (.getfield 240, 3) := by decide +kernel
theorem d_Rf_pour_74 : decode m_Rf_pour.2.1 74 = .ok (.if_icmp .ge 135, 3) := by decide +kernel
theorem d_Rf_pour_77 : decode m_Rf_pour.2.1 77 = .ok (.iconst (-1), 1) := by decide +kernel
theorem d_Rf_pour_78 : decode m_Rf_pour.2.1 78 = .ok (.istore_n 3, 1) := by decide +kernel
theorem d_Rf_pour_79 : decode m_Rf_pour.2.1 79 = .ok (.iconst 0, 1) := by decide +kernel
theorem d_Rf_pour_80 : decode m_Rf_pour.2.1 80 = .ok (.istore 4, 2) := by decide +kernel
theorem d_Rf_pour_82 : decode m_Rf_pour.2.1 82 = .ok (.iload 4, 2) := by decide +kernel
theorem d_Rf_pour_84 : decode m_Rf_pour.2.1 84 = .ok (.aload_n 0, 1) := by decide +kernel
theorem d_Rf_pour_85 : decode m_Rf_pour.2.1 85 = .ok (.getfield 240, 3) := by decide +kernel
theorem d_Rf_pour_88 : decode m_Rf_pour.2.1 88 = .ok (.if_icmp .ge 40, 3) := by decide +kernel
theorem d_Rf_pour_91 : decode m_Rf_pour.2.1 91 = .ok (.iload_n 1, 1) := by decide +kernel
theorem d_Rf_pour_92 : decode m_Rf_pour.2.1 92 = .ok (.iload 4, 2) := by decide +kernel
theorem d_Rf_pour_94 : decode m_Rf_pour.2.1 94 = .ok (.invokestatic 73, 3) := by decide +kernel
theorem d_Rf_pour_97 : decode m_Rf_pour.2.1 97 = .ok (.ifCond .ne 23, 3) := by decide +kernel
theorem d_Rf_pour_100 : decode m_Rf_pour.2.1 100 = .ok (.iload_n 3, 1) := by decide +kernel
theorem d_Rf_pour_101 : decode m_Rf_pour.2.1 101 = .ok (.iconst (-1), 1) := by decide +kernel
theorem d_Rf_pour_102 : decode m_Rf_pour.2.1 102 = .ok (.if_icmp .eq 13, 3) := by decide +kernel
theorem d_Rf_pour_105 : decode m_Rf_pour.2.1 105 = .ok (.aload_n 0, 1) := by decide +kernel
theorem d_Rf_pour_106 : decode m_Rf_pour.2.1 106 = .ok (.iload 4, 2) := by decide +kernel
theorem d_Rf_pour_108 : decode m_Rf_pour.2.1 108 = .ok (.iload_n 3, 1) := by decide +kernel
theorem d_Rf_pour_109 : decode m_Rf_pour.2.1 109 = .ok (.invokevirtual 243, 3) := by decide +kernel
theorem d_Rf_pour_112 : decode m_Rf_pour.2.1 112 = .ok (.ifCond .eq 8, 3) := by decide +kernel
theorem d_Rf_pour_115 : decode m_Rf_pour.2.1 115 = .ok (.iload 4, 2) := by decide +kernel
theorem d_Rf_pour_117 : decode m_Rf_pour.2.1 117 = .ok (.goto 4, 3) := by decide +kernel
theorem d_Rf_pour_120 : decode m_Rf_pour.2.1 120 = .ok (.iload_n 3, 1) := by decide +kernel
theorem d_Rf_pour_121 : decode m_Rf_pour.2.1 121 = .ok (.istore_n 3, 1) := by decide +kernel
theorem d_Rf_pour_122 : decode m_Rf_pour.2.1 122 = .ok (.iinc 4 1, 3) := by decide +kernel
theorem d_Rf_pour_125 : decode m_Rf_pour.2.1 125 = .ok (.goto (-43), 3) := by decide +kernel
theorem d_Rf_pour_128 : decode m_Rf_pour.2.1 128 = .ok (.iload_n 1, 1) := by decide +kernel
theorem d_Rf_pour_129 : decode m_Rf_pour.2.1 129 = .ok (.iconst 1, 1) := by decide +kernel
theorem d_Rf_pour_130 : decode m_Rf_pour.2.1 130 = .ok (.iload_n 3, 1) := by decide +kernel
theorem d_Rf_pour_131 : decode m_Rf_pour.2.1 131 = .ok (.ishl, 1) := by decide +kernel
theorem d_Rf_pour_132 : decode m_Rf_pour.2.1 132 = .ok (.ior, 1) := by decide +kernel
theorem d_Rf_pour_133 : decode m_Rf_pour.2.1 133 = .ok (.istore_n 1, 1) := by decide +kernel
theorem d_Rf_pour_134 : decode m_Rf_pour.2.1 134 = .ok (.aload_n 0, 1) := by decide +kernel
theorem d_Rf_pour_135 : decode m_Rf_pour.2.1 135 = .ok (.getfield 54, 3) := by decide +kernel
theorem d_Rf_pour_138 : decode m_Rf_pour.2.1 138 = .ok (.iload_n 3, 1) := by decide +kernel
theorem d_Rf_pour_139 : decode m_Rf_pour.2.1 139 = .ok (.iaload, 1) := by decide +kernel
theorem d_Rf_pour_140 : decode m_Rf_pour.2.1 140 = .ok (.iconst 2, 1) := by decide +kernel
theorem d_Rf_pour_141 : decode m_Rf_pour.2.1 141 = .ok (.idiv, 1) := by decide +kernel
theorem d_Rf_pour_142 : decode m_Rf_pour.2.1 142 = .ok (.istore 4, 2) := by decide +kernel
theorem d_Rf_pour_144 : decode m_Rf_pour.2.1 144 = .ok (.aload_n 0, 1) := by decide +kernel
theorem d_Rf_pour_145 : decode m_Rf_pour.2.1 145 = .ok (.aload_n 0, 1) := by decide +kernel
theorem d_Rf_pour_146 : decode m_Rf_pour.2.1 146 = .ok (.getfield 51, 3) := by decide +kernel
theorem d_Rf_pour_149 : decode m_Rf_pour.2.1 149 = .ok (.iconst 3, 1) := by decide +kernel
theorem d_Rf_pour_150 : decode m_Rf_pour.2.1 150 = .ok (.iload_n 3, 1) := by decide +kernel
theorem d_Rf_pour_151 : decode m_Rf_pour.2.1 151 = .ok (.imul, 1) := by decide +kernel
theorem d_Rf_pour_152 : decode m_Rf_pour.2.1 152 = .ok (.iaload, 1) := by decide +kernel
theorem d_Rf_pour_153 : decode m_Rf_pour.2.1 153 = .ok (.aload_n 0, 1) := by decide +kernel
theorem d_Rf_pour_154 : decode m_Rf_pour.2.1 154 = .ok (.getfield 51, 3) := by decide +kernel
theorem d_Rf_pour_157 : decode m_Rf_pour.2.1 157 = .ok (.iconst 3, 1) := by decide +kernel
theorem d_Rf_pour_158 : decode m_Rf_pour.2.1 158 = .ok (.iload_n 3, 1) := by decide +kernel
theorem d_Rf_pour_159 : decode m_Rf_pour.2.1 159 = .ok (.imul, 1) := by decide +kernel
theorem d_Rf_pour_160 : decode m_Rf_pour.2.1 160 = .ok (.iconst 1, 1) := by decide +kernel
theorem d_Rf_pour_161 : decode m_Rf_pour.2.1 161 = .ok (.iadd, 1) := by decide +kernel
theorem d_Rf_pour_162 : decode m_Rf_pour.2.1 162 = .ok (.iaload, 1) := by decide +kernel
theorem d_Rf_pour_163 : decode m_Rf_pour.2.1 163 = .ok (.isub, 1) := by decide +kernel
theorem d_Rf_pour_164 : decode m_Rf_pour.2.1 164 = .ok (.aload_n 0, 1) := by decide +kernel
theorem d_Rf_pour_165 : decode m_Rf_pour.2.1 165 = .ok (.getfield 54, 3) := by decide +kernel
theorem d_Rf_pour_168 : decode m_Rf_pour.2.1 168 = .ok (.iload_n 3, 1) := by decide +kernel
theorem d_Rf_pour_169 : decode m_Rf_pour.2.1 169 = .ok (.iaload, 1) := by decide +kernel
theorem d_Rf_pour_170 : decode m_Rf_pour.2.1 170 = .ok (.iload 4, 2) := by decide +kernel
theorem d_Rf_pour_172 : decode m_Rf_pour.2.1 172 = .ok (.isub, 1) := by decide +kernel
theorem d_Rf_pour_173 : decode m_Rf_pour.2.1 173 = .ok (.iload_n 3, 1) := by decide +kernel
theorem d_Rf_pour_174 : decode m_Rf_pour.2.1 174 = .ok (.invokevirtual 249, 3) := by decide +kernel
theorem d_Rf_pour_177 : decode m_Rf_pour.2.1 177 = .ok (.aload_n 0, 1) := by decide +kernel
theorem d_Rf_pour_178 : decode m_Rf_pour.2.1 178 = .ok (.aload_n 0, 1) := by decide +kernel
theorem d_Rf_pour_179 : decode m_Rf_pour.2.1 179 = .ok (.getfield 51, 3) := by decide +kernel
theorem d_Rf_pour_182 : decode m_Rf_pour.2.1 182 = .ok (.iconst 3, 1) := by decide +kernel
theorem d_Rf_pour_183 : decode m_Rf_pour.2.1 183 = .ok (.iload_n 3, 1) := by decide +kernel
theorem d_Rf_pour_184 : decode m_Rf_pour.2.1 184 = .ok (.imul, 1) := by decide +kernel
theorem d_Rf_pour_185 : decode m_Rf_pour.2.1 185 = .ok (.iaload, 1) := by decide +kernel
theorem d_Rf_pour_186 : decode m_Rf_pour.2.1 186 = .ok (.aload_n 0, 1) := by decide +kernel
theorem d_Rf_pour_187 : decode m_Rf_pour.2.1 187 = .ok (.getfield 51, 3) := by decide +kernel
theorem d_Rf_pour_190 : decode m_Rf_pour.2.1 190 = .ok (.iconst 3, 1) := by decide +kernel
theorem d_Rf_pour_191 : decode m_Rf_pour.2.1 191 = .ok (.iload_n 3, 1) := by decide +kernel
theorem d_Rf_pour_192 : decode m_Rf_pour.2.1 192 = .ok (.imul, 1) := by decide +kernel
theorem d_Rf_pour_193 : decode m_Rf_pour.2.1 193 = .ok (.iconst 1, 1) := by decide +kernel
theorem d_Rf_pour_194 : decode m_Rf_pour.2.1 194 = .ok (.iadd, 1) := by decide +kernel
theorem d_Rf_pour_195 : decode m_Rf_pour.2.1 195 = .ok (.iaload, 1) := by decide +kernel
theorem d_Rf_pour_196 : decode m_Rf_pour.2.1 196 = .ok (.iadd, 1) := by decide +kernel
theorem d_Rf_pour_197 : decode m_Rf_pour.2.1 197 = .ok (.iload 4, 2) := by decide +kernel
theorem d_Rf_pour_199 : decode m_Rf_pour.2.1 199 = .ok (.iload_n 3, 1) := by decide +kernel
theorem d_Rf_pour_200 : decode m_Rf_pour.2.1 200 = .ok (.invokevirtual 249, 3) := by decide +kernel
theorem d_Rf_pour_203 : decode m_Rf_pour.2.1 203 = .ok (.iinc 2 1, 3) := by decide +kernel
theorem d_Rf_pour_206 : decode m_Rf_pour.2.1 206 = .ok (.goto (-137), 3) := by decide +kernel
theorem d_Rf_pour_209 : decode m_Rf_pour.2.1 209 = .ok (.return_, 1) := by decide +kernel
theorem g_Rf_pour_0 {X : XS}  (h : Hp) (Q : Option AV → Hp → Prop)  (k : Rn X m_Rf_pour 4 [some (vR [1]), some (vI 0), some (vI 0), none, none] [] h Q) : Rn X m_Rf_pour 0 [some (vR [1]), none, none, none, none] [] h Q := by
  refine Rn.iconst (n := 1) (v := 0) d_Rf_pour_0 rfl (by decide) ?_
  refine Rn.istore_n (n := 2) (i := 1) (ls2 := [some (vR [1]), some (vI 0), none, none, none]) d_Rf_pour_1 rfl rfl (Nat.le_of_ble_eq_true rfl) rfl ?_
  refine Rn.iconst (n := 3) (v := 0) d_Rf_pour_2 rfl (by decide) ?_
  refine Rn.istore_n (n := 4) (i := 2) (ls2 := [some (vR [1]), some (vI 0), some (vI 0), none, none]) d_Rf_pour_3 rfl rfl (Nat.le_of_ble_eq_true rfl) rfl ?_
  exact k
theorem g_Rf_pour_4 {X : XS} (a1 : Int32) (a2 : Int32) (h : Hp) (Q : Option AV → Hp → Prop)  (k : ((8 ≤ a2 → Rn X m_Rf_pour 25 [some (vR [1]), some (vI a1), some (vI 0), none, none] [] h Q) ∧ (¬ 8 ≤ a2 → (vp_in a2 8 ∧ Rn X m_Rf_pour 4 [some (vR [1]), some (vI a1), some (vI (a2 + 1)), none, none] [] (hsI h [27, 1] a2.toNatClampNeg 0) Q)))) : Rn X m_Rf_pour 4 [some (vR [1]), some (vI a1), some (vI a2), none, none] [] h Q := by
  refine Rn.iload_n (n := 5) (i := 2) d_Rf_pour_4 rfl rfl rfl ?_
  refine Rn.bipush (n := 7) (v := 8) d_Rf_pour_5 rfl (by decide) ?_
  refine Rn.icmp_ge (n := 10) (t := 23) d_Rf_pour_7 rfl (by decide) (fun cc => ?_) (fun cc => ?_)
  · have k := k.1 cc
    refine Rn.iconst (n := 24) (v := 0) d_Rf_pour_23 rfl (by decide) ?_
    refine Rn.istore_n (n := 25) (i := 2) (ls2 := [some (vR [1]), some (vI a1), some (vI 0), none, none]) d_Rf_pour_24 rfl rfl (Nat.le_of_ble_eq_true rfl) rfl ?_
    exact k
  · have k := k.2 cc
    refine Rn.aload_n (n := 11) (i := 0) d_Rf_pour_10 rfl rfl rfl ?_
    refine Rn.getf (n := 14) (v := vR [27, 1]) d_Rf_pour_11 rfl fl_Rf_54 Lv_1 rfl ?_
    refine Rn.iload_n (n := 15) (i := 2) d_Rf_pour_14 rfl rfl rfl ?_
    refine Rn.iconst (n := 16) (v := 0) d_Rf_pour_15 rfl (by decide) ?_
    obtain ⟨b1, k⟩ := k
    refine Rn.iast (n := 17) d_Rf_pour_16 rfl Lv_27_1 b1 ?_
    refine Rn.iinc (n := 20) (i := 2) (v := a2 + 1) (ls2 := [some (vR [1]), some (vI a1), some (vI (a2 + 1)), none, none]) d_Rf_pour_17 rfl rfl rfl (Nat.le_of_ble_eq_true rfl) rfl ?_
    refine Rn.goto (n := 4) d_Rf_pour_20 (by decide) ?_
    exact k
theorem g_Rf_pour_25 {X : XS} (a1 : Int32) (a2 : Int32) (h : Hp) (Q : Option AV → Hp → Prop)  (k : ((20 ≤ a2 → Rn X m_Rf_pour 46 [some (vR [1]), some (vI a1), some (vI 0), none, none] [] h Q) ∧ (¬ 20 ≤ a2 → (vp_in a2 20 ∧ Rn X m_Rf_pour 25 [some (vR [1]), some (vI a1), some (vI (a2 + 1)), none, none] [] (hsI h [28, 1] a2.toNatClampNeg 0) Q)))) : Rn X m_Rf_pour 25 [some (vR [1]), some (vI a1), some (vI a2), none, none] [] h Q := by
  refine Rn.iload_n (n := 26) (i := 2) d_Rf_pour_25 rfl rfl rfl ?_
  refine Rn.bipush (n := 28) (v := 20) d_Rf_pour_26 rfl (by decide) ?_
  refine Rn.icmp_ge (n := 31) (t := 44) d_Rf_pour_28 rfl (by decide) (fun cc => ?_) (fun cc => ?_)
  · have k := k.1 cc
    refine Rn.iconst (n := 45) (v := 0) d_Rf_pour_44 rfl (by decide) ?_
    refine Rn.istore_n (n := 46) (i := 2) (ls2 := [some (vR [1]), some (vI a1), some (vI 0), none, none]) d_Rf_pour_45 rfl rfl (Nat.le_of_ble_eq_true rfl) rfl ?_
    exact k
  · have k := k.2 cc
    refine Rn.aload_n (n := 32) (i := 0) d_Rf_pour_31 rfl rfl rfl ?_
    refine Rn.getf (n := 35) (v := vR [28, 1]) d_Rf_pour_32 rfl fl_Rf_57 Lv_1 rfl ?_
    refine Rn.iload_n (n := 36) (i := 2) d_Rf_pour_35 rfl rfl rfl ?_
    refine Rn.iconst (n := 37) (v := 0) d_Rf_pour_36 rfl (by decide) ?_
    obtain ⟨b1, k⟩ := k
    refine Rn.iast (n := 38) d_Rf_pour_37 rfl Lv_28_1 b1 ?_
    refine Rn.iinc (n := 41) (i := 2) (v := a2 + 1) (ls2 := [some (vR [1]), some (vI a1), some (vI (a2 + 1)), none, none]) d_Rf_pour_38 rfl rfl rfl (Nat.le_of_ble_eq_true rfl) rfl ?_
    refine Rn.goto (n := 25) d_Rf_pour_41 (by decide) ?_
    exact k
theorem g_Rf_pour_46 {X : XS} (a1 : Int32) (a2 : Int32) (h : Hp) (Q : Option AV → Hp → Prop)  (k : ((20 ≤ a2 → Rn X m_Rf_pour 69 [some (vR [1]), some (vI a1), some (vI 0), none, none] [] h Q) ∧ (¬ 20 ≤ a2 → (∃ Q'4, EvV X m_Rf_falls [vR [1], vI a2, vI 1024, vI (-1)] h Q'4 ∧ ∀ (h3 : Hp), Q'4 h3 → Rn X m_Rf_pour 46 [some (vR [1]), some (vI a1), some (vI (a2 + 1)), none, none] [] h3 Q)))) : Rn X m_Rf_pour 46 [some (vR [1]), some (vI a1), some (vI a2), none, none] [] h Q := by
  refine Rn.iload_n (n := 47) (i := 2) d_Rf_pour_46 rfl rfl rfl ?_
  refine Rn.bipush (n := 49) (v := 20) d_Rf_pour_47 rfl (by decide) ?_
  refine Rn.icmp_ge (n := 52) (t := 67) d_Rf_pour_49 rfl (by decide) (fun cc => ?_) (fun cc => ?_)
  · have k := k.1 cc
    refine Rn.iconst (n := 68) (v := 0) d_Rf_pour_67 rfl (by decide) ?_
    refine Rn.istore_n (n := 69) (i := 2) (ls2 := [some (vR [1]), some (vI a1), some (vI 0), none, none]) d_Rf_pour_68 rfl rfl (Nat.le_of_ble_eq_true rfl) rfl ?_
    exact k
  · have k := k.2 cc
    refine Rn.aload_n (n := 53) (i := 0) d_Rf_pour_52 rfl rfl rfl ?_
    refine Rn.iload_n (n := 54) (i := 2) d_Rf_pour_53 rfl rfl rfl ?_
    refine Rn.sipush (n := 57) (v := 1024) d_Rf_pour_54 rfl (by decide) ?_
    refine Rn.iconst (n := 58) (v := (-1)) d_Rf_pour_57 rfl (by decide) ?_
    obtain ⟨Q'4, ev1, k⟩ := k
    refine Rn.callV (n := 61) (av := [vI a2, vI 1024, vI (-1)]) d_Rf_pour_58 rfl ml_Rf_pour_249 mi_Rf_falls Lv_1 rfl rfl rfl rfl (Nat.le_of_ble_eq_true rfl) ev1 (fun v h3 hq => ?_)
    obtain ⟨rfl, hq⟩ := hq
    have k := k h3 hq
    show Rn X m_Rf_pour 61 [some (vR [1]), some (vI a1), some (vI a2), none, none] [] h3 Q
    refine Rn.iinc (n := 64) (i := 2) (v := a2 + 1) (ls2 := [some (vR [1]), some (vI a1), some (vI (a2 + 1)), none, none]) d_Rf_pour_61 rfl rfl rfl (Nat.le_of_ble_eq_true rfl) rfl ?_
    refine Rn.goto (n := 46) d_Rf_pour_64 (by decide) ?_
    exact k
theorem g_Rf_pour_69 {X : XS} (a1 : Int32) (a2 : Int32) (h : Hp) (Q : Option AV → Hp → Prop)  (k : (((h.1 [1] 25) ≤ a2 → Q none h) ∧ (¬ (h.1 [1] 25) ≤ a2 → Rn X m_Rf_pour 82 [some (vR [1]), some (vI a1), some (vI a2), some (vI (-1)), some (vI 0)] [] h Q))) : Rn X m_Rf_pour 69 [some (vR [1]), some (vI a1), some (vI a2), none, none] [] h Q := by
  refine Rn.iload_n (n := 70) (i := 2) d_Rf_pour_69 rfl rfl rfl ?_
  refine Rn.aload_n (n := 71) (i := 0) d_Rf_pour_70 rfl rfl rfl ?_
  refine Rn.getf (n := 74) (v := vI (h.1 [1] 25)) d_Rf_pour_71 rfl fl_Rf_240 Lv_1 rfl ?_
  refine Rn.icmp_ge (n := 77) (t := 209) d_Rf_pour_74 rfl (by decide) (fun cc => ?_) (fun cc => ?_)
  · have k := k.1 cc
    exact Rn.vret d_Rf_pour_209 rfl k
  · have k := k.2 cc
    refine Rn.iconst (n := 78) (v := (-1)) d_Rf_pour_77 rfl (by decide) ?_
    refine Rn.istore_n (n := 79) (i := 3) (ls2 := [some (vR [1]), some (vI a1), some (vI a2), some (vI (-1)), none]) d_Rf_pour_78 rfl rfl (Nat.le_of_ble_eq_true rfl) rfl ?_
    refine Rn.iconst (n := 80) (v := 0) d_Rf_pour_79 rfl (by decide) ?_
    refine Rn.istore (n := 82) (i := 4) (ls2 := [some (vR [1]), some (vI a1), some (vI a2), some (vI (-1)), some (vI 0)]) d_Rf_pour_80 rfl (Nat.le_of_ble_eq_true rfl) rfl ?_
    exact k
theorem g_Rf_pour_82 {X : XS} (a1 : Int32) (a2 : Int32) (a3 : Int32) (a4 : Int32) (h : Hp) (Q : Option AV → Hp → Prop)  (k : (((h.1 [1] 25) ≤ a4 → (vp_in a3 8 ∧ (vp_in (3 * a3) 24 ∧ (vp_in ((3 * a3) + 1) 24 ∧ (vp_in a3 8 ∧ (∃ Q'8, EvV X m_Rf_falls [vR [1], vI ((h.1 [26, 1] (3 * a3).toNatClampNeg) - (h.1 [26, 1] ((3 * a3) + 1).toNatClampNeg)), vI ((h.1 [27, 1] a3.toNatClampNeg) - ((h.1 [27, 1] a3.toNatClampNeg) / 2)), vI a3] h Q'8 ∧ ∀ (h7 : Hp), Q'8 h7 → (vp_in (3 * a3) 24 ∧ (vp_in ((3 * a3) + 1) 24 ∧ (∃ Q'14, EvV X m_Rf_falls [vR [1], vI ((h7.1 [26, 1] (3 * a3).toNatClampNeg) + (h7.1 [26, 1] ((3 * a3) + 1).toNatClampNeg)), vI ((h.1 [27, 1] a3.toNatClampNeg) / 2), vI a3] h7 Q'14 ∧ ∀ (h13 : Hp), Q'14 h13 → Rn X m_Rf_pour 69 [some (vR [1]), some (vI (a1 ||| (iShl 1 a3))), some (vI (a2 + 1)), none, none] [] h13 Q))))))))) ∧ (¬ (h.1 [1] 25) ≤ a4 → (∃ Q'18, EvI X m_Rf_has [vI a1, vI a4] h Q'18 ∧ ∀ (r19 : Int32) (h17 : Hp), Q'18 r19 h17 → ((¬ r19 = 0 → Rn X m_Rf_pour 82 [some (vR [1]), some (vI a1), some (vI a2), some (vI a3), some (vI (a4 + 1))] [] h17 Q) ∧ (r19 = 0 → ((a3 = (-1) → Rn X m_Rf_pour 82 [some (vR [1]), some (vI a1), some (vI a2), some (vI a4), some (vI (a4 + 1))] [] h17 Q) ∧ (¬ a3 = (-1) → (∃ Q'23, EvI X m_Rf_isHigher [vR [1], vI a4, vI a3] h17 Q'23 ∧ ∀ (r24 : Int32) (h22 : Hp), Q'23 r24 h22 → ((r24 = 0 → Rn X m_Rf_pour 82 [some (vR [1]), some (vI a1), some (vI a2), some (vI a3), some (vI (a4 + 1))] [] h22 Q) ∧ (¬ r24 = 0 → Rn X m_Rf_pour 82 [some (vR [1]), some (vI a1), some (vI a2), some (vI a4), some (vI (a4 + 1))] [] h22 Q))))))))))) : Rn X m_Rf_pour 82 [some (vR [1]), some (vI a1), some (vI a2), some (vI a3), some (vI a4)] [] h Q := by
  refine Rn.iload (n := 84) (i := 4) d_Rf_pour_82 rfl rfl ?_
  refine Rn.aload_n (n := 85) (i := 0) d_Rf_pour_84 rfl rfl rfl ?_
  refine Rn.getf (n := 88) (v := vI (h.1 [1] 25)) d_Rf_pour_85 rfl fl_Rf_240 Lv_1 rfl ?_
  refine Rn.icmp_ge (n := 91) (t := 128) d_Rf_pour_88 rfl (by decide) (fun cc => ?_) (fun cc => ?_)
  · have k := k.1 cc
    refine Rn.iload_n (n := 129) (i := 1) d_Rf_pour_128 rfl rfl rfl ?_
    refine Rn.iconst (n := 130) (v := 1) d_Rf_pour_129 rfl (by decide) ?_
    refine Rn.iload_n (n := 131) (i := 3) d_Rf_pour_130 rfl rfl rfl ?_
    refine Rn.ishl (n := 132) d_Rf_pour_131 rfl ?_
    refine Rn.ior (n := 133) d_Rf_pour_132 rfl ?_
    refine Rn.istore_n (n := 134) (i := 1) (ls2 := [some (vR [1]), some (vI (a1 ||| (iShl 1 a3))), some (vI a2), some (vI a3), some (vI a4)]) d_Rf_pour_133 rfl rfl (Nat.le_of_ble_eq_true rfl) rfl ?_
    refine Rn.aload_n (n := 135) (i := 0) d_Rf_pour_134 rfl rfl rfl ?_
    refine Rn.getf (n := 138) (v := vR [27, 1]) d_Rf_pour_135 rfl fl_Rf_54 Lv_1 rfl ?_
    refine Rn.iload_n (n := 139) (i := 3) d_Rf_pour_138 rfl rfl rfl ?_
    obtain ⟨b1, k⟩ := k
    refine Rn.iald (n := 140) (v := h.1 [27, 1] a3.toNatClampNeg) d_Rf_pour_139 rfl Lv_27_1 b1 rfl ?_
    refine Rn.iconst (n := 141) (v := 2) d_Rf_pour_140 rfl (by decide) ?_
    refine Rn.idiv (n := 142) d_Rf_pour_141 rfl (by decide) ?_
    refine Rn.istore (n := 144) (i := 4) (ls2 := [some (vR [1]), some (vI (a1 ||| (iShl 1 a3))), some (vI a2), some (vI a3), some (vI ((h.1 [27, 1] a3.toNatClampNeg) / 2))]) d_Rf_pour_142 rfl (Nat.le_of_ble_eq_true rfl) rfl ?_
    refine Rn.aload_n (n := 145) (i := 0) d_Rf_pour_144 rfl rfl rfl ?_
    refine Rn.aload_n (n := 146) (i := 0) d_Rf_pour_145 rfl rfl rfl ?_
    refine Rn.getf (n := 149) (v := vR [26, 1]) d_Rf_pour_146 rfl fl_Rf_51 Lv_1 rfl ?_
    refine Rn.iconst (n := 150) (v := 3) d_Rf_pour_149 rfl (by decide) ?_
    refine Rn.iload_n (n := 151) (i := 3) d_Rf_pour_150 rfl rfl rfl ?_
    refine Rn.imul (n := 152) d_Rf_pour_151 rfl ?_
    obtain ⟨b2, k⟩ := k
    refine Rn.iald (n := 153) (v := h.1 [26, 1] (3 * a3).toNatClampNeg) d_Rf_pour_152 rfl Lv_26_1 b2 rfl ?_
    refine Rn.aload_n (n := 154) (i := 0) d_Rf_pour_153 rfl rfl rfl ?_
    refine Rn.getf (n := 157) (v := vR [26, 1]) d_Rf_pour_154 rfl fl_Rf_51 Lv_1 rfl ?_
    refine Rn.iconst (n := 158) (v := 3) d_Rf_pour_157 rfl (by decide) ?_
    refine Rn.iload_n (n := 159) (i := 3) d_Rf_pour_158 rfl rfl rfl ?_
    refine Rn.imul (n := 160) d_Rf_pour_159 rfl ?_
    refine Rn.iconst (n := 161) (v := 1) d_Rf_pour_160 rfl (by decide) ?_
    refine Rn.iadd (n := 162) d_Rf_pour_161 rfl ?_
    obtain ⟨b3, k⟩ := k
    refine Rn.iald (n := 163) (v := h.1 [26, 1] ((3 * a3) + 1).toNatClampNeg) d_Rf_pour_162 rfl Lv_26_1 b3 rfl ?_
    refine Rn.isub (n := 164) d_Rf_pour_163 rfl ?_
    refine Rn.aload_n (n := 165) (i := 0) d_Rf_pour_164 rfl rfl rfl ?_
    refine Rn.getf (n := 168) (v := vR [27, 1]) d_Rf_pour_165 rfl fl_Rf_54 Lv_1 rfl ?_
    refine Rn.iload_n (n := 169) (i := 3) d_Rf_pour_168 rfl rfl rfl ?_
    obtain ⟨b4, k⟩ := k
    refine Rn.iald (n := 170) (v := h.1 [27, 1] a3.toNatClampNeg) d_Rf_pour_169 rfl Lv_27_1 b4 rfl ?_
    refine Rn.iload (n := 172) (i := 4) d_Rf_pour_170 rfl rfl ?_
    refine Rn.isub (n := 173) d_Rf_pour_172 rfl ?_
    refine Rn.iload_n (n := 174) (i := 3) d_Rf_pour_173 rfl rfl rfl ?_
    obtain ⟨Q'8, ev5, k⟩ := k
    refine Rn.callV (n := 177) (av := [vI ((h.1 [26, 1] (3 * a3).toNatClampNeg) - (h.1 [26, 1] ((3 * a3) + 1).toNatClampNeg)), vI ((h.1 [27, 1] a3.toNatClampNeg) - ((h.1 [27, 1] a3.toNatClampNeg) / 2)), vI a3]) d_Rf_pour_174 rfl ml_Rf_pour_249 mi_Rf_falls Lv_1 rfl rfl rfl rfl (Nat.le_of_ble_eq_true rfl) ev5 (fun v h7 hq => ?_)
    obtain ⟨rfl, hq⟩ := hq
    have k := k h7 hq
    show Rn X m_Rf_pour 177 [some (vR [1]), some (vI (a1 ||| (iShl 1 a3))), some (vI a2), some (vI a3), some (vI ((h.1 [27, 1] a3.toNatClampNeg) / 2))] [] h7 Q
    refine Rn.aload_n (n := 178) (i := 0) d_Rf_pour_177 rfl rfl rfl ?_
    refine Rn.aload_n (n := 179) (i := 0) d_Rf_pour_178 rfl rfl rfl ?_
    refine Rn.getf (n := 182) (v := vR [26, 1]) d_Rf_pour_179 rfl fl_Rf_51 Lv_1 rfl ?_
    refine Rn.iconst (n := 183) (v := 3) d_Rf_pour_182 rfl (by decide) ?_
    refine Rn.iload_n (n := 184) (i := 3) d_Rf_pour_183 rfl rfl rfl ?_
    refine Rn.imul (n := 185) d_Rf_pour_184 rfl ?_
    obtain ⟨b9, k⟩ := k
    refine Rn.iald (n := 186) (v := h7.1 [26, 1] (3 * a3).toNatClampNeg) d_Rf_pour_185 rfl Lv_26_1 b9 rfl ?_
    refine Rn.aload_n (n := 187) (i := 0) d_Rf_pour_186 rfl rfl rfl ?_
    refine Rn.getf (n := 190) (v := vR [26, 1]) d_Rf_pour_187 rfl fl_Rf_51 Lv_1 rfl ?_
    refine Rn.iconst (n := 191) (v := 3) d_Rf_pour_190 rfl (by decide) ?_
    refine Rn.iload_n (n := 192) (i := 3) d_Rf_pour_191 rfl rfl rfl ?_
    refine Rn.imul (n := 193) d_Rf_pour_192 rfl ?_
    refine Rn.iconst (n := 194) (v := 1) d_Rf_pour_193 rfl (by decide) ?_
    refine Rn.iadd (n := 195) d_Rf_pour_194 rfl ?_
    obtain ⟨b10, k⟩ := k
    refine Rn.iald (n := 196) (v := h7.1 [26, 1] ((3 * a3) + 1).toNatClampNeg) d_Rf_pour_195 rfl Lv_26_1 b10 rfl ?_
    refine Rn.iadd (n := 197) d_Rf_pour_196 rfl ?_
    refine Rn.iload (n := 199) (i := 4) d_Rf_pour_197 rfl rfl ?_
    refine Rn.iload_n (n := 200) (i := 3) d_Rf_pour_199 rfl rfl rfl ?_
    obtain ⟨Q'14, ev11, k⟩ := k
    refine Rn.callV (n := 203) (av := [vI ((h7.1 [26, 1] (3 * a3).toNatClampNeg) + (h7.1 [26, 1] ((3 * a3) + 1).toNatClampNeg)), vI ((h.1 [27, 1] a3.toNatClampNeg) / 2), vI a3]) d_Rf_pour_200 rfl ml_Rf_pour_249 mi_Rf_falls Lv_1 rfl rfl rfl rfl (Nat.le_of_ble_eq_true rfl) ev11 (fun v h13 hq => ?_)
    obtain ⟨rfl, hq⟩ := hq
    have k := k h13 hq
    show Rn X m_Rf_pour 203 [some (vR [1]), some (vI (a1 ||| (iShl 1 a3))), some (vI a2), some (vI a3), some (vI ((h.1 [27, 1] a3.toNatClampNeg) / 2))] [] h13 Q
    refine Rn.iinc (n := 206) (i := 2) (v := a2 + 1) (ls2 := [some (vR [1]), some (vI (a1 ||| (iShl 1 a3))), some (vI (a2 + 1)), some (vI a3), some (vI ((h.1 [27, 1] a3.toNatClampNeg) / 2))]) d_Rf_pour_203 rfl rfl rfl (Nat.le_of_ble_eq_true rfl) rfl ?_
    refine Rn.goto (n := 69) d_Rf_pour_206 (by decide) ?_
    exact Rn.loc [some (vR [1]), some (vI (a1 ||| (iShl 1 a3))), some (vI (a2 + 1)), none, none] (LLe_ok ⟨rfl, ⟨rfl, ⟨rfl, trivial⟩⟩⟩) k
  · have k := k.2 cc
    refine Rn.iload_n (n := 92) (i := 1) d_Rf_pour_91 rfl rfl rfl ?_
    refine Rn.iload (n := 94) (i := 4) d_Rf_pour_92 rfl rfl ?_
    obtain ⟨Q'18, ev15, k⟩ := k
    refine Rn.callS (n := 97) (av := [vI a1, vI a4]) d_Rf_pour_94 rfl ml_Rf_pour_73 ms_Rf_has rfl rfl (Nat.le_of_ble_eq_true rfl) ev15 (fun v h17 hq => ?_)
    obtain ⟨r19, rfl, hq⟩ := hq
    have k := k r19 h17 hq
    show Rn X m_Rf_pour 97 [some (vR [1]), some (vI a1), some (vI a2), some (vI a3), some (vI a4)] [vI r19] h17 Q
    refine Rn.if_ne (n := 100) (t := 120) d_Rf_pour_97 rfl (by decide) (fun cc => ?_) (fun cc => ?_)
    · have k := k.1 cc
      refine Rn.iload_n (n := 121) (i := 3) d_Rf_pour_120 rfl rfl rfl ?_
      refine Rn.istore_n (n := 122) (i := 3) (ls2 := [some (vR [1]), some (vI a1), some (vI a2), some (vI a3), some (vI a4)]) d_Rf_pour_121 rfl rfl (Nat.le_of_ble_eq_true rfl) rfl ?_
      refine Rn.iinc (n := 125) (i := 4) (v := a4 + 1) (ls2 := [some (vR [1]), some (vI a1), some (vI a2), some (vI a3), some (vI (a4 + 1))]) d_Rf_pour_122 rfl rfl rfl (Nat.le_of_ble_eq_true rfl) rfl ?_
      refine Rn.goto (n := 82) d_Rf_pour_125 (by decide) ?_
      exact k
    · have k := k.2 cc
      refine Rn.iload_n (n := 101) (i := 3) d_Rf_pour_100 rfl rfl rfl ?_
      refine Rn.iconst (n := 102) (v := (-1)) d_Rf_pour_101 rfl (by decide) ?_
      refine Rn.icmp_eq (n := 105) (t := 115) d_Rf_pour_102 rfl (by decide) (fun cc => ?_) (fun cc => ?_)
      · have k := k.1 cc
        refine Rn.iload (n := 117) (i := 4) d_Rf_pour_115 rfl rfl ?_
        refine Rn.goto (n := 121) d_Rf_pour_117 (by decide) ?_
        refine Rn.istore_n (n := 122) (i := 3) (ls2 := [some (vR [1]), some (vI a1), some (vI a2), some (vI a4), some (vI a4)]) d_Rf_pour_121 rfl rfl (Nat.le_of_ble_eq_true rfl) rfl ?_
        refine Rn.iinc (n := 125) (i := 4) (v := a4 + 1) (ls2 := [some (vR [1]), some (vI a1), some (vI a2), some (vI a4), some (vI (a4 + 1))]) d_Rf_pour_122 rfl rfl rfl (Nat.le_of_ble_eq_true rfl) rfl ?_
        refine Rn.goto (n := 82) d_Rf_pour_125 (by decide) ?_
        exact k
      · have k := k.2 cc
        refine Rn.aload_n (n := 106) (i := 0) d_Rf_pour_105 rfl rfl rfl ?_
        refine Rn.iload (n := 108) (i := 4) d_Rf_pour_106 rfl rfl ?_
        refine Rn.iload_n (n := 109) (i := 3) d_Rf_pour_108 rfl rfl rfl ?_
        obtain ⟨Q'23, ev20, k⟩ := k
        refine Rn.callV (n := 112) (av := [vI a4, vI a3]) d_Rf_pour_109 rfl ml_Rf_pour_243 mi_Rf_isHigher Lv_1 rfl rfl rfl rfl (Nat.le_of_ble_eq_true rfl) ev20 (fun v h22 hq => ?_)
        obtain ⟨r24, rfl, hq⟩ := hq
        have k := k r24 h22 hq
        show Rn X m_Rf_pour 112 [some (vR [1]), some (vI a1), some (vI a2), some (vI a3), some (vI a4)] [vI r24] h22 Q
        refine Rn.if_eq (n := 115) (t := 120) d_Rf_pour_112 rfl (by decide) (fun cc => ?_) (fun cc => ?_)
        · have k := k.1 cc
          refine Rn.iload_n (n := 121) (i := 3) d_Rf_pour_120 rfl rfl rfl ?_
          refine Rn.istore_n (n := 122) (i := 3) (ls2 := [some (vR [1]), some (vI a1), some (vI a2), some (vI a3), some (vI a4)]) d_Rf_pour_121 rfl rfl (Nat.le_of_ble_eq_true rfl) rfl ?_
          refine Rn.iinc (n := 125) (i := 4) (v := a4 + 1) (ls2 := [some (vR [1]), some (vI a1), some (vI a2), some (vI a3), some (vI (a4 + 1))]) d_Rf_pour_122 rfl rfl rfl (Nat.le_of_ble_eq_true rfl) rfl ?_
          refine Rn.goto (n := 82) d_Rf_pour_125 (by decide) ?_
          exact k
        · have k := k.2 cc
          refine Rn.iload (n := 117) (i := 4) d_Rf_pour_115 rfl rfl ?_
          refine Rn.goto (n := 121) d_Rf_pour_117 (by decide) ?_
          refine Rn.istore_n (n := 122) (i := 3) (ls2 := [some (vR [1]), some (vI a1), some (vI a2), some (vI a4), some (vI a4)]) d_Rf_pour_121 rfl rfl (Nat.le_of_ble_eq_true rfl) rfl ?_
          refine Rn.iinc (n := 125) (i := 4) (v := a4 + 1) (ls2 := [some (vR [1]), some (vI a1), some (vI a2), some (vI a4), some (vI (a4 + 1))]) d_Rf_pour_122 rfl rfl rfl (Nat.le_of_ble_eq_true rfl) rfl ?_
          refine Rn.goto (n := 82) d_Rf_pour_125 (by decide) ?_
          exact k
theorem e_Rf_pour {X : XS}  (h : Hp) (Q : Option AV → Hp → Prop) (k : Rn X m_Rf_pour 0 [some (vR [1]), none, none, none, none] [] h Q) : Ev X m_Rf_pour [vR [1]] h Q := Ev.intro (plainFor_of_name (by decide +kernel)) (Nat.le_of_ble_eq_true rfl) (ls := [some (vR [1]), none, none, none, none]) rfl k
theorem d_Rf_wet_0 : decode m_Rf_wet.2.1 0 = .ok (.iload_n 1, 1) := by decide +kernel
theorem d_Rf_wet_1 : decode m_Rf_wet.2.1 1 = .ok (.iconst 0, 1) := by decide +kernel
theorem d_Rf_wet_2 : decode m_Rf_wet.2.1 2 = .ok (.aload_n 0, 1) := by decide +kernel
theorem d_Rf_wet_3 : decode m_Rf_wet.2.1 3 = .ok (.getfield 240, 3) := by decide +kernel
theorem d_Rf_wet_6 : decode m_Rf_wet.2.1 6 = .ok (.iconst 1, 1) := by decide +kernel
theorem d_Rf_wet_7 : decode m_Rf_wet.2.1 7 = .ok (.isub, 1) := by decide +kernel
theorem d_Rf_wet_8 : decode m_Rf_wet.2.1 8 = .ok (.invokestatic 66, 3) := by decide +kernel
theorem d_Rf_wet_11 : decode m_Rf_wet.2.1 11 = .ok (.ifCond .ne 6, 3) := by decide +kernel
theorem d_Rf_wet_14 : decode m_Rf_wet.2.1 14 = .ok (.bipush (-2), 2) := by decide +kernel
theorem d_Rf_wet_16 : decode m_Rf_wet.2.1 16 = .ok (.ireturn, 1) := by decide +kernel
theorem d_Rf_wet_17 : decode m_Rf_wet.2.1 17 = .ok (.aload_n 0, 1) := by decide +kernel
theorem d_Rf_wet_18 : decode m_Rf_wet.2.1 18 = .ok (.invokevirtual 252, 3) := by decide +kernel
theorem d_Rf_wet_21 : decode m_Rf_wet.2.1 21 = .ok (.aload_n 0, 1) := by decide +kernel
theorem d_Rf_wet_22 : decode m_Rf_wet.2.1 22 = .ok (.getfield 57, 3) := by decide +kernel
theorem d_Rf_wet_25 : decode m_Rf_wet.2.1 25 = .ok (.aload_n 0, 1) := by decide +kernel
theorem d_Rf_wet_26 : decode m_Rf_wet.2.1 26 = .ok (.getfield 51, 3) := by decide +kernel
theorem d_Rf_wet_29 : decode m_Rf_wet.2.1 29 = .ok (.iconst 3, 1) := by decide +kernel
theorem d_Rf_wet_30 : decode m_Rf_wet.2.1 30 = .ok (.iload_n 1, 1) := by decide +kernel
theorem d_Rf_wet_31 : decode m_Rf_wet.2.1 31 = .ok (.imul, 1) := by decide +kernel
theorem d_Rf_wet_32 : decode m_Rf_wet.2.1 32 = .ok (.iaload, 1) := by decide +kernel
theorem d_Rf_wet_33 : decode m_Rf_wet.2.1 33 = .ok (.iaload, 1) := by decide +kernel
theorem d_Rf_wet_34 : decode m_Rf_wet.2.1 34 = .ok (.ireturn, 1) := by decide +kernel
theorem g_Rf_wet_0 {X : XS} (a1 : Int32) (h : Hp) (Q : Option AV → Hp → Prop)  (k : (∃ Q'4, EvI X m_Rf_in [vI a1, vI 0, vI ((h.1 [1] 25) - 1)] h Q'4 ∧ ∀ (r5 : Int32) (h3 : Hp), Q'4 r5 h3 → ((¬ r5 = 0 → (∃ Q'9, EvV X m_Rf_pour [vR [1]] h3 Q'9 ∧ ∀ (h8 : Hp), Q'9 h8 → (vp_in (3 * a1) 24 ∧ (vp_in (h8.1 [26, 1] (3 * a1).toNatClampNeg) 20 ∧ Q (some (vI (h8.1 [28, 1] (h8.1 [26, 1] (3 * a1).toNatClampNeg).toNatClampNeg))) h8)))) ∧ (r5 = 0 → Q (some (vI (-2))) h3)))) : Rn X m_Rf_wet 0 [some (vR [1]), some (vI a1)] [] h Q := by
  refine Rn.iload_n (n := 1) (i := 1) d_Rf_wet_0 rfl rfl rfl ?_
  refine Rn.iconst (n := 2) (v := 0) d_Rf_wet_1 rfl (by decide) ?_
  refine Rn.aload_n (n := 3) (i := 0) d_Rf_wet_2 rfl rfl rfl ?_
  refine Rn.getf (n := 6) (v := vI (h.1 [1] 25)) d_Rf_wet_3 rfl fl_Rf_240 Lv_1 rfl ?_
  refine Rn.iconst (n := 7) (v := 1) d_Rf_wet_6 rfl (by decide) ?_
  refine Rn.isub (n := 8) d_Rf_wet_7 rfl ?_
  obtain ⟨Q'4, ev1, k⟩ := k
  refine Rn.callS (n := 11) (av := [vI a1, vI 0, vI ((h.1 [1] 25) - 1)]) d_Rf_wet_8 rfl ml_Rf_wet_66 ms_Rf_in rfl rfl (Nat.le_of_ble_eq_true rfl) ev1 (fun v h3 hq => ?_)
  obtain ⟨r5, rfl, hq⟩ := hq
  have k := k r5 h3 hq
  show Rn X m_Rf_wet 11 [some (vR [1]), some (vI a1)] [vI r5] h3 Q
  refine Rn.if_ne (n := 14) (t := 17) d_Rf_wet_11 rfl (by decide) (fun cc => ?_) (fun cc => ?_)
  · have k := k.1 cc
    refine Rn.aload_n (n := 18) (i := 0) d_Rf_wet_17 rfl rfl rfl ?_
    obtain ⟨Q'9, ev6, k⟩ := k
    refine Rn.callV (n := 21) (av := []) d_Rf_wet_18 rfl ml_Rf_wet_252 mi_Rf_pour Lv_1 rfl rfl rfl rfl (Nat.le_of_ble_eq_true rfl) ev6 (fun v h8 hq => ?_)
    obtain ⟨rfl, hq⟩ := hq
    have k := k h8 hq
    show Rn X m_Rf_wet 21 [some (vR [1]), some (vI a1)] [] h8 Q
    refine Rn.aload_n (n := 22) (i := 0) d_Rf_wet_21 rfl rfl rfl ?_
    refine Rn.getf (n := 25) (v := vR [28, 1]) d_Rf_wet_22 rfl fl_Rf_57 Lv_1 rfl ?_
    refine Rn.aload_n (n := 26) (i := 0) d_Rf_wet_25 rfl rfl rfl ?_
    refine Rn.getf (n := 29) (v := vR [26, 1]) d_Rf_wet_26 rfl fl_Rf_51 Lv_1 rfl ?_
    refine Rn.iconst (n := 30) (v := 3) d_Rf_wet_29 rfl (by decide) ?_
    refine Rn.iload_n (n := 31) (i := 1) d_Rf_wet_30 rfl rfl rfl ?_
    refine Rn.imul (n := 32) d_Rf_wet_31 rfl ?_
    obtain ⟨b10, k⟩ := k
    refine Rn.iald (n := 33) (v := h8.1 [26, 1] (3 * a1).toNatClampNeg) d_Rf_wet_32 rfl Lv_26_1 b10 rfl ?_
    obtain ⟨b11, k⟩ := k
    refine Rn.iald (n := 34) (v := h8.1 [28, 1] (h8.1 [26, 1] (3 * a1).toNatClampNeg).toNatClampNeg) d_Rf_wet_33 rfl Lv_28_1 b11 rfl ?_
    exact Rn.iret d_Rf_wet_34 rfl rfl k
  · have k := k.2 cc
    refine Rn.bipush (n := 16) (v := (-2)) d_Rf_wet_14 rfl (by decide) ?_
    exact Rn.iret d_Rf_wet_16 rfl rfl k
theorem e_Rf_wet {X : XS} (a1 : Int32) (h : Hp) (Q : Option AV → Hp → Prop) (k : Rn X m_Rf_wet 0 [some (vR [1]), some (vI a1)] [] h Q) : Ev X m_Rf_wet [vR [1], vI a1] h Q := Ev.intro (plainFor_of_name (by decide +kernel)) (Nat.le_of_ble_eq_true rfl) (ls := [some (vR [1]), some (vI a1)]) rfl k
theorem d_Rf_driest_0 : decode m_Rf_driest.2.1 0 = .ok (.iload_n 1, 1) := by decide +kernel
theorem d_Rf_driest_1 : decode m_Rf_driest.2.1 1 = .ok (.iconst 0, 1) := by decide +kernel
theorem d_Rf_driest_2 : decode m_Rf_driest.2.1 2 = .ok (.iconst 1, 1) := by decide +kernel
theorem d_Rf_driest_3 : decode m_Rf_driest.2.1 3 = .ok (.invokestatic 66, 3) := by decide +kernel
theorem d_Rf_driest_6 : decode m_Rf_driest.2.1 6 = .ok (.ifCond .ne 6, 3) := by decide +kernel
theorem d_Rf_driest_9 : decode m_Rf_driest.2.1 9 = .ok (.bipush (-3), 2) := by decide +kernel
theorem d_Rf_driest_11 : decode m_Rf_driest.2.1 11 = .ok (.ireturn, 1) := by decide +kernel
theorem d_Rf_driest_12 : decode m_Rf_driest.2.1 12 = .ok (.aload_n 0, 1) := by decide +kernel
theorem d_Rf_driest_13 : decode m_Rf_driest.2.1 13 = .ok (.invokevirtual 252, 3) := by decide +kernel
theorem d_Rf_driest_16 : decode m_Rf_driest.2.1 16 = .ok (.iconst (-1), 1) := by decide +kernel
theorem d_Rf_driest_17 : decode m_Rf_driest.2.1 17 = .ok (.istore_n 2, 1) := by decide +kernel
theorem d_Rf_driest_18 : decode m_Rf_driest.2.1 18 = .ok (.iconst 0, 1) := by decide +kernel
theorem d_Rf_driest_19 : decode m_Rf_driest.2.1 19 = .ok (.istore_n 3, 1) := by decide +kernel
theorem d_Rf_driest_20 : decode m_Rf_driest.2.1 20 = .ok (.iload_n 3, 1) := by decide +kernel
theorem d_Rf_driest_21 : decode m_Rf_driest.2.1 21 = .ok (.bipush 20, 2) := by decide +kernel
theorem d_Rf_driest_23 : decode m_Rf_driest.2.1 23 = .ok (.if_icmp .ge 86, 3) := by decide +kernel
theorem d_Rf_driest_26 : decode m_Rf_driest.2.1 26 = .ok (.iconst 1, 1) := by decide +kernel
theorem d_Rf_driest_27 : decode m_Rf_driest.2.1 27 = .ok (.istore 4, 2) := by decide +kernel
theorem d_Rf_driest_29 : decode m_Rf_driest.2.1 29 = .ok (.iconst 0, 1) := by decide +kernel
theorem d_Rf_driest_30 : decode m_Rf_driest.2.1 30 = .ok (.istore 5, 2) := by decide +kernel
theorem d_Rf_driest_32 : decode m_Rf_driest.2.1 32 = .ok (.iload 5, 2) := by decide +kernel
theorem d_Rf_driest_34 : decode m_Rf_driest.2.1 34 = .ok (.aload_n 0, 1) := by decide +kernel
theorem d_Rf_driest_35 : decode m_Rf_driest.2.1 35 = .ok (.getfield 240, 3) := by decide +kernel
theorem d_Rf_driest_38 : decode m_Rf_driest.2.1 38 = .ok (.if_icmp .ge 34, 3) := by decide +kernel
theorem d_Rf_driest_41 : decode m_Rf_driest.2.1 41 = .ok (.iload 4, 2) := by decide +kernel
theorem d_Rf_driest_43 : decode m_Rf_driest.2.1 43 = .ok (.ifCond .eq 20, 3) := by decide +kernel
theorem d_Rf_driest_46 : decode m_Rf_driest.2.1 46 = .ok (.aload_n 0, 1) := by decide +kernel
theorem d_Rf_driest_47 : decode m_Rf_driest.2.1 47 = .ok (.getfield 51, 3) := by decide +kernel
theorem d_Rf_driest_50 : decode m_Rf_driest.2.1 50 = .ok (.iconst 3, 1) := by decide +kernel
theorem d_Rf_driest_51 : decode m_Rf_driest.2.1 51 = .ok (.iload 5, 2) := by decide +kernel
theorem d_Rf_driest_53 : decode m_Rf_driest.2.1 53 = .ok (.imul, 1) := by decide +kernel
theorem d_Rf_driest_54 : decode m_Rf_driest.2.1 54 = .ok (.iaload, 1) := by decide +kernel
theorem d_Rf_driest_55 : decode m_Rf_driest.2.1 55 = .ok (.iload_n 3, 1) := by decide +kernel
theorem d_Rf_driest_56 : decode m_Rf_driest.2.1 56 = .ok (.if_icmp .eq 7, 3) := by decide +kernel
theorem d_Rf_driest_59 : decode m_Rf_driest.2.1 59 = .ok (.iconst 1, 1) := by decide +kernel
theorem d_Rf_driest_60 : decode m_Rf_driest.2.1 60 = .ok (.goto 4, 3) := by decide +kernel
theorem d_Rf_driest_63 : decode m_Rf_driest.2.1 63 = .ok (.iconst 0, 1) := by decide +kernel
theorem d_Rf_driest_64 : decode m_Rf_driest.2.1 64 = .ok (.istore 4, 2) := by decide +kernel
theorem d_Rf_driest_66 : decode m_Rf_driest.2.1 66 = .ok (.iinc 5 1, 3) := by decide +kernel
theorem d_Rf_driest_69 : decode m_Rf_driest.2.1 69 = .ok (.goto (-37), 3) := by decide +kernel
theorem d_Rf_driest_72 : decode m_Rf_driest.2.1 72 = .ok (.iload 4, 2) := by decide +kernel
theorem d_Rf_driest_74 : decode m_Rf_driest.2.1 74 = .ok (.ifCond .eq 27, 3) := by decide +kernel
theorem d_Rf_driest_77 : decode m_Rf_driest.2.1 77 = .ok (.iload_n 2, 1) := by decide +kernel
theorem d_Rf_driest_78 : decode m_Rf_driest.2.1 78 = .ok (.iconst (-1), 1) := by decide +kernel
theorem d_Rf_driest_79 : decode m_Rf_driest.2.1 79 = .ok (.if_icmp .eq 18, 3) := by decide +kernel
theorem d_Rf_driest_82 : decode m_Rf_driest.2.1 82 = .ok (.aload_n 0, 1) := by decide +kernel
theorem d_Rf_driest_83 : decode m_Rf_driest.2.1 83 = .ok (.getfield 57, 3) := by decide +kernel
theorem d_Rf_driest_86 : decode m_Rf_driest.2.1 86 = .ok (.iload_n 3, 1) := by decide +kernel
theorem d_Rf_driest_87 : decode m_Rf_driest.2.1 87 = .ok (.iaload, 1) := by decide +kernel
theorem d_Rf_driest_88 : decode m_Rf_driest.2.1 88 = .ok (.aload_n 0, 1) := by decide +kernel
theorem d_Rf_driest_89 : decode m_Rf_driest.2.1 89 = .ok (.getfield 57, 3) := by decide +kernel
theorem d_Rf_driest_92 : decode m_Rf_driest.2.1 92 = .ok (.iload_n 2, 1) := by decide +kernel
theorem d_Rf_driest_93 : decode m_Rf_driest.2.1 93 = .ok (.iaload, 1) := by decide +kernel
theorem d_Rf_driest_94 : decode m_Rf_driest.2.1 94 = .ok (.if_icmp .ge 7, 3) := by decide +kernel
theorem d_Rf_driest_97 : decode m_Rf_driest.2.1 97 = .ok (.iload_n 3, 1) := by decide +kernel
theorem d_Rf_driest_98 : decode m_Rf_driest.2.1 98 = .ok (.goto 4, 3) := by decide +kernel
theorem d_Rf_driest_101 : decode m_Rf_driest.2.1 101 = .ok (.iload_n 2, 1) := by decide +kernel
theorem d_Rf_driest_102 : decode m_Rf_driest.2.1 102 = .ok (.istore_n 2, 1) := by decide +kernel
theorem d_Rf_driest_103 : decode m_Rf_driest.2.1 103 = .ok (.iinc 3 1, 3) := by decide +kernel
theorem d_Rf_driest_106 : decode m_Rf_driest.2.1 106 = .ok (.goto (-86), 3) := by decide +kernel
theorem d_Rf_driest_109 : decode m_Rf_driest.2.1 109 = .ok (.iload_n 1, 1) := by decide +kernel
theorem d_Rf_driest_110 : decode m_Rf_driest.2.1 110 = .ok (.ifCond .ne 7, 3) := by decide +kernel
theorem d_Rf_driest_113 : decode m_Rf_driest.2.1 113 = .ok (.iload_n 2, 1) := by decide +kernel
theorem d_Rf_driest_114 : decode m_Rf_driest.2.1 114 = .ok (.goto 9, 3) := by decide +kernel
theorem d_Rf_driest_117 : decode m_Rf_driest.2.1 117 = .ok (.aload_n 0, 1) := by decide +kernel
theorem d_Rf_driest_118 : decode m_Rf_driest.2.1 118 = .ok (.getfield 57, 3) := by decide +kernel
theorem d_Rf_driest_121 : decode m_Rf_driest.2.1 121 = .ok (.iload_n 2, 1) := by decide +kernel
theorem d_Rf_driest_122 : decode m_Rf_driest.2.1 122 = .ok (.iaload, 1) := by decide +kernel
theorem d_Rf_driest_123 : decode m_Rf_driest.2.1 123 = .ok (.ireturn, 1) := by decide +kernel
theorem g_Rf_driest_0 {X : XS} (a1 : Int32) (h : Hp) (Q : Option AV → Hp → Prop)  (k : (∃ Q'4, EvI X m_Rf_in [vI a1, vI 0, vI 1] h Q'4 ∧ ∀ (r5 : Int32) (h3 : Hp), Q'4 r5 h3 → ((¬ r5 = 0 → (∃ Q'9, EvV X m_Rf_pour [vR [1]] h3 Q'9 ∧ ∀ (h8 : Hp), Q'9 h8 → Rn X m_Rf_driest 20 [some (vR [1]), some (vI a1), some (vI (-1)), some (vI 0), none, none] [] h8 Q)) ∧ (r5 = 0 → Q (some (vI (-3))) h3)))) : Rn X m_Rf_driest 0 [some (vR [1]), some (vI a1), none, none, none, none] [] h Q := by
  refine Rn.iload_n (n := 1) (i := 1) d_Rf_driest_0 rfl rfl rfl ?_
  refine Rn.iconst (n := 2) (v := 0) d_Rf_driest_1 rfl (by decide) ?_
  refine Rn.iconst (n := 3) (v := 1) d_Rf_driest_2 rfl (by decide) ?_
  obtain ⟨Q'4, ev1, k⟩ := k
  refine Rn.callS (n := 6) (av := [vI a1, vI 0, vI 1]) d_Rf_driest_3 rfl ml_Rf_driest_66 ms_Rf_in rfl rfl (Nat.le_of_ble_eq_true rfl) ev1 (fun v h3 hq => ?_)
  obtain ⟨r5, rfl, hq⟩ := hq
  have k := k r5 h3 hq
  show Rn X m_Rf_driest 6 [some (vR [1]), some (vI a1), none, none, none, none] [vI r5] h3 Q
  refine Rn.if_ne (n := 9) (t := 12) d_Rf_driest_6 rfl (by decide) (fun cc => ?_) (fun cc => ?_)
  · have k := k.1 cc
    refine Rn.aload_n (n := 13) (i := 0) d_Rf_driest_12 rfl rfl rfl ?_
    obtain ⟨Q'9, ev6, k⟩ := k
    refine Rn.callV (n := 16) (av := []) d_Rf_driest_13 rfl ml_Rf_driest_252 mi_Rf_pour Lv_1 rfl rfl rfl rfl (Nat.le_of_ble_eq_true rfl) ev6 (fun v h8 hq => ?_)
    obtain ⟨rfl, hq⟩ := hq
    have k := k h8 hq
    show Rn X m_Rf_driest 16 [some (vR [1]), some (vI a1), none, none, none, none] [] h8 Q
    refine Rn.iconst (n := 17) (v := (-1)) d_Rf_driest_16 rfl (by decide) ?_
    refine Rn.istore_n (n := 18) (i := 2) (ls2 := [some (vR [1]), some (vI a1), some (vI (-1)), none, none, none]) d_Rf_driest_17 rfl rfl (Nat.le_of_ble_eq_true rfl) rfl ?_
    refine Rn.iconst (n := 19) (v := 0) d_Rf_driest_18 rfl (by decide) ?_
    refine Rn.istore_n (n := 20) (i := 3) (ls2 := [some (vR [1]), some (vI a1), some (vI (-1)), some (vI 0), none, none]) d_Rf_driest_19 rfl rfl (Nat.le_of_ble_eq_true rfl) rfl ?_
    exact k
  · have k := k.2 cc
    refine Rn.bipush (n := 11) (v := (-3)) d_Rf_driest_9 rfl (by decide) ?_
    exact Rn.iret d_Rf_driest_11 rfl rfl k
theorem g_Rf_driest_20 {X : XS} (a1 : Int32) (a2 : Int32) (a3 : Int32) (h : Hp) (Q : Option AV → Hp → Prop)  (k : ((20 ≤ a3 → ((¬ a1 = 0 → (vp_in a2 20 ∧ Q (some (vI (h.1 [28, 1] a2.toNatClampNeg))) h)) ∧ (a1 = 0 → Q (some (vI a2)) h))) ∧ (¬ 20 ≤ a3 → Rn X m_Rf_driest 32 [some (vR [1]), some (vI a1), some (vI a2), some (vI a3), some (vI 1), some (vI 0)] [] h Q))) : Rn X m_Rf_driest 20 [some (vR [1]), some (vI a1), some (vI a2), some (vI a3), none, none] [] h Q := by
  refine Rn.iload_n (n := 21) (i := 3) d_Rf_driest_20 rfl rfl rfl ?_
  refine Rn.bipush (n := 23) (v := 20) d_Rf_driest_21 rfl (by decide) ?_
  refine Rn.icmp_ge (n := 26) (t := 109) d_Rf_driest_23 rfl (by decide) (fun cc => ?_) (fun cc => ?_)
  · have k := k.1 cc
    refine Rn.iload_n (n := 110) (i := 1) d_Rf_driest_109 rfl rfl rfl ?_
    refine Rn.if_ne (n := 113) (t := 117) d_Rf_driest_110 rfl (by decide) (fun cc => ?_) (fun cc => ?_)
    · have k := k.1 cc
      refine Rn.aload_n (n := 118) (i := 0) d_Rf_driest_117 rfl rfl rfl ?_
      refine Rn.getf (n := 121) (v := vR [28, 1]) d_Rf_driest_118 rfl fl_Rf_57 Lv_1 rfl ?_
      refine Rn.iload_n (n := 122) (i := 2) d_Rf_driest_121 rfl rfl rfl ?_
      obtain ⟨b1, k⟩ := k
      refine Rn.iald (n := 123) (v := h.1 [28, 1] a2.toNatClampNeg) d_Rf_driest_122 rfl Lv_28_1 b1 rfl ?_
      exact Rn.iret d_Rf_driest_123 rfl rfl k
    · have k := k.2 cc
      refine Rn.iload_n (n := 114) (i := 2) d_Rf_driest_113 rfl rfl rfl ?_
      refine Rn.goto (n := 123) d_Rf_driest_114 (by decide) ?_
      exact Rn.iret d_Rf_driest_123 rfl rfl k
  · have k := k.2 cc
    refine Rn.iconst (n := 27) (v := 1) d_Rf_driest_26 rfl (by decide) ?_
    refine Rn.istore (n := 29) (i := 4) (ls2 := [some (vR [1]), some (vI a1), some (vI a2), some (vI a3), some (vI 1), none]) d_Rf_driest_27 rfl (Nat.le_of_ble_eq_true rfl) rfl ?_
    refine Rn.iconst (n := 30) (v := 0) d_Rf_driest_29 rfl (by decide) ?_
    refine Rn.istore (n := 32) (i := 5) (ls2 := [some (vR [1]), some (vI a1), some (vI a2), some (vI a3), some (vI 1), some (vI 0)]) d_Rf_driest_30 rfl (Nat.le_of_ble_eq_true rfl) rfl ?_
    exact k
theorem g_Rf_driest_32 {X : XS} (a1 : Int32) (a2 : Int32) (a3 : Int32) (a4 : Int32) (a5 : Int32) (h : Hp) (Q : Option AV → Hp → Prop)  (k : (((h.1 [1] 25) ≤ a5 → ((a4 = 0 → Rn X m_Rf_driest 20 [some (vR [1]), some (vI a1), some (vI a2), some (vI (a3 + 1)), none, none] [] h Q) ∧ (¬ a4 = 0 → ((a2 = (-1) → Rn X m_Rf_driest 20 [some (vR [1]), some (vI a1), some (vI a3), some (vI (a3 + 1)), none, none] [] h Q) ∧ (¬ a2 = (-1) → (vp_in a3 20 ∧ (vp_in a2 20 ∧ (((h.1 [28, 1] a2.toNatClampNeg) ≤ (h.1 [28, 1] a3.toNatClampNeg) → Rn X m_Rf_driest 20 [some (vR [1]), some (vI a1), some (vI a2), some (vI (a3 + 1)), none, none] [] h Q) ∧ (¬ (h.1 [28, 1] a2.toNatClampNeg) ≤ (h.1 [28, 1] a3.toNatClampNeg) → Rn X m_Rf_driest 20 [some (vR [1]), some (vI a1), some (vI a3), some (vI (a3 + 1)), none, none] [] h Q))))))))) ∧ (¬ (h.1 [1] 25) ≤ a5 → ((a4 = 0 → Rn X m_Rf_driest 32 [some (vR [1]), some (vI a1), some (vI a2), some (vI a3), some (vI 0), some (vI (a5 + 1))] [] h Q) ∧ (¬ a4 = 0 → (vp_in (3 * a5) 24 ∧ (((h.1 [26, 1] (3 * a5).toNatClampNeg) = a3 → Rn X m_Rf_driest 32 [some (vR [1]), some (vI a1), some (vI a2), some (vI a3), some (vI 0), some (vI (a5 + 1))] [] h Q) ∧ (¬ (h.1 [26, 1] (3 * a5).toNatClampNeg) = a3 → Rn X m_Rf_driest 32 [some (vR [1]), some (vI a1), some (vI a2), some (vI a3), some (vI 1), some (vI (a5 + 1))] [] h Q)))))))) : Rn X m_Rf_driest 32 [some (vR [1]), some (vI a1), some (vI a2), some (vI a3), some (vI a4), some (vI a5)] [] h Q := by
  refine Rn.iload (n := 34) (i := 5) d_Rf_driest_32 rfl rfl ?_
  refine Rn.aload_n (n := 35) (i := 0) d_Rf_driest_34 rfl rfl rfl ?_
  refine Rn.getf (n := 38) (v := vI (h.1 [1] 25)) d_Rf_driest_35 rfl fl_Rf_240 Lv_1 rfl ?_
  refine Rn.icmp_ge (n := 41) (t := 72) d_Rf_driest_38 rfl (by decide) (fun cc => ?_) (fun cc => ?_)
  · have k := k.1 cc
    refine Rn.iload (n := 74) (i := 4) d_Rf_driest_72 rfl rfl ?_
    refine Rn.if_eq (n := 77) (t := 101) d_Rf_driest_74 rfl (by decide) (fun cc => ?_) (fun cc => ?_)
    · have k := k.1 cc
      refine Rn.iload_n (n := 102) (i := 2) d_Rf_driest_101 rfl rfl rfl ?_
      refine Rn.istore_n (n := 103) (i := 2) (ls2 := [some (vR [1]), some (vI a1), some (vI a2), some (vI a3), some (vI a4), some (vI a5)]) d_Rf_driest_102 rfl rfl (Nat.le_of_ble_eq_true rfl) rfl ?_
      refine Rn.iinc (n := 106) (i := 3) (v := a3 + 1) (ls2 := [some (vR [1]), some (vI a1), some (vI a2), some (vI (a3 + 1)), some (vI a4), some (vI a5)]) d_Rf_driest_103 rfl rfl rfl (Nat.le_of_ble_eq_true rfl) rfl ?_
      refine Rn.goto (n := 20) d_Rf_driest_106 (by decide) ?_
      exact Rn.loc [some (vR [1]), some (vI a1), some (vI a2), some (vI (a3 + 1)), none, none] (LLe_ok ⟨rfl, ⟨rfl, ⟨rfl, ⟨rfl, trivial⟩⟩⟩⟩) k
    · have k := k.2 cc
      refine Rn.iload_n (n := 78) (i := 2) d_Rf_driest_77 rfl rfl rfl ?_
      refine Rn.iconst (n := 79) (v := (-1)) d_Rf_driest_78 rfl (by decide) ?_
      refine Rn.icmp_eq (n := 82) (t := 97) d_Rf_driest_79 rfl (by decide) (fun cc => ?_) (fun cc => ?_)
      · have k := k.1 cc
        refine Rn.iload_n (n := 98) (i := 3) d_Rf_driest_97 rfl rfl rfl ?_
        refine Rn.goto (n := 102) d_Rf_driest_98 (by decide) ?_
        refine Rn.istore_n (n := 103) (i := 2) (ls2 := [some (vR [1]), some (vI a1), some (vI a3), some (vI a3), some (vI a4), some (vI a5)]) d_Rf_driest_102 rfl rfl (Nat.le_of_ble_eq_true rfl) rfl ?_
        refine Rn.iinc (n := 106) (i := 3) (v := a3 + 1) (ls2 := [some (vR [1]), some (vI a1), some (vI a3), some (vI (a3 + 1)), some (vI a4), some (vI a5)]) d_Rf_driest_103 rfl rfl rfl (Nat.le_of_ble_eq_true rfl) rfl ?_
        refine Rn.goto (n := 20) d_Rf_driest_106 (by decide) ?_
        exact Rn.loc [some (vR [1]), some (vI a1), some (vI a3), some (vI (a3 + 1)), none, none] (LLe_ok ⟨rfl, ⟨rfl, ⟨rfl, ⟨rfl, trivial⟩⟩⟩⟩) k
      · have k := k.2 cc
        refine Rn.aload_n (n := 83) (i := 0) d_Rf_driest_82 rfl rfl rfl ?_
        refine Rn.getf (n := 86) (v := vR [28, 1]) d_Rf_driest_83 rfl fl_Rf_57 Lv_1 rfl ?_
        refine Rn.iload_n (n := 87) (i := 3) d_Rf_driest_86 rfl rfl rfl ?_
        obtain ⟨b1, k⟩ := k
        refine Rn.iald (n := 88) (v := h.1 [28, 1] a3.toNatClampNeg) d_Rf_driest_87 rfl Lv_28_1 b1 rfl ?_
        refine Rn.aload_n (n := 89) (i := 0) d_Rf_driest_88 rfl rfl rfl ?_
        refine Rn.getf (n := 92) (v := vR [28, 1]) d_Rf_driest_89 rfl fl_Rf_57 Lv_1 rfl ?_
        refine Rn.iload_n (n := 93) (i := 2) d_Rf_driest_92 rfl rfl rfl ?_
        obtain ⟨b2, k⟩ := k
        refine Rn.iald (n := 94) (v := h.1 [28, 1] a2.toNatClampNeg) d_Rf_driest_93 rfl Lv_28_1 b2 rfl ?_
        refine Rn.icmp_ge (n := 97) (t := 101) d_Rf_driest_94 rfl (by decide) (fun cc => ?_) (fun cc => ?_)
        · have k := k.1 cc
          refine Rn.iload_n (n := 102) (i := 2) d_Rf_driest_101 rfl rfl rfl ?_
          refine Rn.istore_n (n := 103) (i := 2) (ls2 := [some (vR [1]), some (vI a1), some (vI a2), some (vI a3), some (vI a4), some (vI a5)]) d_Rf_driest_102 rfl rfl (Nat.le_of_ble_eq_true rfl) rfl ?_
          refine Rn.iinc (n := 106) (i := 3) (v := a3 + 1) (ls2 := [some (vR [1]), some (vI a1), some (vI a2), some (vI (a3 + 1)), some (vI a4), some (vI a5)]) d_Rf_driest_103 rfl rfl rfl (Nat.le_of_ble_eq_true rfl) rfl ?_
          refine Rn.goto (n := 20) d_Rf_driest_106 (by decide) ?_
          exact Rn.loc [some (vR [1]), some (vI a1), some (vI a2), some (vI (a3 + 1)), none, none] (LLe_ok ⟨rfl, ⟨rfl, ⟨rfl, ⟨rfl, trivial⟩⟩⟩⟩) k
        · have k := k.2 cc
          refine Rn.iload_n (n := 98) (i := 3) d_Rf_driest_97 rfl rfl rfl ?_
          refine Rn.goto (n := 102) d_Rf_driest_98 (by decide) ?_
          refine Rn.istore_n (n := 103) (i := 2) (ls2 := [some (vR [1]), some (vI a1), some (vI a3), some (vI a3), some (vI a4), some (vI a5)]) d_Rf_driest_102 rfl rfl (Nat.le_of_ble_eq_true rfl) rfl ?_
          refine Rn.iinc (n := 106) (i := 3) (v := a3 + 1) (ls2 := [some (vR [1]), some (vI a1), some (vI a3), some (vI (a3 + 1)), some (vI a4), some (vI a5)]) d_Rf_driest_103 rfl rfl rfl (Nat.le_of_ble_eq_true rfl) rfl ?_
          refine Rn.goto (n := 20) d_Rf_driest_106 (by decide) ?_
          exact Rn.loc [some (vR [1]), some (vI a1), some (vI a3), some (vI (a3 + 1)), none, none] (LLe_ok ⟨rfl, ⟨rfl, ⟨rfl, ⟨rfl, trivial⟩⟩⟩⟩) k
  · have k := k.2 cc
    refine Rn.iload (n := 43) (i := 4) d_Rf_driest_41 rfl rfl ?_
    refine Rn.if_eq (n := 46) (t := 63) d_Rf_driest_43 rfl (by decide) (fun cc => ?_) (fun cc => ?_)
    · have k := k.1 cc
      refine Rn.iconst (n := 64) (v := 0) d_Rf_driest_63 rfl (by decide) ?_
      refine Rn.istore (n := 66) (i := 4) (ls2 := [some (vR [1]), some (vI a1), some (vI a2), some (vI a3), some (vI 0), some (vI a5)]) d_Rf_driest_64 rfl (Nat.le_of_ble_eq_true rfl) rfl ?_
      refine Rn.iinc (n := 69) (i := 5) (v := a5 + 1) (ls2 := [some (vR [1]), some (vI a1), some (vI a2), some (vI a3), some (vI 0), some (vI (a5 + 1))]) d_Rf_driest_66 rfl rfl rfl (Nat.le_of_ble_eq_true rfl) rfl ?_
      refine Rn.goto (n := 32) d_Rf_driest_69 (by decide) ?_
      exact k
    · have k := k.2 cc
      refine Rn.aload_n (n := 47) (i := 0) d_Rf_driest_46 rfl rfl rfl ?_
      refine Rn.getf (n := 50) (v := vR [26, 1]) d_Rf_driest_47 rfl fl_Rf_51 Lv_1 rfl ?_
      refine Rn.iconst (n := 51) (v := 3) d_Rf_driest_50 rfl (by decide) ?_
      refine Rn.iload (n := 53) (i := 5) d_Rf_driest_51 rfl rfl ?_
      refine Rn.imul (n := 54) d_Rf_driest_53 rfl ?_
      obtain ⟨b3, k⟩ := k
      refine Rn.iald (n := 55) (v := h.1 [26, 1] (3 * a5).toNatClampNeg) d_Rf_driest_54 rfl Lv_26_1 b3 rfl ?_
      refine Rn.iload_n (n := 56) (i := 3) d_Rf_driest_55 rfl rfl rfl ?_
      refine Rn.icmp_eq (n := 59) (t := 63) d_Rf_driest_56 rfl (by decide) (fun cc => ?_) (fun cc => ?_)
      · have k := k.1 cc
        refine Rn.iconst (n := 64) (v := 0) d_Rf_driest_63 rfl (by decide) ?_
        refine Rn.istore (n := 66) (i := 4) (ls2 := [some (vR [1]), some (vI a1), some (vI a2), some (vI a3), some (vI 0), some (vI a5)]) d_Rf_driest_64 rfl (Nat.le_of_ble_eq_true rfl) rfl ?_
        refine Rn.iinc (n := 69) (i := 5) (v := a5 + 1) (ls2 := [some (vR [1]), some (vI a1), some (vI a2), some (vI a3), some (vI 0), some (vI (a5 + 1))]) d_Rf_driest_66 rfl rfl rfl (Nat.le_of_ble_eq_true rfl) rfl ?_
        refine Rn.goto (n := 32) d_Rf_driest_69 (by decide) ?_
        exact k
      · have k := k.2 cc
        refine Rn.iconst (n := 60) (v := 1) d_Rf_driest_59 rfl (by decide) ?_
        refine Rn.goto (n := 64) d_Rf_driest_60 (by decide) ?_
        refine Rn.istore (n := 66) (i := 4) (ls2 := [some (vR [1]), some (vI a1), some (vI a2), some (vI a3), some (vI 1), some (vI a5)]) d_Rf_driest_64 rfl (Nat.le_of_ble_eq_true rfl) rfl ?_
        refine Rn.iinc (n := 69) (i := 5) (v := a5 + 1) (ls2 := [some (vR [1]), some (vI a1), some (vI a2), some (vI a3), some (vI 1), some (vI (a5 + 1))]) d_Rf_driest_66 rfl rfl rfl (Nat.le_of_ble_eq_true rfl) rfl ?_
        refine Rn.goto (n := 32) d_Rf_driest_69 (by decide) ?_
        exact k
theorem e_Rf_driest {X : XS} (a1 : Int32) (h : Hp) (Q : Option AV → Hp → Prop) (k : Rn X m_Rf_driest 0 [some (vR [1]), some (vI a1), none, none, none, none] [] h Q) : Ev X m_Rf_driest [vR [1], vI a1] h Q := Ev.intro (plainFor_of_name (by decide +kernel)) (Nat.le_of_ble_eq_true rfl) (ls := [some (vR [1]), some (vI a1), none, none, none, none]) rfl k
theorem d_Rf_under_0 : decode m_Rf_under.2.1 0 = .ok (.iload_n 0, 1) := by decide +kernel
theorem d_Rf_under_1 : decode m_Rf_under.2.1 1 = .ok (.iload_n 2, 1) := by decide +kernel
theorem d_Rf_under_2 : decode m_Rf_under.2.1 2 = .ok (.if_icmp .le 7, 3) := by decide +kernel
theorem d_Rf_under_5 : decode m_Rf_under.2.1 5 = .ok (.iload_n 0, 1) := by decide +kernel
theorem d_Rf_under_6 : decode m_Rf_under.2.1 6 = .ok (.goto 4, 3) := by decide +kernel
theorem d_Rf_under_9 : decode m_Rf_under.2.1 9 = .ok (.iload_n 2, 1) := by decide +kernel
theorem d_Rf_under_10 : decode m_Rf_under.2.1 10 = .ok (.istore 4, 2) := by decide +kernel
theorem d_Rf_under_12 : decode m_Rf_under.2.1 12 = .ok (.iload_n 1, 1) := by decide +kernel
theorem d_Rf_under_13 : decode m_Rf_under.2.1 13 = .ok (.iload_n 3, 1) := by decide +kernel
theorem d_Rf_under_14 : decode m_Rf_under.2.1 14 = .ok (.if_icmp .ge 7, 3) := by decide +kernel
theorem d_Rf_under_17 : decode m_Rf_under.2.1 17 = .ok (.iload_n 1, 1) := by decide +kernel
theorem d_Rf_under_18 : decode m_Rf_under.2.1 18 = .ok (.goto 4, 3) := by decide +kernel
theorem d_Rf_under_21 : decode m_Rf_under.2.1 21 = .ok (.iload_n 3, 1) := by decide +kernel
theorem d_Rf_under_22 : decode m_Rf_under.2.1 22 = .ok (.istore 5, 2) := by decide +kernel
theorem d_Rf_under_24 : decode m_Rf_under.2.1 24 = .ok (.iload 5, 2) := by decide +kernel
theorem d_Rf_under_26 : decode m_Rf_under.2.1 26 = .ok (.iload 4, 2) := by decide +kernel
theorem d_Rf_under_28 : decode m_Rf_under.2.1 28 = .ok (.if_icmp .le 11, 3) := by decide +kernel
theorem d_Rf_under_31 : decode m_Rf_under.2.1 31 = .ok (.iload 5, 2) := by decide +kernel
theorem d_Rf_under_33 : decode m_Rf_under.2.1 33 = .ok (.iload 4, 2) := by decide +kernel
theorem d_Rf_under_35 : decode m_Rf_under.2.1 35 = .ok (.isub, 1) := by decide +kernel
theorem d_Rf_under_36 : decode m_Rf_under.2.1 36 = .ok (.goto 4, 3) := by decide +kernel
theorem d_Rf_under_39 : decode m_Rf_under.2.1 39 = .ok (.iconst 0, 1) := by decide +kernel
theorem d_Rf_under_40 : decode m_Rf_under.2.1 40 = .ok (.ireturn, 1) := by decide +kernel
theorem g_Rf_under_0 {X : XS} (a0 : Int32) (a1 : Int32) (a2 : Int32) (a3 : Int32) (h : Hp) (Q : Option AV → Hp → Prop)  (k : ((a0 ≤ a2 → Rn X m_Rf_under 10 [some (vI a0), some (vI a1), some (vI a2), some (vI a3), none, none] [vI a2] h Q) ∧ (¬ a0 ≤ a2 → Rn X m_Rf_under 10 [some (vI a0), some (vI a1), some (vI a2), some (vI a3), none, none] [vI a0] h Q))) : Rn X m_Rf_under 0 [some (vI a0), some (vI a1), some (vI a2), some (vI a3), none, none] [] h Q := by
  refine Rn.iload_n (n := 1) (i := 0) d_Rf_under_0 rfl rfl rfl ?_
  refine Rn.iload_n (n := 2) (i := 2) d_Rf_under_1 rfl rfl rfl ?_
  refine Rn.icmp_le (n := 5) (t := 9) d_Rf_under_2 rfl (by decide) (fun cc => ?_) (fun cc => ?_)
  · have k := k.1 cc
    refine Rn.iload_n (n := 10) (i := 2) d_Rf_under_9 rfl rfl rfl ?_
    exact k
  · have k := k.2 cc
    refine Rn.iload_n (n := 6) (i := 0) d_Rf_under_5 rfl rfl rfl ?_
    refine Rn.goto (n := 10) d_Rf_under_6 (by decide) ?_
    exact k
theorem g_Rf_under_10 {X : XS} (a0 : Int32) (a1 : Int32) (a2 : Int32) (a3 : Int32) (s0 : Int32) (h : Hp) (Q : Option AV → Hp → Prop)  (k : ((a3 ≤ a1 → Rn X m_Rf_under 22 [some (vI a0), some (vI a1), some (vI a2), some (vI a3), some (vI s0), none] [vI a3] h Q) ∧ (¬ a3 ≤ a1 → Rn X m_Rf_under 22 [some (vI a0), some (vI a1), some (vI a2), some (vI a3), some (vI s0), none] [vI a1] h Q))) : Rn X m_Rf_under 10 [some (vI a0), some (vI a1), some (vI a2), some (vI a3), none, none] [vI s0] h Q := by
  refine Rn.istore (n := 12) (i := 4) (ls2 := [some (vI a0), some (vI a1), some (vI a2), some (vI a3), some (vI s0), none]) d_Rf_under_10 rfl (Nat.le_of_ble_eq_true rfl) rfl ?_
  refine Rn.iload_n (n := 13) (i := 1) d_Rf_under_12 rfl rfl rfl ?_
  refine Rn.iload_n (n := 14) (i := 3) d_Rf_under_13 rfl rfl rfl ?_
  refine Rn.icmp_ge (n := 17) (t := 21) d_Rf_under_14 rfl (by decide) (fun cc => ?_) (fun cc => ?_)
  · have k := k.1 cc
    refine Rn.iload_n (n := 22) (i := 3) d_Rf_under_21 rfl rfl rfl ?_
    exact k
  · have k := k.2 cc
    refine Rn.iload_n (n := 18) (i := 1) d_Rf_under_17 rfl rfl rfl ?_
    refine Rn.goto (n := 22) d_Rf_under_18 (by decide) ?_
    exact k
theorem g_Rf_under_22 {X : XS} (a0 : Int32) (a1 : Int32) (a2 : Int32) (a3 : Int32) (a4 : Int32) (s0 : Int32) (h : Hp) (Q : Option AV → Hp → Prop)  (k : ((s0 ≤ a4 → Q (some (vI 0)) h) ∧ (¬ s0 ≤ a4 → Q (some (vI (s0 - a4))) h))) : Rn X m_Rf_under 22 [some (vI a0), some (vI a1), some (vI a2), some (vI a3), some (vI a4), none] [vI s0] h Q := by
  refine Rn.istore (n := 24) (i := 5) (ls2 := [some (vI a0), some (vI a1), some (vI a2), some (vI a3), some (vI a4), some (vI s0)]) d_Rf_under_22 rfl (Nat.le_of_ble_eq_true rfl) rfl ?_
  refine Rn.iload (n := 26) (i := 5) d_Rf_under_24 rfl rfl ?_
  refine Rn.iload (n := 28) (i := 4) d_Rf_under_26 rfl rfl ?_
  refine Rn.icmp_le (n := 31) (t := 39) d_Rf_under_28 rfl (by decide) (fun cc => ?_) (fun cc => ?_)
  · have k := k.1 cc
    refine Rn.iconst (n := 40) (v := 0) d_Rf_under_39 rfl (by decide) ?_
    exact Rn.iret d_Rf_under_40 rfl rfl k
  · have k := k.2 cc
    refine Rn.iload (n := 33) (i := 5) d_Rf_under_31 rfl rfl ?_
    refine Rn.iload (n := 35) (i := 4) d_Rf_under_33 rfl rfl ?_
    refine Rn.isub (n := 36) d_Rf_under_35 rfl ?_
    refine Rn.goto (n := 40) d_Rf_under_36 (by decide) ?_
    exact Rn.iret d_Rf_under_40 rfl rfl k
theorem e_Rf_under {X : XS} (a0 : Int32) (a1 : Int32) (a2 : Int32) (a3 : Int32) (h : Hp) (Q : Option AV → Hp → Prop) (k : Rn X m_Rf_under 0 [some (vI a0), some (vI a1), some (vI a2), some (vI a3), none, none] [] h Q) : Ev X m_Rf_under [vI a0, vI a1, vI a2, vI a3] h Q := Ev.intro (plainFor_of_name (by decide +kernel)) (Nat.le_of_ble_eq_true rfl) (ls := [some (vI a0), some (vI a1), some (vI a2), some (vI a3), none, none]) rfl k
theorem d_Rf_areWide_0 : decode m_Rf_areWide.2.1 0 = .ok (.iload_n 0, 1) := by decide +kernel
theorem d_Rf_areWide_1 : decode m_Rf_areWide.2.1 1 = .ok (.iconst 1, 1) := by decide +kernel
theorem d_Rf_areWide_2 : decode m_Rf_areWide.2.1 2 = .ok (.bipush 9, 2) := by decide +kernel
theorem d_Rf_areWide_4 : decode m_Rf_areWide.2.1 4 = .ok (.invokestatic 66, 3) := by decide +kernel
theorem d_Rf_areWide_7 : decode m_Rf_areWide.2.1 7 = .ok (.ifCond .eq 27, 3) := by decide +kernel
theorem d_Rf_areWide_10 : decode m_Rf_areWide.2.1 10 = .ok (.iload_n 1, 1) := by decide +kernel
theorem d_Rf_areWide_11 : decode m_Rf_areWide.2.1 11 = .ok (.iconst 1, 1) := by decide +kernel
theorem d_Rf_areWide_12 : decode m_Rf_areWide.2.1 12 = .ok (.bipush 19, 2) := by decide +kernel
theorem d_Rf_areWide_14 : decode m_Rf_areWide.2.1 14 = .ok (.invokestatic 66, 3) := by decide +kernel
theorem d_Rf_areWide_17 : decode m_Rf_areWide.2.1 17 = .ok (.ifCond .eq 17, 3) := by decide +kernel
theorem d_Rf_areWide_20 : decode m_Rf_areWide.2.1 20 = .ok (.iload_n 2, 1) := by decide +kernel
theorem d_Rf_areWide_21 : decode m_Rf_areWide.2.1 21 = .ok (.iconst 1, 1) := by decide +kernel
theorem d_Rf_areWide_22 : decode m_Rf_areWide.2.1 22 = .ok (.bipush 19, 2) := by decide +kernel
theorem d_Rf_areWide_24 : decode m_Rf_areWide.2.1 24 = .ok (.invokestatic 66, 3) := by decide +kernel
theorem d_Rf_areWide_27 : decode m_Rf_areWide.2.1 27 = .ok (.ifCond .eq 7, 3) := by decide +kernel
theorem d_Rf_areWide_30 : decode m_Rf_areWide.2.1 30 = .ok (.iconst 1, 1) := by decide +kernel
theorem d_Rf_areWide_31 : decode m_Rf_areWide.2.1 31 = .ok (.goto 4, 3) := by decide +kernel
theorem d_Rf_areWide_34 : decode m_Rf_areWide.2.1 34 = .ok (.iconst 0, 1) := by decide +kernel
theorem d_Rf_areWide_35 : decode m_Rf_areWide.2.1 35 = .ok (.ireturn, 1) := by decide +kernel
theorem g_Rf_areWide_0 {X : XS} (a0 : Int32) (a1 : Int32) (a2 : Int32) (h : Hp) (Q : Option AV → Hp → Prop)  (k : (∃ Q'4, EvI X m_Rf_in [vI a0, vI 1, vI 9] h Q'4 ∧ ∀ (r5 : Int32) (h3 : Hp), Q'4 r5 h3 → ((r5 = 0 → Q (some (vI 0)) h3) ∧ (¬ r5 = 0 → (∃ Q'9, EvI X m_Rf_in [vI a1, vI 1, vI 19] h3 Q'9 ∧ ∀ (r10 : Int32) (h8 : Hp), Q'9 r10 h8 → ((r10 = 0 → Q (some (vI 0)) h8) ∧ (¬ r10 = 0 → (∃ Q'14, EvI X m_Rf_in [vI a2, vI 1, vI 19] h8 Q'14 ∧ ∀ (r15 : Int32) (h13 : Hp), Q'14 r15 h13 → ((r15 = 0 → Q (some (vI 0)) h13) ∧ (¬ r15 = 0 → Q (some (vI 1)) h13)))))))))) : Rn X m_Rf_areWide 0 [some (vI a0), some (vI a1), some (vI a2)] [] h Q := by
  refine Rn.iload_n (n := 1) (i := 0) d_Rf_areWide_0 rfl rfl rfl ?_
  refine Rn.iconst (n := 2) (v := 1) d_Rf_areWide_1 rfl (by decide) ?_
  refine Rn.bipush (n := 4) (v := 9) d_Rf_areWide_2 rfl (by decide) ?_
  obtain ⟨Q'4, ev1, k⟩ := k
  refine Rn.callS (n := 7) (av := [vI a0, vI 1, vI 9]) d_Rf_areWide_4 rfl ml_Rf_areWide_66 ms_Rf_in rfl rfl (Nat.le_of_ble_eq_true rfl) ev1 (fun v h3 hq => ?_)
  obtain ⟨r5, rfl, hq⟩ := hq
  have k := k r5 h3 hq
  show Rn X m_Rf_areWide 7 [some (vI a0), some (vI a1), some (vI a2)] [vI r5] h3 Q
  refine Rn.if_eq (n := 10) (t := 34) d_Rf_areWide_7 rfl (by decide) (fun cc => ?_) (fun cc => ?_)
  · have k := k.1 cc
    refine Rn.iconst (n := 35) (v := 0) d_Rf_areWide_34 rfl (by decide) ?_
    exact Rn.iret d_Rf_areWide_35 rfl rfl k
  · have k := k.2 cc
    refine Rn.iload_n (n := 11) (i := 1) d_Rf_areWide_10 rfl rfl rfl ?_
    refine Rn.iconst (n := 12) (v := 1) d_Rf_areWide_11 rfl (by decide) ?_
    refine Rn.bipush (n := 14) (v := 19) d_Rf_areWide_12 rfl (by decide) ?_
    obtain ⟨Q'9, ev6, k⟩ := k
    refine Rn.callS (n := 17) (av := [vI a1, vI 1, vI 19]) d_Rf_areWide_14 rfl ml_Rf_areWide_66 ms_Rf_in rfl rfl (Nat.le_of_ble_eq_true rfl) ev6 (fun v h8 hq => ?_)
    obtain ⟨r10, rfl, hq⟩ := hq
    have k := k r10 h8 hq
    show Rn X m_Rf_areWide 17 [some (vI a0), some (vI a1), some (vI a2)] [vI r10] h8 Q
    refine Rn.if_eq (n := 20) (t := 34) d_Rf_areWide_17 rfl (by decide) (fun cc => ?_) (fun cc => ?_)
    · have k := k.1 cc
      refine Rn.iconst (n := 35) (v := 0) d_Rf_areWide_34 rfl (by decide) ?_
      exact Rn.iret d_Rf_areWide_35 rfl rfl k
    · have k := k.2 cc
      refine Rn.iload_n (n := 21) (i := 2) d_Rf_areWide_20 rfl rfl rfl ?_
      refine Rn.iconst (n := 22) (v := 1) d_Rf_areWide_21 rfl (by decide) ?_
      refine Rn.bipush (n := 24) (v := 19) d_Rf_areWide_22 rfl (by decide) ?_
      obtain ⟨Q'14, ev11, k⟩ := k
      refine Rn.callS (n := 27) (av := [vI a2, vI 1, vI 19]) d_Rf_areWide_24 rfl ml_Rf_areWide_66 ms_Rf_in rfl rfl (Nat.le_of_ble_eq_true rfl) ev11 (fun v h13 hq => ?_)
      obtain ⟨r15, rfl, hq⟩ := hq
      have k := k r15 h13 hq
      show Rn X m_Rf_areWide 27 [some (vI a0), some (vI a1), some (vI a2)] [vI r15] h13 Q
      refine Rn.if_eq (n := 30) (t := 34) d_Rf_areWide_27 rfl (by decide) (fun cc => ?_) (fun cc => ?_)
      · have k := k.1 cc
        refine Rn.iconst (n := 35) (v := 0) d_Rf_areWide_34 rfl (by decide) ?_
        exact Rn.iret d_Rf_areWide_35 rfl rfl k
      · have k := k.2 cc
        refine Rn.iconst (n := 31) (v := 1) d_Rf_areWide_30 rfl (by decide) ?_
        refine Rn.goto (n := 35) d_Rf_areWide_31 (by decide) ?_
        exact Rn.iret d_Rf_areWide_35 rfl rfl k
theorem e_Rf_areWide {X : XS} (a0 : Int32) (a1 : Int32) (a2 : Int32) (h : Hp) (Q : Option AV → Hp → Prop) (k : Rn X m_Rf_areWide 0 [some (vI a0), some (vI a1), some (vI a2)] [] h Q) : Ev X m_Rf_areWide [vI a0, vI a1, vI a2] h Q := Ev.intro (plainFor_of_name (by decide +kernel)) (Nat.le_of_ble_eq_true rfl) (ls := [some (vI a0), some (vI a1), some (vI a2)]) rfl k
theorem d_Rf_two_0 : decode m_Rf_two.2.1 0 = .ok (.iload_n 1, 1) := by decide +kernel
theorem d_Rf_two_1 : decode m_Rf_two.2.1 1 = .ok (.iload_n 2, 1) := by decide +kernel
theorem d_Rf_two_2 : decode m_Rf_two.2.1 2 = .ok (.iload_n 3, 1) := by decide +kernel
theorem d_Rf_two_3 : decode m_Rf_two.2.1 3 = .ok (.invokestatic 255, 3) := by decide +kernel
theorem d_Rf_two_6 : decode m_Rf_two.2.1 6 = .ok (.ifCond .eq 25, 3) := by decide +kernel
theorem d_Rf_two_9 : decode m_Rf_two.2.1 9 = .ok (.iload 4, 2) := by decide +kernel
theorem d_Rf_two_11 : decode m_Rf_two.2.1 11 = .ok (.bipush (-20), 2) := by decide +kernel
theorem d_Rf_two_13 : decode m_Rf_two.2.1 13 = .ok (.bipush 20, 2) := by decide +kernel
theorem d_Rf_two_15 : decode m_Rf_two.2.1 15 = .ok (.invokestatic 66, 3) := by decide +kernel
theorem d_Rf_two_18 : decode m_Rf_two.2.1 18 = .ok (.ifCond .eq 13, 3) := by decide +kernel
theorem d_Rf_two_21 : decode m_Rf_two.2.1 21 = .ok (.iload 5, 2) := by decide +kernel
theorem d_Rf_two_23 : decode m_Rf_two.2.1 23 = .ok (.iconst 0, 1) := by decide +kernel
theorem d_Rf_two_24 : decode m_Rf_two.2.1 24 = .ok (.iconst 1, 1) := by decide +kernel
theorem d_Rf_two_25 : decode m_Rf_two.2.1 25 = .ok (.invokestatic 66, 3) := by decide +kernel
theorem d_Rf_two_28 : decode m_Rf_two.2.1 28 = .ok (.ifCond .ne 6, 3) := by decide +kernel
theorem d_Rf_two_31 : decode m_Rf_two.2.1 31 = .ok (.bipush (-3), 2) := by decide +kernel
theorem d_Rf_two_33 : decode m_Rf_two.2.1 33 = .ok (.ireturn, 1) := by decide +kernel
theorem d_Rf_two_34 : decode m_Rf_two.2.1 34 = .ok (.iload 5, 2) := by decide +kernel
theorem d_Rf_two_36 : decode m_Rf_two.2.1 36 = .ok (.ifCond .ne 22, 3) := by decide +kernel
theorem d_Rf_two_39 : decode m_Rf_two.2.1 39 = .ok (.iload_n 2, 1) := by decide +kernel
theorem d_Rf_two_40 : decode m_Rf_two.2.1 40 = .ok (.iload_n 2, 1) := by decide +kernel
theorem d_Rf_two_41 : decode m_Rf_two.2.1 41 = .ok (.ineg, 1) := by decide +kernel
theorem d_Rf_two_42 : decode m_Rf_two.2.1 42 = .ok (.iconst 0, 1) := by decide +kernel
theorem d_Rf_two_43 : decode m_Rf_two.2.1 43 = .ok (.iload 4, 2) := by decide +kernel
theorem d_Rf_two_45 : decode m_Rf_two.2.1 45 = .ok (.iload_n 1, 1) := by decide +kernel
theorem d_Rf_two_46 : decode m_Rf_two.2.1 46 = .ok (.isub, 1) := by decide +kernel
theorem d_Rf_two_47 : decode m_Rf_two.2.1 47 = .ok (.iload 4, 2) := by decide +kernel
theorem d_Rf_two_49 : decode m_Rf_two.2.1 49 = .ok (.iload_n 1, 1) := by decide +kernel
theorem d_Rf_two_50 : decode m_Rf_two.2.1 50 = .ok (.iadd, 1) := by decide +kernel
theorem d_Rf_two_51 : decode m_Rf_two.2.1 51 = .ok (.invokestatic 258, 3) := by decide +kernel
theorem d_Rf_two_54 : decode m_Rf_two.2.1 54 = .ok (.isub, 1) := by decide +kernel
theorem d_Rf_two_55 : decode m_Rf_two.2.1 55 = .ok (.goto 18, 3) := by decide +kernel
theorem d_Rf_two_58 : decode m_Rf_two.2.1 58 = .ok (.iload_n 3, 1) := by decide +kernel
theorem d_Rf_two_59 : decode m_Rf_two.2.1 59 = .ok (.iconst 0, 1) := by decide +kernel
theorem d_Rf_two_60 : decode m_Rf_two.2.1 60 = .ok (.iload_n 3, 1) := by decide +kernel
theorem d_Rf_two_61 : decode m_Rf_two.2.1 61 = .ok (.iload 4, 2) := by decide +kernel
theorem d_Rf_two_63 : decode m_Rf_two.2.1 63 = .ok (.iload_n 1, 1) := by decide +kernel
theorem d_Rf_two_64 : decode m_Rf_two.2.1 64 = .ok (.isub, 1) := by decide +kernel
theorem d_Rf_two_65 : decode m_Rf_two.2.1 65 = .ok (.iload 4, 2) := by decide +kernel
theorem d_Rf_two_67 : decode m_Rf_two.2.1 67 = .ok (.iload_n 1, 1) := by decide +kernel
theorem d_Rf_two_68 : decode m_Rf_two.2.1 68 = .ok (.iadd, 1) := by decide +kernel
theorem d_Rf_two_69 : decode m_Rf_two.2.1 69 = .ok (.invokestatic 258, 3) := by decide +kernel
theorem d_Rf_two_72 : decode m_Rf_two.2.1 72 = .ok (.isub, 1) := by decide +kernel
theorem d_Rf_two_73 : decode m_Rf_two.2.1 73 = .ok (.ireturn, 1) := by decide +kernel
theorem g_Rf_two_0 {X : XS} (a1 : Int32) (a2 : Int32) (a3 : Int32) (a4 : Int32) (a5 : Int32) (h : Hp) (Q : Option AV → Hp → Prop)  (k : (∃ Q'4, EvI X m_Rf_areWide [vI a1, vI a2, vI a3] h Q'4 ∧ ∀ (r5 : Int32) (h3 : Hp), Q'4 r5 h3 → ((r5 = 0 → Q (some (vI (-3))) h3) ∧ (¬ r5 = 0 → (∃ Q'9, EvI X m_Rf_in [vI a4, vI (-20), vI 20] h3 Q'9 ∧ ∀ (r10 : Int32) (h8 : Hp), Q'9 r10 h8 → ((r10 = 0 → Q (some (vI (-3))) h8) ∧ (¬ r10 = 0 → (∃ Q'14, EvI X m_Rf_in [vI a5, vI 0, vI 1] h8 Q'14 ∧ ∀ (r15 : Int32) (h13 : Hp), Q'14 r15 h13 → ((¬ r15 = 0 → ((¬ a5 = 0 → (∃ Q'19, EvI X m_Rf_under [vI 0, vI a3, vI (a4 - a1), vI (a4 + a1)] h13 Q'19 ∧ ∀ (r20 : Int32) (h18 : Hp), Q'19 r20 h18 → Q (some (vI (a3 - r20))) h18)) ∧ (a5 = 0 → (∃ Q'24, EvI X m_Rf_under [vI (-a2), vI 0, vI (a4 - a1), vI (a4 + a1)] h13 Q'24 ∧ ∀ (r25 : Int32) (h23 : Hp), Q'24 r25 h23 → Q (some (vI (a2 - r25))) h23)))) ∧ (r15 = 0 → Q (some (vI (-3))) h13)))))))))) : Rn X m_Rf_two 0 [some (vR [1]), some (vI a1), some (vI a2), some (vI a3), some (vI a4), some (vI a5)] [] h Q := by
  refine Rn.iload_n (n := 1) (i := 1) d_Rf_two_0 rfl rfl rfl ?_
  refine Rn.iload_n (n := 2) (i := 2) d_Rf_two_1 rfl rfl rfl ?_
  refine Rn.iload_n (n := 3) (i := 3) d_Rf_two_2 rfl rfl rfl ?_
  obtain ⟨Q'4, ev1, k⟩ := k
  refine Rn.callS (n := 6) (av := [vI a1, vI a2, vI a3]) d_Rf_two_3 rfl ml_Rf_two_255 ms_Rf_areWide rfl rfl (Nat.le_of_ble_eq_true rfl) ev1 (fun v h3 hq => ?_)
  obtain ⟨r5, rfl, hq⟩ := hq
  have k := k r5 h3 hq
  show Rn X m_Rf_two 6 [some (vR [1]), some (vI a1), some (vI a2), some (vI a3), some (vI a4), some (vI a5)] [vI r5] h3 Q
  refine Rn.if_eq (n := 9) (t := 31) d_Rf_two_6 rfl (by decide) (fun cc => ?_) (fun cc => ?_)
  · have k := k.1 cc
    refine Rn.bipush (n := 33) (v := (-3)) d_Rf_two_31 rfl (by decide) ?_
    exact Rn.iret d_Rf_two_33 rfl rfl k
  · have k := k.2 cc
    refine Rn.iload (n := 11) (i := 4) d_Rf_two_9 rfl rfl ?_
    refine Rn.bipush (n := 13) (v := (-20)) d_Rf_two_11 rfl (by decide) ?_
    refine Rn.bipush (n := 15) (v := 20) d_Rf_two_13 rfl (by decide) ?_
    obtain ⟨Q'9, ev6, k⟩ := k
    refine Rn.callS (n := 18) (av := [vI a4, vI (-20), vI 20]) d_Rf_two_15 rfl ml_Rf_two_66 ms_Rf_in rfl rfl (Nat.le_of_ble_eq_true rfl) ev6 (fun v h8 hq => ?_)
    obtain ⟨r10, rfl, hq⟩ := hq
    have k := k r10 h8 hq
    show Rn X m_Rf_two 18 [some (vR [1]), some (vI a1), some (vI a2), some (vI a3), some (vI a4), some (vI a5)] [vI r10] h8 Q
    refine Rn.if_eq (n := 21) (t := 31) d_Rf_two_18 rfl (by decide) (fun cc => ?_) (fun cc => ?_)
    · have k := k.1 cc
      refine Rn.bipush (n := 33) (v := (-3)) d_Rf_two_31 rfl (by decide) ?_
      exact Rn.iret d_Rf_two_33 rfl rfl k
    · have k := k.2 cc
      refine Rn.iload (n := 23) (i := 5) d_Rf_two_21 rfl rfl ?_
      refine Rn.iconst (n := 24) (v := 0) d_Rf_two_23 rfl (by decide) ?_
      refine Rn.iconst (n := 25) (v := 1) d_Rf_two_24 rfl (by decide) ?_
      obtain ⟨Q'14, ev11, k⟩ := k
      refine Rn.callS (n := 28) (av := [vI a5, vI 0, vI 1]) d_Rf_two_25 rfl ml_Rf_two_66 ms_Rf_in rfl rfl (Nat.le_of_ble_eq_true rfl) ev11 (fun v h13 hq => ?_)
      obtain ⟨r15, rfl, hq⟩ := hq
      have k := k r15 h13 hq
      show Rn X m_Rf_two 28 [some (vR [1]), some (vI a1), some (vI a2), some (vI a3), some (vI a4), some (vI a5)] [vI r15] h13 Q
      refine Rn.if_ne (n := 31) (t := 34) d_Rf_two_28 rfl (by decide) (fun cc => ?_) (fun cc => ?_)
      · have k := k.1 cc
        refine Rn.iload (n := 36) (i := 5) d_Rf_two_34 rfl rfl ?_
        refine Rn.if_ne (n := 39) (t := 58) d_Rf_two_36 rfl (by decide) (fun cc => ?_) (fun cc => ?_)
        · have k := k.1 cc
          refine Rn.iload_n (n := 59) (i := 3) d_Rf_two_58 rfl rfl rfl ?_
          refine Rn.iconst (n := 60) (v := 0) d_Rf_two_59 rfl (by decide) ?_
          refine Rn.iload_n (n := 61) (i := 3) d_Rf_two_60 rfl rfl rfl ?_
          refine Rn.iload (n := 63) (i := 4) d_Rf_two_61 rfl rfl ?_
          refine Rn.iload_n (n := 64) (i := 1) d_Rf_two_63 rfl rfl rfl ?_
          refine Rn.isub (n := 65) d_Rf_two_64 rfl ?_
          refine Rn.iload (n := 67) (i := 4) d_Rf_two_65 rfl rfl ?_
          refine Rn.iload_n (n := 68) (i := 1) d_Rf_two_67 rfl rfl rfl ?_
          refine Rn.iadd (n := 69) d_Rf_two_68 rfl ?_
          obtain ⟨Q'19, ev16, k⟩ := k
          refine Rn.callS (n := 72) (av := [vI 0, vI a3, vI (a4 - a1), vI (a4 + a1)]) d_Rf_two_69 rfl ml_Rf_two_258 ms_Rf_under rfl rfl (Nat.le_of_ble_eq_true rfl) ev16 (fun v h18 hq => ?_)
          obtain ⟨r20, rfl, hq⟩ := hq
          have k := k r20 h18 hq
          show Rn X m_Rf_two 72 [some (vR [1]), some (vI a1), some (vI a2), some (vI a3), some (vI a4), some (vI a5)] [vI r20, vI a3] h18 Q
          refine Rn.isub (n := 73) d_Rf_two_72 rfl ?_
          exact Rn.iret d_Rf_two_73 rfl rfl k
        · have k := k.2 cc
          refine Rn.iload_n (n := 40) (i := 2) d_Rf_two_39 rfl rfl rfl ?_
          refine Rn.iload_n (n := 41) (i := 2) d_Rf_two_40 rfl rfl rfl ?_
          refine Rn.ineg (n := 42) d_Rf_two_41 rfl ?_
          refine Rn.iconst (n := 43) (v := 0) d_Rf_two_42 rfl (by decide) ?_
          refine Rn.iload (n := 45) (i := 4) d_Rf_two_43 rfl rfl ?_
          refine Rn.iload_n (n := 46) (i := 1) d_Rf_two_45 rfl rfl rfl ?_
          refine Rn.isub (n := 47) d_Rf_two_46 rfl ?_
          refine Rn.iload (n := 49) (i := 4) d_Rf_two_47 rfl rfl ?_
          refine Rn.iload_n (n := 50) (i := 1) d_Rf_two_49 rfl rfl rfl ?_
          refine Rn.iadd (n := 51) d_Rf_two_50 rfl ?_
          obtain ⟨Q'24, ev21, k⟩ := k
          refine Rn.callS (n := 54) (av := [vI (-a2), vI 0, vI (a4 - a1), vI (a4 + a1)]) d_Rf_two_51 rfl ml_Rf_two_258 ms_Rf_under rfl rfl (Nat.le_of_ble_eq_true rfl) ev21 (fun v h23 hq => ?_)
          obtain ⟨r25, rfl, hq⟩ := hq
          have k := k r25 h23 hq
          show Rn X m_Rf_two 54 [some (vR [1]), some (vI a1), some (vI a2), some (vI a3), some (vI a4), some (vI a5)] [vI r25, vI a2] h23 Q
          refine Rn.isub (n := 55) d_Rf_two_54 rfl ?_
          refine Rn.goto (n := 73) d_Rf_two_55 (by decide) ?_
          exact Rn.iret d_Rf_two_73 rfl rfl k
      · have k := k.2 cc
        refine Rn.bipush (n := 33) (v := (-3)) d_Rf_two_31 rfl (by decide) ?_
        exact Rn.iret d_Rf_two_33 rfl rfl k
theorem e_Rf_two {X : XS} (a1 : Int32) (a2 : Int32) (a3 : Int32) (a4 : Int32) (a5 : Int32) (h : Hp) (Q : Option AV → Hp → Prop) (k : Rn X m_Rf_two 0 [some (vR [1]), some (vI a1), some (vI a2), some (vI a3), some (vI a4), some (vI a5)] [] h Q) : Ev X m_Rf_two [vR [1], vI a1, vI a2, vI a3, vI a4, vI a5] h Q := Ev.intro (plainFor_of_name (by decide +kernel)) (Nat.le_of_ble_eq_true rfl) (ls := [some (vR [1]), some (vI a1), some (vI a2), some (vI a3), some (vI a4), some (vI a5)]) rfl k
theorem d_Rf_fair_0 : decode m_Rf_fair.2.1 0 = .ok (.iload_n 1, 1) := by decide +kernel
theorem d_Rf_fair_1 : decode m_Rf_fair.2.1 1 = .ok (.iload_n 2, 1) := by decide +kernel
theorem d_Rf_fair_2 : decode m_Rf_fair.2.1 2 = .ok (.iload_n 3, 1) := by decide +kernel
theorem d_Rf_fair_3 : decode m_Rf_fair.2.1 3 = .ok (.invokestatic 255, 3) := by decide +kernel
theorem d_Rf_fair_6 : decode m_Rf_fair.2.1 6 = .ok (.ifCond .ne 6, 3) := by decide +kernel
theorem d_Rf_fair_9 : decode m_Rf_fair.2.1 9 = .ok (.bipush (-3), 2) := by decide +kernel
theorem d_Rf_fair_11 : decode m_Rf_fair.2.1 11 = .ok (.ireturn, 1) := by decide +kernel
theorem d_Rf_fair_12 : decode m_Rf_fair.2.1 12 = .ok (.iconst 0, 1) := by decide +kernel
theorem d_Rf_fair_13 : decode m_Rf_fair.2.1 13 = .ok (.istore 4, 2) := by decide +kernel
theorem d_Rf_fair_15 : decode m_Rf_fair.2.1 15 = .ok (.iconst 0, 1) := by decide +kernel
theorem d_Rf_fair_16 : decode m_Rf_fair.2.1 16 = .ok (.istore 5, 2) := by decide +kernel
theorem d_Rf_fair_18 : decode m_Rf_fair.2.1 18 = .ok (.iconst 0, 1) := by decide +kernel
theorem d_Rf_fair_19 : decode m_Rf_fair.2.1 19 = .ok (.istore 6, 2) := by decide +kernel
theorem d_Rf_fair_21 : decode m_Rf_fair.2.1 21 = .ok (.iconst 0, 1) := by decide +kernel
theorem d_Rf_fair_22 : decode m_Rf_fair.2.1 22 = .ok (.istore 7, 2) := by decide +kernel
theorem d_Rf_fair_24 : decode m_Rf_fair.2.1 24 = .ok (.iload 7, 2) := by decide +kernel
theorem d_Rf_fair_26 : decode m_Rf_fair.2.1 26 = .ok (.bipush 41, 2) := by decide +kernel
theorem d_Rf_fair_28 : decode m_Rf_fair.2.1 28 = .ok (.if_icmp .ge 133, 3) := by decide +kernel
theorem d_Rf_fair_31 : decode m_Rf_fair.2.1 31 = .ok (.iload 7, 2) := by decide +kernel
theorem d_Rf_fair_33 : decode m_Rf_fair.2.1 33 = .ok (.iconst 2, 1) := by decide +kernel
theorem d_Rf_fair_34 : decode m_Rf_fair.2.1 34 = .ok (.irem, 1) := by decide +kernel
theorem d_Rf_fair_35 : decode m_Rf_fair.2.1 35 = .ok (.iconst 1, 1) := by decide +kernel
theorem d_Rf_fair_36 : decode m_Rf_fair.2.1 36 = .ok (.if_icmp .ne 13, 3) := by decide +kernel
theorem d_Rf_fair_39 : decode m_Rf_fair.2.1 39 = .ok (.iload 7, 2) := by decide +kernel
theorem d_Rf_fair_41 : decode m_Rf_fair.2.1 41 = .ok (.iconst 1, 1) := by decide +kernel
theorem d_Rf_fair_42 : decode m_Rf_fair.2.1 42 = .ok (.iadd, 1) := by decide +kernel
theorem d_Rf_fair_43 : decode m_Rf_fair.2.1 43 = .ok (.ineg, 1) := by decide +kernel
theorem d_Rf_fair_44 : decode m_Rf_fair.2.1 44 = .ok (.iconst 2, 1) := by decide +kernel
theorem d_Rf_fair_45 : decode m_Rf_fair.2.1 45 = .ok (.idiv, 1) := by decide +kernel
theorem d_Rf_fair_46 : decode m_Rf_fair.2.1 46 = .ok (.goto 7, 3) := by decide +kernel
theorem d_Rf_fair_49 : decode m_Rf_fair.2.1 49 = .ok (.iload 7, 2) := by decide +kernel
theorem d_Rf_fair_51 : decode m_Rf_fair.2.1 51 = .ok (.iconst 2, 1) := by decide +kernel
theorem d_Rf_fair_52 : decode m_Rf_fair.2.1 52 = .ok (.idiv, 1) := by decide +kernel
theorem d_Rf_fair_53 : decode m_Rf_fair.2.1 53 = .ok (.istore 8, 2) := by decide +kernel
theorem d_Rf_fair_55 : decode m_Rf_fair.2.1 55 = .ok (.iload_n 2, 1) := by decide +kernel
theorem d_Rf_fair_56 : decode m_Rf_fair.2.1 56 = .ok (.iload_n 2, 1) := by decide +kernel
theorem d_Rf_fair_57 : decode m_Rf_fair.2.1 57 = .ok (.ineg, 1) := by decide +kernel
theorem d_Rf_fair_58 : decode m_Rf_fair.2.1 58 = .ok (.iconst 0, 1) := by decide +kernel
theorem d_Rf_fair_59 : decode m_Rf_fair.2.1 59 = .ok (.iload 8, 2) := by decide +kernel
theorem d_Rf_fair_61 : decode m_Rf_fair.2.1 61 = .ok (.iload_n 1, 1) := by decide +kernel
theorem d_Rf_fair_62 : decode m_Rf_fair.2.1 62 = .ok (.isub, 1) := by decide +kernel
theorem d_Rf_fair_63 : decode m_Rf_fair.2.1 63 = .ok (.iload 8, 2) := by decide +kernel
theorem d_Rf_fair_65 : decode m_Rf_fair.2.1 65 = .ok (.iload_n 1, 1) := by decide +kernel
theorem d_Rf_fair_66 : decode m_Rf_fair.2.1 66 = .ok (.iadd, 1) := by decide +kernel
theorem d_Rf_fair_67 : decode m_Rf_fair.2.1 67 = .ok (.invokestatic 258, 3) := by decide +kernel
theorem d_Rf_fair_70 : decode m_Rf_fair.2.1 70 = .ok (.isub, 1) := by decide +kernel
theorem d_Rf_fair_71 : decode m_Rf_fair.2.1 71 = .ok (.iload_n 3, 1) := by decide +kernel
theorem d_Rf_fair_72 : decode m_Rf_fair.2.1 72 = .ok (.imul, 1) := by decide +kernel
theorem d_Rf_fair_73 : decode m_Rf_fair.2.1 73 = .ok (.istore 9, 2) := by decide +kernel
theorem d_Rf_fair_75 : decode m_Rf_fair.2.1 75 = .ok (.iload_n 3, 1) := by decide +kernel
theorem d_Rf_fair_76 : decode m_Rf_fair.2.1 76 = .ok (.iconst 0, 1) := by decide +kernel
theorem d_Rf_fair_77 : decode m_Rf_fair.2.1 77 = .ok (.iload_n 3, 1) := by decide +kernel
theorem d_Rf_fair_78 : decode m_Rf_fair.2.1 78 = .ok (.iload 8, 2) := by decide +kernel
theorem d_Rf_fair_80 : decode m_Rf_fair.2.1 80 = .ok (.iload_n 1, 1) := by decide +kernel
theorem d_Rf_fair_81 : decode m_Rf_fair.2.1 81 = .ok (.isub, 1) := by decide +kernel
theorem d_Rf_fair_82 : decode m_Rf_fair.2.1 82 = .ok (.iload 8, 2) := by decide +kernel
theorem d_Rf_fair_84 : decode m_Rf_fair.2.1 84 = .ok (.iload_n 1, 1) := by decide +kernel
theorem d_Rf_fair_85 : decode m_Rf_fair.2.1 85 = .ok (.iadd, 1) := by decide +kernel
theorem d_Rf_fair_86 : decode m_Rf_fair.2.1 86 = .ok (.invokestatic 258, 3) := by decide +kernel
theorem d_Rf_fair_89 : decode m_Rf_fair.2.1 89 = .ok (.isub, 1) := by decide +kernel
theorem d_Rf_fair_90 : decode m_Rf_fair.2.1 90 = .ok (.iload_n 2, 1) := by decide +kernel
theorem d_Rf_fair_91 : decode m_Rf_fair.2.1 91 = .ok (.imul, 1) := by decide +kernel
theorem d_Rf_fair_92 : decode m_Rf_fair.2.1 92 = .ok (.istore 10, 2) := by decide +kernel
theorem d_Rf_fair_94 : decode m_Rf_fair.2.1 94 = .ok (.iload 9, 2) := by decide +kernel
theorem d_Rf_fair_96 : decode m_Rf_fair.2.1 96 = .ok (.iload 10, 2) := by decide +kernel
theorem d_Rf_fair_98 : decode m_Rf_fair.2.1 98 = .ok (.if_icmp .le 8, 3) := by decide +kernel
theorem d_Rf_fair_101 : decode m_Rf_fair.2.1 101 = .ok (.iload 9, 2) := by decide +kernel
theorem d_Rf_fair_103 : decode m_Rf_fair.2.1 103 = .ok (.goto 5, 3) := by decide +kernel
theorem d_Rf_fair_106 : decode m_Rf_fair.2.1 106 = .ok (.iload 10, 2) := by decide +kernel
theorem d_Rf_fair_108 : decode m_Rf_fair.2.1 108 = .ok (.istore 11, 2) := by decide +kernel
theorem d_Rf_fair_110 : decode m_Rf_fair.2.1 110 = .ok (.iload 6, 2) := by decide +kernel
theorem d_Rf_fair_112 : decode m_Rf_fair.2.1 112 = .ok (.ifCond .eq 10, 3) := by decide +kernel
theorem d_Rf_fair_115 : decode m_Rf_fair.2.1 115 = .ok (.iload 11, 2) := by decide +kernel
theorem d_Rf_fair_117 : decode m_Rf_fair.2.1 117 = .ok (.iload 5, 2) := by decide +kernel
theorem d_Rf_fair_119 : decode m_Rf_fair.2.1 119 = .ok (.if_icmp .ge 8, 3) := by decide +kernel
theorem d_Rf_fair_122 : decode m_Rf_fair.2.1 122 = .ok (.iload 8, 2) := by decide +kernel
theorem d_Rf_fair_124 : decode m_Rf_fair.2.1 124 = .ok (.goto 5, 3) := by decide +kernel
theorem d_Rf_fair_127 : decode m_Rf_fair.2.1 127 = .ok (.iload 4, 2) := by decide +kernel
theorem d_Rf_fair_129 : decode m_Rf_fair.2.1 129 = .ok (.istore 4, 2) := by decide +kernel
theorem d_Rf_fair_131 : decode m_Rf_fair.2.1 131 = .ok (.iload 6, 2) := by decide +kernel
theorem d_Rf_fair_133 : decode m_Rf_fair.2.1 133 = .ok (.ifCond .eq 10, 3) := by decide +kernel
theorem d_Rf_fair_136 : decode m_Rf_fair.2.1 136 = .ok (.iload 11, 2) := by decide +kernel
theorem d_Rf_fair_138 : decode m_Rf_fair.2.1 138 = .ok (.iload 5, 2) := by decide +kernel
theorem d_Rf_fair_140 : decode m_Rf_fair.2.1 140 = .ok (.if_icmp .ge 8, 3) := by decide +kernel
theorem d_Rf_fair_143 : decode m_Rf_fair.2.1 143 = .ok (.iload 11, 2) := by decide +kernel
theorem d_Rf_fair_145 : decode m_Rf_fair.2.1 145 = .ok (.goto 5, 3) := by decide +kernel
theorem d_Rf_fair_148 : decode m_Rf_fair.2.1 148 = .ok (.iload 5, 2) := by decide +kernel
theorem d_Rf_fair_150 : decode m_Rf_fair.2.1 150 = .ok (.istore 5, 2) := by decide +kernel
theorem d_Rf_fair_152 : decode m_Rf_fair.2.1 152 = .ok (.iconst 1, 1) := by decide +kernel
theorem d_Rf_fair_153 : decode m_Rf_fair.2.1 153 = .ok (.istore 6, 2) := by decide +kernel
theorem d_Rf_fair_155 : decode m_Rf_fair.2.1 155 = .ok (.iinc 7 1, 3) := by decide +kernel
theorem d_Rf_fair_158 : decode m_Rf_fair.2.1 158 = .ok (.goto (-134), 3) := by decide +kernel
theorem d_Rf_fair_161 : decode m_Rf_fair.2.1 161 = .ok (.iload 4, 2) := by decide +kernel
theorem d_Rf_fair_163 : decode m_Rf_fair.2.1 163 = .ok (.bipush 100, 2) := by decide +kernel
theorem d_Rf_fair_165 : decode m_Rf_fair.2.1 165 = .ok (.iadd, 1) := by decide +kernel
theorem d_Rf_fair_166 : decode m_Rf_fair.2.1 166 = .ok (.ireturn, 1) := by decide +kernel
theorem g_Rf_fair_0 {X : XS} (a1 : Int32) (a2 : Int32) (a3 : Int32) (h : Hp) (Q : Option AV → Hp → Prop)  (k : (∃ Q'4, EvI X m_Rf_areWide [vI a1, vI a2, vI a3] h Q'4 ∧ ∀ (r5 : Int32) (h3 : Hp), Q'4 r5 h3 → ((¬ r5 = 0 → Rn X m_Rf_fair 24 [some (vR [1]), some (vI a1), some (vI a2), some (vI a3), some (vI 0), some (vI 0), some (vI 0), some (vI 0), none, none, none, none] [] h3 Q) ∧ (r5 = 0 → Q (some (vI (-3))) h3)))) : Rn X m_Rf_fair 0 [some (vR [1]), some (vI a1), some (vI a2), some (vI a3), none, none, none, none, none, none, none, none] [] h Q := by
  refine Rn.iload_n (n := 1) (i := 1) d_Rf_fair_0 rfl rfl rfl ?_
  refine Rn.iload_n (n := 2) (i := 2) d_Rf_fair_1 rfl rfl rfl ?_
  refine Rn.iload_n (n := 3) (i := 3) d_Rf_fair_2 rfl rfl rfl ?_
  obtain ⟨Q'4, ev1, k⟩ := k
  refine Rn.callS (n := 6) (av := [vI a1, vI a2, vI a3]) d_Rf_fair_3 rfl ml_Rf_fair_255 ms_Rf_areWide rfl rfl (Nat.le_of_ble_eq_true rfl) ev1 (fun v h3 hq => ?_)
  obtain ⟨r5, rfl, hq⟩ := hq
  have k := k r5 h3 hq
  show Rn X m_Rf_fair 6 [some (vR [1]), some (vI a1), some (vI a2), some (vI a3), none, none, none, none, none, none, none, none] [vI r5] h3 Q
  refine Rn.if_ne (n := 9) (t := 12) d_Rf_fair_6 rfl (by decide) (fun cc => ?_) (fun cc => ?_)
  · have k := k.1 cc
    refine Rn.iconst (n := 13) (v := 0) d_Rf_fair_12 rfl (by decide) ?_
    refine Rn.istore (n := 15) (i := 4) (ls2 := [some (vR [1]), some (vI a1), some (vI a2), some (vI a3), some (vI 0), none, none, none, none, none, none, none]) d_Rf_fair_13 rfl (Nat.le_of_ble_eq_true rfl) rfl ?_
    refine Rn.iconst (n := 16) (v := 0) d_Rf_fair_15 rfl (by decide) ?_
    refine Rn.istore (n := 18) (i := 5) (ls2 := [some (vR [1]), some (vI a1), some (vI a2), some (vI a3), some (vI 0), some (vI 0), none, none, none, none, none, none]) d_Rf_fair_16 rfl (Nat.le_of_ble_eq_true rfl) rfl ?_
    refine Rn.iconst (n := 19) (v := 0) d_Rf_fair_18 rfl (by decide) ?_
    refine Rn.istore (n := 21) (i := 6) (ls2 := [some (vR [1]), some (vI a1), some (vI a2), some (vI a3), some (vI 0), some (vI 0), some (vI 0), none, none, none, none, none]) d_Rf_fair_19 rfl (Nat.le_of_ble_eq_true rfl) rfl ?_
    refine Rn.iconst (n := 22) (v := 0) d_Rf_fair_21 rfl (by decide) ?_
    refine Rn.istore (n := 24) (i := 7) (ls2 := [some (vR [1]), some (vI a1), some (vI a2), some (vI a3), some (vI 0), some (vI 0), some (vI 0), some (vI 0), none, none, none, none]) d_Rf_fair_22 rfl (Nat.le_of_ble_eq_true rfl) rfl ?_
    exact k
  · have k := k.2 cc
    refine Rn.bipush (n := 11) (v := (-3)) d_Rf_fair_9 rfl (by decide) ?_
    exact Rn.iret d_Rf_fair_11 rfl rfl k
theorem g_Rf_fair_24 {X : XS} (a1 : Int32) (a2 : Int32) (a3 : Int32) (a4 : Int32) (a5 : Int32) (a6 : Int32) (a7 : Int32) (h : Hp) (Q : Option AV → Hp → Prop)  (k : ((41 ≤ a7 → Q (some (vI (a4 + 100))) h) ∧ (¬ 41 ≤ a7 → ((¬ (iR a7 2) = 1 → Rn X m_Rf_fair 53 [some (vR [1]), some (vI a1), some (vI a2), some (vI a3), some (vI a4), some (vI a5), some (vI a6), some (vI a7), none, none, none, none] [vI (a7 / 2)] h Q) ∧ ((iR a7 2) = 1 → Rn X m_Rf_fair 53 [some (vR [1]), some (vI a1), some (vI a2), some (vI a3), some (vI a4), some (vI a5), some (vI a6), some (vI a7), none, none, none, none] [vI ((-(a7 + 1)) / 2)] h Q))))) : Rn X m_Rf_fair 24 [some (vR [1]), some (vI a1), some (vI a2), some (vI a3), some (vI a4), some (vI a5), some (vI a6), some (vI a7), none, none, none, none] [] h Q := by
  refine Rn.iload (n := 26) (i := 7) d_Rf_fair_24 rfl rfl ?_
  refine Rn.bipush (n := 28) (v := 41) d_Rf_fair_26 rfl (by decide) ?_
  refine Rn.icmp_ge (n := 31) (t := 161) d_Rf_fair_28 rfl (by decide) (fun cc => ?_) (fun cc => ?_)
  · have k := k.1 cc
    refine Rn.iload (n := 163) (i := 4) d_Rf_fair_161 rfl rfl ?_
    refine Rn.bipush (n := 165) (v := 100) d_Rf_fair_163 rfl (by decide) ?_
    refine Rn.iadd (n := 166) d_Rf_fair_165 rfl ?_
    exact Rn.iret d_Rf_fair_166 rfl rfl k
  · have k := k.2 cc
    refine Rn.iload (n := 33) (i := 7) d_Rf_fair_31 rfl rfl ?_
    refine Rn.iconst (n := 34) (v := 2) d_Rf_fair_33 rfl (by decide) ?_
    refine Rn.irem (n := 35) d_Rf_fair_34 rfl (by decide) ?_
    refine Rn.iconst (n := 36) (v := 1) d_Rf_fair_35 rfl (by decide) ?_
    refine Rn.icmp_ne (n := 39) (t := 49) d_Rf_fair_36 rfl (by decide) (fun cc => ?_) (fun cc => ?_)
    · have k := k.1 cc
      refine Rn.iload (n := 51) (i := 7) d_Rf_fair_49 rfl rfl ?_
      refine Rn.iconst (n := 52) (v := 2) d_Rf_fair_51 rfl (by decide) ?_
      refine Rn.idiv (n := 53) d_Rf_fair_52 rfl (by decide) ?_
      exact k
    · have k := k.2 cc
      refine Rn.iload (n := 41) (i := 7) d_Rf_fair_39 rfl rfl ?_
      refine Rn.iconst (n := 42) (v := 1) d_Rf_fair_41 rfl (by decide) ?_
      refine Rn.iadd (n := 43) d_Rf_fair_42 rfl ?_
      refine Rn.ineg (n := 44) d_Rf_fair_43 rfl ?_
      refine Rn.iconst (n := 45) (v := 2) d_Rf_fair_44 rfl (by decide) ?_
      refine Rn.idiv (n := 46) d_Rf_fair_45 rfl (by decide) ?_
      refine Rn.goto (n := 53) d_Rf_fair_46 (by decide) ?_
      exact k
theorem g_Rf_fair_53 {X : XS} (a1 : Int32) (a2 : Int32) (a3 : Int32) (a4 : Int32) (a5 : Int32) (a6 : Int32) (a7 : Int32) (s0 : Int32) (h : Hp) (Q : Option AV → Hp → Prop)  (k : (∃ Q'4, EvI X m_Rf_under [vI (-a2), vI 0, vI (s0 - a1), vI (s0 + a1)] h Q'4 ∧ ∀ (r5 : Int32) (h3 : Hp), Q'4 r5 h3 → (∃ Q'9, EvI X m_Rf_under [vI 0, vI a3, vI (s0 - a1), vI (s0 + a1)] h3 Q'9 ∧ ∀ (r10 : Int32) (h8 : Hp), Q'9 r10 h8 → ((((a2 - r5) * a3) ≤ ((a3 - r10) * a2) → Rn X m_Rf_fair 108 [some (vR [1]), some (vI a1), some (vI a2), some (vI a3), some (vI a4), some (vI a5), some (vI a6), some (vI a7), some (vI s0), some (vI ((a2 - r5) * a3)), some (vI ((a3 - r10) * a2)), none] [vI ((a3 - r10) * a2)] h8 Q) ∧ (¬ ((a2 - r5) * a3) ≤ ((a3 - r10) * a2) → Rn X m_Rf_fair 108 [some (vR [1]), some (vI a1), some (vI a2), some (vI a3), some (vI a4), some (vI a5), some (vI a6), some (vI a7), some (vI s0), some (vI ((a2 - r5) * a3)), some (vI ((a3 - r10) * a2)), none] [vI ((a2 - r5) * a3)] h8 Q))))) : Rn X m_Rf_fair 53 [some (vR [1]), some (vI a1), some (vI a2), some (vI a3), some (vI a4), some (vI a5), some (vI a6), some (vI a7), none, none, none, none] [vI s0] h Q := by
  refine Rn.istore (n := 55) (i := 8) (ls2 := [some (vR [1]), some (vI a1), some (vI a2), some (vI a3), some (vI a4), some (vI a5), some (vI a6), some (vI a7), some (vI s0), none, none, none]) d_Rf_fair_53 rfl (Nat.le_of_ble_eq_true rfl) rfl ?_
  refine Rn.iload_n (n := 56) (i := 2) d_Rf_fair_55 rfl rfl rfl ?_
  refine Rn.iload_n (n := 57) (i := 2) d_Rf_fair_56 rfl rfl rfl ?_
  refine Rn.ineg (n := 58) d_Rf_fair_57 rfl ?_
  refine Rn.iconst (n := 59) (v := 0) d_Rf_fair_58 rfl (by decide) ?_
  refine Rn.iload (n := 61) (i := 8) d_Rf_fair_59 rfl rfl ?_
  refine Rn.iload_n (n := 62) (i := 1) d_Rf_fair_61 rfl rfl rfl ?_
  refine Rn.isub (n := 63) d_Rf_fair_62 rfl ?_
  refine Rn.iload (n := 65) (i := 8) d_Rf_fair_63 rfl rfl ?_
  refine Rn.iload_n (n := 66) (i := 1) d_Rf_fair_65 rfl rfl rfl ?_
  refine Rn.iadd (n := 67) d_Rf_fair_66 rfl ?_
  obtain ⟨Q'4, ev1, k⟩ := k
  refine Rn.callS (n := 70) (av := [vI (-a2), vI 0, vI (s0 - a1), vI (s0 + a1)]) d_Rf_fair_67 rfl ml_Rf_fair_258 ms_Rf_under rfl rfl (Nat.le_of_ble_eq_true rfl) ev1 (fun v h3 hq => ?_)
  obtain ⟨r5, rfl, hq⟩ := hq
  have k := k r5 h3 hq
  show Rn X m_Rf_fair 70 [some (vR [1]), some (vI a1), some (vI a2), some (vI a3), some (vI a4), some (vI a5), some (vI a6), some (vI a7), some (vI s0), none, none, none] [vI r5, vI a2] h3 Q
  refine Rn.isub (n := 71) d_Rf_fair_70 rfl ?_
  refine Rn.iload_n (n := 72) (i := 3) d_Rf_fair_71 rfl rfl rfl ?_
  refine Rn.imul (n := 73) d_Rf_fair_72 rfl ?_
  refine Rn.istore (n := 75) (i := 9) (ls2 := [some (vR [1]), some (vI a1), some (vI a2), some (vI a3), some (vI a4), some (vI a5), some (vI a6), some (vI a7), some (vI s0), some (vI ((a2 - r5) * a3)), none, none]) d_Rf_fair_73 rfl (Nat.le_of_ble_eq_true rfl) rfl ?_
  refine Rn.iload_n (n := 76) (i := 3) d_Rf_fair_75 rfl rfl rfl ?_
  refine Rn.iconst (n := 77) (v := 0) d_Rf_fair_76 rfl (by decide) ?_
  refine Rn.iload_n (n := 78) (i := 3) d_Rf_fair_77 rfl rfl rfl ?_
  refine Rn.iload (n := 80) (i := 8) d_Rf_fair_78 rfl rfl ?_
  refine Rn.iload_n (n := 81) (i := 1) d_Rf_fair_80 rfl rfl rfl ?_
  refine Rn.isub (n := 82) d_Rf_fair_81 rfl ?_
  refine Rn.iload (n := 84) (i := 8) d_Rf_fair_82 rfl rfl ?_
  refine Rn.iload_n (n := 85) (i := 1) d_Rf_fair_84 rfl rfl rfl ?_
  refine Rn.iadd (n := 86) d_Rf_fair_85 rfl ?_
  obtain ⟨Q'9, ev6, k⟩ := k
  refine Rn.callS (n := 89) (av := [vI 0, vI a3, vI (s0 - a1), vI (s0 + a1)]) d_Rf_fair_86 rfl ml_Rf_fair_258 ms_Rf_under rfl rfl (Nat.le_of_ble_eq_true rfl) ev6 (fun v h8 hq => ?_)
  obtain ⟨r10, rfl, hq⟩ := hq
  have k := k r10 h8 hq
  show Rn X m_Rf_fair 89 [some (vR [1]), some (vI a1), some (vI a2), some (vI a3), some (vI a4), some (vI a5), some (vI a6), some (vI a7), some (vI s0), some (vI ((a2 - r5) * a3)), none, none] [vI r10, vI a3] h8 Q
  refine Rn.isub (n := 90) d_Rf_fair_89 rfl ?_
  refine Rn.iload_n (n := 91) (i := 2) d_Rf_fair_90 rfl rfl rfl ?_
  refine Rn.imul (n := 92) d_Rf_fair_91 rfl ?_
  refine Rn.istore (n := 94) (i := 10) (ls2 := [some (vR [1]), some (vI a1), some (vI a2), some (vI a3), some (vI a4), some (vI a5), some (vI a6), some (vI a7), some (vI s0), some (vI ((a2 - r5) * a3)), some (vI ((a3 - r10) * a2)), none]) d_Rf_fair_92 rfl (Nat.le_of_ble_eq_true rfl) rfl ?_
  refine Rn.iload (n := 96) (i := 9) d_Rf_fair_94 rfl rfl ?_
  refine Rn.iload (n := 98) (i := 10) d_Rf_fair_96 rfl rfl ?_
  refine Rn.icmp_le (n := 101) (t := 106) d_Rf_fair_98 rfl (by decide) (fun cc => ?_) (fun cc => ?_)
  · have k := k.1 cc
    refine Rn.iload (n := 108) (i := 10) d_Rf_fair_106 rfl rfl ?_
    exact k
  · have k := k.2 cc
    refine Rn.iload (n := 103) (i := 9) d_Rf_fair_101 rfl rfl ?_
    refine Rn.goto (n := 108) d_Rf_fair_103 (by decide) ?_
    exact k
theorem g_Rf_fair_108 {X : XS} (a1 : Int32) (a2 : Int32) (a3 : Int32) (a4 : Int32) (a5 : Int32) (a6 : Int32) (a7 : Int32) (a8 : Int32) (a9 : Int32) (a10 : Int32) (s0 : Int32) (h : Hp) (Q : Option AV → Hp → Prop)  (k : ((a6 = 0 → Rn X m_Rf_fair 122 [some (vR [1]), some (vI a1), some (vI a2), some (vI a3), some (vI a4), some (vI a5), some (vI a6), some (vI a7), some (vI a8), some (vI a9), some (vI a10), some (vI s0)] [] h Q) ∧ (¬ a6 = 0 → ((a5 ≤ s0 → Rn X m_Rf_fair 129 [some (vR [1]), some (vI a1), some (vI a2), some (vI a3), some (vI a4), some (vI a5), some (vI a6), some (vI a7), some (vI a8), some (vI a9), some (vI a10), some (vI s0)] [vI a4] h Q) ∧ (¬ a5 ≤ s0 → Rn X m_Rf_fair 122 [some (vR [1]), some (vI a1), some (vI a2), some (vI a3), some (vI a4), some (vI a5), some (vI a6), some (vI a7), some (vI a8), some (vI a9), some (vI a10), some (vI s0)] [] h Q))))) : Rn X m_Rf_fair 108 [some (vR [1]), some (vI a1), some (vI a2), some (vI a3), some (vI a4), some (vI a5), some (vI a6), some (vI a7), some (vI a8), some (vI a9), some (vI a10), none] [vI s0] h Q := by
  refine Rn.istore (n := 110) (i := 11) (ls2 := [some (vR [1]), some (vI a1), some (vI a2), some (vI a3), some (vI a4), some (vI a5), some (vI a6), some (vI a7), some (vI a8), some (vI a9), some (vI a10), some (vI s0)]) d_Rf_fair_108 rfl (Nat.le_of_ble_eq_true rfl) rfl ?_
  refine Rn.iload (n := 112) (i := 6) d_Rf_fair_110 rfl rfl ?_
  refine Rn.if_eq (n := 115) (t := 122) d_Rf_fair_112 rfl (by decide) (fun cc => ?_) (fun cc => ?_)
  · have k := k.1 cc
    exact k
  · have k := k.2 cc
    refine Rn.iload (n := 117) (i := 11) d_Rf_fair_115 rfl rfl ?_
    refine Rn.iload (n := 119) (i := 5) d_Rf_fair_117 rfl rfl ?_
    refine Rn.icmp_ge (n := 122) (t := 127) d_Rf_fair_119 rfl (by decide) (fun cc => ?_) (fun cc => ?_)
    · have k := k.1 cc
      refine Rn.iload (n := 129) (i := 4) d_Rf_fair_127 rfl rfl ?_
      exact k
    · have k := k.2 cc
      exact k
theorem g_Rf_fair_122 {X : XS} (a1 : Int32) (a2 : Int32) (a3 : Int32) (a4 : Int32) (a5 : Int32) (a6 : Int32) (a7 : Int32) (a8 : Int32) (a9 : Int32) (a10 : Int32) (a11 : Int32) (h : Hp) (Q : Option AV → Hp → Prop)  (k : Rn X m_Rf_fair 129 [some (vR [1]), some (vI a1), some (vI a2), some (vI a3), some (vI a4), some (vI a5), some (vI a6), some (vI a7), some (vI a8), some (vI a9), some (vI a10), some (vI a11)] [vI a8] h Q) : Rn X m_Rf_fair 122 [some (vR [1]), some (vI a1), some (vI a2), some (vI a3), some (vI a4), some (vI a5), some (vI a6), some (vI a7), some (vI a8), some (vI a9), some (vI a10), some (vI a11)] [] h Q := by
  refine Rn.iload (n := 124) (i := 8) d_Rf_fair_122 rfl rfl ?_
  refine Rn.goto (n := 129) d_Rf_fair_124 (by decide) ?_
  exact k
theorem g_Rf_fair_129 {X : XS} (a1 : Int32) (a2 : Int32) (a3 : Int32) (a4 : Int32) (a5 : Int32) (a6 : Int32) (a7 : Int32) (a8 : Int32) (a9 : Int32) (a10 : Int32) (a11 : Int32) (s0 : Int32) (h : Hp) (Q : Option AV → Hp → Prop)  (k : ((a6 = 0 → Rn X m_Rf_fair 24 [some (vR [1]), some (vI a1), some (vI a2), some (vI a3), some (vI s0), some (vI a11), some (vI 1), some (vI (a7 + 1)), none, none, none, none] [] h Q) ∧ (¬ a6 = 0 → ((a5 ≤ a11 → Rn X m_Rf_fair 24 [some (vR [1]), some (vI a1), some (vI a2), some (vI a3), some (vI s0), some (vI a5), some (vI 1), some (vI (a7 + 1)), none, none, none, none] [] h Q) ∧ (¬ a5 ≤ a11 → Rn X m_Rf_fair 24 [some (vR [1]), some (vI a1), some (vI a2), some (vI a3), some (vI s0), some (vI a11), some (vI 1), some (vI (a7 + 1)), none, none, none, none] [] h Q))))) : Rn X m_Rf_fair 129 [some (vR [1]), some (vI a1), some (vI a2), some (vI a3), some (vI a4), some (vI a5), some (vI a6), some (vI a7), some (vI a8), some (vI a9), some (vI a10), some (vI a11)] [vI s0] h Q := by
  refine Rn.istore (n := 131) (i := 4) (ls2 := [some (vR [1]), some (vI a1), some (vI a2), some (vI a3), some (vI s0), some (vI a5), some (vI a6), some (vI a7), some (vI a8), some (vI a9), some (vI a10), some (vI a11)]) d_Rf_fair_129 rfl (Nat.le_of_ble_eq_true rfl) rfl ?_
  refine Rn.iload (n := 133) (i := 6) d_Rf_fair_131 rfl rfl ?_
  refine Rn.if_eq (n := 136) (t := 143) d_Rf_fair_133 rfl (by decide) (fun cc => ?_) (fun cc => ?_)
  · have k := k.1 cc
    refine Rn.iload (n := 145) (i := 11) d_Rf_fair_143 rfl rfl ?_
    refine Rn.goto (n := 150) d_Rf_fair_145 (by decide) ?_
    refine Rn.istore (n := 152) (i := 5) (ls2 := [some (vR [1]), some (vI a1), some (vI a2), some (vI a3), some (vI s0), some (vI a11), some (vI a6), some (vI a7), some (vI a8), some (vI a9), some (vI a10), some (vI a11)]) d_Rf_fair_150 rfl (Nat.le_of_ble_eq_true rfl) rfl ?_
    refine Rn.iconst (n := 153) (v := 1) d_Rf_fair_152 rfl (by decide) ?_
    refine Rn.istore (n := 155) (i := 6) (ls2 := [some (vR [1]), some (vI a1), some (vI a2), some (vI a3), some (vI s0), some (vI a11), some (vI 1), some (vI a7), some (vI a8), some (vI a9), some (vI a10), some (vI a11)]) d_Rf_fair_153 rfl (Nat.le_of_ble_eq_true rfl) rfl ?_
    refine Rn.iinc (n := 158) (i := 7) (v := a7 + 1) (ls2 := [some (vR [1]), some (vI a1), some (vI a2), some (vI a3), some (vI s0), some (vI a11), some (vI 1), some (vI (a7 + 1)), some (vI a8), some (vI a9), some (vI a10), some (vI a11)]) d_Rf_fair_155 rfl rfl rfl (Nat.le_of_ble_eq_true rfl) rfl ?_
    refine Rn.goto (n := 24) d_Rf_fair_158 (by decide) ?_
    exact Rn.loc [some (vR [1]), some (vI a1), some (vI a2), some (vI a3), some (vI s0), some (vI a11), some (vI 1), some (vI (a7 + 1)), none, none, none, none] (LLe_ok ⟨rfl, ⟨rfl, ⟨rfl, ⟨rfl, ⟨rfl, ⟨rfl, ⟨rfl, ⟨rfl, trivial⟩⟩⟩⟩⟩⟩⟩⟩) k
  · have k := k.2 cc
    refine Rn.iload (n := 138) (i := 11) d_Rf_fair_136 rfl rfl ?_
    refine Rn.iload (n := 140) (i := 5) d_Rf_fair_138 rfl rfl ?_
    refine Rn.icmp_ge (n := 143) (t := 148) d_Rf_fair_140 rfl (by decide) (fun cc => ?_) (fun cc => ?_)
    · have k := k.1 cc
      refine Rn.iload (n := 150) (i := 5) d_Rf_fair_148 rfl rfl ?_
      refine Rn.istore (n := 152) (i := 5) (ls2 := [some (vR [1]), some (vI a1), some (vI a2), some (vI a3), some (vI s0), some (vI a5), some (vI a6), some (vI a7), some (vI a8), some (vI a9), some (vI a10), some (vI a11)]) d_Rf_fair_150 rfl (Nat.le_of_ble_eq_true rfl) rfl ?_
      refine Rn.iconst (n := 153) (v := 1) d_Rf_fair_152 rfl (by decide) ?_
      refine Rn.istore (n := 155) (i := 6) (ls2 := [some (vR [1]), some (vI a1), some (vI a2), some (vI a3), some (vI s0), some (vI a5), some (vI 1), some (vI a7), some (vI a8), some (vI a9), some (vI a10), some (vI a11)]) d_Rf_fair_153 rfl (Nat.le_of_ble_eq_true rfl) rfl ?_
      refine Rn.iinc (n := 158) (i := 7) (v := a7 + 1) (ls2 := [some (vR [1]), some (vI a1), some (vI a2), some (vI a3), some (vI s0), some (vI a5), some (vI 1), some (vI (a7 + 1)), some (vI a8), some (vI a9), some (vI a10), some (vI a11)]) d_Rf_fair_155 rfl rfl rfl (Nat.le_of_ble_eq_true rfl) rfl ?_
      refine Rn.goto (n := 24) d_Rf_fair_158 (by decide) ?_
      exact Rn.loc [some (vR [1]), some (vI a1), some (vI a2), some (vI a3), some (vI s0), some (vI a5), some (vI 1), some (vI (a7 + 1)), none, none, none, none] (LLe_ok ⟨rfl, ⟨rfl, ⟨rfl, ⟨rfl, ⟨rfl, ⟨rfl, ⟨rfl, ⟨rfl, trivial⟩⟩⟩⟩⟩⟩⟩⟩) k
    · have k := k.2 cc
      refine Rn.iload (n := 145) (i := 11) d_Rf_fair_143 rfl rfl ?_
      refine Rn.goto (n := 150) d_Rf_fair_145 (by decide) ?_
      refine Rn.istore (n := 152) (i := 5) (ls2 := [some (vR [1]), some (vI a1), some (vI a2), some (vI a3), some (vI s0), some (vI a11), some (vI a6), some (vI a7), some (vI a8), some (vI a9), some (vI a10), some (vI a11)]) d_Rf_fair_150 rfl (Nat.le_of_ble_eq_true rfl) rfl ?_
      refine Rn.iconst (n := 153) (v := 1) d_Rf_fair_152 rfl (by decide) ?_
      refine Rn.istore (n := 155) (i := 6) (ls2 := [some (vR [1]), some (vI a1), some (vI a2), some (vI a3), some (vI s0), some (vI a11), some (vI 1), some (vI a7), some (vI a8), some (vI a9), some (vI a10), some (vI a11)]) d_Rf_fair_153 rfl (Nat.le_of_ble_eq_true rfl) rfl ?_
      refine Rn.iinc (n := 158) (i := 7) (v := a7 + 1) (ls2 := [some (vR [1]), some (vI a1), some (vI a2), some (vI a3), some (vI s0), some (vI a11), some (vI 1), some (vI (a7 + 1)), some (vI a8), some (vI a9), some (vI a10), some (vI a11)]) d_Rf_fair_155 rfl rfl rfl (Nat.le_of_ble_eq_true rfl) rfl ?_
      refine Rn.goto (n := 24) d_Rf_fair_158 (by decide) ?_
      exact Rn.loc [some (vR [1]), some (vI a1), some (vI a2), some (vI a3), some (vI s0), some (vI a11), some (vI 1), some (vI (a7 + 1)), none, none, none, none] (LLe_ok ⟨rfl, ⟨rfl, ⟨rfl, ⟨rfl, ⟨rfl, ⟨rfl, ⟨rfl, ⟨rfl, trivial⟩⟩⟩⟩⟩⟩⟩⟩) k
theorem e_Rf_fair {X : XS} (a1 : Int32) (a2 : Int32) (a3 : Int32) (h : Hp) (Q : Option AV → Hp → Prop) (k : Rn X m_Rf_fair 0 [some (vR [1]), some (vI a1), some (vI a2), some (vI a3), none, none, none, none, none, none, none, none] [] h Q) : Ev X m_Rf_fair [vR [1], vI a1, vI a2, vI a3] h Q := Ev.intro (plainFor_of_name (by decide +kernel)) (Nat.le_of_ble_eq_true rfl) (ls := [some (vR [1]), some (vI a1), some (vI a2), some (vI a3), none, none, none, none, none, none, none, none]) rfl k
theorem d_Rf_gcd_0 : decode m_Rf_gcd.2.1 0 = .ok (.lload_n 0, 1) := by decide +kernel
theorem d_Rf_gcd_1 : decode m_Rf_gcd.2.1 1 = .ok (.lstore 4, 2) := by decide +kernel
theorem d_Rf_gcd_3 : decode m_Rf_gcd.2.1 3 = .ok (.lload_n 2, 1) := by decide +kernel
theorem d_Rf_gcd_4 : decode m_Rf_gcd.2.1 4 = .ok (.lstore 6, 2) := by decide +kernel
theorem d_Rf_gcd_6 : decode m_Rf_gcd.2.1 6 = .ok (.lload 6, 2) := by decide +kernel
theorem d_Rf_gcd_8 : decode m_Rf_gcd.2.1 8 = .ok (.lconst 0, 1) := by decide +kernel
theorem d_Rf_gcd_9 : decode m_Rf_gcd.2.1 9 = .ok (.lcmp, 1) := by decide +kernel
theorem d_Rf_gcd_10 : decode m_Rf_gcd.2.1 10 = .ok (.ifCond .eq 21, 3) := by decide +kernel
theorem d_Rf_gcd_13 : decode m_Rf_gcd.2.1 13 = .ok (.lload 4, 2) := by decide +kernel
theorem d_Rf_gcd_15 : decode m_Rf_gcd.2.1 15 = .ok (.lload 6, 2) := by decide +kernel
theorem d_Rf_gcd_17 : decode m_Rf_gcd.2.1 17 = .ok (.lrem, 1) := by decide +kernel
theorem d_Rf_gcd_18 : decode m_Rf_gcd.2.1 18 = .ok (.lstore 8, 2) := by decide +kernel
theorem d_Rf_gcd_20 : decode m_Rf_gcd.2.1 20 = .ok (.lload 6, 2) := by decide +kernel
theorem d_Rf_gcd_22 : decode m_Rf_gcd.2.1 22 = .ok (.lstore 4, 2) := by decide +kernel
theorem d_Rf_gcd_24 : decode m_Rf_gcd.2.1 24 = .ok (.lload 8, 2) := by decide +kernel
theorem d_Rf_gcd_26 : decode m_Rf_gcd.2.1 26 = .ok (.lstore 6, 2) := by decide +kernel
theorem d_Rf_gcd_28 : decode m_Rf_gcd.2.1 28 = .ok (.goto (-22), 3) := by decide +kernel
theorem d_Rf_gcd_31 : decode m_Rf_gcd.2.1 31 = .ok (.lload 4, 2) := by decide +kernel
theorem d_Rf_gcd_33 : decode m_Rf_gcd.2.1 33 = .ok (.lreturn, 1) := by decide +kernel
theorem g_Rf_gcd_0 {X : XS} (a0 : Int64) (a2 : Int64) (h : Hp) (Q : Option AV → Hp → Prop)  (k : Rn X m_Rf_gcd 6 [some (vL a0), none, some (vL a2), none, some (vL a0), none, some (vL a2), none, none, none] [] h Q) : Rn X m_Rf_gcd 0 [some (vL a0), none, some (vL a2), none, none, none, none, none, none, none] [] h Q := by
  refine Rn.lload_n (n := 1) (i := 0) d_Rf_gcd_0 rfl rfl rfl ?_
  refine Rn.lstore (n := 3) (i := 4) (ls2 := [some (vL a0), none, some (vL a2), none, some (vL a0), none, none, none, none, none]) d_Rf_gcd_1 rfl (Nat.le_of_ble_eq_true rfl) rfl ?_
  refine Rn.lload_n (n := 4) (i := 2) d_Rf_gcd_3 rfl rfl rfl ?_
  refine Rn.lstore (n := 6) (i := 6) (ls2 := [some (vL a0), none, some (vL a2), none, some (vL a0), none, some (vL a2), none, none, none]) d_Rf_gcd_4 rfl (Nat.le_of_ble_eq_true rfl) rfl ?_
  exact k
theorem g_Rf_gcd_6 {X : XS} (a0 : Int64) (a2 : Int64) (a4 : Int64) (a6 : Int64) (h : Hp) (Q : Option AV → Hp → Prop)  (k : (((lg_cmp a6 0) = 0 → Q (some (vL a4)) h) ∧ (¬ (lg_cmp a6 0) = 0 → (¬ a6 = 0 ∧ Rn X m_Rf_gcd 6 [some (vL a0), none, some (vL a2), none, some (vL a6), none, some (vL (lR a4 a6)), none, none, none] [] h Q)))) : Rn X m_Rf_gcd 6 [some (vL a0), none, some (vL a2), none, some (vL a4), none, some (vL a6), none, none, none] [] h Q := by
  refine Rn.lload (n := 8) (i := 6) d_Rf_gcd_6 rfl rfl ?_
  refine Rn.lconst (n := 9) (v := 0) d_Rf_gcd_8 rfl rfl ?_
  refine Rn.lcmp (n := 10) d_Rf_gcd_9 rfl ?_
  refine Rn.if_eq (n := 13) (t := 31) d_Rf_gcd_10 rfl (by decide) (fun cc => ?_) (fun cc => ?_)
  · have k := k.1 cc
    refine Rn.lload (n := 33) (i := 4) d_Rf_gcd_31 rfl rfl ?_
    exact Rn.lret d_Rf_gcd_33 rfl k
  · have k := k.2 cc
    refine Rn.lload (n := 15) (i := 4) d_Rf_gcd_13 rfl rfl ?_
    refine Rn.lload (n := 17) (i := 6) d_Rf_gcd_15 rfl rfl ?_
    obtain ⟨z1, k⟩ := k
    refine Rn.lrem (n := 18) d_Rf_gcd_17 rfl z1 ?_
    refine Rn.lstore (n := 20) (i := 8) (ls2 := [some (vL a0), none, some (vL a2), none, some (vL a4), none, some (vL a6), none, some (vL (lR a4 a6)), none]) d_Rf_gcd_18 rfl (Nat.le_of_ble_eq_true rfl) rfl ?_
    refine Rn.lload (n := 22) (i := 6) d_Rf_gcd_20 rfl rfl ?_
    refine Rn.lstore (n := 24) (i := 4) (ls2 := [some (vL a0), none, some (vL a2), none, some (vL a6), none, some (vL a6), none, some (vL (lR a4 a6)), none]) d_Rf_gcd_22 rfl (Nat.le_of_ble_eq_true rfl) rfl ?_
    refine Rn.lload (n := 26) (i := 8) d_Rf_gcd_24 rfl rfl ?_
    refine Rn.lstore (n := 28) (i := 6) (ls2 := [some (vL a0), none, some (vL a2), none, some (vL a6), none, some (vL (lR a4 a6)), none, some (vL (lR a4 a6)), none]) d_Rf_gcd_26 rfl (Nat.le_of_ble_eq_true rfl) rfl ?_
    refine Rn.goto (n := 6) d_Rf_gcd_28 (by decide) ?_
    exact Rn.loc [some (vL a0), none, some (vL a2), none, some (vL a6), none, some (vL (lR a4 a6)), none, none, none] (LLe_ok ⟨rfl, ⟨rfl, ⟨rfl, ⟨rfl, trivial⟩⟩⟩⟩) k
theorem e_Rf_gcd {X : XS} (a0 : Int64) (a2 : Int64) (h : Hp) (Q : Option AV → Hp → Prop) (k : Rn X m_Rf_gcd 0 [some (vL a0), none, some (vL a2), none, none, none, none, none, none, none] [] h Q) : Ev X m_Rf_gcd [vL a0, vL a2] h Q := Ev.intro (plainFor_of_name (by decide +kernel)) (Nat.le_of_ble_eq_true rfl) (ls := [some (vL a0), none, some (vL a2), none, none, none, none, none, none, none]) rfl k
theorem d_Rf_isRun_0 : decode m_Rf_isRun.2.1 0 = .ok (.iload_n 0, 1) := by decide +kernel
theorem d_Rf_isRun_1 : decode m_Rf_isRun.2.1 1 = .ok (.iconst 1, 1) := by decide +kernel
theorem d_Rf_isRun_2 : decode m_Rf_isRun.2.1 2 = .ok (.bipush 99, 2) := by decide +kernel
theorem d_Rf_isRun_4 : decode m_Rf_isRun.2.1 4 = .ok (.invokestatic 66, 3) := by decide +kernel
theorem d_Rf_isRun_7 : decode m_Rf_isRun.2.1 7 = .ok (.ifCond .eq 37, 3) := by decide +kernel
theorem d_Rf_isRun_10 : decode m_Rf_isRun.2.1 10 = .ok (.iload_n 1, 1) := by decide +kernel
theorem d_Rf_isRun_11 : decode m_Rf_isRun.2.1 11 = .ok (.iconst 1, 1) := by decide +kernel
theorem d_Rf_isRun_12 : decode m_Rf_isRun.2.1 12 = .ok (.bipush 99, 2) := by decide +kernel
theorem d_Rf_isRun_14 : decode m_Rf_isRun.2.1 14 = .ok (.invokestatic 66, 3) := by decide +kernel
theorem d_Rf_isRun_17 : decode m_Rf_isRun.2.1 17 = .ok (.ifCond .eq 27, 3) := by decide +kernel
theorem d_Rf_isRun_20 : decode m_Rf_isRun.2.1 20 = .ok (.iload_n 2, 1) := by decide +kernel
theorem d_Rf_isRun_21 : decode m_Rf_isRun.2.1 21 = .ok (.iconst 1, 1) := by decide +kernel
theorem d_Rf_isRun_22 : decode m_Rf_isRun.2.1 22 = .ok (.bipush 99, 2) := by decide +kernel
theorem d_Rf_isRun_24 : decode m_Rf_isRun.2.1 24 = .ok (.invokestatic 66, 3) := by decide +kernel
theorem d_Rf_isRun_27 : decode m_Rf_isRun.2.1 27 = .ok (.ifCond .eq 17, 3) := by decide +kernel
theorem d_Rf_isRun_30 : decode m_Rf_isRun.2.1 30 = .ok (.iload_n 3, 1) := by decide +kernel
theorem d_Rf_isRun_31 : decode m_Rf_isRun.2.1 31 = .ok (.iconst 0, 1) := by decide +kernel
theorem d_Rf_isRun_32 : decode m_Rf_isRun.2.1 32 = .ok (.bipush 20, 2) := by decide +kernel
theorem d_Rf_isRun_34 : decode m_Rf_isRun.2.1 34 = .ok (.invokestatic 66, 3) := by decide +kernel
theorem d_Rf_isRun_37 : decode m_Rf_isRun.2.1 37 = .ok (.ifCond .eq 7, 3) := by decide +kernel
theorem d_Rf_isRun_40 : decode m_Rf_isRun.2.1 40 = .ok (.iconst 1, 1) := by decide +kernel
theorem d_Rf_isRun_41 : decode m_Rf_isRun.2.1 41 = .ok (.goto 4, 3) := by decide +kernel
theorem d_Rf_isRun_44 : decode m_Rf_isRun.2.1 44 = .ok (.iconst 0, 1) := by decide +kernel
theorem d_Rf_isRun_45 : decode m_Rf_isRun.2.1 45 = .ok (.ireturn, 1) := by decide +kernel
theorem g_Rf_isRun_0 {X : XS} (a0 : Int32) (a1 : Int32) (a2 : Int32) (a3 : Int32) (h : Hp) (Q : Option AV → Hp → Prop)  (k : (∃ Q'4, EvI X m_Rf_in [vI a0, vI 1, vI 99] h Q'4 ∧ ∀ (r5 : Int32) (h3 : Hp), Q'4 r5 h3 → ((r5 = 0 → Q (some (vI 0)) h3) ∧ (¬ r5 = 0 → (∃ Q'9, EvI X m_Rf_in [vI a1, vI 1, vI 99] h3 Q'9 ∧ ∀ (r10 : Int32) (h8 : Hp), Q'9 r10 h8 → ((r10 = 0 → Q (some (vI 0)) h8) ∧ (¬ r10 = 0 → (∃ Q'14, EvI X m_Rf_in [vI a2, vI 1, vI 99] h8 Q'14 ∧ ∀ (r15 : Int32) (h13 : Hp), Q'14 r15 h13 → ((r15 = 0 → Q (some (vI 0)) h13) ∧ (¬ r15 = 0 → (∃ Q'19, EvI X m_Rf_in [vI a3, vI 0, vI 20] h13 Q'19 ∧ ∀ (r20 : Int32) (h18 : Hp), Q'19 r20 h18 → ((r20 = 0 → Q (some (vI 0)) h18) ∧ (¬ r20 = 0 → Q (some (vI 1)) h18))))))))))))) : Rn X m_Rf_isRun 0 [some (vI a0), some (vI a1), some (vI a2), some (vI a3)] [] h Q := by
  refine Rn.iload_n (n := 1) (i := 0) d_Rf_isRun_0 rfl rfl rfl ?_
  refine Rn.iconst (n := 2) (v := 1) d_Rf_isRun_1 rfl (by decide) ?_
  refine Rn.bipush (n := 4) (v := 99) d_Rf_isRun_2 rfl (by decide) ?_
  obtain ⟨Q'4, ev1, k⟩ := k
  refine Rn.callS (n := 7) (av := [vI a0, vI 1, vI 99]) d_Rf_isRun_4 rfl ml_Rf_isRun_66 ms_Rf_in rfl rfl (Nat.le_of_ble_eq_true rfl) ev1 (fun v h3 hq => ?_)
  obtain ⟨r5, rfl, hq⟩ := hq
  have k := k r5 h3 hq
  show Rn X m_Rf_isRun 7 [some (vI a0), some (vI a1), some (vI a2), some (vI a3)] [vI r5] h3 Q
  refine Rn.if_eq (n := 10) (t := 44) d_Rf_isRun_7 rfl (by decide) (fun cc => ?_) (fun cc => ?_)
  · have k := k.1 cc
    refine Rn.iconst (n := 45) (v := 0) d_Rf_isRun_44 rfl (by decide) ?_
    exact Rn.iret d_Rf_isRun_45 rfl rfl k
  · have k := k.2 cc
    refine Rn.iload_n (n := 11) (i := 1) d_Rf_isRun_10 rfl rfl rfl ?_
    refine Rn.iconst (n := 12) (v := 1) d_Rf_isRun_11 rfl (by decide) ?_
    refine Rn.bipush (n := 14) (v := 99) d_Rf_isRun_12 rfl (by decide) ?_
    obtain ⟨Q'9, ev6, k⟩ := k
    refine Rn.callS (n := 17) (av := [vI a1, vI 1, vI 99]) d_Rf_isRun_14 rfl ml_Rf_isRun_66 ms_Rf_in rfl rfl (Nat.le_of_ble_eq_true rfl) ev6 (fun v h8 hq => ?_)
    obtain ⟨r10, rfl, hq⟩ := hq
    have k := k r10 h8 hq
    show Rn X m_Rf_isRun 17 [some (vI a0), some (vI a1), some (vI a2), some (vI a3)] [vI r10] h8 Q
    refine Rn.if_eq (n := 20) (t := 44) d_Rf_isRun_17 rfl (by decide) (fun cc => ?_) (fun cc => ?_)
    · have k := k.1 cc
      refine Rn.iconst (n := 45) (v := 0) d_Rf_isRun_44 rfl (by decide) ?_
      exact Rn.iret d_Rf_isRun_45 rfl rfl k
    · have k := k.2 cc
      refine Rn.iload_n (n := 21) (i := 2) d_Rf_isRun_20 rfl rfl rfl ?_
      refine Rn.iconst (n := 22) (v := 1) d_Rf_isRun_21 rfl (by decide) ?_
      refine Rn.bipush (n := 24) (v := 99) d_Rf_isRun_22 rfl (by decide) ?_
      obtain ⟨Q'14, ev11, k⟩ := k
      refine Rn.callS (n := 27) (av := [vI a2, vI 1, vI 99]) d_Rf_isRun_24 rfl ml_Rf_isRun_66 ms_Rf_in rfl rfl (Nat.le_of_ble_eq_true rfl) ev11 (fun v h13 hq => ?_)
      obtain ⟨r15, rfl, hq⟩ := hq
      have k := k r15 h13 hq
      show Rn X m_Rf_isRun 27 [some (vI a0), some (vI a1), some (vI a2), some (vI a3)] [vI r15] h13 Q
      refine Rn.if_eq (n := 30) (t := 44) d_Rf_isRun_27 rfl (by decide) (fun cc => ?_) (fun cc => ?_)
      · have k := k.1 cc
        refine Rn.iconst (n := 45) (v := 0) d_Rf_isRun_44 rfl (by decide) ?_
        exact Rn.iret d_Rf_isRun_45 rfl rfl k
      · have k := k.2 cc
        refine Rn.iload_n (n := 31) (i := 3) d_Rf_isRun_30 rfl rfl rfl ?_
        refine Rn.iconst (n := 32) (v := 0) d_Rf_isRun_31 rfl (by decide) ?_
        refine Rn.bipush (n := 34) (v := 20) d_Rf_isRun_32 rfl (by decide) ?_
        obtain ⟨Q'19, ev16, k⟩ := k
        refine Rn.callS (n := 37) (av := [vI a3, vI 0, vI 20]) d_Rf_isRun_34 rfl ml_Rf_isRun_66 ms_Rf_in rfl rfl (Nat.le_of_ble_eq_true rfl) ev16 (fun v h18 hq => ?_)
        obtain ⟨r20, rfl, hq⟩ := hq
        have k := k r20 h18 hq
        show Rn X m_Rf_isRun 37 [some (vI a0), some (vI a1), some (vI a2), some (vI a3)] [vI r20] h18 Q
        refine Rn.if_eq (n := 40) (t := 44) d_Rf_isRun_37 rfl (by decide) (fun cc => ?_) (fun cc => ?_)
        · have k := k.1 cc
          refine Rn.iconst (n := 45) (v := 0) d_Rf_isRun_44 rfl (by decide) ?_
          exact Rn.iret d_Rf_isRun_45 rfl rfl k
        · have k := k.2 cc
          refine Rn.iconst (n := 41) (v := 1) d_Rf_isRun_40 rfl (by decide) ?_
          refine Rn.goto (n := 45) d_Rf_isRun_41 (by decide) ?_
          exact Rn.iret d_Rf_isRun_45 rfl rfl k
theorem e_Rf_isRun {X : XS} (a0 : Int32) (a1 : Int32) (a2 : Int32) (a3 : Int32) (h : Hp) (Q : Option AV → Hp → Prop) (k : Rn X m_Rf_isRun 0 [some (vI a0), some (vI a1), some (vI a2), some (vI a3)] [] h Q) : Ev X m_Rf_isRun [vI a0, vI a1, vI a2, vI a3] h Q := Ev.intro (plainFor_of_name (by decide +kernel)) (Nat.le_of_ble_eq_true rfl) (ls := [some (vI a0), some (vI a1), some (vI a2), some (vI a3)]) rfl k
theorem d_Rf_runOf_0 : decode m_Rf_runOf.2.1 0 = .ok (.iload_n 2, 1) := by decide +kernel
theorem d_Rf_runOf_1 : decode m_Rf_runOf.2.1 1 = .ok (.iload_n 0, 1) := by decide +kernel
theorem d_Rf_runOf_2 : decode m_Rf_runOf.2.1 2 = .ok (.iload_n 1, 1) := by decide +kernel
theorem d_Rf_runOf_3 : decode m_Rf_runOf.2.1 3 = .ok (.iload 4, 2) := by decide +kernel
theorem d_Rf_runOf_5 : decode m_Rf_runOf.2.1 5 = .ok (.iload_n 3, 1) := by decide +kernel
theorem d_Rf_runOf_6 : decode m_Rf_runOf.2.1 6 = .ok (.invokestatic 184, 3) := by decide +kernel
theorem d_Rf_runOf_9 : decode m_Rf_runOf.2.1 9 = .ok (.imul, 1) := by decide +kernel
theorem d_Rf_runOf_10 : decode m_Rf_runOf.2.1 10 = .ok (.iadd, 1) := by decide +kernel
theorem d_Rf_runOf_11 : decode m_Rf_runOf.2.1 11 = .ok (.imul, 1) := by decide +kernel
theorem d_Rf_runOf_12 : decode m_Rf_runOf.2.1 12 = .ok (.ireturn, 1) := by decide +kernel
theorem g_Rf_runOf_0 {X : XS} (a0 : Int32) (a1 : Int32) (a2 : Int32) (a3 : Int32) (a4 : Int32) (h : Hp) (Q : Option AV → Hp → Prop)  (k : (∃ Q'4, EvI X m_Rf_off [vI a4, vI a3] h Q'4 ∧ ∀ (r5 : Int32) (h3 : Hp), Q'4 r5 h3 → Q (some (vI (a2 * (a0 + (a1 * r5))))) h3)) : Rn X m_Rf_runOf 0 [some (vI a0), some (vI a1), some (vI a2), some (vI a3), some (vI a4)] [] h Q := by
  refine Rn.iload_n (n := 1) (i := 2) d_Rf_runOf_0 rfl rfl rfl ?_
  refine Rn.iload_n (n := 2) (i := 0) d_Rf_runOf_1 rfl rfl rfl ?_
  refine Rn.iload_n (n := 3) (i := 1) d_Rf_runOf_2 rfl rfl rfl ?_
  refine Rn.iload (n := 5) (i := 4) d_Rf_runOf_3 rfl rfl ?_
  refine Rn.iload_n (n := 6) (i := 3) d_Rf_runOf_5 rfl rfl rfl ?_
  obtain ⟨Q'4, ev1, k⟩ := k
  refine Rn.callS (n := 9) (av := [vI a4, vI a3]) d_Rf_runOf_6 rfl ml_Rf_runOf_184 ms_Rf_off rfl rfl (Nat.le_of_ble_eq_true rfl) ev1 (fun v h3 hq => ?_)
  obtain ⟨r5, rfl, hq⟩ := hq
  have k := k r5 h3 hq
  show Rn X m_Rf_runOf 9 [some (vI a0), some (vI a1), some (vI a2), some (vI a3), some (vI a4)] [vI r5, vI a1, vI a0, vI a2] h3 Q
  refine Rn.imul (n := 10) d_Rf_runOf_9 rfl ?_
  refine Rn.iadd (n := 11) d_Rf_runOf_10 rfl ?_
  refine Rn.imul (n := 12) d_Rf_runOf_11 rfl ?_
  exact Rn.iret d_Rf_runOf_12 rfl rfl k
theorem e_Rf_runOf {X : XS} (a0 : Int32) (a1 : Int32) (a2 : Int32) (a3 : Int32) (a4 : Int32) (h : Hp) (Q : Option AV → Hp → Prop) (k : Rn X m_Rf_runOf 0 [some (vI a0), some (vI a1), some (vI a2), some (vI a3), some (vI a4)] [] h Q) : Ev X m_Rf_runOf [vI a0, vI a1, vI a2, vI a3, vI a4] h Q := Ev.intro (plainFor_of_name (by decide +kernel)) (Nat.le_of_ble_eq_true rfl) (ls := [some (vI a0), some (vI a1), some (vI a2), some (vI a3), some (vI a4)]) rfl k
theorem d_Rf_bestPace_0 : decode m_Rf_bestPace.2.1 0 = .ok (.iconst 1, 1) := by decide +kernel
theorem d_Rf_bestPace_1 : decode m_Rf_bestPace.2.1 1 = .ok (.istore 4, 2) := by decide +kernel
theorem d_Rf_bestPace_3 : decode m_Rf_bestPace.2.1 3 = .ok (.iconst 2, 1) := by decide +kernel
theorem d_Rf_bestPace_4 : decode m_Rf_bestPace.2.1 4 = .ok (.istore 5, 2) := by decide +kernel
theorem d_Rf_bestPace_6 : decode m_Rf_bestPace.2.1 6 = .ok (.iload 5, 2) := by decide +kernel
theorem d_Rf_bestPace_8 : decode m_Rf_bestPace.2.1 8 = .ok (.bipush 21, 2) := by decide +kernel
theorem d_Rf_bestPace_10 : decode m_Rf_bestPace.2.1 10 = .ok (.if_icmp .ge 45, 3) := by decide +kernel
theorem d_Rf_bestPace_13 : decode m_Rf_bestPace.2.1 13 = .ok (.iload_n 0, 1) := by decide +kernel
theorem d_Rf_bestPace_14 : decode m_Rf_bestPace.2.1 14 = .ok (.iload_n 1, 1) := by decide +kernel
theorem d_Rf_bestPace_15 : decode m_Rf_bestPace.2.1 15 = .ok (.iload_n 2, 1) := by decide +kernel
theorem d_Rf_bestPace_16 : decode m_Rf_bestPace.2.1 16 = .ok (.iload_n 3, 1) := by decide +kernel
theorem d_Rf_bestPace_17 : decode m_Rf_bestPace.2.1 17 = .ok (.iload 5, 2) := by decide +kernel
theorem d_Rf_bestPace_19 : decode m_Rf_bestPace.2.1 19 = .ok (.invokestatic 262, 3) := by decide +kernel
theorem d_Rf_bestPace_22 : decode m_Rf_bestPace.2.1 22 = .ok (.iload 4, 2) := by decide +kernel
theorem d_Rf_bestPace_24 : decode m_Rf_bestPace.2.1 24 = .ok (.imul, 1) := by decide +kernel
theorem d_Rf_bestPace_25 : decode m_Rf_bestPace.2.1 25 = .ok (.iload_n 0, 1) := by decide +kernel
theorem d_Rf_bestPace_26 : decode m_Rf_bestPace.2.1 26 = .ok (.iload_n 1, 1) := by decide +kernel
theorem d_Rf_bestPace_27 : decode m_Rf_bestPace.2.1 27 = .ok (.iload_n 2, 1) := by decide +kernel
theorem d_Rf_bestPace_28 : decode m_Rf_bestPace.2.1 28 = .ok (.iload_n 3, 1) := by decide +kernel
theorem d_Rf_bestPace_29 : decode m_Rf_bestPace.2.1 29 = .ok (.iload 4, 2) := by decide +kernel
theorem d_Rf_bestPace_31 : decode m_Rf_bestPace.2.1 31 = .ok (.invokestatic 262, 3) := by decide +kernel
theorem d_Rf_bestPace_34 : decode m_Rf_bestPace.2.1 34 = .ok (.iload 5, 2) := by decide +kernel
theorem d_Rf_bestPace_36 : decode m_Rf_bestPace.2.1 36 = .ok (.imul, 1) := by decide +kernel
theorem d_Rf_bestPace_37 : decode m_Rf_bestPace.2.1 37 = .ok (.if_icmp .ge 8, 3) := by decide +kernel
theorem d_Rf_bestPace_40 : decode m_Rf_bestPace.2.1 40 = .ok (.iload 5, 2) := by decide +kernel
theorem d_Rf_bestPace_42 : decode m_Rf_bestPace.2.1 42 = .ok (.goto 5, 3) := by decide +kernel
theorem d_Rf_bestPace_45 : decode m_Rf_bestPace.2.1 45 = .ok (.iload 4, 2) := by decide +kernel
theorem d_Rf_bestPace_47 : decode m_Rf_bestPace.2.1 47 = .ok (.istore 4, 2) := by decide +kernel
theorem d_Rf_bestPace_49 : decode m_Rf_bestPace.2.1 49 = .ok (.iinc 5 1, 3) := by decide +kernel
theorem d_Rf_bestPace_52 : decode m_Rf_bestPace.2.1 52 = .ok (.goto (-46), 3) := by decide +kernel
theorem d_Rf_bestPace_55 : decode m_Rf_bestPace.2.1 55 = .ok (.iload 4, 2) := by decide +kernel
theorem d_Rf_bestPace_57 : decode m_Rf_bestPace.2.1 57 = .ok (.ireturn, 1) := by decide +kernel
theorem g_Rf_bestPace_0 {X : XS} (a0 : Int32) (a1 : Int32) (a2 : Int32) (a3 : Int32) (h : Hp) (Q : Option AV → Hp → Prop)  (k : Rn X m_Rf_bestPace 6 [some (vI a0), some (vI a1), some (vI a2), some (vI a3), some (vI 1), some (vI 2)] [] h Q) : Rn X m_Rf_bestPace 0 [some (vI a0), some (vI a1), some (vI a2), some (vI a3), none, none] [] h Q := by
  refine Rn.iconst (n := 1) (v := 1) d_Rf_bestPace_0 rfl (by decide) ?_
  refine Rn.istore (n := 3) (i := 4) (ls2 := [some (vI a0), some (vI a1), some (vI a2), some (vI a3), some (vI 1), none]) d_Rf_bestPace_1 rfl (Nat.le_of_ble_eq_true rfl) rfl ?_
  refine Rn.iconst (n := 4) (v := 2) d_Rf_bestPace_3 rfl (by decide) ?_
  refine Rn.istore (n := 6) (i := 5) (ls2 := [some (vI a0), some (vI a1), some (vI a2), some (vI a3), some (vI 1), some (vI 2)]) d_Rf_bestPace_4 rfl (Nat.le_of_ble_eq_true rfl) rfl ?_
  exact k
theorem g_Rf_bestPace_6 {X : XS} (a0 : Int32) (a1 : Int32) (a2 : Int32) (a3 : Int32) (a4 : Int32) (a5 : Int32) (h : Hp) (Q : Option AV → Hp → Prop)  (k : ((21 ≤ a5 → Q (some (vI a4)) h) ∧ (¬ 21 ≤ a5 → (∃ Q'4, EvI X m_Rf_runOf [vI a0, vI a1, vI a2, vI a3, vI a5] h Q'4 ∧ ∀ (r5 : Int32) (h3 : Hp), Q'4 r5 h3 → (∃ Q'9, EvI X m_Rf_runOf [vI a0, vI a1, vI a2, vI a3, vI a4] h3 Q'9 ∧ ∀ (r10 : Int32) (h8 : Hp), Q'9 r10 h8 → (((r10 * a5) ≤ (r5 * a4) → Rn X m_Rf_bestPace 6 [some (vI a0), some (vI a1), some (vI a2), some (vI a3), some (vI a4), some (vI (a5 + 1))] [] h8 Q) ∧ (¬ (r10 * a5) ≤ (r5 * a4) → Rn X m_Rf_bestPace 6 [some (vI a0), some (vI a1), some (vI a2), some (vI a3), some (vI a5), some (vI (a5 + 1))] [] h8 Q))))))) : Rn X m_Rf_bestPace 6 [some (vI a0), some (vI a1), some (vI a2), some (vI a3), some (vI a4), some (vI a5)] [] h Q := by
  refine Rn.iload (n := 8) (i := 5) d_Rf_bestPace_6 rfl rfl ?_
  refine Rn.bipush (n := 10) (v := 21) d_Rf_bestPace_8 rfl (by decide) ?_
  refine Rn.icmp_ge (n := 13) (t := 55) d_Rf_bestPace_10 rfl (by decide) (fun cc => ?_) (fun cc => ?_)
  · have k := k.1 cc
    refine Rn.iload (n := 57) (i := 4) d_Rf_bestPace_55 rfl rfl ?_
    exact Rn.iret d_Rf_bestPace_57 rfl rfl k
  · have k := k.2 cc
    refine Rn.iload_n (n := 14) (i := 0) d_Rf_bestPace_13 rfl rfl rfl ?_
    refine Rn.iload_n (n := 15) (i := 1) d_Rf_bestPace_14 rfl rfl rfl ?_
    refine Rn.iload_n (n := 16) (i := 2) d_Rf_bestPace_15 rfl rfl rfl ?_
    refine Rn.iload_n (n := 17) (i := 3) d_Rf_bestPace_16 rfl rfl rfl ?_
    refine Rn.iload (n := 19) (i := 5) d_Rf_bestPace_17 rfl rfl ?_
    obtain ⟨Q'4, ev1, k⟩ := k
    refine Rn.callS (n := 22) (av := [vI a0, vI a1, vI a2, vI a3, vI a5]) d_Rf_bestPace_19 rfl ml_Rf_bestPace_262 ms_Rf_runOf rfl rfl (Nat.le_of_ble_eq_true rfl) ev1 (fun v h3 hq => ?_)
    obtain ⟨r5, rfl, hq⟩ := hq
    have k := k r5 h3 hq
    show Rn X m_Rf_bestPace 22 [some (vI a0), some (vI a1), some (vI a2), some (vI a3), some (vI a4), some (vI a5)] [vI r5] h3 Q
    refine Rn.iload (n := 24) (i := 4) d_Rf_bestPace_22 rfl rfl ?_
    refine Rn.imul (n := 25) d_Rf_bestPace_24 rfl ?_
    refine Rn.iload_n (n := 26) (i := 0) d_Rf_bestPace_25 rfl rfl rfl ?_
    refine Rn.iload_n (n := 27) (i := 1) d_Rf_bestPace_26 rfl rfl rfl ?_
    refine Rn.iload_n (n := 28) (i := 2) d_Rf_bestPace_27 rfl rfl rfl ?_
    refine Rn.iload_n (n := 29) (i := 3) d_Rf_bestPace_28 rfl rfl rfl ?_
    refine Rn.iload (n := 31) (i := 4) d_Rf_bestPace_29 rfl rfl ?_
    obtain ⟨Q'9, ev6, k⟩ := k
    refine Rn.callS (n := 34) (av := [vI a0, vI a1, vI a2, vI a3, vI a4]) d_Rf_bestPace_31 rfl ml_Rf_bestPace_262 ms_Rf_runOf rfl rfl (Nat.le_of_ble_eq_true rfl) ev6 (fun v h8 hq => ?_)
    obtain ⟨r10, rfl, hq⟩ := hq
    have k := k r10 h8 hq
    show Rn X m_Rf_bestPace 34 [some (vI a0), some (vI a1), some (vI a2), some (vI a3), some (vI a4), some (vI a5)] [vI r10, vI (r5 * a4)] h8 Q
    refine Rn.iload (n := 36) (i := 5) d_Rf_bestPace_34 rfl rfl ?_
    refine Rn.imul (n := 37) d_Rf_bestPace_36 rfl ?_
    refine Rn.icmp_ge (n := 40) (t := 45) d_Rf_bestPace_37 rfl (by decide) (fun cc => ?_) (fun cc => ?_)
    · have k := k.1 cc
      refine Rn.iload (n := 47) (i := 4) d_Rf_bestPace_45 rfl rfl ?_
      refine Rn.istore (n := 49) (i := 4) (ls2 := [some (vI a0), some (vI a1), some (vI a2), some (vI a3), some (vI a4), some (vI a5)]) d_Rf_bestPace_47 rfl (Nat.le_of_ble_eq_true rfl) rfl ?_
      refine Rn.iinc (n := 52) (i := 5) (v := a5 + 1) (ls2 := [some (vI a0), some (vI a1), some (vI a2), some (vI a3), some (vI a4), some (vI (a5 + 1))]) d_Rf_bestPace_49 rfl rfl rfl (Nat.le_of_ble_eq_true rfl) rfl ?_
      refine Rn.goto (n := 6) d_Rf_bestPace_52 (by decide) ?_
      exact k
    · have k := k.2 cc
      refine Rn.iload (n := 42) (i := 5) d_Rf_bestPace_40 rfl rfl ?_
      refine Rn.goto (n := 47) d_Rf_bestPace_42 (by decide) ?_
      refine Rn.istore (n := 49) (i := 4) (ls2 := [some (vI a0), some (vI a1), some (vI a2), some (vI a3), some (vI a5), some (vI a5)]) d_Rf_bestPace_47 rfl (Nat.le_of_ble_eq_true rfl) rfl ?_
      refine Rn.iinc (n := 52) (i := 5) (v := a5 + 1) (ls2 := [some (vI a0), some (vI a1), some (vI a2), some (vI a3), some (vI a5), some (vI (a5 + 1))]) d_Rf_bestPace_49 rfl rfl rfl (Nat.le_of_ble_eq_true rfl) rfl ?_
      refine Rn.goto (n := 6) d_Rf_bestPace_52 (by decide) ?_
      exact k
theorem e_Rf_bestPace {X : XS} (a0 : Int32) (a1 : Int32) (a2 : Int32) (a3 : Int32) (h : Hp) (Q : Option AV → Hp → Prop) (k : Rn X m_Rf_bestPace 0 [some (vI a0), some (vI a1), some (vI a2), some (vI a3), none, none] [] h Q) : Ev X m_Rf_bestPace [vI a0, vI a1, vI a2, vI a3] h Q := Ev.intro (plainFor_of_name (by decide +kernel)) (Nat.le_of_ble_eq_true rfl) (ls := [some (vI a0), some (vI a1), some (vI a2), some (vI a3), none, none]) rfl k
theorem d_Rf_run_0 : decode m_Rf_run.2.1 0 = .ok (.iload_n 1, 1) := by decide +kernel
theorem d_Rf_run_1 : decode m_Rf_run.2.1 1 = .ok (.iload_n 2, 1) := by decide +kernel
theorem d_Rf_run_2 : decode m_Rf_run.2.1 2 = .ok (.iload_n 3, 1) := by decide +kernel
theorem d_Rf_run_3 : decode m_Rf_run.2.1 3 = .ok (.iload 4, 2) := by decide +kernel
theorem d_Rf_run_5 : decode m_Rf_run.2.1 5 = .ok (.invokestatic 266, 3) := by decide +kernel
theorem d_Rf_run_8 : decode m_Rf_run.2.1 8 = .ok (.ifCond .eq 24, 3) := by decide +kernel
theorem d_Rf_run_11 : decode m_Rf_run.2.1 11 = .ok (.iload 5, 2) := by decide +kernel
theorem d_Rf_run_13 : decode m_Rf_run.2.1 13 = .ok (.iconst 0, 1) := by decide +kernel
theorem d_Rf_run_14 : decode m_Rf_run.2.1 14 = .ok (.bipush 20, 2) := by decide +kernel
theorem d_Rf_run_16 : decode m_Rf_run.2.1 16 = .ok (.invokestatic 66, 3) := by decide +kernel
theorem d_Rf_run_19 : decode m_Rf_run.2.1 19 = .ok (.ifCond .eq 13, 3) := by decide +kernel
theorem d_Rf_run_22 : decode m_Rf_run.2.1 22 = .ok (.iload 6, 2) := by decide +kernel
theorem d_Rf_run_24 : decode m_Rf_run.2.1 24 = .ok (.iconst 0, 1) := by decide +kernel
theorem d_Rf_run_25 : decode m_Rf_run.2.1 25 = .ok (.iconst 1, 1) := by decide +kernel
theorem d_Rf_run_26 : decode m_Rf_run.2.1 26 = .ok (.invokestatic 66, 3) := by decide +kernel
theorem d_Rf_run_29 : decode m_Rf_run.2.1 29 = .ok (.ifCond .ne 6, 3) := by decide +kernel
theorem d_Rf_run_32 : decode m_Rf_run.2.1 32 = .ok (.bipush (-3), 2) := by decide +kernel
theorem d_Rf_run_34 : decode m_Rf_run.2.1 34 = .ok (.ireturn, 1) := by decide +kernel
theorem d_Rf_run_35 : decode m_Rf_run.2.1 35 = .ok (.iload 5, 2) := by decide +kernel
theorem d_Rf_run_37 : decode m_Rf_run.2.1 37 = .ok (.ifCond .ne 14, 3) := by decide +kernel
theorem d_Rf_run_40 : decode m_Rf_run.2.1 40 = .ok (.iload_n 1, 1) := by decide +kernel
theorem d_Rf_run_41 : decode m_Rf_run.2.1 41 = .ok (.iload_n 2, 1) := by decide +kernel
theorem d_Rf_run_42 : decode m_Rf_run.2.1 42 = .ok (.iload_n 3, 1) := by decide +kernel
theorem d_Rf_run_43 : decode m_Rf_run.2.1 43 = .ok (.iload 4, 2) := by decide +kernel
theorem d_Rf_run_45 : decode m_Rf_run.2.1 45 = .ok (.invokestatic 270, 3) := by decide +kernel
theorem d_Rf_run_48 : decode m_Rf_run.2.1 48 = .ok (.goto 5, 3) := by decide +kernel
theorem d_Rf_run_51 : decode m_Rf_run.2.1 51 = .ok (.iload 5, 2) := by decide +kernel
theorem d_Rf_run_53 : decode m_Rf_run.2.1 53 = .ok (.istore 7, 2) := by decide +kernel
theorem d_Rf_run_55 : decode m_Rf_run.2.1 55 = .ok (.iload_n 1, 1) := by decide +kernel
theorem d_Rf_run_56 : decode m_Rf_run.2.1 56 = .ok (.iload_n 2, 1) := by decide +kernel
theorem d_Rf_run_57 : decode m_Rf_run.2.1 57 = .ok (.iload_n 3, 1) := by decide +kernel
theorem d_Rf_run_58 : decode m_Rf_run.2.1 58 = .ok (.iload 4, 2) := by decide +kernel
theorem d_Rf_run_60 : decode m_Rf_run.2.1 60 = .ok (.iload 7, 2) := by decide +kernel
theorem d_Rf_run_62 : decode m_Rf_run.2.1 62 = .ok (.invokestatic 262, 3) := by decide +kernel
theorem d_Rf_run_65 : decode m_Rf_run.2.1 65 = .ok (.istore 8, 2) := by decide +kernel
theorem d_Rf_run_67 : decode m_Rf_run.2.1 67 = .ok (.iload 6, 2) := by decide +kernel
theorem d_Rf_run_69 : decode m_Rf_run.2.1 69 = .ok (.ifCond .ne 8, 3) := by decide +kernel
theorem d_Rf_run_72 : decode m_Rf_run.2.1 72 = .ok (.iload 8, 2) := by decide +kernel
theorem d_Rf_run_74 : decode m_Rf_run.2.1 74 = .ok (.goto 5, 3) := by decide +kernel
theorem d_Rf_run_77 : decode m_Rf_run.2.1 77 = .ok (.iload 7, 2) := by decide +kernel
theorem d_Rf_run_79 : decode m_Rf_run.2.1 79 = .ok (.iload 8, 2) := by decide +kernel
theorem d_Rf_run_81 : decode m_Rf_run.2.1 81 = .ok (.i2l, 1) := by decide +kernel
theorem d_Rf_run_82 : decode m_Rf_run.2.1 82 = .ok (.iload 7, 2) := by decide +kernel
theorem d_Rf_run_84 : decode m_Rf_run.2.1 84 = .ok (.i2l, 1) := by decide +kernel
theorem d_Rf_run_85 : decode m_Rf_run.2.1 85 = .ok (.invokestatic 273, 3) := by decide +kernel
theorem d_Rf_run_88 : decode m_Rf_run.2.1 88 = .ok (.l2i, 1) := by decide +kernel
theorem d_Rf_run_89 : decode m_Rf_run.2.1 89 = .ok (.idiv, 1) := by decide +kernel
theorem d_Rf_run_90 : decode m_Rf_run.2.1 90 = .ok (.ireturn, 1) := by decide +kernel
theorem g_Rf_run_0 {X : XS} (a1 : Int32) (a2 : Int32) (a3 : Int32) (a4 : Int32) (a5 : Int32) (a6 : Int32) (h : Hp) (Q : Option AV → Hp → Prop)  (k : (∃ Q'4, EvI X m_Rf_isRun [vI a1, vI a2, vI a3, vI a4] h Q'4 ∧ ∀ (r5 : Int32) (h3 : Hp), Q'4 r5 h3 → ((r5 = 0 → Q (some (vI (-3))) h3) ∧ (¬ r5 = 0 → (∃ Q'9, EvI X m_Rf_in [vI a5, vI 0, vI 20] h3 Q'9 ∧ ∀ (r10 : Int32) (h8 : Hp), Q'9 r10 h8 → ((r10 = 0 → Q (some (vI (-3))) h8) ∧ (¬ r10 = 0 → (∃ Q'14, EvI X m_Rf_in [vI a6, vI 0, vI 1] h8 Q'14 ∧ ∀ (r15 : Int32) (h13 : Hp), Q'14 r15 h13 → ((¬ r15 = 0 → ((¬ a5 = 0 → Rn X m_Rf_run 53 [some (vR [1]), some (vI a1), some (vI a2), some (vI a3), some (vI a4), some (vI a5), some (vI a6), none, none] [vI a5] h13 Q) ∧ (a5 = 0 → (∃ Q'19, EvI X m_Rf_bestPace [vI a1, vI a2, vI a3, vI a4] h13 Q'19 ∧ ∀ (r20 : Int32) (h18 : Hp), Q'19 r20 h18 → Rn X m_Rf_run 53 [some (vR [1]), some (vI a1), some (vI a2), some (vI a3), some (vI a4), some (vI a5), some (vI a6), none, none] [vI r20] h18 Q)))) ∧ (r15 = 0 → Q (some (vI (-3))) h13)))))))))) : Rn X m_Rf_run 0 [some (vR [1]), some (vI a1), some (vI a2), some (vI a3), some (vI a4), some (vI a5), some (vI a6), none, none] [] h Q := by
  refine Rn.iload_n (n := 1) (i := 1) d_Rf_run_0 rfl rfl rfl ?_
  refine Rn.iload_n (n := 2) (i := 2) d_Rf_run_1 rfl rfl rfl ?_
  refine Rn.iload_n (n := 3) (i := 3) d_Rf_run_2 rfl rfl rfl ?_
  refine Rn.iload (n := 5) (i := 4) d_Rf_run_3 rfl rfl ?_
  obtain ⟨Q'4, ev1, k⟩ := k
  refine Rn.callS (n := 8) (av := [vI a1, vI a2, vI a3, vI a4]) d_Rf_run_5 rfl ml_Rf_run_266 ms_Rf_isRun rfl rfl (Nat.le_of_ble_eq_true rfl) ev1 (fun v h3 hq => ?_)
  obtain ⟨r5, rfl, hq⟩ := hq
  have k := k r5 h3 hq
  show Rn X m_Rf_run 8 [some (vR [1]), some (vI a1), some (vI a2), some (vI a3), some (vI a4), some (vI a5), some (vI a6), none, none] [vI r5] h3 Q
  refine Rn.if_eq (n := 11) (t := 32) d_Rf_run_8 rfl (by decide) (fun cc => ?_) (fun cc => ?_)
  · have k := k.1 cc
    refine Rn.bipush (n := 34) (v := (-3)) d_Rf_run_32 rfl (by decide) ?_
    exact Rn.iret d_Rf_run_34 rfl rfl k
  · have k := k.2 cc
    refine Rn.iload (n := 13) (i := 5) d_Rf_run_11 rfl rfl ?_
    refine Rn.iconst (n := 14) (v := 0) d_Rf_run_13 rfl (by decide) ?_
    refine Rn.bipush (n := 16) (v := 20) d_Rf_run_14 rfl (by decide) ?_
    obtain ⟨Q'9, ev6, k⟩ := k
    refine Rn.callS (n := 19) (av := [vI a5, vI 0, vI 20]) d_Rf_run_16 rfl ml_Rf_run_66 ms_Rf_in rfl rfl (Nat.le_of_ble_eq_true rfl) ev6 (fun v h8 hq => ?_)
    obtain ⟨r10, rfl, hq⟩ := hq
    have k := k r10 h8 hq
    show Rn X m_Rf_run 19 [some (vR [1]), some (vI a1), some (vI a2), some (vI a3), some (vI a4), some (vI a5), some (vI a6), none, none] [vI r10] h8 Q
    refine Rn.if_eq (n := 22) (t := 32) d_Rf_run_19 rfl (by decide) (fun cc => ?_) (fun cc => ?_)
    · have k := k.1 cc
      refine Rn.bipush (n := 34) (v := (-3)) d_Rf_run_32 rfl (by decide) ?_
      exact Rn.iret d_Rf_run_34 rfl rfl k
    · have k := k.2 cc
      refine Rn.iload (n := 24) (i := 6) d_Rf_run_22 rfl rfl ?_
      refine Rn.iconst (n := 25) (v := 0) d_Rf_run_24 rfl (by decide) ?_
      refine Rn.iconst (n := 26) (v := 1) d_Rf_run_25 rfl (by decide) ?_
      obtain ⟨Q'14, ev11, k⟩ := k
      refine Rn.callS (n := 29) (av := [vI a6, vI 0, vI 1]) d_Rf_run_26 rfl ml_Rf_run_66 ms_Rf_in rfl rfl (Nat.le_of_ble_eq_true rfl) ev11 (fun v h13 hq => ?_)
      obtain ⟨r15, rfl, hq⟩ := hq
      have k := k r15 h13 hq
      show Rn X m_Rf_run 29 [some (vR [1]), some (vI a1), some (vI a2), some (vI a3), some (vI a4), some (vI a5), some (vI a6), none, none] [vI r15] h13 Q
      refine Rn.if_ne (n := 32) (t := 35) d_Rf_run_29 rfl (by decide) (fun cc => ?_) (fun cc => ?_)
      · have k := k.1 cc
        refine Rn.iload (n := 37) (i := 5) d_Rf_run_35 rfl rfl ?_
        refine Rn.if_ne (n := 40) (t := 51) d_Rf_run_37 rfl (by decide) (fun cc => ?_) (fun cc => ?_)
        · have k := k.1 cc
          refine Rn.iload (n := 53) (i := 5) d_Rf_run_51 rfl rfl ?_
          exact k
        · have k := k.2 cc
          refine Rn.iload_n (n := 41) (i := 1) d_Rf_run_40 rfl rfl rfl ?_
          refine Rn.iload_n (n := 42) (i := 2) d_Rf_run_41 rfl rfl rfl ?_
          refine Rn.iload_n (n := 43) (i := 3) d_Rf_run_42 rfl rfl rfl ?_
          refine Rn.iload (n := 45) (i := 4) d_Rf_run_43 rfl rfl ?_
          obtain ⟨Q'19, ev16, k⟩ := k
          refine Rn.callS (n := 48) (av := [vI a1, vI a2, vI a3, vI a4]) d_Rf_run_45 rfl ml_Rf_run_270 ms_Rf_bestPace rfl rfl (Nat.le_of_ble_eq_true rfl) ev16 (fun v h18 hq => ?_)
          obtain ⟨r20, rfl, hq⟩ := hq
          have k := k r20 h18 hq
          show Rn X m_Rf_run 48 [some (vR [1]), some (vI a1), some (vI a2), some (vI a3), some (vI a4), some (vI a5), some (vI a6), none, none] [vI r20] h18 Q
          refine Rn.goto (n := 53) d_Rf_run_48 (by decide) ?_
          exact k
      · have k := k.2 cc
        refine Rn.bipush (n := 34) (v := (-3)) d_Rf_run_32 rfl (by decide) ?_
        exact Rn.iret d_Rf_run_34 rfl rfl k
theorem g_Rf_run_53 {X : XS} (a1 : Int32) (a2 : Int32) (a3 : Int32) (a4 : Int32) (a5 : Int32) (a6 : Int32) (s0 : Int32) (h : Hp) (Q : Option AV → Hp → Prop)  (k : (∃ Q'4, EvI X m_Rf_runOf [vI a1, vI a2, vI a3, vI a4, vI s0] h Q'4 ∧ ∀ (r5 : Int32) (h3 : Hp), Q'4 r5 h3 → ((¬ a6 = 0 → Rn X m_Rf_run 79 [some (vR [1]), some (vI a1), some (vI a2), some (vI a3), some (vI a4), some (vI a5), some (vI a6), some (vI s0), some (vI r5)] [vI s0] h3 Q) ∧ (a6 = 0 → Rn X m_Rf_run 79 [some (vR [1]), some (vI a1), some (vI a2), some (vI a3), some (vI a4), some (vI a5), some (vI a6), some (vI s0), some (vI r5)] [vI r5] h3 Q)))) : Rn X m_Rf_run 53 [some (vR [1]), some (vI a1), some (vI a2), some (vI a3), some (vI a4), some (vI a5), some (vI a6), none, none] [vI s0] h Q := by
  refine Rn.istore (n := 55) (i := 7) (ls2 := [some (vR [1]), some (vI a1), some (vI a2), some (vI a3), some (vI a4), some (vI a5), some (vI a6), some (vI s0), none]) d_Rf_run_53 rfl (Nat.le_of_ble_eq_true rfl) rfl ?_
  refine Rn.iload_n (n := 56) (i := 1) d_Rf_run_55 rfl rfl rfl ?_
  refine Rn.iload_n (n := 57) (i := 2) d_Rf_run_56 rfl rfl rfl ?_
  refine Rn.iload_n (n := 58) (i := 3) d_Rf_run_57 rfl rfl rfl ?_
  refine Rn.iload (n := 60) (i := 4) d_Rf_run_58 rfl rfl ?_
  refine Rn.iload (n := 62) (i := 7) d_Rf_run_60 rfl rfl ?_
  obtain ⟨Q'4, ev1, k⟩ := k
  refine Rn.callS (n := 65) (av := [vI a1, vI a2, vI a3, vI a4, vI s0]) d_Rf_run_62 rfl ml_Rf_run_262 ms_Rf_runOf rfl rfl (Nat.le_of_ble_eq_true rfl) ev1 (fun v h3 hq => ?_)
  obtain ⟨r5, rfl, hq⟩ := hq
  have k := k r5 h3 hq
  show Rn X m_Rf_run 65 [some (vR [1]), some (vI a1), some (vI a2), some (vI a3), some (vI a4), some (vI a5), some (vI a6), some (vI s0), none] [vI r5] h3 Q
  refine Rn.istore (n := 67) (i := 8) (ls2 := [some (vR [1]), some (vI a1), some (vI a2), some (vI a3), some (vI a4), some (vI a5), some (vI a6), some (vI s0), some (vI r5)]) d_Rf_run_65 rfl (Nat.le_of_ble_eq_true rfl) rfl ?_
  refine Rn.iload (n := 69) (i := 6) d_Rf_run_67 rfl rfl ?_
  refine Rn.if_ne (n := 72) (t := 77) d_Rf_run_69 rfl (by decide) (fun cc => ?_) (fun cc => ?_)
  · have k := k.1 cc
    refine Rn.iload (n := 79) (i := 7) d_Rf_run_77 rfl rfl ?_
    exact k
  · have k := k.2 cc
    refine Rn.iload (n := 74) (i := 8) d_Rf_run_72 rfl rfl ?_
    refine Rn.goto (n := 79) d_Rf_run_74 (by decide) ?_
    exact k
theorem g_Rf_run_79 {X : XS} (a1 : Int32) (a2 : Int32) (a3 : Int32) (a4 : Int32) (a5 : Int32) (a6 : Int32) (a7 : Int32) (a8 : Int32) (s0 : Int32) (h : Hp) (Q : Option AV → Hp → Prop)  (k : (∃ Q'4, EvL X m_Rf_gcd [vL a8.toInt64, vL a7.toInt64] h Q'4 ∧ ∀ (r5 : Int64) (h3 : Hp), Q'4 r5 h3 → (¬ r5.toInt32 = 0 ∧ Q (some (vI (s0 / r5.toInt32))) h3))) : Rn X m_Rf_run 79 [some (vR [1]), some (vI a1), some (vI a2), some (vI a3), some (vI a4), some (vI a5), some (vI a6), some (vI a7), some (vI a8)] [vI s0] h Q := by
  refine Rn.iload (n := 81) (i := 8) d_Rf_run_79 rfl rfl ?_
  refine Rn.i2l (n := 82) d_Rf_run_81 rfl ?_
  refine Rn.iload (n := 84) (i := 7) d_Rf_run_82 rfl rfl ?_
  refine Rn.i2l (n := 85) d_Rf_run_84 rfl ?_
  obtain ⟨Q'4, ev1, k⟩ := k
  refine Rn.callS (n := 88) (av := [vL a8.toInt64, vL a7.toInt64]) d_Rf_run_85 rfl ml_Rf_run_273 ms_Rf_gcd rfl rfl (Nat.le_of_ble_eq_true rfl) ev1 (fun v h3 hq => ?_)
  obtain ⟨r5, rfl, hq⟩ := hq
  have k := k r5 h3 hq
  show Rn X m_Rf_run 88 [some (vR [1]), some (vI a1), some (vI a2), some (vI a3), some (vI a4), some (vI a5), some (vI a6), some (vI a7), some (vI a8)] [vL r5, vI s0] h3 Q
  refine Rn.l2i (n := 89) d_Rf_run_88 rfl ?_
  obtain ⟨z6, k⟩ := k
  refine Rn.idiv (n := 90) d_Rf_run_89 rfl z6 ?_
  exact Rn.iret d_Rf_run_90 rfl rfl k
theorem e_Rf_run {X : XS} (a1 : Int32) (a2 : Int32) (a3 : Int32) (a4 : Int32) (a5 : Int32) (a6 : Int32) (h : Hp) (Q : Option AV → Hp → Prop) (k : Rn X m_Rf_run 0 [some (vR [1]), some (vI a1), some (vI a2), some (vI a3), some (vI a4), some (vI a5), some (vI a6), none, none] [] h Q) : Ev X m_Rf_run [vR [1], vI a1, vI a2, vI a3, vI a4, vI a5, vI a6] h Q := Ev.intro (plainFor_of_name (by decide +kernel)) (Nat.le_of_ble_eq_true rfl) (ls := [some (vR [1]), some (vI a1), some (vI a2), some (vI a3), some (vI a4), some (vI a5), some (vI a6), none, none]) rfl k
theorem d_Rf_pace_0 : decode m_Rf_pace.2.1 0 = .ok (.iload_n 1, 1) := by decide +kernel
theorem d_Rf_pace_1 : decode m_Rf_pace.2.1 1 = .ok (.iload_n 2, 1) := by decide +kernel
theorem d_Rf_pace_2 : decode m_Rf_pace.2.1 2 = .ok (.iload_n 3, 1) := by decide +kernel
theorem d_Rf_pace_3 : decode m_Rf_pace.2.1 3 = .ok (.iload 4, 2) := by decide +kernel
theorem d_Rf_pace_5 : decode m_Rf_pace.2.1 5 = .ok (.invokestatic 266, 3) := by decide +kernel
theorem d_Rf_pace_8 : decode m_Rf_pace.2.1 8 = .ok (.ifCond .eq 14, 3) := by decide +kernel
theorem d_Rf_pace_11 : decode m_Rf_pace.2.1 11 = .ok (.iload_n 1, 1) := by decide +kernel
theorem d_Rf_pace_12 : decode m_Rf_pace.2.1 12 = .ok (.iload_n 2, 1) := by decide +kernel
theorem d_Rf_pace_13 : decode m_Rf_pace.2.1 13 = .ok (.iload_n 3, 1) := by decide +kernel
theorem d_Rf_pace_14 : decode m_Rf_pace.2.1 14 = .ok (.iload 4, 2) := by decide +kernel
theorem d_Rf_pace_16 : decode m_Rf_pace.2.1 16 = .ok (.invokestatic 270, 3) := by decide +kernel
theorem d_Rf_pace_19 : decode m_Rf_pace.2.1 19 = .ok (.goto 5, 3) := by decide +kernel
theorem d_Rf_pace_22 : decode m_Rf_pace.2.1 22 = .ok (.bipush (-3), 2) := by decide +kernel
theorem d_Rf_pace_24 : decode m_Rf_pace.2.1 24 = .ok (.ireturn, 1) := by decide +kernel
theorem g_Rf_pace_0 {X : XS} (a1 : Int32) (a2 : Int32) (a3 : Int32) (a4 : Int32) (h : Hp) (Q : Option AV → Hp → Prop)  (k : (∃ Q'4, EvI X m_Rf_isRun [vI a1, vI a2, vI a3, vI a4] h Q'4 ∧ ∀ (r5 : Int32) (h3 : Hp), Q'4 r5 h3 → ((r5 = 0 → Q (some (vI (-3))) h3) ∧ (¬ r5 = 0 → (∃ Q'9, EvI X m_Rf_bestPace [vI a1, vI a2, vI a3, vI a4] h3 Q'9 ∧ ∀ (r10 : Int32) (h8 : Hp), Q'9 r10 h8 → Q (some (vI r10)) h8))))) : Rn X m_Rf_pace 0 [some (vR [1]), some (vI a1), some (vI a2), some (vI a3), some (vI a4)] [] h Q := by
  refine Rn.iload_n (n := 1) (i := 1) d_Rf_pace_0 rfl rfl rfl ?_
  refine Rn.iload_n (n := 2) (i := 2) d_Rf_pace_1 rfl rfl rfl ?_
  refine Rn.iload_n (n := 3) (i := 3) d_Rf_pace_2 rfl rfl rfl ?_
  refine Rn.iload (n := 5) (i := 4) d_Rf_pace_3 rfl rfl ?_
  obtain ⟨Q'4, ev1, k⟩ := k
  refine Rn.callS (n := 8) (av := [vI a1, vI a2, vI a3, vI a4]) d_Rf_pace_5 rfl ml_Rf_pace_266 ms_Rf_isRun rfl rfl (Nat.le_of_ble_eq_true rfl) ev1 (fun v h3 hq => ?_)
  obtain ⟨r5, rfl, hq⟩ := hq
  have k := k r5 h3 hq
  show Rn X m_Rf_pace 8 [some (vR [1]), some (vI a1), some (vI a2), some (vI a3), some (vI a4)] [vI r5] h3 Q
  refine Rn.if_eq (n := 11) (t := 22) d_Rf_pace_8 rfl (by decide) (fun cc => ?_) (fun cc => ?_)
  · have k := k.1 cc
    refine Rn.bipush (n := 24) (v := (-3)) d_Rf_pace_22 rfl (by decide) ?_
    exact Rn.iret d_Rf_pace_24 rfl rfl k
  · have k := k.2 cc
    refine Rn.iload_n (n := 12) (i := 1) d_Rf_pace_11 rfl rfl rfl ?_
    refine Rn.iload_n (n := 13) (i := 2) d_Rf_pace_12 rfl rfl rfl ?_
    refine Rn.iload_n (n := 14) (i := 3) d_Rf_pace_13 rfl rfl rfl ?_
    refine Rn.iload (n := 16) (i := 4) d_Rf_pace_14 rfl rfl ?_
    obtain ⟨Q'9, ev6, k⟩ := k
    refine Rn.callS (n := 19) (av := [vI a1, vI a2, vI a3, vI a4]) d_Rf_pace_16 rfl ml_Rf_pace_270 ms_Rf_bestPace rfl rfl (Nat.le_of_ble_eq_true rfl) ev6 (fun v h8 hq => ?_)
    obtain ⟨r10, rfl, hq⟩ := hq
    have k := k r10 h8 hq
    show Rn X m_Rf_pace 19 [some (vR [1]), some (vI a1), some (vI a2), some (vI a3), some (vI a4)] [vI r10] h8 Q
    refine Rn.goto (n := 24) d_Rf_pace_19 (by decide) ?_
    exact Rn.iret d_Rf_pace_24 rfl rfl k
theorem e_Rf_pace {X : XS} (a1 : Int32) (a2 : Int32) (a3 : Int32) (a4 : Int32) (h : Hp) (Q : Option AV → Hp → Prop) (k : Rn X m_Rf_pace 0 [some (vR [1]), some (vI a1), some (vI a2), some (vI a3), some (vI a4)] [] h Q) : Ev X m_Rf_pace [vR [1], vI a1, vI a2, vI a3, vI a4] h Q := Ev.intro (plainFor_of_name (by decide +kernel)) (Nat.le_of_ble_eq_true rfl) (ls := [some (vR [1]), some (vI a1), some (vI a2), some (vI a3), some (vI a4)]) rfl k
theorem d_Rf_door_0 : decode m_Rf_door.2.1 0 = .ok (.iload_n 1, 1) := by decide +kernel
theorem d_Rf_door_1 : decode m_Rf_door.2.1 1 = .ok (.iconst 0, 1) := by decide +kernel
theorem d_Rf_door_2 : decode m_Rf_door.2.1 2 = .ok (.bipush 10, 2) := by decide +kernel
theorem d_Rf_door_4 : decode m_Rf_door.2.1 4 = .ok (.invokestatic 66, 3) := by decide +kernel
theorem d_Rf_door_7 : decode m_Rf_door.2.1 7 = .ok (.ifCond .eq 45, 3) := by decide +kernel
theorem d_Rf_door_10 : decode m_Rf_door.2.1 10 = .ok (.iload_n 2, 1) := by decide +kernel
theorem d_Rf_door_11 : decode m_Rf_door.2.1 11 = .ok (.iconst 0, 1) := by decide +kernel
theorem d_Rf_door_12 : decode m_Rf_door.2.1 12 = .ok (.bipush 10, 2) := by decide +kernel
theorem d_Rf_door_14 : decode m_Rf_door.2.1 14 = .ok (.invokestatic 66, 3) := by decide +kernel
theorem d_Rf_door_17 : decode m_Rf_door.2.1 17 = .ok (.ifCond .eq 35, 3) := by decide +kernel
theorem d_Rf_door_20 : decode m_Rf_door.2.1 20 = .ok (.iload_n 3, 1) := by decide +kernel
theorem d_Rf_door_21 : decode m_Rf_door.2.1 21 = .ok (.iconst 0, 1) := by decide +kernel
theorem d_Rf_door_22 : decode m_Rf_door.2.1 22 = .ok (.sipush 999, 3) := by decide +kernel
theorem d_Rf_door_25 : decode m_Rf_door.2.1 25 = .ok (.invokestatic 66, 3) := by decide +kernel
theorem d_Rf_door_28 : decode m_Rf_door.2.1 28 = .ok (.ifCond .eq 24, 3) := by decide +kernel
theorem d_Rf_door_31 : decode m_Rf_door.2.1 31 = .ok (.iload 4, 2) := by decide +kernel
theorem d_Rf_door_33 : decode m_Rf_door.2.1 33 = .ok (.iconst 0, 1) := by decide +kernel
theorem d_Rf_door_34 : decode m_Rf_door.2.1 34 = .ok (.bipush 8, 2) := by decide +kernel
theorem d_Rf_door_36 : decode m_Rf_door.2.1 36 = .ok (.invokestatic 66, 3) := by decide +kernel
theorem d_Rf_door_39 : decode m_Rf_door.2.1 39 = .ok (.ifCond .eq 13, 3) := by decide +kernel
theorem d_Rf_door_42 : decode m_Rf_door.2.1 42 = .ok (.iload 5, 2) := by decide +kernel
theorem d_Rf_door_44 : decode m_Rf_door.2.1 44 = .ok (.iconst 0, 1) := by decide +kernel
theorem d_Rf_door_45 : decode m_Rf_door.2.1 45 = .ok (.iconst 2, 1) := by decide +kernel
theorem d_Rf_door_46 : decode m_Rf_door.2.1 46 = .ok (.invokestatic 66, 3) := by decide +kernel
theorem d_Rf_door_49 : decode m_Rf_door.2.1 49 = .ok (.ifCond .ne 7, 3) := by decide +kernel
theorem d_Rf_door_52 : decode m_Rf_door.2.1 52 = .ok (.ldc2_w 108, 3) := by decide +kernel
theorem d_Rf_door_55 : decode m_Rf_door.2.1 55 = .ok (.lreturn, 1) := by decide +kernel
theorem d_Rf_door_56 : decode m_Rf_door.2.1 56 = .ok (.ldc2_w 277, 3) := by decide +kernel
theorem d_Rf_door_59 : decode m_Rf_door.2.1 59 = .ok (.lstore 6, 2) := by decide +kernel
theorem d_Rf_door_61 : decode m_Rf_door.2.1 61 = .ok (.ldc2_w 277, 3) := by decide +kernel
theorem d_Rf_door_64 : decode m_Rf_door.2.1 64 = .ok (.iload_n 3, 1) := by decide +kernel
theorem d_Rf_door_65 : decode m_Rf_door.2.1 65 = .ok (.i2l, 1) := by decide +kernel
theorem d_Rf_door_66 : decode m_Rf_door.2.1 66 = .ok (.lmul, 1) := by decide +kernel
theorem d_Rf_door_67 : decode m_Rf_door.2.1 67 = .ok (.lstore 8, 2) := by decide +kernel
theorem d_Rf_door_69 : decode m_Rf_door.2.1 69 = .ok (.iconst 0, 1) := by decide +kernel
theorem d_Rf_door_70 : decode m_Rf_door.2.1 70 = .ok (.istore 10, 2) := by decide +kernel
theorem d_Rf_door_72 : decode m_Rf_door.2.1 72 = .ok (.iconst 0, 1) := by decide +kernel
theorem d_Rf_door_73 : decode m_Rf_door.2.1 73 = .ok (.istore 11, 2) := by decide +kernel
theorem d_Rf_door_75 : decode m_Rf_door.2.1 75 = .ok (.iload 11, 2) := by decide +kernel
theorem d_Rf_door_77 : decode m_Rf_door.2.1 77 = .ok (.iload 4, 2) := by decide +kernel
theorem d_Rf_door_79 : decode m_Rf_door.2.1 79 = .ok (.if_icmp .ge 104, 3) := by decide +kernel
theorem d_Rf_door_82 : decode m_Rf_door.2.1 82 = .ok (.ldc2_w 279, 3) := by decide +kernel
theorem d_Rf_door_85 : decode m_Rf_door.2.1 85 = .ok (.lload 6, 2) := by decide +kernel
theorem d_Rf_door_87 : decode m_Rf_door.2.1 87 = .ok (.lmul, 1) := by decide +kernel
theorem d_Rf_door_88 : decode m_Rf_door.2.1 88 = .ok (.ldc2_w 279, 3) := by decide +kernel
theorem d_Rf_door_91 : decode m_Rf_door.2.1 91 = .ok (.lload 6, 2) := by decide +kernel
theorem d_Rf_door_93 : decode m_Rf_door.2.1 93 = .ok (.lmul, 1) := by decide +kernel
theorem d_Rf_door_94 : decode m_Rf_door.2.1 94 = .ok (.ldc2_w 277, 3) := by decide +kernel
theorem d_Rf_door_97 : decode m_Rf_door.2.1 97 = .ok (.ldiv, 1) := by decide +kernel
theorem d_Rf_door_98 : decode m_Rf_door.2.1 98 = .ok (.iload_n 1, 1) := by decide +kernel
theorem d_Rf_door_99 : decode m_Rf_door.2.1 99 = .ok (.i2l, 1) := by decide +kernel
theorem d_Rf_door_100 : decode m_Rf_door.2.1 100 = .ok (.lmul, 1) := by decide +kernel
theorem d_Rf_door_101 : decode m_Rf_door.2.1 101 = .ok (.iload_n 2, 1) := by decide +kernel
theorem d_Rf_door_102 : decode m_Rf_door.2.1 102 = .ok (.i2l, 1) := by decide +kernel
theorem d_Rf_door_103 : decode m_Rf_door.2.1 103 = .ok (.lmul, 1) := by decide +kernel
theorem d_Rf_door_104 : decode m_Rf_door.2.1 104 = .ok (.iload_n 3, 1) := by decide +kernel
theorem d_Rf_door_105 : decode m_Rf_door.2.1 105 = .ok (.i2l, 1) := by decide +kernel
theorem d_Rf_door_106 : decode m_Rf_door.2.1 106 = .ok (.lmul, 1) := by decide +kernel
theorem d_Rf_door_107 : decode m_Rf_door.2.1 107 = .ok (.ladd, 1) := by decide +kernel
theorem d_Rf_door_108 : decode m_Rf_door.2.1 108 = .ok (.bipush 10, 2) := by decide +kernel
theorem d_Rf_door_110 : decode m_Rf_door.2.1 110 = .ok (.iload_n 1, 1) := by decide +kernel
theorem d_Rf_door_111 : decode m_Rf_door.2.1 111 = .ok (.isub, 1) := by decide +kernel
theorem d_Rf_door_112 : decode m_Rf_door.2.1 112 = .ok (.i2l, 1) := by decide +kernel
theorem d_Rf_door_113 : decode m_Rf_door.2.1 113 = .ok (.lload 8, 2) := by decide +kernel
theorem d_Rf_door_115 : decode m_Rf_door.2.1 115 = .ok (.lmul, 1) := by decide +kernel
theorem d_Rf_door_116 : decode m_Rf_door.2.1 116 = .ok (.ladd, 1) := by decide +kernel
theorem d_Rf_door_117 : decode m_Rf_door.2.1 117 = .ok (.lstore 12, 2) := by decide +kernel
theorem d_Rf_door_119 : decode m_Rf_door.2.1 119 = .ok (.lload 6, 2) := by decide +kernel
theorem d_Rf_door_121 : decode m_Rf_door.2.1 121 = .ok (.ldc2_w 279, 3) := by decide +kernel
theorem d_Rf_door_124 : decode m_Rf_door.2.1 124 = .ok (.lmul, 1) := by decide +kernel
theorem d_Rf_door_125 : decode m_Rf_door.2.1 125 = .ok (.lstore 6, 2) := by decide +kernel
theorem d_Rf_door_127 : decode m_Rf_door.2.1 127 = .ok (.lload 12, 2) := by decide +kernel
theorem d_Rf_door_129 : decode m_Rf_door.2.1 129 = .ok (.lload 6, 2) := by decide +kernel
theorem d_Rf_door_131 : decode m_Rf_door.2.1 131 = .ok (.iload_n 3, 1) := by decide +kernel
theorem d_Rf_door_132 : decode m_Rf_door.2.1 132 = .ok (.i2l, 1) := by decide +kernel
theorem d_Rf_door_133 : decode m_Rf_door.2.1 133 = .ok (.lmul, 1) := by decide +kernel
theorem d_Rf_door_134 : decode m_Rf_door.2.1 134 = .ok (.lcmp, 1) := by decide +kernel
theorem d_Rf_door_135 : decode m_Rf_door.2.1 135 = .ok (.ifCond .ge 7, 3) := by decide +kernel
theorem d_Rf_door_138 : decode m_Rf_door.2.1 138 = .ok (.iconst 1, 1) := by decide +kernel
theorem d_Rf_door_139 : decode m_Rf_door.2.1 139 = .ok (.goto 4, 3) := by decide +kernel
theorem d_Rf_door_142 : decode m_Rf_door.2.1 142 = .ok (.iconst 0, 1) := by decide +kernel
theorem d_Rf_door_143 : decode m_Rf_door.2.1 143 = .ok (.istore 14, 2) := by decide +kernel
theorem d_Rf_door_145 : decode m_Rf_door.2.1 145 = .ok (.iload 14, 2) := by decide +kernel
theorem d_Rf_door_147 : decode m_Rf_door.2.1 147 = .ok (.ifCond .eq 8, 3) := by decide +kernel
theorem d_Rf_door_150 : decode m_Rf_door.2.1 150 = .ok (.lload 12, 2) := by decide +kernel
theorem d_Rf_door_152 : decode m_Rf_door.2.1 152 = .ok (.goto 8, 3) := by decide +kernel
theorem d_Rf_door_155 : decode m_Rf_door.2.1 155 = .ok (.lload 6, 2) := by decide +kernel
theorem d_Rf_door_157 : decode m_Rf_door.2.1 157 = .ok (.iload_n 3, 1) := by decide +kernel
theorem d_Rf_door_158 : decode m_Rf_door.2.1 158 = .ok (.i2l, 1) := by decide +kernel
theorem d_Rf_door_159 : decode m_Rf_door.2.1 159 = .ok (.lmul, 1) := by decide +kernel
theorem d_Rf_door_160 : decode m_Rf_door.2.1 160 = .ok (.lstore 8, 2) := by decide +kernel
theorem d_Rf_door_162 : decode m_Rf_door.2.1 162 = .ok (.iload 14, 2) := by decide +kernel
theorem d_Rf_door_164 : decode m_Rf_door.2.1 164 = .ok (.ifCond .eq 10, 3) := by decide +kernel
theorem d_Rf_door_167 : decode m_Rf_door.2.1 167 = .ok (.iload 10, 2) := by decide +kernel
theorem d_Rf_door_169 : decode m_Rf_door.2.1 169 = .ok (.iconst 1, 1) := by decide +kernel
theorem d_Rf_door_170 : decode m_Rf_door.2.1 170 = .ok (.iadd, 1) := by decide +kernel
theorem d_Rf_door_171 : decode m_Rf_door.2.1 171 = .ok (.goto 4, 3) := by decide +kernel
theorem d_Rf_door_174 : decode m_Rf_door.2.1 174 = .ok (.iconst 0, 1) := by decide +kernel
theorem d_Rf_door_175 : decode m_Rf_door.2.1 175 = .ok (.istore 10, 2) := by decide +kernel
theorem d_Rf_door_177 : decode m_Rf_door.2.1 177 = .ok (.iinc 11 1, 3) := by decide +kernel
theorem d_Rf_door_180 : decode m_Rf_door.2.1 180 = .ok (.goto (-105), 3) := by decide +kernel
theorem d_Rf_door_183 : decode m_Rf_door.2.1 183 = .ok (.iload 5, 2) := by decide +kernel
theorem d_Rf_door_185 : decode m_Rf_door.2.1 185 = .ok (.iconst 2, 1) := by decide +kernel
theorem d_Rf_door_186 : decode m_Rf_door.2.1 186 = .ok (.if_icmp .ne 9, 3) := by decide +kernel
theorem d_Rf_door_189 : decode m_Rf_door.2.1 189 = .ok (.iload 10, 2) := by decide +kernel
theorem d_Rf_door_191 : decode m_Rf_door.2.1 191 = .ok (.i2l, 1) := by decide +kernel
theorem d_Rf_door_192 : decode m_Rf_door.2.1 192 = .ok (.goto 23, 3) := by decide +kernel
theorem d_Rf_door_195 : decode m_Rf_door.2.1 195 = .ok (.iload 5, 2) := by decide +kernel
theorem d_Rf_door_197 : decode m_Rf_door.2.1 197 = .ok (.ifCond .ne 8, 3) := by decide +kernel
theorem d_Rf_door_200 : decode m_Rf_door.2.1 200 = .ok (.lload 8, 2) := by decide +kernel
theorem d_Rf_door_202 : decode m_Rf_door.2.1 202 = .ok (.goto 5, 3) := by decide +kernel
theorem d_Rf_door_205 : decode m_Rf_door.2.1 205 = .ok (.lload 6, 2) := by decide +kernel
theorem d_Rf_door_207 : decode m_Rf_door.2.1 207 = .ok (.lload 8, 2) := by decide +kernel
theorem d_Rf_door_209 : decode m_Rf_door.2.1 209 = .ok (.lload 6, 2) := by decide +kernel
theorem d_Rf_door_211 : decode m_Rf_door.2.1 211 = .ok (.invokestatic 273, 3) := by decide +kernel
theorem d_Rf_door_214 : decode m_Rf_door.2.1 214 = .ok (.ldiv, 1) := by decide +kernel
theorem d_Rf_door_215 : decode m_Rf_door.2.1 215 = .ok (.lreturn, 1) := by decide +kernel
theorem g_Rf_door_0 {X : XS} (a1 : Int32) (a2 : Int32) (a3 : Int32) (a4 : Int32) (a5 : Int32) (h : Hp) (Q : Option AV → Hp → Prop)  (k : (∃ Q'4, EvI X m_Rf_in [vI a1, vI 0, vI 10] h Q'4 ∧ ∀ (r5 : Int32) (h3 : Hp), Q'4 r5 h3 → ((r5 = 0 → Q (some (vL (-3))) h3) ∧ (¬ r5 = 0 → (∃ Q'9, EvI X m_Rf_in [vI a2, vI 0, vI 10] h3 Q'9 ∧ ∀ (r10 : Int32) (h8 : Hp), Q'9 r10 h8 → ((r10 = 0 → Q (some (vL (-3))) h8) ∧ (¬ r10 = 0 → (∃ Q'14, EvI X m_Rf_in [vI a3, vI 0, vI 999] h8 Q'14 ∧ ∀ (r15 : Int32) (h13 : Hp), Q'14 r15 h13 → ((r15 = 0 → Q (some (vL (-3))) h13) ∧ (¬ r15 = 0 → (∃ Q'19, EvI X m_Rf_in [vI a4, vI 0, vI 8] h13 Q'19 ∧ ∀ (r20 : Int32) (h18 : Hp), Q'19 r20 h18 → ((r20 = 0 → Q (some (vL (-3))) h18) ∧ (¬ r20 = 0 → (∃ Q'24, EvI X m_Rf_in [vI a5, vI 0, vI 2] h18 Q'24 ∧ ∀ (r25 : Int32) (h23 : Hp), Q'24 r25 h23 → ((¬ r25 = 0 → Rn X m_Rf_door 75 [some (vR [1]), some (vI a1), some (vI a2), some (vI a3), some (vI a4), some (vI a5), some (vL 100), none, some (vL (100 * a3.toInt64)), none, some (vI 0), some (vI 0), none, none, none] [] h23 Q) ∧ (r25 = 0 → Q (some (vL (-3))) h23)))))))))))))))) : Rn X m_Rf_door 0 [some (vR [1]), some (vI a1), some (vI a2), some (vI a3), some (vI a4), some (vI a5), none, none, none, none, none, none, none, none, none] [] h Q := by
  refine Rn.iload_n (n := 1) (i := 1) d_Rf_door_0 rfl rfl rfl ?_
  refine Rn.iconst (n := 2) (v := 0) d_Rf_door_1 rfl (by decide) ?_
  refine Rn.bipush (n := 4) (v := 10) d_Rf_door_2 rfl (by decide) ?_
  obtain ⟨Q'4, ev1, k⟩ := k
  refine Rn.callS (n := 7) (av := [vI a1, vI 0, vI 10]) d_Rf_door_4 rfl ml_Rf_door_66 ms_Rf_in rfl rfl (Nat.le_of_ble_eq_true rfl) ev1 (fun v h3 hq => ?_)
  obtain ⟨r5, rfl, hq⟩ := hq
  have k := k r5 h3 hq
  show Rn X m_Rf_door 7 [some (vR [1]), some (vI a1), some (vI a2), some (vI a3), some (vI a4), some (vI a5), none, none, none, none, none, none, none, none, none] [vI r5] h3 Q
  refine Rn.if_eq (n := 10) (t := 52) d_Rf_door_7 rfl (by decide) (fun cc => ?_) (fun cc => ?_)
  · have k := k.1 cc
    refine Rn.ldc2 (n := 55) (v := (-3)) d_Rf_door_52 rfl cl_Rf_108 ?_
    exact Rn.lret d_Rf_door_55 rfl k
  · have k := k.2 cc
    refine Rn.iload_n (n := 11) (i := 2) d_Rf_door_10 rfl rfl rfl ?_
    refine Rn.iconst (n := 12) (v := 0) d_Rf_door_11 rfl (by decide) ?_
    refine Rn.bipush (n := 14) (v := 10) d_Rf_door_12 rfl (by decide) ?_
    obtain ⟨Q'9, ev6, k⟩ := k
    refine Rn.callS (n := 17) (av := [vI a2, vI 0, vI 10]) d_Rf_door_14 rfl ml_Rf_door_66 ms_Rf_in rfl rfl (Nat.le_of_ble_eq_true rfl) ev6 (fun v h8 hq => ?_)
    obtain ⟨r10, rfl, hq⟩ := hq
    have k := k r10 h8 hq
    show Rn X m_Rf_door 17 [some (vR [1]), some (vI a1), some (vI a2), some (vI a3), some (vI a4), some (vI a5), none, none, none, none, none, none, none, none, none] [vI r10] h8 Q
    refine Rn.if_eq (n := 20) (t := 52) d_Rf_door_17 rfl (by decide) (fun cc => ?_) (fun cc => ?_)
    · have k := k.1 cc
      refine Rn.ldc2 (n := 55) (v := (-3)) d_Rf_door_52 rfl cl_Rf_108 ?_
      exact Rn.lret d_Rf_door_55 rfl k
    · have k := k.2 cc
      refine Rn.iload_n (n := 21) (i := 3) d_Rf_door_20 rfl rfl rfl ?_
      refine Rn.iconst (n := 22) (v := 0) d_Rf_door_21 rfl (by decide) ?_
      refine Rn.sipush (n := 25) (v := 999) d_Rf_door_22 rfl (by decide) ?_
      obtain ⟨Q'14, ev11, k⟩ := k
      refine Rn.callS (n := 28) (av := [vI a3, vI 0, vI 999]) d_Rf_door_25 rfl ml_Rf_door_66 ms_Rf_in rfl rfl (Nat.le_of_ble_eq_true rfl) ev11 (fun v h13 hq => ?_)
      obtain ⟨r15, rfl, hq⟩ := hq
      have k := k r15 h13 hq
      show Rn X m_Rf_door 28 [some (vR [1]), some (vI a1), some (vI a2), some (vI a3), some (vI a4), some (vI a5), none, none, none, none, none, none, none, none, none] [vI r15] h13 Q
      refine Rn.if_eq (n := 31) (t := 52) d_Rf_door_28 rfl (by decide) (fun cc => ?_) (fun cc => ?_)
      · have k := k.1 cc
        refine Rn.ldc2 (n := 55) (v := (-3)) d_Rf_door_52 rfl cl_Rf_108 ?_
        exact Rn.lret d_Rf_door_55 rfl k
      · have k := k.2 cc
        refine Rn.iload (n := 33) (i := 4) d_Rf_door_31 rfl rfl ?_
        refine Rn.iconst (n := 34) (v := 0) d_Rf_door_33 rfl (by decide) ?_
        refine Rn.bipush (n := 36) (v := 8) d_Rf_door_34 rfl (by decide) ?_
        obtain ⟨Q'19, ev16, k⟩ := k
        refine Rn.callS (n := 39) (av := [vI a4, vI 0, vI 8]) d_Rf_door_36 rfl ml_Rf_door_66 ms_Rf_in rfl rfl (Nat.le_of_ble_eq_true rfl) ev16 (fun v h18 hq => ?_)
        obtain ⟨r20, rfl, hq⟩ := hq
        have k := k r20 h18 hq
        show Rn X m_Rf_door 39 [some (vR [1]), some (vI a1), some (vI a2), some (vI a3), some (vI a4), some (vI a5), none, none, none, none, none, none, none, none, none] [vI r20] h18 Q
        refine Rn.if_eq (n := 42) (t := 52) d_Rf_door_39 rfl (by decide) (fun cc => ?_) (fun cc => ?_)
        · have k := k.1 cc
          refine Rn.ldc2 (n := 55) (v := (-3)) d_Rf_door_52 rfl cl_Rf_108 ?_
          exact Rn.lret d_Rf_door_55 rfl k
        · have k := k.2 cc
          refine Rn.iload (n := 44) (i := 5) d_Rf_door_42 rfl rfl ?_
          refine Rn.iconst (n := 45) (v := 0) d_Rf_door_44 rfl (by decide) ?_
          refine Rn.iconst (n := 46) (v := 2) d_Rf_door_45 rfl (by decide) ?_
          obtain ⟨Q'24, ev21, k⟩ := k
          refine Rn.callS (n := 49) (av := [vI a5, vI 0, vI 2]) d_Rf_door_46 rfl ml_Rf_door_66 ms_Rf_in rfl rfl (Nat.le_of_ble_eq_true rfl) ev21 (fun v h23 hq => ?_)
          obtain ⟨r25, rfl, hq⟩ := hq
          have k := k r25 h23 hq
          show Rn X m_Rf_door 49 [some (vR [1]), some (vI a1), some (vI a2), some (vI a3), some (vI a4), some (vI a5), none, none, none, none, none, none, none, none, none] [vI r25] h23 Q
          refine Rn.if_ne (n := 52) (t := 56) d_Rf_door_49 rfl (by decide) (fun cc => ?_) (fun cc => ?_)
          · have k := k.1 cc
            refine Rn.ldc2 (n := 59) (v := 100) d_Rf_door_56 rfl cl_Rf_277 ?_
            refine Rn.lstore (n := 61) (i := 6) (ls2 := [some (vR [1]), some (vI a1), some (vI a2), some (vI a3), some (vI a4), some (vI a5), some (vL 100), none, none, none, none, none, none, none, none]) d_Rf_door_59 rfl (Nat.le_of_ble_eq_true rfl) rfl ?_
            refine Rn.ldc2 (n := 64) (v := 100) d_Rf_door_61 rfl cl_Rf_277 ?_
            refine Rn.iload_n (n := 65) (i := 3) d_Rf_door_64 rfl rfl rfl ?_
            refine Rn.i2l (n := 66) d_Rf_door_65 rfl ?_
            refine Rn.lmul (n := 67) d_Rf_door_66 rfl ?_
            refine Rn.lstore (n := 69) (i := 8) (ls2 := [some (vR [1]), some (vI a1), some (vI a2), some (vI a3), some (vI a4), some (vI a5), some (vL 100), none, some (vL (100 * a3.toInt64)), none, none, none, none, none, none]) d_Rf_door_67 rfl (Nat.le_of_ble_eq_true rfl) rfl ?_
            refine Rn.iconst (n := 70) (v := 0) d_Rf_door_69 rfl (by decide) ?_
            refine Rn.istore (n := 72) (i := 10) (ls2 := [some (vR [1]), some (vI a1), some (vI a2), some (vI a3), some (vI a4), some (vI a5), some (vL 100), none, some (vL (100 * a3.toInt64)), none, some (vI 0), none, none, none, none]) d_Rf_door_70 rfl (Nat.le_of_ble_eq_true rfl) rfl ?_
            refine Rn.iconst (n := 73) (v := 0) d_Rf_door_72 rfl (by decide) ?_
            refine Rn.istore (n := 75) (i := 11) (ls2 := [some (vR [1]), some (vI a1), some (vI a2), some (vI a3), some (vI a4), some (vI a5), some (vL 100), none, some (vL (100 * a3.toInt64)), none, some (vI 0), some (vI 0), none, none, none]) d_Rf_door_73 rfl (Nat.le_of_ble_eq_true rfl) rfl ?_
            exact k
          · have k := k.2 cc
            refine Rn.ldc2 (n := 55) (v := (-3)) d_Rf_door_52 rfl cl_Rf_108 ?_
            exact Rn.lret d_Rf_door_55 rfl k
theorem g_Rf_door_75 {X : XS} (a1 : Int32) (a2 : Int32) (a3 : Int32) (a4 : Int32) (a5 : Int32) (a6 : Int64) (a8 : Int64) (a10 : Int32) (a11 : Int32) (h : Hp) (Q : Option AV → Hp → Prop)  (k : ((a4 ≤ a11 → ((¬ a5 = 2 → ((¬ a5 = 0 → Rn X m_Rf_door 207 [some (vR [1]), some (vI a1), some (vI a2), some (vI a3), some (vI a4), some (vI a5), some (vL a6), none, some (vL a8), none, some (vI a10), some (vI a11), none, none, none] [vL a6] h Q) ∧ (a5 = 0 → Rn X m_Rf_door 207 [some (vR [1]), some (vI a1), some (vI a2), some (vI a3), some (vI a4), some (vI a5), some (vL a6), none, some (vL a8), none, some (vI a10), some (vI a11), none, none, none] [vL a8] h Q))) ∧ (a5 = 2 → Q (some (vL a10.toInt64)) h))) ∧ (¬ a4 ≤ a11 → ((0 ≤ (lg_cmp (((10 * a6) + (((((10 * a6) / 100) * a1.toInt64) * a2.toInt64) * a3.toInt64)) + (((10 - a1).toInt64) * a8)) ((a6 * 10) * a3.toInt64)) → Rn X m_Rf_door 143 [some (vR [1]), some (vI a1), some (vI a2), some (vI a3), some (vI a4), some (vI a5), some (vL (a6 * 10)), none, some (vL a8), none, some (vI a10), some (vI a11), some (vL (((10 * a6) + (((((10 * a6) / 100) * a1.toInt64) * a2.toInt64) * a3.toInt64)) + (((10 - a1).toInt64) * a8))), none, none] [vI 0] h Q) ∧ (¬ 0 ≤ (lg_cmp (((10 * a6) + (((((10 * a6) / 100) * a1.toInt64) * a2.toInt64) * a3.toInt64)) + (((10 - a1).toInt64) * a8)) ((a6 * 10) * a3.toInt64)) → Rn X m_Rf_door 143 [some (vR [1]), some (vI a1), some (vI a2), some (vI a3), some (vI a4), some (vI a5), some (vL (a6 * 10)), none, some (vL a8), none, some (vI a10), some (vI a11), some (vL (((10 * a6) + (((((10 * a6) / 100) * a1.toInt64) * a2.toInt64) * a3.toInt64)) + (((10 - a1).toInt64) * a8))), none, none] [vI 1] h Q))))) : Rn X m_Rf_door 75 [some (vR [1]), some (vI a1), some (vI a2), some (vI a3), some (vI a4), some (vI a5), some (vL a6), none, some (vL a8), none, some (vI a10), some (vI a11), none, none, none] [] h Q := by
  refine Rn.iload (n := 77) (i := 11) d_Rf_door_75 rfl rfl ?_
  refine Rn.iload (n := 79) (i := 4) d_Rf_door_77 rfl rfl ?_
  refine Rn.icmp_ge (n := 82) (t := 183) d_Rf_door_79 rfl (by decide) (fun cc => ?_) (fun cc => ?_)
  · have k := k.1 cc
    refine Rn.iload (n := 185) (i := 5) d_Rf_door_183 rfl rfl ?_
    refine Rn.iconst (n := 186) (v := 2) d_Rf_door_185 rfl (by decide) ?_
    refine Rn.icmp_ne (n := 189) (t := 195) d_Rf_door_186 rfl (by decide) (fun cc => ?_) (fun cc => ?_)
    · have k := k.1 cc
      refine Rn.iload (n := 197) (i := 5) d_Rf_door_195 rfl rfl ?_
      refine Rn.if_ne (n := 200) (t := 205) d_Rf_door_197 rfl (by decide) (fun cc => ?_) (fun cc => ?_)
      · have k := k.1 cc
        refine Rn.lload (n := 207) (i := 6) d_Rf_door_205 rfl rfl ?_
        exact k
      · have k := k.2 cc
        refine Rn.lload (n := 202) (i := 8) d_Rf_door_200 rfl rfl ?_
        refine Rn.goto (n := 207) d_Rf_door_202 (by decide) ?_
        exact k
    · have k := k.2 cc
      refine Rn.iload (n := 191) (i := 10) d_Rf_door_189 rfl rfl ?_
      refine Rn.i2l (n := 192) d_Rf_door_191 rfl ?_
      refine Rn.goto (n := 215) d_Rf_door_192 (by decide) ?_
      exact Rn.lret d_Rf_door_215 rfl k
  · have k := k.2 cc
    refine Rn.ldc2 (n := 85) (v := 10) d_Rf_door_82 rfl cl_Rf_279 ?_
    refine Rn.lload (n := 87) (i := 6) d_Rf_door_85 rfl rfl ?_
    refine Rn.lmul (n := 88) d_Rf_door_87 rfl ?_
    refine Rn.ldc2 (n := 91) (v := 10) d_Rf_door_88 rfl cl_Rf_279 ?_
    refine Rn.lload (n := 93) (i := 6) d_Rf_door_91 rfl rfl ?_
    refine Rn.lmul (n := 94) d_Rf_door_93 rfl ?_
    refine Rn.ldc2 (n := 97) (v := 100) d_Rf_door_94 rfl cl_Rf_277 ?_
    refine Rn.ldiv (n := 98) d_Rf_door_97 rfl (by decide) ?_
    refine Rn.iload_n (n := 99) (i := 1) d_Rf_door_98 rfl rfl rfl ?_
    refine Rn.i2l (n := 100) d_Rf_door_99 rfl ?_
    refine Rn.lmul (n := 101) d_Rf_door_100 rfl ?_
    refine Rn.iload_n (n := 102) (i := 2) d_Rf_door_101 rfl rfl rfl ?_
    refine Rn.i2l (n := 103) d_Rf_door_102 rfl ?_
    refine Rn.lmul (n := 104) d_Rf_door_103 rfl ?_
    refine Rn.iload_n (n := 105) (i := 3) d_Rf_door_104 rfl rfl rfl ?_
    refine Rn.i2l (n := 106) d_Rf_door_105 rfl ?_
    refine Rn.lmul (n := 107) d_Rf_door_106 rfl ?_
    refine Rn.ladd (n := 108) d_Rf_door_107 rfl ?_
    refine Rn.bipush (n := 110) (v := 10) d_Rf_door_108 rfl (by decide) ?_
    refine Rn.iload_n (n := 111) (i := 1) d_Rf_door_110 rfl rfl rfl ?_
    refine Rn.isub (n := 112) d_Rf_door_111 rfl ?_
    refine Rn.i2l (n := 113) d_Rf_door_112 rfl ?_
    refine Rn.lload (n := 115) (i := 8) d_Rf_door_113 rfl rfl ?_
    refine Rn.lmul (n := 116) d_Rf_door_115 rfl ?_
    refine Rn.ladd (n := 117) d_Rf_door_116 rfl ?_
    refine Rn.lstore (n := 119) (i := 12) (ls2 := [some (vR [1]), some (vI a1), some (vI a2), some (vI a3), some (vI a4), some (vI a5), some (vL a6), none, some (vL a8), none, some (vI a10), some (vI a11), some (vL (((10 * a6) + (((((10 * a6) / 100) * a1.toInt64) * a2.toInt64) * a3.toInt64)) + (((10 - a1).toInt64) * a8))), none, none]) d_Rf_door_117 rfl (Nat.le_of_ble_eq_true rfl) rfl ?_
    refine Rn.lload (n := 121) (i := 6) d_Rf_door_119 rfl rfl ?_
    refine Rn.ldc2 (n := 124) (v := 10) d_Rf_door_121 rfl cl_Rf_279 ?_
    refine Rn.lmul (n := 125) d_Rf_door_124 rfl ?_
    refine Rn.lstore (n := 127) (i := 6) (ls2 := [some (vR [1]), some (vI a1), some (vI a2), some (vI a3), some (vI a4), some (vI a5), some (vL (a6 * 10)), none, some (vL a8), none, some (vI a10), some (vI a11), some (vL (((10 * a6) + (((((10 * a6) / 100) * a1.toInt64) * a2.toInt64) * a3.toInt64)) + (((10 - a1).toInt64) * a8))), none, none]) d_Rf_door_125 rfl (Nat.le_of_ble_eq_true rfl) rfl ?_
    refine Rn.lload (n := 129) (i := 12) d_Rf_door_127 rfl rfl ?_
    refine Rn.lload (n := 131) (i := 6) d_Rf_door_129 rfl rfl ?_
    refine Rn.iload_n (n := 132) (i := 3) d_Rf_door_131 rfl rfl rfl ?_
    refine Rn.i2l (n := 133) d_Rf_door_132 rfl ?_
    refine Rn.lmul (n := 134) d_Rf_door_133 rfl ?_
    refine Rn.lcmp (n := 135) d_Rf_door_134 rfl ?_
    refine Rn.if_ge (n := 138) (t := 142) d_Rf_door_135 rfl (by decide) (fun cc => ?_) (fun cc => ?_)
    · have k := k.1 cc
      refine Rn.iconst (n := 143) (v := 0) d_Rf_door_142 rfl (by decide) ?_
      exact k
    · have k := k.2 cc
      refine Rn.iconst (n := 139) (v := 1) d_Rf_door_138 rfl (by decide) ?_
      refine Rn.goto (n := 143) d_Rf_door_139 (by decide) ?_
      exact k
theorem g_Rf_door_143 {X : XS} (a1 : Int32) (a2 : Int32) (a3 : Int32) (a4 : Int32) (a5 : Int32) (a6 : Int64) (a8 : Int64) (a10 : Int32) (a11 : Int32) (a12 : Int64) (s0 : Int32) (h : Hp) (Q : Option AV → Hp → Prop)  (k : ((s0 = 0 → Rn X m_Rf_door 160 [some (vR [1]), some (vI a1), some (vI a2), some (vI a3), some (vI a4), some (vI a5), some (vL a6), none, some (vL a8), none, some (vI a10), some (vI a11), some (vL a12), none, some (vI s0)] [vL (a6 * a3.toInt64)] h Q) ∧ (¬ s0 = 0 → Rn X m_Rf_door 160 [some (vR [1]), some (vI a1), some (vI a2), some (vI a3), some (vI a4), some (vI a5), some (vL a6), none, some (vL a8), none, some (vI a10), some (vI a11), some (vL a12), none, some (vI s0)] [vL a12] h Q))) : Rn X m_Rf_door 143 [some (vR [1]), some (vI a1), some (vI a2), some (vI a3), some (vI a4), some (vI a5), some (vL a6), none, some (vL a8), none, some (vI a10), some (vI a11), some (vL a12), none, none] [vI s0] h Q := by
  refine Rn.istore (n := 145) (i := 14) (ls2 := [some (vR [1]), some (vI a1), some (vI a2), some (vI a3), some (vI a4), some (vI a5), some (vL a6), none, some (vL a8), none, some (vI a10), some (vI a11), some (vL a12), none, some (vI s0)]) d_Rf_door_143 rfl (Nat.le_of_ble_eq_true rfl) rfl ?_
  refine Rn.iload (n := 147) (i := 14) d_Rf_door_145 rfl rfl ?_
  refine Rn.if_eq (n := 150) (t := 155) d_Rf_door_147 rfl (by decide) (fun cc => ?_) (fun cc => ?_)
  · have k := k.1 cc
    refine Rn.lload (n := 157) (i := 6) d_Rf_door_155 rfl rfl ?_
    refine Rn.iload_n (n := 158) (i := 3) d_Rf_door_157 rfl rfl rfl ?_
    refine Rn.i2l (n := 159) d_Rf_door_158 rfl ?_
    refine Rn.lmul (n := 160) d_Rf_door_159 rfl ?_
    exact k
  · have k := k.2 cc
    refine Rn.lload (n := 152) (i := 12) d_Rf_door_150 rfl rfl ?_
    refine Rn.goto (n := 160) d_Rf_door_152 (by decide) ?_
    exact k
theorem g_Rf_door_160 {X : XS} (a1 : Int32) (a2 : Int32) (a3 : Int32) (a4 : Int32) (a5 : Int32) (a6 : Int64) (a8 : Int64) (a10 : Int32) (a11 : Int32) (a12 : Int64) (a14 : Int32) (s0 : Int64) (h : Hp) (Q : Option AV → Hp → Prop)  (k : ((a14 = 0 → Rn X m_Rf_door 75 [some (vR [1]), some (vI a1), some (vI a2), some (vI a3), some (vI a4), some (vI a5), some (vL a6), none, some (vL s0), none, some (vI 0), some (vI (a11 + 1)), none, none, none] [] h Q) ∧ (¬ a14 = 0 → Rn X m_Rf_door 75 [some (vR [1]), some (vI a1), some (vI a2), some (vI a3), some (vI a4), some (vI a5), some (vL a6), none, some (vL s0), none, some (vI (a10 + 1)), some (vI (a11 + 1)), none, none, none] [] h Q))) : Rn X m_Rf_door 160 [some (vR [1]), some (vI a1), some (vI a2), some (vI a3), some (vI a4), some (vI a5), some (vL a6), none, some (vL a8), none, some (vI a10), some (vI a11), some (vL a12), none, some (vI a14)] [vL s0] h Q := by
  refine Rn.lstore (n := 162) (i := 8) (ls2 := [some (vR [1]), some (vI a1), some (vI a2), some (vI a3), some (vI a4), some (vI a5), some (vL a6), none, some (vL s0), none, some (vI a10), some (vI a11), some (vL a12), none, some (vI a14)]) d_Rf_door_160 rfl (Nat.le_of_ble_eq_true rfl) rfl ?_
  refine Rn.iload (n := 164) (i := 14) d_Rf_door_162 rfl rfl ?_
  refine Rn.if_eq (n := 167) (t := 174) d_Rf_door_164 rfl (by decide) (fun cc => ?_) (fun cc => ?_)
  · have k := k.1 cc
    refine Rn.iconst (n := 175) (v := 0) d_Rf_door_174 rfl (by decide) ?_
    refine Rn.istore (n := 177) (i := 10) (ls2 := [some (vR [1]), some (vI a1), some (vI a2), some (vI a3), some (vI a4), some (vI a5), some (vL a6), none, some (vL s0), none, some (vI 0), some (vI a11), some (vL a12), none, some (vI a14)]) d_Rf_door_175 rfl (Nat.le_of_ble_eq_true rfl) rfl ?_
    refine Rn.iinc (n := 180) (i := 11) (v := a11 + 1) (ls2 := [some (vR [1]), some (vI a1), some (vI a2), some (vI a3), some (vI a4), some (vI a5), some (vL a6), none, some (vL s0), none, some (vI 0), some (vI (a11 + 1)), some (vL a12), none, some (vI a14)]) d_Rf_door_177 rfl rfl rfl (Nat.le_of_ble_eq_true rfl) rfl ?_
    refine Rn.goto (n := 75) d_Rf_door_180 (by decide) ?_
    exact Rn.loc [some (vR [1]), some (vI a1), some (vI a2), some (vI a3), some (vI a4), some (vI a5), some (vL a6), none, some (vL s0), none, some (vI 0), some (vI (a11 + 1)), none, none, none] (LLe_ok ⟨rfl, ⟨rfl, ⟨rfl, ⟨rfl, ⟨rfl, ⟨rfl, ⟨rfl, ⟨rfl, ⟨rfl, ⟨rfl, trivial⟩⟩⟩⟩⟩⟩⟩⟩⟩⟩) k
  · have k := k.2 cc
    refine Rn.iload (n := 169) (i := 10) d_Rf_door_167 rfl rfl ?_
    refine Rn.iconst (n := 170) (v := 1) d_Rf_door_169 rfl (by decide) ?_
    refine Rn.iadd (n := 171) d_Rf_door_170 rfl ?_
    refine Rn.goto (n := 175) d_Rf_door_171 (by decide) ?_
    refine Rn.istore (n := 177) (i := 10) (ls2 := [some (vR [1]), some (vI a1), some (vI a2), some (vI a3), some (vI a4), some (vI a5), some (vL a6), none, some (vL s0), none, some (vI (a10 + 1)), some (vI a11), some (vL a12), none, some (vI a14)]) d_Rf_door_175 rfl (Nat.le_of_ble_eq_true rfl) rfl ?_
    refine Rn.iinc (n := 180) (i := 11) (v := a11 + 1) (ls2 := [some (vR [1]), some (vI a1), some (vI a2), some (vI a3), some (vI a4), some (vI a5), some (vL a6), none, some (vL s0), none, some (vI (a10 + 1)), some (vI (a11 + 1)), some (vL a12), none, some (vI a14)]) d_Rf_door_177 rfl rfl rfl (Nat.le_of_ble_eq_true rfl) rfl ?_
    refine Rn.goto (n := 75) d_Rf_door_180 (by decide) ?_
    exact Rn.loc [some (vR [1]), some (vI a1), some (vI a2), some (vI a3), some (vI a4), some (vI a5), some (vL a6), none, some (vL s0), none, some (vI (a10 + 1)), some (vI (a11 + 1)), none, none, none] (LLe_ok ⟨rfl, ⟨rfl, ⟨rfl, ⟨rfl, ⟨rfl, ⟨rfl, ⟨rfl, ⟨rfl, ⟨rfl, ⟨rfl, trivial⟩⟩⟩⟩⟩⟩⟩⟩⟩⟩) k
theorem g_Rf_door_207 {X : XS} (a1 : Int32) (a2 : Int32) (a3 : Int32) (a4 : Int32) (a5 : Int32) (a6 : Int64) (a8 : Int64) (a10 : Int32) (a11 : Int32) (s0 : Int64) (h : Hp) (Q : Option AV → Hp → Prop)  (k : (∃ Q'4, EvL X m_Rf_gcd [vL a8, vL a6] h Q'4 ∧ ∀ (r5 : Int64) (h3 : Hp), Q'4 r5 h3 → (¬ r5 = 0 ∧ Q (some (vL (s0 / r5))) h3))) : Rn X m_Rf_door 207 [some (vR [1]), some (vI a1), some (vI a2), some (vI a3), some (vI a4), some (vI a5), some (vL a6), none, some (vL a8), none, some (vI a10), some (vI a11), none, none, none] [vL s0] h Q := by
  refine Rn.lload (n := 209) (i := 8) d_Rf_door_207 rfl rfl ?_
  refine Rn.lload (n := 211) (i := 6) d_Rf_door_209 rfl rfl ?_
  obtain ⟨Q'4, ev1, k⟩ := k
  refine Rn.callS (n := 214) (av := [vL a8, vL a6]) d_Rf_door_211 rfl ml_Rf_door_273 ms_Rf_gcd rfl rfl (Nat.le_of_ble_eq_true rfl) ev1 (fun v h3 hq => ?_)
  obtain ⟨r5, rfl, hq⟩ := hq
  have k := k r5 h3 hq
  show Rn X m_Rf_door 214 [some (vR [1]), some (vI a1), some (vI a2), some (vI a3), some (vI a4), some (vI a5), some (vL a6), none, some (vL a8), none, some (vI a10), some (vI a11), none, none, none] [vL r5, vL s0] h3 Q
  obtain ⟨z6, k⟩ := k
  refine Rn.ldiv (n := 215) d_Rf_door_214 rfl z6 ?_
  exact Rn.lret d_Rf_door_215 rfl k
theorem e_Rf_door {X : XS} (a1 : Int32) (a2 : Int32) (a3 : Int32) (a4 : Int32) (a5 : Int32) (h : Hp) (Q : Option AV → Hp → Prop) (k : Rn X m_Rf_door 0 [some (vR [1]), some (vI a1), some (vI a2), some (vI a3), some (vI a4), some (vI a5), none, none, none, none, none, none, none, none, none] [] h Q) : Ev X m_Rf_door [vR [1], vI a1, vI a2, vI a3, vI a4, vI a5] h Q := Ev.intro (plainFor_of_name (by decide +kernel)) (Nat.le_of_ble_eq_true rfl) (ls := [some (vR [1]), some (vI a1), some (vI a2), some (vI a3), some (vI a4), some (vI a5), none, none, none, none, none, none, none, none, none]) rfl k
theorem d_Rf_left_0 : decode m_Rf_left.2.1 0 = .ok (.iload_n 1, 1) := by decide +kernel
theorem d_Rf_left_1 : decode m_Rf_left.2.1 1 = .ok (.iconst 1, 1) := by decide +kernel
theorem d_Rf_left_2 : decode m_Rf_left.2.1 2 = .ok (.bipush 9, 2) := by decide +kernel
theorem d_Rf_left_4 : decode m_Rf_left.2.1 4 = .ok (.invokestatic 66, 3) := by decide +kernel
theorem d_Rf_left_7 : decode m_Rf_left.2.1 7 = .ok (.ifCond .eq 43, 3) := by decide +kernel
theorem d_Rf_left_10 : decode m_Rf_left.2.1 10 = .ok (.iload_n 2, 1) := by decide +kernel
theorem d_Rf_left_11 : decode m_Rf_left.2.1 11 = .ok (.iconst 0, 1) := by decide +kernel
theorem d_Rf_left_12 : decode m_Rf_left.2.1 12 = .ok (.bipush 10, 2) := by decide +kernel
theorem d_Rf_left_14 : decode m_Rf_left.2.1 14 = .ok (.invokestatic 66, 3) := by decide +kernel
theorem d_Rf_left_17 : decode m_Rf_left.2.1 17 = .ok (.ifCond .eq 33, 3) := by decide +kernel
theorem d_Rf_left_20 : decode m_Rf_left.2.1 20 = .ok (.iload_n 3, 1) := by decide +kernel
theorem d_Rf_left_21 : decode m_Rf_left.2.1 21 = .ok (.iconst 0, 1) := by decide +kernel
theorem d_Rf_left_22 : decode m_Rf_left.2.1 22 = .ok (.bipush 10, 2) := by decide +kernel
theorem d_Rf_left_24 : decode m_Rf_left.2.1 24 = .ok (.invokestatic 66, 3) := by decide +kernel
theorem d_Rf_left_27 : decode m_Rf_left.2.1 27 = .ok (.ifCond .eq 23, 3) := by decide +kernel
theorem d_Rf_left_30 : decode m_Rf_left.2.1 30 = .ok (.iload 4, 2) := by decide +kernel
theorem d_Rf_left_32 : decode m_Rf_left.2.1 32 = .ok (.iconst 0, 1) := by decide +kernel
theorem d_Rf_left_33 : decode m_Rf_left.2.1 33 = .ok (.iload_n 1, 1) := by decide +kernel
theorem d_Rf_left_34 : decode m_Rf_left.2.1 34 = .ok (.invokestatic 66, 3) := by decide +kernel
theorem d_Rf_left_37 : decode m_Rf_left.2.1 37 = .ok (.ifCond .eq 13, 3) := by decide +kernel
theorem d_Rf_left_40 : decode m_Rf_left.2.1 40 = .ok (.iload 5, 2) := by decide +kernel
theorem d_Rf_left_42 : decode m_Rf_left.2.1 42 = .ok (.iconst 0, 1) := by decide +kernel
theorem d_Rf_left_43 : decode m_Rf_left.2.1 43 = .ok (.iconst 1, 1) := by decide +kernel
theorem d_Rf_left_44 : decode m_Rf_left.2.1 44 = .ok (.invokestatic 66, 3) := by decide +kernel
theorem d_Rf_left_47 : decode m_Rf_left.2.1 47 = .ok (.ifCond .ne 7, 3) := by decide +kernel
theorem d_Rf_left_50 : decode m_Rf_left.2.1 50 = .ok (.ldc2_w 108, 3) := by decide +kernel
theorem d_Rf_left_53 : decode m_Rf_left.2.1 53 = .ok (.lreturn, 1) := by decide +kernel
theorem d_Rf_left_54 : decode m_Rf_left.2.1 54 = .ok (.iload_n 2, 1) := by decide +kernel
theorem d_Rf_left_55 : decode m_Rf_left.2.1 55 = .ok (.bipush 10, 2) := by decide +kernel
theorem d_Rf_left_57 : decode m_Rf_left.2.1 57 = .ok (.iload_n 3, 1) := by decide +kernel
theorem d_Rf_left_58 : decode m_Rf_left.2.1 58 = .ok (.isub, 1) := by decide +kernel
theorem d_Rf_left_59 : decode m_Rf_left.2.1 59 = .ok (.imul, 1) := by decide +kernel
theorem d_Rf_left_60 : decode m_Rf_left.2.1 60 = .ok (.i2l, 1) := by decide +kernel
theorem d_Rf_left_61 : decode m_Rf_left.2.1 61 = .ok (.lstore 6, 2) := by decide +kernel
theorem d_Rf_left_63 : decode m_Rf_left.2.1 63 = .ok (.lconst 0, 1) := by decide +kernel
theorem d_Rf_left_64 : decode m_Rf_left.2.1 64 = .ok (.lstore 8, 2) := by decide +kernel
theorem d_Rf_left_66 : decode m_Rf_left.2.1 66 = .ok (.lconst 1, 1) := by decide +kernel
theorem d_Rf_left_67 : decode m_Rf_left.2.1 67 = .ok (.lstore 10, 2) := by decide +kernel
theorem d_Rf_left_69 : decode m_Rf_left.2.1 69 = .ok (.iconst 0, 1) := by decide +kernel
theorem d_Rf_left_70 : decode m_Rf_left.2.1 70 = .ok (.istore 12, 2) := by decide +kernel
theorem d_Rf_left_72 : decode m_Rf_left.2.1 72 = .ok (.iload 12, 2) := by decide +kernel
theorem d_Rf_left_74 : decode m_Rf_left.2.1 74 = .ok (.iload_n 1, 1) := by decide +kernel
theorem d_Rf_left_75 : decode m_Rf_left.2.1 75 = .ok (.if_icmp .ge 17, 3) := by decide +kernel
theorem d_Rf_left_78 : decode m_Rf_left.2.1 78 = .ok (.lload 10, 2) := by decide +kernel
theorem d_Rf_left_80 : decode m_Rf_left.2.1 80 = .ok (.ldc2_w 277, 3) := by decide +kernel
theorem d_Rf_left_83 : decode m_Rf_left.2.1 83 = .ok (.lmul, 1) := by decide +kernel
theorem d_Rf_left_84 : decode m_Rf_left.2.1 84 = .ok (.lstore 10, 2) := by decide +kernel
theorem d_Rf_left_86 : decode m_Rf_left.2.1 86 = .ok (.iinc 12 1, 3) := by decide +kernel
theorem d_Rf_left_89 : decode m_Rf_left.2.1 89 = .ok (.goto (-17), 3) := by decide +kernel
theorem d_Rf_left_92 : decode m_Rf_left.2.1 92 = .ok (.iload 4, 2) := by decide +kernel
theorem d_Rf_left_94 : decode m_Rf_left.2.1 94 = .ok (.istore 12, 2) := by decide +kernel
theorem d_Rf_left_96 : decode m_Rf_left.2.1 96 = .ok (.iload 12, 2) := by decide +kernel
theorem d_Rf_left_98 : decode m_Rf_left.2.1 98 = .ok (.iload_n 1, 1) := by decide +kernel
theorem d_Rf_left_99 : decode m_Rf_left.2.1 99 = .ok (.if_icmp .gt 90, 3) := by decide +kernel
theorem d_Rf_left_102 : decode m_Rf_left.2.1 102 = .ok (.lconst 1, 1) := by decide +kernel
theorem d_Rf_left_103 : decode m_Rf_left.2.1 103 = .ok (.lstore 13, 2) := by decide +kernel
theorem d_Rf_left_105 : decode m_Rf_left.2.1 105 = .ok (.iconst 1, 1) := by decide +kernel
theorem d_Rf_left_106 : decode m_Rf_left.2.1 106 = .ok (.istore 15, 2) := by decide +kernel
theorem d_Rf_left_108 : decode m_Rf_left.2.1 108 = .ok (.iload 15, 2) := by decide +kernel
theorem d_Rf_left_110 : decode m_Rf_left.2.1 110 = .ok (.iload 12, 2) := by decide +kernel
theorem d_Rf_left_112 : decode m_Rf_left.2.1 112 = .ok (.if_icmp .gt 26, 3) := by decide +kernel
theorem d_Rf_left_115 : decode m_Rf_left.2.1 115 = .ok (.lload 13, 2) := by decide +kernel
theorem d_Rf_left_117 : decode m_Rf_left.2.1 117 = .ok (.iload_n 1, 1) := by decide +kernel
theorem d_Rf_left_118 : decode m_Rf_left.2.1 118 = .ok (.iload 12, 2) := by decide +kernel
theorem d_Rf_left_120 : decode m_Rf_left.2.1 120 = .ok (.isub, 1) := by decide +kernel
theorem d_Rf_left_121 : decode m_Rf_left.2.1 121 = .ok (.iload 15, 2) := by decide +kernel
theorem d_Rf_left_123 : decode m_Rf_left.2.1 123 = .ok (.iadd, 1) := by decide +kernel
theorem d_Rf_left_124 : decode m_Rf_left.2.1 124 = .ok (.i2l, 1) := by decide +kernel
theorem d_Rf_left_125 : decode m_Rf_left.2.1 125 = .ok (.lmul, 1) := by decide +kernel
theorem d_Rf_left_126 : decode m_Rf_left.2.1 126 = .ok (.iload 15, 2) := by decide +kernel
theorem d_Rf_left_128 : decode m_Rf_left.2.1 128 = .ok (.i2l, 1) := by decide +kernel
theorem d_Rf_left_129 : decode m_Rf_left.2.1 129 = .ok (.ldiv, 1) := by decide +kernel
theorem d_Rf_left_130 : decode m_Rf_left.2.1 130 = .ok (.lstore 13, 2) := by decide +kernel
theorem d_Rf_left_132 : decode m_Rf_left.2.1 132 = .ok (.iinc 15 1, 3) := by decide +kernel
theorem d_Rf_left_135 : decode m_Rf_left.2.1 135 = .ok (.goto (-27), 3) := by decide +kernel
theorem d_Rf_left_138 : decode m_Rf_left.2.1 138 = .ok (.iconst 0, 1) := by decide +kernel
theorem d_Rf_left_139 : decode m_Rf_left.2.1 139 = .ok (.istore 15, 2) := by decide +kernel
theorem d_Rf_left_141 : decode m_Rf_left.2.1 141 = .ok (.iload 15, 2) := by decide +kernel
theorem d_Rf_left_143 : decode m_Rf_left.2.1 143 = .ok (.iload_n 1, 1) := by decide +kernel
theorem d_Rf_left_144 : decode m_Rf_left.2.1 144 = .ok (.if_icmp .ge 32, 3) := by decide +kernel
theorem d_Rf_left_147 : decode m_Rf_left.2.1 147 = .ok (.lload 13, 2) := by decide +kernel
theorem d_Rf_left_149 : decode m_Rf_left.2.1 149 = .ok (.iload 15, 2) := by decide +kernel
theorem d_Rf_left_151 : decode m_Rf_left.2.1 151 = .ok (.iload 12, 2) := by decide +kernel
theorem d_Rf_left_153 : decode m_Rf_left.2.1 153 = .ok (.if_icmp .ge 8, 3) := by decide +kernel
theorem d_Rf_left_156 : decode m_Rf_left.2.1 156 = .ok (.lload 6, 2) := by decide +kernel
theorem d_Rf_left_158 : decode m_Rf_left.2.1 158 = .ok (.goto 9, 3) := by decide +kernel
theorem d_Rf_left_161 : decode m_Rf_left.2.1 161 = .ok (.ldc2_w 277, 3) := by decide +kernel
theorem d_Rf_left_164 : decode m_Rf_left.2.1 164 = .ok (.lload 6, 2) := by decide +kernel
theorem d_Rf_left_166 : decode m_Rf_left.2.1 166 = .ok (.lsub, 1) := by decide +kernel
theorem d_Rf_left_167 : decode m_Rf_left.2.1 167 = .ok (.lmul, 1) := by decide +kernel
theorem d_Rf_left_168 : decode m_Rf_left.2.1 168 = .ok (.lstore 13, 2) := by decide +kernel
theorem d_Rf_left_170 : decode m_Rf_left.2.1 170 = .ok (.iinc 15 1, 3) := by decide +kernel
theorem d_Rf_left_173 : decode m_Rf_left.2.1 173 = .ok (.goto (-32), 3) := by decide +kernel
theorem d_Rf_left_176 : decode m_Rf_left.2.1 176 = .ok (.lload 8, 2) := by decide +kernel
theorem d_Rf_left_178 : decode m_Rf_left.2.1 178 = .ok (.lload 13, 2) := by decide +kernel
theorem d_Rf_left_180 : decode m_Rf_left.2.1 180 = .ok (.ladd, 1) := by decide +kernel
theorem d_Rf_left_181 : decode m_Rf_left.2.1 181 = .ok (.lstore 8, 2) := by decide +kernel
theorem d_Rf_left_183 : decode m_Rf_left.2.1 183 = .ok (.iinc 12 1, 3) := by decide +kernel
theorem d_Rf_left_186 : decode m_Rf_left.2.1 186 = .ok (.goto (-90), 3) := by decide +kernel
theorem d_Rf_left_189 : decode m_Rf_left.2.1 189 = .ok (.lload 8, 2) := by decide +kernel
theorem d_Rf_left_191 : decode m_Rf_left.2.1 191 = .ok (.lload 10, 2) := by decide +kernel
theorem d_Rf_left_193 : decode m_Rf_left.2.1 193 = .ok (.invokestatic 273, 3) := by decide +kernel
theorem d_Rf_left_196 : decode m_Rf_left.2.1 196 = .ok (.lstore 12, 2) := by decide +kernel
theorem d_Rf_left_198 : decode m_Rf_left.2.1 198 = .ok (.iload 5, 2) := by decide +kernel
theorem d_Rf_left_200 : decode m_Rf_left.2.1 200 = .ok (.ifCond .ne 8, 3) := by decide +kernel
theorem d_Rf_left_203 : decode m_Rf_left.2.1 203 = .ok (.lload 8, 2) := by decide +kernel
theorem d_Rf_left_205 : decode m_Rf_left.2.1 205 = .ok (.goto 5, 3) := by decide +kernel
theorem d_Rf_left_208 : decode m_Rf_left.2.1 208 = .ok (.lload 10, 2) := by decide +kernel
theorem d_Rf_left_210 : decode m_Rf_left.2.1 210 = .ok (.lload 12, 2) := by decide +kernel
theorem d_Rf_left_212 : decode m_Rf_left.2.1 212 = .ok (.ldiv, 1) := by decide +kernel
theorem d_Rf_left_213 : decode m_Rf_left.2.1 213 = .ok (.lreturn, 1) := by decide +kernel
theorem g_Rf_left_0 {X : XS} (a1 : Int32) (a2 : Int32) (a3 : Int32) (a4 : Int32) (a5 : Int32) (h : Hp) (Q : Option AV → Hp → Prop)  (k : (∃ Q'4, EvI X m_Rf_in [vI a1, vI 1, vI 9] h Q'4 ∧ ∀ (r5 : Int32) (h3 : Hp), Q'4 r5 h3 → ((r5 = 0 → Q (some (vL (-3))) h3) ∧ (¬ r5 = 0 → (∃ Q'9, EvI X m_Rf_in [vI a2, vI 0, vI 10] h3 Q'9 ∧ ∀ (r10 : Int32) (h8 : Hp), Q'9 r10 h8 → ((r10 = 0 → Q (some (vL (-3))) h8) ∧ (¬ r10 = 0 → (∃ Q'14, EvI X m_Rf_in [vI a3, vI 0, vI 10] h8 Q'14 ∧ ∀ (r15 : Int32) (h13 : Hp), Q'14 r15 h13 → ((r15 = 0 → Q (some (vL (-3))) h13) ∧ (¬ r15 = 0 → (∃ Q'19, EvI X m_Rf_in [vI a4, vI 0, vI a1] h13 Q'19 ∧ ∀ (r20 : Int32) (h18 : Hp), Q'19 r20 h18 → ((r20 = 0 → Q (some (vL (-3))) h18) ∧ (¬ r20 = 0 → (∃ Q'24, EvI X m_Rf_in [vI a5, vI 0, vI 1] h18 Q'24 ∧ ∀ (r25 : Int32) (h23 : Hp), Q'24 r25 h23 → ((¬ r25 = 0 → Rn X m_Rf_left 72 [some (vR [1]), some (vI a1), some (vI a2), some (vI a3), some (vI a4), some (vI a5), some (vL ((a2 * (10 - a3)).toInt64)), none, some (vL 0), none, some (vL 1), none, some (vI 0), none, none, none] [] h23 Q) ∧ (r25 = 0 → Q (some (vL (-3))) h23)))))))))))))))) : Rn X m_Rf_left 0 [some (vR [1]), some (vI a1), some (vI a2), some (vI a3), some (vI a4), some (vI a5), none, none, none, none, none, none, none, none, none, none] [] h Q := by
  refine Rn.iload_n (n := 1) (i := 1) d_Rf_left_0 rfl rfl rfl ?_
  refine Rn.iconst (n := 2) (v := 1) d_Rf_left_1 rfl (by decide) ?_
  refine Rn.bipush (n := 4) (v := 9) d_Rf_left_2 rfl (by decide) ?_
  obtain ⟨Q'4, ev1, k⟩ := k
  refine Rn.callS (n := 7) (av := [vI a1, vI 1, vI 9]) d_Rf_left_4 rfl ml_Rf_left_66 ms_Rf_in rfl rfl (Nat.le_of_ble_eq_true rfl) ev1 (fun v h3 hq => ?_)
  obtain ⟨r5, rfl, hq⟩ := hq
  have k := k r5 h3 hq
  show Rn X m_Rf_left 7 [some (vR [1]), some (vI a1), some (vI a2), some (vI a3), some (vI a4), some (vI a5), none, none, none, none, none, none, none, none, none, none] [vI r5] h3 Q
  refine Rn.if_eq (n := 10) (t := 50) d_Rf_left_7 rfl (by decide) (fun cc => ?_) (fun cc => ?_)
  · have k := k.1 cc
    refine Rn.ldc2 (n := 53) (v := (-3)) d_Rf_left_50 rfl cl_Rf_108 ?_
    exact Rn.lret d_Rf_left_53 rfl k
  · have k := k.2 cc
    refine Rn.iload_n (n := 11) (i := 2) d_Rf_left_10 rfl rfl rfl ?_
    refine Rn.iconst (n := 12) (v := 0) d_Rf_left_11 rfl (by decide) ?_
    refine Rn.bipush (n := 14) (v := 10) d_Rf_left_12 rfl (by decide) ?_
    obtain ⟨Q'9, ev6, k⟩ := k
    refine Rn.callS (n := 17) (av := [vI a2, vI 0, vI 10]) d_Rf_left_14 rfl ml_Rf_left_66 ms_Rf_in rfl rfl (Nat.le_of_ble_eq_true rfl) ev6 (fun v h8 hq => ?_)
    obtain ⟨r10, rfl, hq⟩ := hq
    have k := k r10 h8 hq
    show Rn X m_Rf_left 17 [some (vR [1]), some (vI a1), some (vI a2), some (vI a3), some (vI a4), some (vI a5), none, none, none, none, none, none, none, none, none, none] [vI r10] h8 Q
    refine Rn.if_eq (n := 20) (t := 50) d_Rf_left_17 rfl (by decide) (fun cc => ?_) (fun cc => ?_)
    · have k := k.1 cc
      refine Rn.ldc2 (n := 53) (v := (-3)) d_Rf_left_50 rfl cl_Rf_108 ?_
      exact Rn.lret d_Rf_left_53 rfl k
    · have k := k.2 cc
      refine Rn.iload_n (n := 21) (i := 3) d_Rf_left_20 rfl rfl rfl ?_
      refine Rn.iconst (n := 22) (v := 0) d_Rf_left_21 rfl (by decide) ?_
      refine Rn.bipush (n := 24) (v := 10) d_Rf_left_22 rfl (by decide) ?_
      obtain ⟨Q'14, ev11, k⟩ := k
      refine Rn.callS (n := 27) (av := [vI a3, vI 0, vI 10]) d_Rf_left_24 rfl ml_Rf_left_66 ms_Rf_in rfl rfl (Nat.le_of_ble_eq_true rfl) ev11 (fun v h13 hq => ?_)
      obtain ⟨r15, rfl, hq⟩ := hq
      have k := k r15 h13 hq
      show Rn X m_Rf_left 27 [some (vR [1]), some (vI a1), some (vI a2), some (vI a3), some (vI a4), some (vI a5), none, none, none, none, none, none, none, none, none, none] [vI r15] h13 Q
      refine Rn.if_eq (n := 30) (t := 50) d_Rf_left_27 rfl (by decide) (fun cc => ?_) (fun cc => ?_)
      · have k := k.1 cc
        refine Rn.ldc2 (n := 53) (v := (-3)) d_Rf_left_50 rfl cl_Rf_108 ?_
        exact Rn.lret d_Rf_left_53 rfl k
      · have k := k.2 cc
        refine Rn.iload (n := 32) (i := 4) d_Rf_left_30 rfl rfl ?_
        refine Rn.iconst (n := 33) (v := 0) d_Rf_left_32 rfl (by decide) ?_
        refine Rn.iload_n (n := 34) (i := 1) d_Rf_left_33 rfl rfl rfl ?_
        obtain ⟨Q'19, ev16, k⟩ := k
        refine Rn.callS (n := 37) (av := [vI a4, vI 0, vI a1]) d_Rf_left_34 rfl ml_Rf_left_66 ms_Rf_in rfl rfl (Nat.le_of_ble_eq_true rfl) ev16 (fun v h18 hq => ?_)
        obtain ⟨r20, rfl, hq⟩ := hq
        have k := k r20 h18 hq
        show Rn X m_Rf_left 37 [some (vR [1]), some (vI a1), some (vI a2), some (vI a3), some (vI a4), some (vI a5), none, none, none, none, none, none, none, none, none, none] [vI r20] h18 Q
        refine Rn.if_eq (n := 40) (t := 50) d_Rf_left_37 rfl (by decide) (fun cc => ?_) (fun cc => ?_)
        · have k := k.1 cc
          refine Rn.ldc2 (n := 53) (v := (-3)) d_Rf_left_50 rfl cl_Rf_108 ?_
          exact Rn.lret d_Rf_left_53 rfl k
        · have k := k.2 cc
          refine Rn.iload (n := 42) (i := 5) d_Rf_left_40 rfl rfl ?_
          refine Rn.iconst (n := 43) (v := 0) d_Rf_left_42 rfl (by decide) ?_
          refine Rn.iconst (n := 44) (v := 1) d_Rf_left_43 rfl (by decide) ?_
          obtain ⟨Q'24, ev21, k⟩ := k
          refine Rn.callS (n := 47) (av := [vI a5, vI 0, vI 1]) d_Rf_left_44 rfl ml_Rf_left_66 ms_Rf_in rfl rfl (Nat.le_of_ble_eq_true rfl) ev21 (fun v h23 hq => ?_)
          obtain ⟨r25, rfl, hq⟩ := hq
          have k := k r25 h23 hq
          show Rn X m_Rf_left 47 [some (vR [1]), some (vI a1), some (vI a2), some (vI a3), some (vI a4), some (vI a5), none, none, none, none, none, none, none, none, none, none] [vI r25] h23 Q
          refine Rn.if_ne (n := 50) (t := 54) d_Rf_left_47 rfl (by decide) (fun cc => ?_) (fun cc => ?_)
          · have k := k.1 cc
            refine Rn.iload_n (n := 55) (i := 2) d_Rf_left_54 rfl rfl rfl ?_
            refine Rn.bipush (n := 57) (v := 10) d_Rf_left_55 rfl (by decide) ?_
            refine Rn.iload_n (n := 58) (i := 3) d_Rf_left_57 rfl rfl rfl ?_
            refine Rn.isub (n := 59) d_Rf_left_58 rfl ?_
            refine Rn.imul (n := 60) d_Rf_left_59 rfl ?_
            refine Rn.i2l (n := 61) d_Rf_left_60 rfl ?_
            refine Rn.lstore (n := 63) (i := 6) (ls2 := [some (vR [1]), some (vI a1), some (vI a2), some (vI a3), some (vI a4), some (vI a5), some (vL ((a2 * (10 - a3)).toInt64)), none, none, none, none, none, none, none, none, none]) d_Rf_left_61 rfl (Nat.le_of_ble_eq_true rfl) rfl ?_
            refine Rn.lconst (n := 64) (v := 0) d_Rf_left_63 rfl rfl ?_
            refine Rn.lstore (n := 66) (i := 8) (ls2 := [some (vR [1]), some (vI a1), some (vI a2), some (vI a3), some (vI a4), some (vI a5), some (vL ((a2 * (10 - a3)).toInt64)), none, some (vL 0), none, none, none, none, none, none, none]) d_Rf_left_64 rfl (Nat.le_of_ble_eq_true rfl) rfl ?_
            refine Rn.lconst (n := 67) (v := 1) d_Rf_left_66 rfl rfl ?_
            refine Rn.lstore (n := 69) (i := 10) (ls2 := [some (vR [1]), some (vI a1), some (vI a2), some (vI a3), some (vI a4), some (vI a5), some (vL ((a2 * (10 - a3)).toInt64)), none, some (vL 0), none, some (vL 1), none, none, none, none, none]) d_Rf_left_67 rfl (Nat.le_of_ble_eq_true rfl) rfl ?_
            refine Rn.iconst (n := 70) (v := 0) d_Rf_left_69 rfl (by decide) ?_
            refine Rn.istore (n := 72) (i := 12) (ls2 := [some (vR [1]), some (vI a1), some (vI a2), some (vI a3), some (vI a4), some (vI a5), some (vL ((a2 * (10 - a3)).toInt64)), none, some (vL 0), none, some (vL 1), none, some (vI 0), none, none, none]) d_Rf_left_70 rfl (Nat.le_of_ble_eq_true rfl) rfl ?_
            exact k
          · have k := k.2 cc
            refine Rn.ldc2 (n := 53) (v := (-3)) d_Rf_left_50 rfl cl_Rf_108 ?_
            exact Rn.lret d_Rf_left_53 rfl k
theorem g_Rf_left_72 {X : XS} (a1 : Int32) (a2 : Int32) (a3 : Int32) (a4 : Int32) (a5 : Int32) (a6 : Int64) (a8 : Int64) (a10 : Int64) (a12 : Int32) (h : Hp) (Q : Option AV → Hp → Prop)  (k : ((a1 ≤ a12 → Rn X m_Rf_left 96 [some (vR [1]), some (vI a1), some (vI a2), some (vI a3), some (vI a4), some (vI a5), some (vL a6), none, some (vL a8), none, some (vL a10), none, some (vI a4), none, none, none] [] h Q) ∧ (¬ a1 ≤ a12 → Rn X m_Rf_left 72 [some (vR [1]), some (vI a1), some (vI a2), some (vI a3), some (vI a4), some (vI a5), some (vL a6), none, some (vL a8), none, some (vL (a10 * 100)), none, some (vI (a12 + 1)), none, none, none] [] h Q))) : Rn X m_Rf_left 72 [some (vR [1]), some (vI a1), some (vI a2), some (vI a3), some (vI a4), some (vI a5), some (vL a6), none, some (vL a8), none, some (vL a10), none, some (vI a12), none, none, none] [] h Q := by
  refine Rn.iload (n := 74) (i := 12) d_Rf_left_72 rfl rfl ?_
  refine Rn.iload_n (n := 75) (i := 1) d_Rf_left_74 rfl rfl rfl ?_
  refine Rn.icmp_ge (n := 78) (t := 92) d_Rf_left_75 rfl (by decide) (fun cc => ?_) (fun cc => ?_)
  · have k := k.1 cc
    refine Rn.iload (n := 94) (i := 4) d_Rf_left_92 rfl rfl ?_
    refine Rn.istore (n := 96) (i := 12) (ls2 := [some (vR [1]), some (vI a1), some (vI a2), some (vI a3), some (vI a4), some (vI a5), some (vL a6), none, some (vL a8), none, some (vL a10), none, some (vI a4), none, none, none]) d_Rf_left_94 rfl (Nat.le_of_ble_eq_true rfl) rfl ?_
    exact k
  · have k := k.2 cc
    refine Rn.lload (n := 80) (i := 10) d_Rf_left_78 rfl rfl ?_
    refine Rn.ldc2 (n := 83) (v := 100) d_Rf_left_80 rfl cl_Rf_277 ?_
    refine Rn.lmul (n := 84) d_Rf_left_83 rfl ?_
    refine Rn.lstore (n := 86) (i := 10) (ls2 := [some (vR [1]), some (vI a1), some (vI a2), some (vI a3), some (vI a4), some (vI a5), some (vL a6), none, some (vL a8), none, some (vL (a10 * 100)), none, some (vI a12), none, none, none]) d_Rf_left_84 rfl (Nat.le_of_ble_eq_true rfl) rfl ?_
    refine Rn.iinc (n := 89) (i := 12) (v := a12 + 1) (ls2 := [some (vR [1]), some (vI a1), some (vI a2), some (vI a3), some (vI a4), some (vI a5), some (vL a6), none, some (vL a8), none, some (vL (a10 * 100)), none, some (vI (a12 + 1)), none, none, none]) d_Rf_left_86 rfl rfl rfl (Nat.le_of_ble_eq_true rfl) rfl ?_
    refine Rn.goto (n := 72) d_Rf_left_89 (by decide) ?_
    exact k
theorem g_Rf_left_96 {X : XS} (a1 : Int32) (a2 : Int32) (a3 : Int32) (a4 : Int32) (a5 : Int32) (a6 : Int64) (a8 : Int64) (a10 : Int64) (a12 : Int32) (h : Hp) (Q : Option AV → Hp → Prop)  (k : ((a1 < a12 → (∃ Q'4, EvL X m_Rf_gcd [vL a8, vL a10] h Q'4 ∧ ∀ (r5 : Int64) (h3 : Hp), Q'4 r5 h3 → ((¬ a5 = 0 → (¬ r5 = 0 ∧ Q (some (vL (a10 / r5))) h3)) ∧ (a5 = 0 → (¬ r5 = 0 ∧ Q (some (vL (a8 / r5))) h3))))) ∧ (¬ a1 < a12 → Rn X m_Rf_left 108 [some (vR [1]), some (vI a1), some (vI a2), some (vI a3), some (vI a4), some (vI a5), some (vL a6), none, some (vL a8), none, some (vL a10), none, some (vI a12), some (vL 1), none, some (vI 1)] [] h Q))) : Rn X m_Rf_left 96 [some (vR [1]), some (vI a1), some (vI a2), some (vI a3), some (vI a4), some (vI a5), some (vL a6), none, some (vL a8), none, some (vL a10), none, some (vI a12), none, none, none] [] h Q := by
  refine Rn.iload (n := 98) (i := 12) d_Rf_left_96 rfl rfl ?_
  refine Rn.iload_n (n := 99) (i := 1) d_Rf_left_98 rfl rfl rfl ?_
  refine Rn.icmp_gt (n := 102) (t := 189) d_Rf_left_99 rfl (by decide) (fun cc => ?_) (fun cc => ?_)
  · have k := k.1 cc
    refine Rn.lload (n := 191) (i := 8) d_Rf_left_189 rfl rfl ?_
    refine Rn.lload (n := 193) (i := 10) d_Rf_left_191 rfl rfl ?_
    obtain ⟨Q'4, ev1, k⟩ := k
    refine Rn.callS (n := 196) (av := [vL a8, vL a10]) d_Rf_left_193 rfl ml_Rf_left_273 ms_Rf_gcd rfl rfl (Nat.le_of_ble_eq_true rfl) ev1 (fun v h3 hq => ?_)
    obtain ⟨r5, rfl, hq⟩ := hq
    have k := k r5 h3 hq
    show Rn X m_Rf_left 196 [some (vR [1]), some (vI a1), some (vI a2), some (vI a3), some (vI a4), some (vI a5), some (vL a6), none, some (vL a8), none, some (vL a10), none, some (vI a12), none, none, none] [vL r5] h3 Q
    refine Rn.lstore (n := 198) (i := 12) (ls2 := [some (vR [1]), some (vI a1), some (vI a2), some (vI a3), some (vI a4), some (vI a5), some (vL a6), none, some (vL a8), none, some (vL a10), none, some (vL r5), none, none, none]) d_Rf_left_196 rfl (Nat.le_of_ble_eq_true rfl) rfl ?_
    refine Rn.iload (n := 200) (i := 5) d_Rf_left_198 rfl rfl ?_
    refine Rn.if_ne (n := 203) (t := 208) d_Rf_left_200 rfl (by decide) (fun cc => ?_) (fun cc => ?_)
    · have k := k.1 cc
      refine Rn.lload (n := 210) (i := 10) d_Rf_left_208 rfl rfl ?_
      refine Rn.lload (n := 212) (i := 12) d_Rf_left_210 rfl rfl ?_
      obtain ⟨z6, k⟩ := k
      refine Rn.ldiv (n := 213) d_Rf_left_212 rfl z6 ?_
      exact Rn.lret d_Rf_left_213 rfl k
    · have k := k.2 cc
      refine Rn.lload (n := 205) (i := 8) d_Rf_left_203 rfl rfl ?_
      refine Rn.goto (n := 210) d_Rf_left_205 (by decide) ?_
      refine Rn.lload (n := 212) (i := 12) d_Rf_left_210 rfl rfl ?_
      obtain ⟨z7, k⟩ := k
      refine Rn.ldiv (n := 213) d_Rf_left_212 rfl z7 ?_
      exact Rn.lret d_Rf_left_213 rfl k
  · have k := k.2 cc
    refine Rn.lconst (n := 103) (v := 1) d_Rf_left_102 rfl rfl ?_
    refine Rn.lstore (n := 105) (i := 13) (ls2 := [some (vR [1]), some (vI a1), some (vI a2), some (vI a3), some (vI a4), some (vI a5), some (vL a6), none, some (vL a8), none, some (vL a10), none, some (vI a12), some (vL 1), none, none]) d_Rf_left_103 rfl (Nat.le_of_ble_eq_true rfl) rfl ?_
    refine Rn.iconst (n := 106) (v := 1) d_Rf_left_105 rfl (by decide) ?_
    refine Rn.istore (n := 108) (i := 15) (ls2 := [some (vR [1]), some (vI a1), some (vI a2), some (vI a3), some (vI a4), some (vI a5), some (vL a6), none, some (vL a8), none, some (vL a10), none, some (vI a12), some (vL 1), none, some (vI 1)]) d_Rf_left_106 rfl (Nat.le_of_ble_eq_true rfl) rfl ?_
    exact k
theorem g_Rf_left_108 {X : XS} (a1 : Int32) (a2 : Int32) (a3 : Int32) (a4 : Int32) (a5 : Int32) (a6 : Int64) (a8 : Int64) (a10 : Int64) (a12 : Int32) (a13 : Int64) (a15 : Int32) (h : Hp) (Q : Option AV → Hp → Prop)  (k : ((a12 < a15 → Rn X m_Rf_left 141 [some (vR [1]), some (vI a1), some (vI a2), some (vI a3), some (vI a4), some (vI a5), some (vL a6), none, some (vL a8), none, some (vL a10), none, some (vI a12), some (vL a13), none, some (vI 0)] [] h Q) ∧ (¬ a12 < a15 → (¬ a15.toInt64 = 0 ∧ Rn X m_Rf_left 108 [some (vR [1]), some (vI a1), some (vI a2), some (vI a3), some (vI a4), some (vI a5), some (vL a6), none, some (vL a8), none, some (vL a10), none, some (vI a12), some (vL ((a13 * (((a1 - a12) + a15).toInt64)) / a15.toInt64)), none, some (vI (a15 + 1))] [] h Q)))) : Rn X m_Rf_left 108 [some (vR [1]), some (vI a1), some (vI a2), some (vI a3), some (vI a4), some (vI a5), some (vL a6), none, some (vL a8), none, some (vL a10), none, some (vI a12), some (vL a13), none, some (vI a15)] [] h Q := by
  refine Rn.iload (n := 110) (i := 15) d_Rf_left_108 rfl rfl ?_
  refine Rn.iload (n := 112) (i := 12) d_Rf_left_110 rfl rfl ?_
  refine Rn.icmp_gt (n := 115) (t := 138) d_Rf_left_112 rfl (by decide) (fun cc => ?_) (fun cc => ?_)
  · have k := k.1 cc
    refine Rn.iconst (n := 139) (v := 0) d_Rf_left_138 rfl (by decide) ?_
    refine Rn.istore (n := 141) (i := 15) (ls2 := [some (vR [1]), some (vI a1), some (vI a2), some (vI a3), some (vI a4), some (vI a5), some (vL a6), none, some (vL a8), none, some (vL a10), none, some (vI a12), some (vL a13), none, some (vI 0)]) d_Rf_left_139 rfl (Nat.le_of_ble_eq_true rfl) rfl ?_
    exact k
  · have k := k.2 cc
    refine Rn.lload (n := 117) (i := 13) d_Rf_left_115 rfl rfl ?_
    refine Rn.iload_n (n := 118) (i := 1) d_Rf_left_117 rfl rfl rfl ?_
    refine Rn.iload (n := 120) (i := 12) d_Rf_left_118 rfl rfl ?_
    refine Rn.isub (n := 121) d_Rf_left_120 rfl ?_
    refine Rn.iload (n := 123) (i := 15) d_Rf_left_121 rfl rfl ?_
    refine Rn.iadd (n := 124) d_Rf_left_123 rfl ?_
    refine Rn.i2l (n := 125) d_Rf_left_124 rfl ?_
    refine Rn.lmul (n := 126) d_Rf_left_125 rfl ?_
    refine Rn.iload (n := 128) (i := 15) d_Rf_left_126 rfl rfl ?_
    refine Rn.i2l (n := 129) d_Rf_left_128 rfl ?_
    obtain ⟨z1, k⟩ := k
    refine Rn.ldiv (n := 130) d_Rf_left_129 rfl z1 ?_
    refine Rn.lstore (n := 132) (i := 13) (ls2 := [some (vR [1]), some (vI a1), some (vI a2), some (vI a3), some (vI a4), some (vI a5), some (vL a6), none, some (vL a8), none, some (vL a10), none, some (vI a12), some (vL ((a13 * (((a1 - a12) + a15).toInt64)) / a15.toInt64)), none, some (vI a15)]) d_Rf_left_130 rfl (Nat.le_of_ble_eq_true rfl) rfl ?_
    refine Rn.iinc (n := 135) (i := 15) (v := a15 + 1) (ls2 := [some (vR [1]), some (vI a1), some (vI a2), some (vI a3), some (vI a4), some (vI a5), some (vL a6), none, some (vL a8), none, some (vL a10), none, some (vI a12), some (vL ((a13 * (((a1 - a12) + a15).toInt64)) / a15.toInt64)), none, some (vI (a15 + 1))]) d_Rf_left_132 rfl rfl rfl (Nat.le_of_ble_eq_true rfl) rfl ?_
    refine Rn.goto (n := 108) d_Rf_left_135 (by decide) ?_
    exact k
theorem g_Rf_left_141 {X : XS} (a1 : Int32) (a2 : Int32) (a3 : Int32) (a4 : Int32) (a5 : Int32) (a6 : Int64) (a8 : Int64) (a10 : Int64) (a12 : Int32) (a13 : Int64) (a15 : Int32) (h : Hp) (Q : Option AV → Hp → Prop)  (k : ((a1 ≤ a15 → Rn X m_Rf_left 96 [some (vR [1]), some (vI a1), some (vI a2), some (vI a3), some (vI a4), some (vI a5), some (vL a6), none, some (vL (a8 + a13)), none, some (vL a10), none, some (vI (a12 + 1)), none, none, none] [] h Q) ∧ (¬ a1 ≤ a15 → ((a12 ≤ a15 → Rn X m_Rf_left 141 [some (vR [1]), some (vI a1), some (vI a2), some (vI a3), some (vI a4), some (vI a5), some (vL a6), none, some (vL a8), none, some (vL a10), none, some (vI a12), some (vL (a13 * (100 - a6))), none, some (vI (a15 + 1))] [] h Q) ∧ (¬ a12 ≤ a15 → Rn X m_Rf_left 141 [some (vR [1]), some (vI a1), some (vI a2), some (vI a3), some (vI a4), some (vI a5), some (vL a6), none, some (vL a8), none, some (vL a10), none, some (vI a12), some (vL (a13 * a6)), none, some (vI (a15 + 1))] [] h Q))))) : Rn X m_Rf_left 141 [some (vR [1]), some (vI a1), some (vI a2), some (vI a3), some (vI a4), some (vI a5), some (vL a6), none, some (vL a8), none, some (vL a10), none, some (vI a12), some (vL a13), none, some (vI a15)] [] h Q := by
  refine Rn.iload (n := 143) (i := 15) d_Rf_left_141 rfl rfl ?_
  refine Rn.iload_n (n := 144) (i := 1) d_Rf_left_143 rfl rfl rfl ?_
  refine Rn.icmp_ge (n := 147) (t := 176) d_Rf_left_144 rfl (by decide) (fun cc => ?_) (fun cc => ?_)
  · have k := k.1 cc
    refine Rn.lload (n := 178) (i := 8) d_Rf_left_176 rfl rfl ?_
    refine Rn.lload (n := 180) (i := 13) d_Rf_left_178 rfl rfl ?_
    refine Rn.ladd (n := 181) d_Rf_left_180 rfl ?_
    refine Rn.lstore (n := 183) (i := 8) (ls2 := [some (vR [1]), some (vI a1), some (vI a2), some (vI a3), some (vI a4), some (vI a5), some (vL a6), none, some (vL (a8 + a13)), none, some (vL a10), none, some (vI a12), some (vL a13), none, some (vI a15)]) d_Rf_left_181 rfl (Nat.le_of_ble_eq_true rfl) rfl ?_
    refine Rn.iinc (n := 186) (i := 12) (v := a12 + 1) (ls2 := [some (vR [1]), some (vI a1), some (vI a2), some (vI a3), some (vI a4), some (vI a5), some (vL a6), none, some (vL (a8 + a13)), none, some (vL a10), none, some (vI (a12 + 1)), some (vL a13), none, some (vI a15)]) d_Rf_left_183 rfl rfl rfl (Nat.le_of_ble_eq_true rfl) rfl ?_
    refine Rn.goto (n := 96) d_Rf_left_186 (by decide) ?_
    exact Rn.loc [some (vR [1]), some (vI a1), some (vI a2), some (vI a3), some (vI a4), some (vI a5), some (vL a6), none, some (vL (a8 + a13)), none, some (vL a10), none, some (vI (a12 + 1)), none, none, none] (LLe_ok ⟨rfl, ⟨rfl, ⟨rfl, ⟨rfl, ⟨rfl, ⟨rfl, ⟨rfl, ⟨rfl, ⟨rfl, ⟨rfl, trivial⟩⟩⟩⟩⟩⟩⟩⟩⟩⟩) k
  · have k := k.2 cc
    refine Rn.lload (n := 149) (i := 13) d_Rf_left_147 rfl rfl ?_
    refine Rn.iload (n := 151) (i := 15) d_Rf_left_149 rfl rfl ?_
    refine Rn.iload (n := 153) (i := 12) d_Rf_left_151 rfl rfl ?_
    refine Rn.icmp_ge (n := 156) (t := 161) d_Rf_left_153 rfl (by decide) (fun cc => ?_) (fun cc => ?_)
    · have k := k.1 cc
      refine Rn.ldc2 (n := 164) (v := 100) d_Rf_left_161 rfl cl_Rf_277 ?_
      refine Rn.lload (n := 166) (i := 6) d_Rf_left_164 rfl rfl ?_
      refine Rn.lsub (n := 167) d_Rf_left_166 rfl ?_
      refine Rn.lmul (n := 168) d_Rf_left_167 rfl ?_
      refine Rn.lstore (n := 170) (i := 13) (ls2 := [some (vR [1]), some (vI a1), some (vI a2), some (vI a3), some (vI a4), some (vI a5), some (vL a6), none, some (vL a8), none, some (vL a10), none, some (vI a12), some (vL (a13 * (100 - a6))), none, some (vI a15)]) d_Rf_left_168 rfl (Nat.le_of_ble_eq_true rfl) rfl ?_
      refine Rn.iinc (n := 173) (i := 15) (v := a15 + 1) (ls2 := [some (vR [1]), some (vI a1), some (vI a2), some (vI a3), some (vI a4), some (vI a5), some (vL a6), none, some (vL a8), none, some (vL a10), none, some (vI a12), some (vL (a13 * (100 - a6))), none, some (vI (a15 + 1))]) d_Rf_left_170 rfl rfl rfl (Nat.le_of_ble_eq_true rfl) rfl ?_
      refine Rn.goto (n := 141) d_Rf_left_173 (by decide) ?_
      exact k
    · have k := k.2 cc
      refine Rn.lload (n := 158) (i := 6) d_Rf_left_156 rfl rfl ?_
      refine Rn.goto (n := 167) d_Rf_left_158 (by decide) ?_
      refine Rn.lmul (n := 168) d_Rf_left_167 rfl ?_
      refine Rn.lstore (n := 170) (i := 13) (ls2 := [some (vR [1]), some (vI a1), some (vI a2), some (vI a3), some (vI a4), some (vI a5), some (vL a6), none, some (vL a8), none, some (vL a10), none, some (vI a12), some (vL (a13 * a6)), none, some (vI a15)]) d_Rf_left_168 rfl (Nat.le_of_ble_eq_true rfl) rfl ?_
      refine Rn.iinc (n := 173) (i := 15) (v := a15 + 1) (ls2 := [some (vR [1]), some (vI a1), some (vI a2), some (vI a3), some (vI a4), some (vI a5), some (vL a6), none, some (vL a8), none, some (vL a10), none, some (vI a12), some (vL (a13 * a6)), none, some (vI (a15 + 1))]) d_Rf_left_170 rfl rfl rfl (Nat.le_of_ble_eq_true rfl) rfl ?_
      refine Rn.goto (n := 141) d_Rf_left_173 (by decide) ?_
      exact k
theorem e_Rf_left {X : XS} (a1 : Int32) (a2 : Int32) (a3 : Int32) (a4 : Int32) (a5 : Int32) (h : Hp) (Q : Option AV → Hp → Prop) (k : Rn X m_Rf_left 0 [some (vR [1]), some (vI a1), some (vI a2), some (vI a3), some (vI a4), some (vI a5), none, none, none, none, none, none, none, none, none, none] [] h Q) : Ev X m_Rf_left [vR [1], vI a1, vI a2, vI a3, vI a4, vI a5] h Q := Ev.intro (plainFor_of_name (by decide +kernel)) (Nat.le_of_ble_eq_true rfl) (ls := [some (vR [1]), some (vI a1), some (vI a2), some (vI a3), some (vI a4), some (vI a5), none, none, none, none, none, none, none, none, none, none]) rfl k
theorem d_Rf_wetFrom_0 : decode m_Rf_wetFrom.2.1 0 = .ok (.aload_n 0, 1) := by decide +kernel
theorem d_Rf_wetFrom_1 : decode m_Rf_wetFrom.2.1 1 = .ok (.getfield 48, 3) := by decide +kernel
theorem d_Rf_wetFrom_4 : decode m_Rf_wetFrom.2.1 4 = .ok (.bipush 12, 2) := by decide +kernel
theorem d_Rf_wetFrom_6 : decode m_Rf_wetFrom.2.1 6 = .ok (.iload_n 1, 1) := by decide +kernel
theorem d_Rf_wetFrom_7 : decode m_Rf_wetFrom.2.1 7 = .ok (.imul, 1) := by decide +kernel
theorem d_Rf_wetFrom_8 : decode m_Rf_wetFrom.2.1 8 = .ok (.iload_n 2, 1) := by decide +kernel
theorem d_Rf_wetFrom_9 : decode m_Rf_wetFrom.2.1 9 = .ok (.iadd, 1) := by decide +kernel
theorem d_Rf_wetFrom_10 : decode m_Rf_wetFrom.2.1 10 = .ok (.iaload, 1) := by decide +kernel
theorem d_Rf_wetFrom_11 : decode m_Rf_wetFrom.2.1 11 = .ok (.istore_n 3, 1) := by decide +kernel
theorem d_Rf_wetFrom_12 : decode m_Rf_wetFrom.2.1 12 = .ok (.aload_n 0, 1) := by decide +kernel
theorem d_Rf_wetFrom_13 : decode m_Rf_wetFrom.2.1 13 = .ok (.getfield 70, 3) := by decide +kernel
theorem d_Rf_wetFrom_16 : decode m_Rf_wetFrom.2.1 16 = .ok (.iload_n 1, 1) := by decide +kernel
theorem d_Rf_wetFrom_17 : decode m_Rf_wetFrom.2.1 17 = .ok (.invokestatic 73, 3) := by decide +kernel
theorem d_Rf_wetFrom_20 : decode m_Rf_wetFrom.2.1 20 = .ok (.ifCond .eq 22, 3) := by decide +kernel
theorem d_Rf_wetFrom_23 : decode m_Rf_wetFrom.2.1 23 = .ok (.aload_n 0, 1) := by decide +kernel
theorem d_Rf_wetFrom_24 : decode m_Rf_wetFrom.2.1 24 = .ok (.getfield 16, 3) := by decide +kernel
theorem d_Rf_wetFrom_27 : decode m_Rf_wetFrom.2.1 27 = .ok (.bipush 6, 2) := by decide +kernel
theorem d_Rf_wetFrom_29 : decode m_Rf_wetFrom.2.1 29 = .ok (.iload_n 1, 1) := by decide +kernel
theorem d_Rf_wetFrom_30 : decode m_Rf_wetFrom.2.1 30 = .ok (.imul, 1) := by decide +kernel
theorem d_Rf_wetFrom_31 : decode m_Rf_wetFrom.2.1 31 = .ok (.iconst 4, 1) := by decide +kernel
theorem d_Rf_wetFrom_32 : decode m_Rf_wetFrom.2.1 32 = .ok (.iadd, 1) := by decide +kernel
theorem d_Rf_wetFrom_33 : decode m_Rf_wetFrom.2.1 33 = .ok (.iaload, 1) := by decide +kernel
theorem d_Rf_wetFrom_34 : decode m_Rf_wetFrom.2.1 34 = .ok (.ifCond .gt 8, 3) := by decide +kernel
theorem d_Rf_wetFrom_37 : decode m_Rf_wetFrom.2.1 37 = .ok (.iload_n 3, 1) := by decide +kernel
theorem d_Rf_wetFrom_38 : decode m_Rf_wetFrom.2.1 38 = .ok (.iconst (-1), 1) := by decide +kernel
theorem d_Rf_wetFrom_39 : decode m_Rf_wetFrom.2.1 39 = .ok (.if_icmp .ne 5, 3) := by decide +kernel
theorem d_Rf_wetFrom_42 : decode m_Rf_wetFrom.2.1 42 = .ok (.iconst (-1), 1) := by decide +kernel
theorem d_Rf_wetFrom_43 : decode m_Rf_wetFrom.2.1 43 = .ok (.ireturn, 1) := by decide +kernel
theorem d_Rf_wetFrom_44 : decode m_Rf_wetFrom.2.1 44 = .ok (.iconst 0, 1) := by decide +kernel
theorem d_Rf_wetFrom_45 : decode m_Rf_wetFrom.2.1 45 = .ok (.istore 4, 2) := by decide +kernel
theorem d_Rf_wetFrom_47 : decode m_Rf_wetFrom.2.1 47 = .ok (.iload_n 3, 1) := by decide +kernel
theorem d_Rf_wetFrom_48 : decode m_Rf_wetFrom.2.1 48 = .ok (.iconst 1, 1) := by decide +kernel
theorem d_Rf_wetFrom_49 : decode m_Rf_wetFrom.2.1 49 = .ok (.iadd, 1) := by decide +kernel
theorem d_Rf_wetFrom_50 : decode m_Rf_wetFrom.2.1 50 = .ok (.istore 5, 2) := by decide +kernel
theorem d_Rf_wetFrom_52 : decode m_Rf_wetFrom.2.1 52 = .ok (.iload 5, 2) := by decide +kernel
theorem d_Rf_wetFrom_54 : decode m_Rf_wetFrom.2.1 54 = .ok (.bipush 60, 2) := by decide +kernel
theorem d_Rf_wetFrom_56 : decode m_Rf_wetFrom.2.1 56 = .ok (.if_icmp .ge 26, 3) := by decide +kernel
theorem d_Rf_wetFrom_59 : decode m_Rf_wetFrom.2.1 59 = .ok (.iload 4, 2) := by decide +kernel
theorem d_Rf_wetFrom_61 : decode m_Rf_wetFrom.2.1 61 = .ok (.aload_n 0, 1) := by decide +kernel
theorem d_Rf_wetFrom_62 : decode m_Rf_wetFrom.2.1 62 = .ok (.getfield 45, 3) := by decide +kernel
theorem d_Rf_wetFrom_65 : decode m_Rf_wetFrom.2.1 65 = .ok (.bipush 6, 2) := by decide +kernel
theorem d_Rf_wetFrom_67 : decode m_Rf_wetFrom.2.1 67 = .ok (.iload 5, 2) := by decide +kernel
theorem d_Rf_wetFrom_69 : decode m_Rf_wetFrom.2.1 69 = .ok (.imul, 1) := by decide +kernel
theorem d_Rf_wetFrom_70 : decode m_Rf_wetFrom.2.1 70 = .ok (.iload_n 1, 1) := by decide +kernel
theorem d_Rf_wetFrom_71 : decode m_Rf_wetFrom.2.1 71 = .ok (.iadd, 1) := by decide +kernel
theorem d_Rf_wetFrom_72 : decode m_Rf_wetFrom.2.1 72 = .ok (.iaload, 1) := by decide +kernel
theorem d_Rf_wetFrom_73 : decode m_Rf_wetFrom.2.1 73 = .ok (.iadd, 1) := by decide +kernel
theorem d_Rf_wetFrom_74 : decode m_Rf_wetFrom.2.1 74 = .ok (.istore 4, 2) := by decide +kernel
theorem d_Rf_wetFrom_76 : decode m_Rf_wetFrom.2.1 76 = .ok (.iinc 5 1, 3) := by decide +kernel
theorem d_Rf_wetFrom_79 : decode m_Rf_wetFrom.2.1 79 = .ok (.goto (-27), 3) := by decide +kernel
theorem d_Rf_wetFrom_82 : decode m_Rf_wetFrom.2.1 82 = .ok (.iload 4, 2) := by decide +kernel
theorem d_Rf_wetFrom_84 : decode m_Rf_wetFrom.2.1 84 = .ok (.ireturn, 1) := by decide +kernel
theorem g_Rf_wetFrom_0 {X : XS} (a1 : Int32) (a2 : Int32) (h : Hp) (Q : Option AV → Hp → Prop)  (k : (vp_in ((12 * a1) + a2) 72 ∧ (∃ Q'5, EvI X m_Rf_has [vI (h.1 [1] 3), vI a1] h Q'5 ∧ ∀ (r6 : Int32) (h4 : Hp), Q'5 r6 h4 → ((r6 = 0 → Q (some (vI (-1))) h4) ∧ (¬ r6 = 0 → (vp_in ((6 * a1) + 4) 36 ∧ ((0 < (h4.1 [4, 1] ((6 * a1) + 4).toNatClampNeg) → Q (some (vI (-1))) h4) ∧ (¬ 0 < (h4.1 [4, 1] ((6 * a1) + 4).toNatClampNeg) → ((¬ (h.1 [24, 1] ((12 * a1) + a2).toNatClampNeg) = (-1) → Rn X m_Rf_wetFrom 52 [some (vR [1]), some (vI a1), some (vI a2), some (vI (h.1 [24, 1] ((12 * a1) + a2).toNatClampNeg)), some (vI 0), some (vI ((h.1 [24, 1] ((12 * a1) + a2).toNatClampNeg) + 1))] [] h4 Q) ∧ ((h.1 [24, 1] ((12 * a1) + a2).toNatClampNeg) = (-1) → Q (some (vI (-1))) h4)))))))))) : Rn X m_Rf_wetFrom 0 [some (vR [1]), some (vI a1), some (vI a2), none, none, none] [] h Q := by
  refine Rn.aload_n (n := 1) (i := 0) d_Rf_wetFrom_0 rfl rfl rfl ?_
  refine Rn.getf (n := 4) (v := vR [24, 1]) d_Rf_wetFrom_1 rfl fl_Rf_48 Lv_1 rfl ?_
  refine Rn.bipush (n := 6) (v := 12) d_Rf_wetFrom_4 rfl (by decide) ?_
  refine Rn.iload_n (n := 7) (i := 1) d_Rf_wetFrom_6 rfl rfl rfl ?_
  refine Rn.imul (n := 8) d_Rf_wetFrom_7 rfl ?_
  refine Rn.iload_n (n := 9) (i := 2) d_Rf_wetFrom_8 rfl rfl rfl ?_
  refine Rn.iadd (n := 10) d_Rf_wetFrom_9 rfl ?_
  obtain ⟨b1, k⟩ := k
  refine Rn.iald (n := 11) (v := h.1 [24, 1] ((12 * a1) + a2).toNatClampNeg) d_Rf_wetFrom_10 rfl Lv_24_1 b1 rfl ?_
  refine Rn.istore_n (n := 12) (i := 3) (ls2 := [some (vR [1]), some (vI a1), some (vI a2), some (vI (h.1 [24, 1] ((12 * a1) + a2).toNatClampNeg)), none, none]) d_Rf_wetFrom_11 rfl rfl (Nat.le_of_ble_eq_true rfl) rfl ?_
  refine Rn.aload_n (n := 13) (i := 0) d_Rf_wetFrom_12 rfl rfl rfl ?_
  refine Rn.getf (n := 16) (v := vI (h.1 [1] 3)) d_Rf_wetFrom_13 rfl fl_Rf_70 Lv_1 rfl ?_
  refine Rn.iload_n (n := 17) (i := 1) d_Rf_wetFrom_16 rfl rfl rfl ?_
  obtain ⟨Q'5, ev2, k⟩ := k
  refine Rn.callS (n := 20) (av := [vI (h.1 [1] 3), vI a1]) d_Rf_wetFrom_17 rfl ml_Rf_wetFrom_73 ms_Rf_has rfl rfl (Nat.le_of_ble_eq_true rfl) ev2 (fun v h4 hq => ?_)
  obtain ⟨r6, rfl, hq⟩ := hq
  have k := k r6 h4 hq
  show Rn X m_Rf_wetFrom 20 [some (vR [1]), some (vI a1), some (vI a2), some (vI (h.1 [24, 1] ((12 * a1) + a2).toNatClampNeg)), none, none] [vI r6] h4 Q
  refine Rn.if_eq (n := 23) (t := 42) d_Rf_wetFrom_20 rfl (by decide) (fun cc => ?_) (fun cc => ?_)
  · have k := k.1 cc
    refine Rn.iconst (n := 43) (v := (-1)) d_Rf_wetFrom_42 rfl (by decide) ?_
    exact Rn.iret d_Rf_wetFrom_43 rfl rfl k
  · have k := k.2 cc
    refine Rn.aload_n (n := 24) (i := 0) d_Rf_wetFrom_23 rfl rfl rfl ?_
    refine Rn.getf (n := 27) (v := vR [4, 1]) d_Rf_wetFrom_24 rfl fl_Rf_16 Lv_1 rfl ?_
    refine Rn.bipush (n := 29) (v := 6) d_Rf_wetFrom_27 rfl (by decide) ?_
    refine Rn.iload_n (n := 30) (i := 1) d_Rf_wetFrom_29 rfl rfl rfl ?_
    refine Rn.imul (n := 31) d_Rf_wetFrom_30 rfl ?_
    refine Rn.iconst (n := 32) (v := 4) d_Rf_wetFrom_31 rfl (by decide) ?_
    refine Rn.iadd (n := 33) d_Rf_wetFrom_32 rfl ?_
    obtain ⟨b7, k⟩ := k
    refine Rn.iald (n := 34) (v := h4.1 [4, 1] ((6 * a1) + 4).toNatClampNeg) d_Rf_wetFrom_33 rfl Lv_4_1 b7 rfl ?_
    refine Rn.if_gt (n := 37) (t := 42) d_Rf_wetFrom_34 rfl (by decide) (fun cc => ?_) (fun cc => ?_)
    · have k := k.1 cc
      refine Rn.iconst (n := 43) (v := (-1)) d_Rf_wetFrom_42 rfl (by decide) ?_
      exact Rn.iret d_Rf_wetFrom_43 rfl rfl k
    · have k := k.2 cc
      refine Rn.iload_n (n := 38) (i := 3) d_Rf_wetFrom_37 rfl rfl rfl ?_
      refine Rn.iconst (n := 39) (v := (-1)) d_Rf_wetFrom_38 rfl (by decide) ?_
      refine Rn.icmp_ne (n := 42) (t := 44) d_Rf_wetFrom_39 rfl (by decide) (fun cc => ?_) (fun cc => ?_)
      · have k := k.1 cc
        refine Rn.iconst (n := 45) (v := 0) d_Rf_wetFrom_44 rfl (by decide) ?_
        refine Rn.istore (n := 47) (i := 4) (ls2 := [some (vR [1]), some (vI a1), some (vI a2), some (vI (h.1 [24, 1] ((12 * a1) + a2).toNatClampNeg)), some (vI 0), none]) d_Rf_wetFrom_45 rfl (Nat.le_of_ble_eq_true rfl) rfl ?_
        refine Rn.iload_n (n := 48) (i := 3) d_Rf_wetFrom_47 rfl rfl rfl ?_
        refine Rn.iconst (n := 49) (v := 1) d_Rf_wetFrom_48 rfl (by decide) ?_
        refine Rn.iadd (n := 50) d_Rf_wetFrom_49 rfl ?_
        refine Rn.istore (n := 52) (i := 5) (ls2 := [some (vR [1]), some (vI a1), some (vI a2), some (vI (h.1 [24, 1] ((12 * a1) + a2).toNatClampNeg)), some (vI 0), some (vI ((h.1 [24, 1] ((12 * a1) + a2).toNatClampNeg) + 1))]) d_Rf_wetFrom_50 rfl (Nat.le_of_ble_eq_true rfl) rfl ?_
        exact k
      · have k := k.2 cc
        refine Rn.iconst (n := 43) (v := (-1)) d_Rf_wetFrom_42 rfl (by decide) ?_
        exact Rn.iret d_Rf_wetFrom_43 rfl rfl k
theorem g_Rf_wetFrom_52 {X : XS} (a1 : Int32) (a2 : Int32) (a3 : Int32) (a4 : Int32) (a5 : Int32) (h : Hp) (Q : Option AV → Hp → Prop)  (k : ((60 ≤ a5 → Q (some (vI a4)) h) ∧ (¬ 60 ≤ a5 → (vp_in ((6 * a5) + a1) 360 ∧ Rn X m_Rf_wetFrom 52 [some (vR [1]), some (vI a1), some (vI a2), some (vI a3), some (vI (a4 + (h.1 [23, 1] ((6 * a5) + a1).toNatClampNeg))), some (vI (a5 + 1))] [] h Q)))) : Rn X m_Rf_wetFrom 52 [some (vR [1]), some (vI a1), some (vI a2), some (vI a3), some (vI a4), some (vI a5)] [] h Q := by
  refine Rn.iload (n := 54) (i := 5) d_Rf_wetFrom_52 rfl rfl ?_
  refine Rn.bipush (n := 56) (v := 60) d_Rf_wetFrom_54 rfl (by decide) ?_
  refine Rn.icmp_ge (n := 59) (t := 82) d_Rf_wetFrom_56 rfl (by decide) (fun cc => ?_) (fun cc => ?_)
  · have k := k.1 cc
    refine Rn.iload (n := 84) (i := 4) d_Rf_wetFrom_82 rfl rfl ?_
    exact Rn.iret d_Rf_wetFrom_84 rfl rfl k
  · have k := k.2 cc
    refine Rn.iload (n := 61) (i := 4) d_Rf_wetFrom_59 rfl rfl ?_
    refine Rn.aload_n (n := 62) (i := 0) d_Rf_wetFrom_61 rfl rfl rfl ?_
    refine Rn.getf (n := 65) (v := vR [23, 1]) d_Rf_wetFrom_62 rfl fl_Rf_45 Lv_1 rfl ?_
    refine Rn.bipush (n := 67) (v := 6) d_Rf_wetFrom_65 rfl (by decide) ?_
    refine Rn.iload (n := 69) (i := 5) d_Rf_wetFrom_67 rfl rfl ?_
    refine Rn.imul (n := 70) d_Rf_wetFrom_69 rfl ?_
    refine Rn.iload_n (n := 71) (i := 1) d_Rf_wetFrom_70 rfl rfl rfl ?_
    refine Rn.iadd (n := 72) d_Rf_wetFrom_71 rfl ?_
    obtain ⟨b1, k⟩ := k
    refine Rn.iald (n := 73) (v := h.1 [23, 1] ((6 * a5) + a1).toNatClampNeg) d_Rf_wetFrom_72 rfl Lv_23_1 b1 rfl ?_
    refine Rn.iadd (n := 74) d_Rf_wetFrom_73 rfl ?_
    refine Rn.istore (n := 76) (i := 4) (ls2 := [some (vR [1]), some (vI a1), some (vI a2), some (vI a3), some (vI (a4 + (h.1 [23, 1] ((6 * a5) + a1).toNatClampNeg))), some (vI a5)]) d_Rf_wetFrom_74 rfl (Nat.le_of_ble_eq_true rfl) rfl ?_
    refine Rn.iinc (n := 79) (i := 5) (v := a5 + 1) (ls2 := [some (vR [1]), some (vI a1), some (vI a2), some (vI a3), some (vI (a4 + (h.1 [23, 1] ((6 * a5) + a1).toNatClampNeg))), some (vI (a5 + 1))]) d_Rf_wetFrom_76 rfl rfl rfl (Nat.le_of_ble_eq_true rfl) rfl ?_
    refine Rn.goto (n := 52) d_Rf_wetFrom_79 (by decide) ?_
    exact k
theorem e_Rf_wetFrom {X : XS} (a1 : Int32) (a2 : Int32) (h : Hp) (Q : Option AV → Hp → Prop) (k : Rn X m_Rf_wetFrom 0 [some (vR [1]), some (vI a1), some (vI a2), none, none, none] [] h Q) : Ev X m_Rf_wetFrom [vR [1], vI a1, vI a2] h Q := Ev.intro (plainFor_of_name (by decide +kernel)) (Nat.le_of_ble_eq_true rfl) (ls := [some (vR [1]), some (vI a1), some (vI a2), none, none, none]) rfl k
theorem d_Rf_sold_0 : decode m_Rf_sold.2.1 0 = .ok (.iconst 0, 1) := by decide +kernel
theorem d_Rf_sold_1 : decode m_Rf_sold.2.1 1 = .ok (.istore_n 3, 1) := by decide +kernel
theorem d_Rf_sold_2 : decode m_Rf_sold.2.1 2 = .ok (.iconst 0, 1) := by decide +kernel
theorem d_Rf_sold_3 : decode m_Rf_sold.2.1 3 = .ok (.istore 4, 2) := by decide +kernel
theorem d_Rf_sold_5 : decode m_Rf_sold.2.1 5 = .ok (.iload 4, 2) := by decide +kernel
theorem d_Rf_sold_7 : decode m_Rf_sold.2.1 7 = .ok (.bipush 6, 2) := by decide +kernel
theorem d_Rf_sold_9 : decode m_Rf_sold.2.1 9 = .ok (.if_icmp .ge 28, 3) := by decide +kernel
theorem d_Rf_sold_12 : decode m_Rf_sold.2.1 12 = .ok (.iload_n 3, 1) := by decide +kernel
theorem d_Rf_sold_13 : decode m_Rf_sold.2.1 13 = .ok (.aload_n 0, 1) := by decide +kernel
theorem d_Rf_sold_14 : decode m_Rf_sold.2.1 14 = .ok (.iload 4, 2) := by decide +kernel
theorem d_Rf_sold_16 : decode m_Rf_sold.2.1 16 = .ok (.iload_n 1, 1) := by decide +kernel
theorem d_Rf_sold_17 : decode m_Rf_sold.2.1 17 = .ok (.invokevirtual 281, 3) := by decide +kernel
theorem d_Rf_sold_20 : decode m_Rf_sold.2.1 20 = .ok (.iload_n 2, 1) := by decide +kernel
theorem d_Rf_sold_21 : decode m_Rf_sold.2.1 21 = .ok (.if_icmp .lt 7, 3) := by decide +kernel
theorem d_Rf_sold_24 : decode m_Rf_sold.2.1 24 = .ok (.iload_n 2, 1) := by decide +kernel
theorem d_Rf_sold_25 : decode m_Rf_sold.2.1 25 = .ok (.goto 4, 3) := by decide +kernel
theorem d_Rf_sold_28 : decode m_Rf_sold.2.1 28 = .ok (.iconst 0, 1) := by decide +kernel
theorem d_Rf_sold_29 : decode m_Rf_sold.2.1 29 = .ok (.iadd, 1) := by decide +kernel
theorem d_Rf_sold_30 : decode m_Rf_sold.2.1 30 = .ok (.istore_n 3, 1) := by decide +kernel
theorem d_Rf_sold_31 : decode m_Rf_sold.2.1 31 = .ok (.iinc 4 1, 3) := by decide +kernel
theorem d_Rf_sold_34 : decode m_Rf_sold.2.1 34 = .ok (.goto (-29), 3) := by decide +kernel
theorem d_Rf_sold_37 : decode m_Rf_sold.2.1 37 = .ok (.iload_n 3, 1) := by decide +kernel
theorem d_Rf_sold_38 : decode m_Rf_sold.2.1 38 = .ok (.ireturn, 1) := by decide +kernel
theorem g_Rf_sold_0 {X : XS} (a1 : Int32) (a2 : Int32) (h : Hp) (Q : Option AV → Hp → Prop)  (k : Rn X m_Rf_sold 5 [some (vR [1]), some (vI a1), some (vI a2), some (vI 0), some (vI 0)] [] h Q) : Rn X m_Rf_sold 0 [some (vR [1]), some (vI a1), some (vI a2), none, none] [] h Q := by
  refine Rn.iconst (n := 1) (v := 0) d_Rf_sold_0 rfl (by decide) ?_
  refine Rn.istore_n (n := 2) (i := 3) (ls2 := [some (vR [1]), some (vI a1), some (vI a2), some (vI 0), none]) d_Rf_sold_1 rfl rfl (Nat.le_of_ble_eq_true rfl) rfl ?_
  refine Rn.iconst (n := 3) (v := 0) d_Rf_sold_2 rfl (by decide) ?_
  refine Rn.istore (n := 5) (i := 4) (ls2 := [some (vR [1]), some (vI a1), some (vI a2), some (vI 0), some (vI 0)]) d_Rf_sold_3 rfl (Nat.le_of_ble_eq_true rfl) rfl ?_
  exact k
theorem g_Rf_sold_5 {X : XS} (a1 : Int32) (a2 : Int32) (a3 : Int32) (a4 : Int32) (h : Hp) (Q : Option AV → Hp → Prop)  (k : ((6 ≤ a4 → Q (some (vI a3)) h) ∧ (¬ 6 ≤ a4 → (∃ Q'4, EvI X m_Rf_wetFrom [vR [1], vI a4, vI a1] h Q'4 ∧ ∀ (r5 : Int32) (h3 : Hp), Q'4 r5 h3 → ((r5 < a2 → Rn X m_Rf_sold 5 [some (vR [1]), some (vI a1), some (vI a2), some (vI (a3 + 0)), some (vI (a4 + 1))] [] h3 Q) ∧ (¬ r5 < a2 → Rn X m_Rf_sold 5 [some (vR [1]), some (vI a1), some (vI a2), some (vI (a3 + a2)), some (vI (a4 + 1))] [] h3 Q)))))) : Rn X m_Rf_sold 5 [some (vR [1]), some (vI a1), some (vI a2), some (vI a3), some (vI a4)] [] h Q := by
  refine Rn.iload (n := 7) (i := 4) d_Rf_sold_5 rfl rfl ?_
  refine Rn.bipush (n := 9) (v := 6) d_Rf_sold_7 rfl (by decide) ?_
  refine Rn.icmp_ge (n := 12) (t := 37) d_Rf_sold_9 rfl (by decide) (fun cc => ?_) (fun cc => ?_)
  · have k := k.1 cc
    refine Rn.iload_n (n := 38) (i := 3) d_Rf_sold_37 rfl rfl rfl ?_
    exact Rn.iret d_Rf_sold_38 rfl rfl k
  · have k := k.2 cc
    refine Rn.iload_n (n := 13) (i := 3) d_Rf_sold_12 rfl rfl rfl ?_
    refine Rn.aload_n (n := 14) (i := 0) d_Rf_sold_13 rfl rfl rfl ?_
    refine Rn.iload (n := 16) (i := 4) d_Rf_sold_14 rfl rfl ?_
    refine Rn.iload_n (n := 17) (i := 1) d_Rf_sold_16 rfl rfl rfl ?_
    obtain ⟨Q'4, ev1, k⟩ := k
    refine Rn.callV (n := 20) (av := [vI a4, vI a1]) d_Rf_sold_17 rfl ml_Rf_sold_281 mi_Rf_wetFrom Lv_1 rfl rfl rfl rfl (Nat.le_of_ble_eq_true rfl) ev1 (fun v h3 hq => ?_)
    obtain ⟨r5, rfl, hq⟩ := hq
    have k := k r5 h3 hq
    show Rn X m_Rf_sold 20 [some (vR [1]), some (vI a1), some (vI a2), some (vI a3), some (vI a4)] [vI r5, vI a3] h3 Q
    refine Rn.iload_n (n := 21) (i := 2) d_Rf_sold_20 rfl rfl rfl ?_
    refine Rn.icmp_lt (n := 24) (t := 28) d_Rf_sold_21 rfl (by decide) (fun cc => ?_) (fun cc => ?_)
    · have k := k.1 cc
      refine Rn.iconst (n := 29) (v := 0) d_Rf_sold_28 rfl (by decide) ?_
      refine Rn.iadd (n := 30) d_Rf_sold_29 rfl ?_
      refine Rn.istore_n (n := 31) (i := 3) (ls2 := [some (vR [1]), some (vI a1), some (vI a2), some (vI (a3 + 0)), some (vI a4)]) d_Rf_sold_30 rfl rfl (Nat.le_of_ble_eq_true rfl) rfl ?_
      refine Rn.iinc (n := 34) (i := 4) (v := a4 + 1) (ls2 := [some (vR [1]), some (vI a1), some (vI a2), some (vI (a3 + 0)), some (vI (a4 + 1))]) d_Rf_sold_31 rfl rfl rfl (Nat.le_of_ble_eq_true rfl) rfl ?_
      refine Rn.goto (n := 5) d_Rf_sold_34 (by decide) ?_
      exact k
    · have k := k.2 cc
      refine Rn.iload_n (n := 25) (i := 2) d_Rf_sold_24 rfl rfl rfl ?_
      refine Rn.goto (n := 29) d_Rf_sold_25 (by decide) ?_
      refine Rn.iadd (n := 30) d_Rf_sold_29 rfl ?_
      refine Rn.istore_n (n := 31) (i := 3) (ls2 := [some (vR [1]), some (vI a1), some (vI a2), some (vI (a3 + a2)), some (vI a4)]) d_Rf_sold_30 rfl rfl (Nat.le_of_ble_eq_true rfl) rfl ?_
      refine Rn.iinc (n := 34) (i := 4) (v := a4 + 1) (ls2 := [some (vR [1]), some (vI a1), some (vI a2), some (vI (a3 + a2)), some (vI (a4 + 1))]) d_Rf_sold_31 rfl rfl rfl (Nat.le_of_ble_eq_true rfl) rfl ?_
      refine Rn.goto (n := 5) d_Rf_sold_34 (by decide) ?_
      exact k
theorem e_Rf_sold {X : XS} (a1 : Int32) (a2 : Int32) (h : Hp) (Q : Option AV → Hp → Prop) (k : Rn X m_Rf_sold 0 [some (vR [1]), some (vI a1), some (vI a2), none, none] [] h Q) : Ev X m_Rf_sold [vR [1], vI a1, vI a2] h Q := Ev.intro (plainFor_of_name (by decide +kernel)) (Nat.le_of_ble_eq_true rfl) (ls := [some (vR [1]), some (vI a1), some (vI a2), none, none]) rfl k
theorem d_Rf_seller_0 : decode m_Rf_seller.2.1 0 = .ok (.iload_n 1, 1) := by decide +kernel
theorem d_Rf_seller_1 : decode m_Rf_seller.2.1 1 = .ok (.iconst 0, 1) := by decide +kernel
theorem d_Rf_seller_2 : decode m_Rf_seller.2.1 2 = .ok (.aload_n 0, 1) := by decide +kernel
theorem d_Rf_seller_3 : decode m_Rf_seller.2.1 3 = .ok (.getfield 13, 3) := by decide +kernel
theorem d_Rf_seller_6 : decode m_Rf_seller.2.1 6 = .ok (.iconst 1, 1) := by decide +kernel
theorem d_Rf_seller_7 : decode m_Rf_seller.2.1 7 = .ok (.isub, 1) := by decide +kernel
theorem d_Rf_seller_8 : decode m_Rf_seller.2.1 8 = .ok (.invokestatic 66, 3) := by decide +kernel
theorem d_Rf_seller_11 : decode m_Rf_seller.2.1 11 = .ok (.ifCond .ne 6, 3) := by decide +kernel
theorem d_Rf_seller_14 : decode m_Rf_seller.2.1 14 = .ok (.bipush (-2), 2) := by decide +kernel
theorem d_Rf_seller_16 : decode m_Rf_seller.2.1 16 = .ok (.ireturn, 1) := by decide +kernel
theorem d_Rf_seller_17 : decode m_Rf_seller.2.1 17 = .ok (.iload_n 2, 1) := by decide +kernel
theorem d_Rf_seller_18 : decode m_Rf_seller.2.1 18 = .ok (.iconst 1, 1) := by decide +kernel
theorem d_Rf_seller_19 : decode m_Rf_seller.2.1 19 = .ok (.bipush 99, 2) := by decide +kernel
theorem d_Rf_seller_21 : decode m_Rf_seller.2.1 21 = .ok (.invokestatic 66, 3) := by decide +kernel
theorem d_Rf_seller_24 : decode m_Rf_seller.2.1 24 = .ok (.ifCond .ne 6, 3) := by decide +kernel
theorem d_Rf_seller_27 : decode m_Rf_seller.2.1 27 = .ok (.bipush (-3), 2) := by decide +kernel
theorem d_Rf_seller_29 : decode m_Rf_seller.2.1 29 = .ok (.ireturn, 1) := by decide +kernel
theorem d_Rf_seller_30 : decode m_Rf_seller.2.1 30 = .ok (.aload_n 0, 1) := by decide +kernel
theorem d_Rf_seller_31 : decode m_Rf_seller.2.1 31 = .ok (.invokevirtual 200, 3) := by decide +kernel
theorem d_Rf_seller_34 : decode m_Rf_seller.2.1 34 = .ok (.aload_n 0, 1) := by decide +kernel
theorem d_Rf_seller_35 : decode m_Rf_seller.2.1 35 = .ok (.iconst 0, 1) := by decide +kernel
theorem d_Rf_seller_36 : decode m_Rf_seller.2.1 36 = .ok (.iconst 0, 1) := by decide +kernel
theorem d_Rf_seller_37 : decode m_Rf_seller.2.1 37 = .ok (.invokevirtual 222, 3) := by decide +kernel
theorem d_Rf_seller_40 : decode m_Rf_seller.2.1 40 = .ok (.aload_n 0, 1) := by decide +kernel
theorem d_Rf_seller_41 : decode m_Rf_seller.2.1 41 = .ok (.iload_n 1, 1) := by decide +kernel
theorem d_Rf_seller_42 : decode m_Rf_seller.2.1 42 = .ok (.iload_n 2, 1) := by decide +kernel
theorem d_Rf_seller_43 : decode m_Rf_seller.2.1 43 = .ok (.invokevirtual 284, 3) := by decide +kernel
theorem d_Rf_seller_46 : decode m_Rf_seller.2.1 46 = .ok (.ireturn, 1) := by decide +kernel
theorem g_Rf_seller_0 {X : XS} (a1 : Int32) (a2 : Int32) (h : Hp) (Q : Option AV → Hp → Prop)  (k : (∃ Q'4, EvI X m_Rf_in [vI a1, vI 0, vI ((h.1 [1] 1) - 1)] h Q'4 ∧ ∀ (r5 : Int32) (h3 : Hp), Q'4 r5 h3 → ((¬ r5 = 0 → (∃ Q'9, EvI X m_Rf_in [vI a2, vI 1, vI 99] h3 Q'9 ∧ ∀ (r10 : Int32) (h8 : Hp), Q'9 r10 h8 → ((¬ r10 = 0 → (∃ Q'14, EvV X m_Rf_sizesAsTold [vR [1]] h8 Q'14 ∧ ∀ (h13 : Hp), Q'14 h13 → (∃ Q'18, EvV X m_Rf_goWhole [vR [1], vI 0, vI 0] h13 Q'18 ∧ ∀ (h17 : Hp), Q'18 h17 → (∃ Q'22, EvI X m_Rf_sold [vR [1], vI a1, vI a2] h17 Q'22 ∧ ∀ (r23 : Int32) (h21 : Hp), Q'22 r23 h21 → Q (some (vI r23)) h21)))) ∧ (r10 = 0 → Q (some (vI (-3))) h8)))) ∧ (r5 = 0 → Q (some (vI (-2))) h3)))) : Rn X m_Rf_seller 0 [some (vR [1]), some (vI a1), some (vI a2)] [] h Q := by
  refine Rn.iload_n (n := 1) (i := 1) d_Rf_seller_0 rfl rfl rfl ?_
  refine Rn.iconst (n := 2) (v := 0) d_Rf_seller_1 rfl (by decide) ?_
  refine Rn.aload_n (n := 3) (i := 0) d_Rf_seller_2 rfl rfl rfl ?_
  refine Rn.getf (n := 6) (v := vI (h.1 [1] 1)) d_Rf_seller_3 rfl fl_Rf_13 Lv_1 rfl ?_
  refine Rn.iconst (n := 7) (v := 1) d_Rf_seller_6 rfl (by decide) ?_
  refine Rn.isub (n := 8) d_Rf_seller_7 rfl ?_
  obtain ⟨Q'4, ev1, k⟩ := k
  refine Rn.callS (n := 11) (av := [vI a1, vI 0, vI ((h.1 [1] 1) - 1)]) d_Rf_seller_8 rfl ml_Rf_seller_66 ms_Rf_in rfl rfl (Nat.le_of_ble_eq_true rfl) ev1 (fun v h3 hq => ?_)
  obtain ⟨r5, rfl, hq⟩ := hq
  have k := k r5 h3 hq
  show Rn X m_Rf_seller 11 [some (vR [1]), some (vI a1), some (vI a2)] [vI r5] h3 Q
  refine Rn.if_ne (n := 14) (t := 17) d_Rf_seller_11 rfl (by decide) (fun cc => ?_) (fun cc => ?_)
  · have k := k.1 cc
    refine Rn.iload_n (n := 18) (i := 2) d_Rf_seller_17 rfl rfl rfl ?_
    refine Rn.iconst (n := 19) (v := 1) d_Rf_seller_18 rfl (by decide) ?_
    refine Rn.bipush (n := 21) (v := 99) d_Rf_seller_19 rfl (by decide) ?_
    obtain ⟨Q'9, ev6, k⟩ := k
    refine Rn.callS (n := 24) (av := [vI a2, vI 1, vI 99]) d_Rf_seller_21 rfl ml_Rf_seller_66 ms_Rf_in rfl rfl (Nat.le_of_ble_eq_true rfl) ev6 (fun v h8 hq => ?_)
    obtain ⟨r10, rfl, hq⟩ := hq
    have k := k r10 h8 hq
    show Rn X m_Rf_seller 24 [some (vR [1]), some (vI a1), some (vI a2)] [vI r10] h8 Q
    refine Rn.if_ne (n := 27) (t := 30) d_Rf_seller_24 rfl (by decide) (fun cc => ?_) (fun cc => ?_)
    · have k := k.1 cc
      refine Rn.aload_n (n := 31) (i := 0) d_Rf_seller_30 rfl rfl rfl ?_
      obtain ⟨Q'14, ev11, k⟩ := k
      refine Rn.callV (n := 34) (av := []) d_Rf_seller_31 rfl ml_Rf_seller_200 mi_Rf_sizesAsTold Lv_1 rfl rfl rfl rfl (Nat.le_of_ble_eq_true rfl) ev11 (fun v h13 hq => ?_)
      obtain ⟨rfl, hq⟩ := hq
      have k := k h13 hq
      show Rn X m_Rf_seller 34 [some (vR [1]), some (vI a1), some (vI a2)] [] h13 Q
      refine Rn.aload_n (n := 35) (i := 0) d_Rf_seller_34 rfl rfl rfl ?_
      refine Rn.iconst (n := 36) (v := 0) d_Rf_seller_35 rfl (by decide) ?_
      refine Rn.iconst (n := 37) (v := 0) d_Rf_seller_36 rfl (by decide) ?_
      obtain ⟨Q'18, ev15, k⟩ := k
      refine Rn.callV (n := 40) (av := [vI 0, vI 0]) d_Rf_seller_37 rfl ml_Rf_seller_222 mi_Rf_goWhole Lv_1 rfl rfl rfl rfl (Nat.le_of_ble_eq_true rfl) ev15 (fun v h17 hq => ?_)
      obtain ⟨rfl, hq⟩ := hq
      have k := k h17 hq
      show Rn X m_Rf_seller 40 [some (vR [1]), some (vI a1), some (vI a2)] [] h17 Q
      refine Rn.aload_n (n := 41) (i := 0) d_Rf_seller_40 rfl rfl rfl ?_
      refine Rn.iload_n (n := 42) (i := 1) d_Rf_seller_41 rfl rfl rfl ?_
      refine Rn.iload_n (n := 43) (i := 2) d_Rf_seller_42 rfl rfl rfl ?_
      obtain ⟨Q'22, ev19, k⟩ := k
      refine Rn.callV (n := 46) (av := [vI a1, vI a2]) d_Rf_seller_43 rfl ml_Rf_seller_284 mi_Rf_sold Lv_1 rfl rfl rfl rfl (Nat.le_of_ble_eq_true rfl) ev19 (fun v h21 hq => ?_)
      obtain ⟨r23, rfl, hq⟩ := hq
      have k := k r23 h21 hq
      show Rn X m_Rf_seller 46 [some (vR [1]), some (vI a1), some (vI a2)] [vI r23] h21 Q
      exact Rn.iret d_Rf_seller_46 rfl rfl k
    · have k := k.2 cc
      refine Rn.bipush (n := 29) (v := (-3)) d_Rf_seller_27 rfl (by decide) ?_
      exact Rn.iret d_Rf_seller_29 rfl rfl k
  · have k := k.2 cc
    refine Rn.bipush (n := 16) (v := (-2)) d_Rf_seller_14 rfl (by decide) ?_
    exact Rn.iret d_Rf_seller_16 rfl rfl k
theorem e_Rf_seller {X : XS} (a1 : Int32) (a2 : Int32) (h : Hp) (Q : Option AV → Hp → Prop) (k : Rn X m_Rf_seller 0 [some (vR [1]), some (vI a1), some (vI a2)] [] h Q) : Ev X m_Rf_seller [vR [1], vI a1, vI a2] h Q := Ev.intro (plainFor_of_name (by decide +kernel)) (Nat.le_of_ble_eq_true rfl) (ls := [some (vR [1]), some (vI a1), some (vI a2)]) rfl k
theorem d_Rf_where_0 : decode m_Rf_where.2.1 0 = .ok (.iload_n 1, 1) := by decide +kernel
theorem d_Rf_where_1 : decode m_Rf_where.2.1 1 = .ok (.iconst 0, 1) := by decide +kernel
theorem d_Rf_where_2 : decode m_Rf_where.2.1 2 = .ok (.iconst 2, 1) := by decide +kernel
theorem d_Rf_where_3 : decode m_Rf_where.2.1 3 = .ok (.invokestatic 66, 3) := by decide +kernel
theorem d_Rf_where_6 : decode m_Rf_where.2.1 6 = .ok (.ifCond .ne 6, 3) := by decide +kernel
theorem d_Rf_where_9 : decode m_Rf_where.2.1 9 = .ok (.bipush (-3), 2) := by decide +kernel
theorem d_Rf_where_11 : decode m_Rf_where.2.1 11 = .ok (.ireturn, 1) := by decide +kernel
theorem d_Rf_where_12 : decode m_Rf_where.2.1 12 = .ok (.aload_n 0, 1) := by decide +kernel
theorem d_Rf_where_13 : decode m_Rf_where.2.1 13 = .ok (.invokevirtual 200, 3) := by decide +kernel
theorem d_Rf_where_16 : decode m_Rf_where.2.1 16 = .ok (.aload_n 0, 1) := by decide +kernel
theorem d_Rf_where_17 : decode m_Rf_where.2.1 17 = .ok (.iconst 0, 1) := by decide +kernel
theorem d_Rf_where_18 : decode m_Rf_where.2.1 18 = .ok (.iconst 0, 1) := by decide +kernel
theorem d_Rf_where_19 : decode m_Rf_where.2.1 19 = .ok (.invokevirtual 222, 3) := by decide +kernel
theorem d_Rf_where_22 : decode m_Rf_where.2.1 22 = .ok (.iconst 0, 1) := by decide +kernel
theorem d_Rf_where_23 : decode m_Rf_where.2.1 23 = .ok (.istore_n 2, 1) := by decide +kernel
theorem d_Rf_where_24 : decode m_Rf_where.2.1 24 = .ok (.iconst 1, 1) := by decide +kernel
theorem d_Rf_where_25 : decode m_Rf_where.2.1 25 = .ok (.istore_n 3, 1) := by decide +kernel
theorem d_Rf_where_26 : decode m_Rf_where.2.1 26 = .ok (.iconst (-1), 1) := by decide +kernel
theorem d_Rf_where_27 : decode m_Rf_where.2.1 27 = .ok (.istore 4, 2) := by decide +kernel
theorem d_Rf_where_29 : decode m_Rf_where.2.1 29 = .ok (.iconst 0, 1) := by decide +kernel
theorem d_Rf_where_30 : decode m_Rf_where.2.1 30 = .ok (.istore 5, 2) := by decide +kernel
theorem d_Rf_where_32 : decode m_Rf_where.2.1 32 = .ok (.iload 5, 2) := by decide +kernel
theorem d_Rf_where_34 : decode m_Rf_where.2.1 34 = .ok (.aload_n 0, 1) := by decide +kernel
theorem d_Rf_where_35 : decode m_Rf_where.2.1 35 = .ok (.getfield 13, 3) := by decide +kernel
theorem d_Rf_where_38 : decode m_Rf_where.2.1 38 = .ok (.if_icmp .ge 52, 3) := by decide +kernel
theorem d_Rf_where_41 : decode m_Rf_where.2.1 41 = .ok (.iconst 1, 1) := by decide +kernel
theorem d_Rf_where_42 : decode m_Rf_where.2.1 42 = .ok (.istore 6, 2) := by decide +kernel
theorem d_Rf_where_44 : decode m_Rf_where.2.1 44 = .ok (.iload 6, 2) := by decide +kernel
theorem d_Rf_where_46 : decode m_Rf_where.2.1 46 = .ok (.bipush 100, 2) := by decide +kernel
theorem d_Rf_where_48 : decode m_Rf_where.2.1 48 = .ok (.if_icmp .ge 36, 3) := by decide +kernel
theorem d_Rf_where_51 : decode m_Rf_where.2.1 51 = .ok (.aload_n 0, 1) := by decide +kernel
theorem d_Rf_where_52 : decode m_Rf_where.2.1 52 = .ok (.iload 5, 2) := by decide +kernel
theorem d_Rf_where_54 : decode m_Rf_where.2.1 54 = .ok (.iload 6, 2) := by decide +kernel
theorem d_Rf_where_56 : decode m_Rf_where.2.1 56 = .ok (.invokevirtual 284, 3) := by decide +kernel
theorem d_Rf_where_59 : decode m_Rf_where.2.1 59 = .ok (.istore 7, 2) := by decide +kernel
theorem d_Rf_where_61 : decode m_Rf_where.2.1 61 = .ok (.iload 7, 2) := by decide +kernel
theorem d_Rf_where_63 : decode m_Rf_where.2.1 63 = .ok (.iload 4, 2) := by decide +kernel
theorem d_Rf_where_65 : decode m_Rf_where.2.1 65 = .ok (.if_icmp .le 13, 3) := by decide +kernel
theorem d_Rf_where_68 : decode m_Rf_where.2.1 68 = .ok (.iload 7, 2) := by decide +kernel
theorem d_Rf_where_70 : decode m_Rf_where.2.1 70 = .ok (.istore 4, 2) := by decide +kernel
theorem d_Rf_where_72 : decode m_Rf_where.2.1 72 = .ok (.iload 5, 2) := by decide +kernel
theorem d_Rf_where_74 : decode m_Rf_where.2.1 74 = .ok (.istore_n 2, 1) := by decide +kernel
theorem d_Rf_where_75 : decode m_Rf_where.2.1 75 = .ok (.iload 6, 2) := by decide +kernel
theorem d_Rf_where_77 : decode m_Rf_where.2.1 77 = .ok (.istore_n 3, 1) := by decide +kernel
theorem d_Rf_where_78 : decode m_Rf_where.2.1 78 = .ok (.iinc 6 1, 3) := by decide +kernel
theorem d_Rf_where_81 : decode m_Rf_where.2.1 81 = .ok (.goto (-37), 3) := by decide +kernel
theorem d_Rf_where_84 : decode m_Rf_where.2.1 84 = .ok (.iinc 5 1, 3) := by decide +kernel
theorem d_Rf_where_87 : decode m_Rf_where.2.1 87 = .ok (.goto (-55), 3) := by decide +kernel
theorem d_Rf_where_90 : decode m_Rf_where.2.1 90 = .ok (.iload_n 1, 1) := by decide +kernel
theorem d_Rf_where_91 : decode m_Rf_where.2.1 91 = .ok (.ifCond .ne 7, 3) := by decide +kernel
theorem d_Rf_where_94 : decode m_Rf_where.2.1 94 = .ok (.iload_n 2, 1) := by decide +kernel
theorem d_Rf_where_95 : decode m_Rf_where.2.1 95 = .ok (.goto 14, 3) := by decide +kernel
theorem d_Rf_where_98 : decode m_Rf_where.2.1 98 = .ok (.iload_n 1, 1) := by decide +kernel
theorem d_Rf_where_99 : decode m_Rf_where.2.1 99 = .ok (.iconst 1, 1) := by decide +kernel
theorem d_Rf_where_100 : decode m_Rf_where.2.1 100 = .ok (.if_icmp .ne 7, 3) := by decide +kernel
theorem d_Rf_where_103 : decode m_Rf_where.2.1 103 = .ok (.iload_n 3, 1) := by decide +kernel
theorem d_Rf_where_104 : decode m_Rf_where.2.1 104 = .ok (.goto 5, 3) := by decide +kernel
theorem d_Rf_where_107 : decode m_Rf_where.2.1 107 = .ok (.iload 4, 2) := by decide +kernel
theorem d_Rf_where_109 : decode m_Rf_where.2.1 109 = .ok (.ireturn, 1) := by decide +kernel
theorem g_Rf_where_0 {X : XS} (a1 : Int32) (h : Hp) (Q : Option AV → Hp → Prop)  (k : (∃ Q'4, EvI X m_Rf_in [vI a1, vI 0, vI 2] h Q'4 ∧ ∀ (r5 : Int32) (h3 : Hp), Q'4 r5 h3 → ((¬ r5 = 0 → (∃ Q'9, EvV X m_Rf_sizesAsTold [vR [1]] h3 Q'9 ∧ ∀ (h8 : Hp), Q'9 h8 → (∃ Q'13, EvV X m_Rf_goWhole [vR [1], vI 0, vI 0] h8 Q'13 ∧ ∀ (h12 : Hp), Q'13 h12 → Rn X m_Rf_where 32 [some (vR [1]), some (vI a1), some (vI 0), some (vI 1), some (vI (-1)), some (vI 0), none, none] [] h12 Q))) ∧ (r5 = 0 → Q (some (vI (-3))) h3)))) : Rn X m_Rf_where 0 [some (vR [1]), some (vI a1), none, none, none, none, none, none] [] h Q := by
  refine Rn.iload_n (n := 1) (i := 1) d_Rf_where_0 rfl rfl rfl ?_
  refine Rn.iconst (n := 2) (v := 0) d_Rf_where_1 rfl (by decide) ?_
  refine Rn.iconst (n := 3) (v := 2) d_Rf_where_2 rfl (by decide) ?_
  obtain ⟨Q'4, ev1, k⟩ := k
  refine Rn.callS (n := 6) (av := [vI a1, vI 0, vI 2]) d_Rf_where_3 rfl ml_Rf_where_66 ms_Rf_in rfl rfl (Nat.le_of_ble_eq_true rfl) ev1 (fun v h3 hq => ?_)
  obtain ⟨r5, rfl, hq⟩ := hq
  have k := k r5 h3 hq
  show Rn X m_Rf_where 6 [some (vR [1]), some (vI a1), none, none, none, none, none, none] [vI r5] h3 Q
  refine Rn.if_ne (n := 9) (t := 12) d_Rf_where_6 rfl (by decide) (fun cc => ?_) (fun cc => ?_)
  · have k := k.1 cc
    refine Rn.aload_n (n := 13) (i := 0) d_Rf_where_12 rfl rfl rfl ?_
    obtain ⟨Q'9, ev6, k⟩ := k
    refine Rn.callV (n := 16) (av := []) d_Rf_where_13 rfl ml_Rf_where_200 mi_Rf_sizesAsTold Lv_1 rfl rfl rfl rfl (Nat.le_of_ble_eq_true rfl) ev6 (fun v h8 hq => ?_)
    obtain ⟨rfl, hq⟩ := hq
    have k := k h8 hq
    show Rn X m_Rf_where 16 [some (vR [1]), some (vI a1), none, none, none, none, none, none] [] h8 Q
    refine Rn.aload_n (n := 17) (i := 0) d_Rf_where_16 rfl rfl rfl ?_
    refine Rn.iconst (n := 18) (v := 0) d_Rf_where_17 rfl (by decide) ?_
    refine Rn.iconst (n := 19) (v := 0) d_Rf_where_18 rfl (by decide) ?_
    obtain ⟨Q'13, ev10, k⟩ := k
    refine Rn.callV (n := 22) (av := [vI 0, vI 0]) d_Rf_where_19 rfl ml_Rf_where_222 mi_Rf_goWhole Lv_1 rfl rfl rfl rfl (Nat.le_of_ble_eq_true rfl) ev10 (fun v h12 hq => ?_)
    obtain ⟨rfl, hq⟩ := hq
    have k := k h12 hq
    show Rn X m_Rf_where 22 [some (vR [1]), some (vI a1), none, none, none, none, none, none] [] h12 Q
    refine Rn.iconst (n := 23) (v := 0) d_Rf_where_22 rfl (by decide) ?_
    refine Rn.istore_n (n := 24) (i := 2) (ls2 := [some (vR [1]), some (vI a1), some (vI 0), none, none, none, none, none]) d_Rf_where_23 rfl rfl (Nat.le_of_ble_eq_true rfl) rfl ?_
    refine Rn.iconst (n := 25) (v := 1) d_Rf_where_24 rfl (by decide) ?_
    refine Rn.istore_n (n := 26) (i := 3) (ls2 := [some (vR [1]), some (vI a1), some (vI 0), some (vI 1), none, none, none, none]) d_Rf_where_25 rfl rfl (Nat.le_of_ble_eq_true rfl) rfl ?_
    refine Rn.iconst (n := 27) (v := (-1)) d_Rf_where_26 rfl (by decide) ?_
    refine Rn.istore (n := 29) (i := 4) (ls2 := [some (vR [1]), some (vI a1), some (vI 0), some (vI 1), some (vI (-1)), none, none, none]) d_Rf_where_27 rfl (Nat.le_of_ble_eq_true rfl) rfl ?_
    refine Rn.iconst (n := 30) (v := 0) d_Rf_where_29 rfl (by decide) ?_
    refine Rn.istore (n := 32) (i := 5) (ls2 := [some (vR [1]), some (vI a1), some (vI 0), some (vI 1), some (vI (-1)), some (vI 0), none, none]) d_Rf_where_30 rfl (Nat.le_of_ble_eq_true rfl) rfl ?_
    exact k
  · have k := k.2 cc
    refine Rn.bipush (n := 11) (v := (-3)) d_Rf_where_9 rfl (by decide) ?_
    exact Rn.iret d_Rf_where_11 rfl rfl k
theorem g_Rf_where_32 {X : XS} (a1 : Int32) (a2 : Int32) (a3 : Int32) (a4 : Int32) (a5 : Int32) (h : Hp) (Q : Option AV → Hp → Prop)  (k : (((h.1 [1] 1) ≤ a5 → ((¬ a1 = 0 → ((¬ a1 = 1 → Q (some (vI a4)) h) ∧ (a1 = 1 → Q (some (vI a3)) h))) ∧ (a1 = 0 → Q (some (vI a2)) h))) ∧ (¬ (h.1 [1] 1) ≤ a5 → Rn X m_Rf_where 44 [some (vR [1]), some (vI a1), some (vI a2), some (vI a3), some (vI a4), some (vI a5), some (vI 1), none] [] h Q))) : Rn X m_Rf_where 32 [some (vR [1]), some (vI a1), some (vI a2), some (vI a3), some (vI a4), some (vI a5), none, none] [] h Q := by
  refine Rn.iload (n := 34) (i := 5) d_Rf_where_32 rfl rfl ?_
  refine Rn.aload_n (n := 35) (i := 0) d_Rf_where_34 rfl rfl rfl ?_
  refine Rn.getf (n := 38) (v := vI (h.1 [1] 1)) d_Rf_where_35 rfl fl_Rf_13 Lv_1 rfl ?_
  refine Rn.icmp_ge (n := 41) (t := 90) d_Rf_where_38 rfl (by decide) (fun cc => ?_) (fun cc => ?_)
  · have k := k.1 cc
    refine Rn.iload_n (n := 91) (i := 1) d_Rf_where_90 rfl rfl rfl ?_
    refine Rn.if_ne (n := 94) (t := 98) d_Rf_where_91 rfl (by decide) (fun cc => ?_) (fun cc => ?_)
    · have k := k.1 cc
      refine Rn.iload_n (n := 99) (i := 1) d_Rf_where_98 rfl rfl rfl ?_
      refine Rn.iconst (n := 100) (v := 1) d_Rf_where_99 rfl (by decide) ?_
      refine Rn.icmp_ne (n := 103) (t := 107) d_Rf_where_100 rfl (by decide) (fun cc => ?_) (fun cc => ?_)
      · have k := k.1 cc
        refine Rn.iload (n := 109) (i := 4) d_Rf_where_107 rfl rfl ?_
        exact Rn.iret d_Rf_where_109 rfl rfl k
      · have k := k.2 cc
        refine Rn.iload_n (n := 104) (i := 3) d_Rf_where_103 rfl rfl rfl ?_
        refine Rn.goto (n := 109) d_Rf_where_104 (by decide) ?_
        exact Rn.iret d_Rf_where_109 rfl rfl k
    · have k := k.2 cc
      refine Rn.iload_n (n := 95) (i := 2) d_Rf_where_94 rfl rfl rfl ?_
      refine Rn.goto (n := 109) d_Rf_where_95 (by decide) ?_
      exact Rn.iret d_Rf_where_109 rfl rfl k
  · have k := k.2 cc
    refine Rn.iconst (n := 42) (v := 1) d_Rf_where_41 rfl (by decide) ?_
    refine Rn.istore (n := 44) (i := 6) (ls2 := [some (vR [1]), some (vI a1), some (vI a2), some (vI a3), some (vI a4), some (vI a5), some (vI 1), none]) d_Rf_where_42 rfl (Nat.le_of_ble_eq_true rfl) rfl ?_
    exact k
theorem g_Rf_where_44 {X : XS} (a1 : Int32) (a2 : Int32) (a3 : Int32) (a4 : Int32) (a5 : Int32) (a6 : Int32) (h : Hp) (Q : Option AV → Hp → Prop)  (k : ((100 ≤ a6 → Rn X m_Rf_where 32 [some (vR [1]), some (vI a1), some (vI a2), some (vI a3), some (vI a4), some (vI (a5 + 1)), none, none] [] h Q) ∧ (¬ 100 ≤ a6 → (∃ Q'4, EvI X m_Rf_sold [vR [1], vI a5, vI a6] h Q'4 ∧ ∀ (r5 : Int32) (h3 : Hp), Q'4 r5 h3 → ((r5 ≤ a4 → Rn X m_Rf_where 44 [some (vR [1]), some (vI a1), some (vI a2), some (vI a3), some (vI a4), some (vI a5), some (vI (a6 + 1)), none] [] h3 Q) ∧ (¬ r5 ≤ a4 → Rn X m_Rf_where 44 [some (vR [1]), some (vI a1), some (vI a5), some (vI a6), some (vI r5), some (vI a5), some (vI (a6 + 1)), none] [] h3 Q)))))) : Rn X m_Rf_where 44 [some (vR [1]), some (vI a1), some (vI a2), some (vI a3), some (vI a4), some (vI a5), some (vI a6), none] [] h Q := by
  refine Rn.iload (n := 46) (i := 6) d_Rf_where_44 rfl rfl ?_
  refine Rn.bipush (n := 48) (v := 100) d_Rf_where_46 rfl (by decide) ?_
  refine Rn.icmp_ge (n := 51) (t := 84) d_Rf_where_48 rfl (by decide) (fun cc => ?_) (fun cc => ?_)
  · have k := k.1 cc
    refine Rn.iinc (n := 87) (i := 5) (v := a5 + 1) (ls2 := [some (vR [1]), some (vI a1), some (vI a2), some (vI a3), some (vI a4), some (vI (a5 + 1)), some (vI a6), none]) d_Rf_where_84 rfl rfl rfl (Nat.le_of_ble_eq_true rfl) rfl ?_
    refine Rn.goto (n := 32) d_Rf_where_87 (by decide) ?_
    exact Rn.loc [some (vR [1]), some (vI a1), some (vI a2), some (vI a3), some (vI a4), some (vI (a5 + 1)), none, none] (LLe_ok ⟨rfl, ⟨rfl, ⟨rfl, ⟨rfl, ⟨rfl, ⟨rfl, trivial⟩⟩⟩⟩⟩⟩) k
  · have k := k.2 cc
    refine Rn.aload_n (n := 52) (i := 0) d_Rf_where_51 rfl rfl rfl ?_
    refine Rn.iload (n := 54) (i := 5) d_Rf_where_52 rfl rfl ?_
    refine Rn.iload (n := 56) (i := 6) d_Rf_where_54 rfl rfl ?_
    obtain ⟨Q'4, ev1, k⟩ := k
    refine Rn.callV (n := 59) (av := [vI a5, vI a6]) d_Rf_where_56 rfl ml_Rf_where_284 mi_Rf_sold Lv_1 rfl rfl rfl rfl (Nat.le_of_ble_eq_true rfl) ev1 (fun v h3 hq => ?_)
    obtain ⟨r5, rfl, hq⟩ := hq
    have k := k r5 h3 hq
    show Rn X m_Rf_where 59 [some (vR [1]), some (vI a1), some (vI a2), some (vI a3), some (vI a4), some (vI a5), some (vI a6), none] [vI r5] h3 Q
    refine Rn.istore (n := 61) (i := 7) (ls2 := [some (vR [1]), some (vI a1), some (vI a2), some (vI a3), some (vI a4), some (vI a5), some (vI a6), some (vI r5)]) d_Rf_where_59 rfl (Nat.le_of_ble_eq_true rfl) rfl ?_
    refine Rn.iload (n := 63) (i := 7) d_Rf_where_61 rfl rfl ?_
    refine Rn.iload (n := 65) (i := 4) d_Rf_where_63 rfl rfl ?_
    refine Rn.icmp_le (n := 68) (t := 78) d_Rf_where_65 rfl (by decide) (fun cc => ?_) (fun cc => ?_)
    · have k := k.1 cc
      refine Rn.iinc (n := 81) (i := 6) (v := a6 + 1) (ls2 := [some (vR [1]), some (vI a1), some (vI a2), some (vI a3), some (vI a4), some (vI a5), some (vI (a6 + 1)), some (vI r5)]) d_Rf_where_78 rfl rfl rfl (Nat.le_of_ble_eq_true rfl) rfl ?_
      refine Rn.goto (n := 44) d_Rf_where_81 (by decide) ?_
      exact Rn.loc [some (vR [1]), some (vI a1), some (vI a2), some (vI a3), some (vI a4), some (vI a5), some (vI (a6 + 1)), none] (LLe_ok ⟨rfl, ⟨rfl, ⟨rfl, ⟨rfl, ⟨rfl, ⟨rfl, ⟨rfl, trivial⟩⟩⟩⟩⟩⟩⟩) k
    · have k := k.2 cc
      refine Rn.iload (n := 70) (i := 7) d_Rf_where_68 rfl rfl ?_
      refine Rn.istore (n := 72) (i := 4) (ls2 := [some (vR [1]), some (vI a1), some (vI a2), some (vI a3), some (vI r5), some (vI a5), some (vI a6), some (vI r5)]) d_Rf_where_70 rfl (Nat.le_of_ble_eq_true rfl) rfl ?_
      refine Rn.iload (n := 74) (i := 5) d_Rf_where_72 rfl rfl ?_
      refine Rn.istore_n (n := 75) (i := 2) (ls2 := [some (vR [1]), some (vI a1), some (vI a5), some (vI a3), some (vI r5), some (vI a5), some (vI a6), some (vI r5)]) d_Rf_where_74 rfl rfl (Nat.le_of_ble_eq_true rfl) rfl ?_
      refine Rn.iload (n := 77) (i := 6) d_Rf_where_75 rfl rfl ?_
      refine Rn.istore_n (n := 78) (i := 3) (ls2 := [some (vR [1]), some (vI a1), some (vI a5), some (vI a6), some (vI r5), some (vI a5), some (vI a6), some (vI r5)]) d_Rf_where_77 rfl rfl (Nat.le_of_ble_eq_true rfl) rfl ?_
      refine Rn.iinc (n := 81) (i := 6) (v := a6 + 1) (ls2 := [some (vR [1]), some (vI a1), some (vI a5), some (vI a6), some (vI r5), some (vI a5), some (vI (a6 + 1)), some (vI r5)]) d_Rf_where_78 rfl rfl rfl (Nat.le_of_ble_eq_true rfl) rfl ?_
      refine Rn.goto (n := 44) d_Rf_where_81 (by decide) ?_
      exact Rn.loc [some (vR [1]), some (vI a1), some (vI a5), some (vI a6), some (vI r5), some (vI a5), some (vI (a6 + 1)), none] (LLe_ok ⟨rfl, ⟨rfl, ⟨rfl, ⟨rfl, ⟨rfl, ⟨rfl, ⟨rfl, trivial⟩⟩⟩⟩⟩⟩⟩) k
theorem e_Rf_where {X : XS} (a1 : Int32) (h : Hp) (Q : Option AV → Hp → Prop) (k : Rn X m_Rf_where 0 [some (vR [1]), some (vI a1), none, none, none, none, none, none] [] h Q) : Ev X m_Rf_where [vR [1], vI a1] h Q := Ev.intro (plainFor_of_name (by decide +kernel)) (Nat.le_of_ble_eq_true rfl) (ls := [some (vR [1]), some (vI a1), none, none, none, none, none, none]) rfl k
theorem d_Rf_count_0 : decode m_Rf_count.2.1 0 = .ok (.iconst 0, 1) := by decide +kernel
theorem d_Rf_count_1 : decode m_Rf_count.2.1 1 = .ok (.istore_n 2, 1) := by decide +kernel
theorem d_Rf_count_2 : decode m_Rf_count.2.1 2 = .ok (.iconst 0, 1) := by decide +kernel
theorem d_Rf_count_3 : decode m_Rf_count.2.1 3 = .ok (.istore_n 3, 1) := by decide +kernel
theorem d_Rf_count_4 : decode m_Rf_count.2.1 4 = .ok (.iload_n 3, 1) := by decide +kernel
theorem d_Rf_count_5 : decode m_Rf_count.2.1 5 = .ok (.bipush 6, 2) := by decide +kernel
theorem d_Rf_count_7 : decode m_Rf_count.2.1 7 = .ok (.if_icmp .ge 25, 3) := by decide +kernel
theorem d_Rf_count_10 : decode m_Rf_count.2.1 10 = .ok (.iload_n 2, 1) := by decide +kernel
theorem d_Rf_count_11 : decode m_Rf_count.2.1 11 = .ok (.aload_n 0, 1) := by decide +kernel
theorem d_Rf_count_12 : decode m_Rf_count.2.1 12 = .ok (.iload_n 3, 1) := by decide +kernel
theorem d_Rf_count_13 : decode m_Rf_count.2.1 13 = .ok (.invokevirtual 181, 3) := by decide +kernel
theorem d_Rf_count_16 : decode m_Rf_count.2.1 16 = .ok (.ifCond .eq 7, 3) := by decide +kernel
theorem d_Rf_count_19 : decode m_Rf_count.2.1 19 = .ok (.iconst 1, 1) := by decide +kernel
theorem d_Rf_count_20 : decode m_Rf_count.2.1 20 = .ok (.goto 4, 3) := by decide +kernel
theorem d_Rf_count_23 : decode m_Rf_count.2.1 23 = .ok (.iconst 0, 1) := by decide +kernel
theorem d_Rf_count_24 : decode m_Rf_count.2.1 24 = .ok (.iadd, 1) := by decide +kernel
theorem d_Rf_count_25 : decode m_Rf_count.2.1 25 = .ok (.istore_n 2, 1) := by decide +kernel
theorem d_Rf_count_26 : decode m_Rf_count.2.1 26 = .ok (.iinc 3 1, 3) := by decide +kernel
theorem d_Rf_count_29 : decode m_Rf_count.2.1 29 = .ok (.goto (-25), 3) := by decide +kernel
theorem d_Rf_count_32 : decode m_Rf_count.2.1 32 = .ok (.iload_n 1, 1) := by decide +kernel
theorem d_Rf_count_33 : decode m_Rf_count.2.1 33 = .ok (.tableswitch 93 0 7 #[47, 52, 57, 65, 67, 75, 80, 85], 47) := by decide +kernel
theorem d_Rf_count_80 : decode m_Rf_count.2.1 80 = .ok (.aload_n 0, 1) := by decide +kernel
theorem d_Rf_count_81 : decode m_Rf_count.2.1 81 = .ok (.getfield 7, 3) := by decide +kernel
theorem d_Rf_count_84 : decode m_Rf_count.2.1 84 = .ok (.ireturn, 1) := by decide +kernel
theorem d_Rf_count_85 : decode m_Rf_count.2.1 85 = .ok (.aload_n 0, 1) := by decide +kernel
theorem d_Rf_count_86 : decode m_Rf_count.2.1 86 = .ok (.getfield 13, 3) := by decide +kernel
theorem d_Rf_count_89 : decode m_Rf_count.2.1 89 = .ok (.ireturn, 1) := by decide +kernel
theorem d_Rf_count_90 : decode m_Rf_count.2.1 90 = .ok (.aload_n 0, 1) := by decide +kernel
theorem d_Rf_count_91 : decode m_Rf_count.2.1 91 = .ok (.getfield 70, 3) := by decide +kernel
theorem d_Rf_count_94 : decode m_Rf_count.2.1 94 = .ok (.invokestatic 219, 3) := by decide +kernel
theorem d_Rf_count_97 : decode m_Rf_count.2.1 97 = .ok (.ireturn, 1) := by decide +kernel
theorem d_Rf_count_98 : decode m_Rf_count.2.1 98 = .ok (.iload_n 2, 1) := by decide +kernel
theorem d_Rf_count_99 : decode m_Rf_count.2.1 99 = .ok (.ireturn, 1) := by decide +kernel
theorem d_Rf_count_100 : decode m_Rf_count.2.1 100 = .ok (.aload_n 0, 1) := by decide +kernel
theorem d_Rf_count_101 : decode m_Rf_count.2.1 101 = .ok (.getfield 29, 3) := by decide +kernel
theorem d_Rf_count_104 : decode m_Rf_count.2.1 104 = .ok (.bipush 24, 2) := by decide +kernel
theorem d_Rf_count_106 : decode m_Rf_count.2.1 106 = .ok (.iaload, 1) := by decide +kernel
theorem d_Rf_count_107 : decode m_Rf_count.2.1 107 = .ok (.ireturn, 1) := by decide +kernel
theorem d_Rf_count_108 : decode m_Rf_count.2.1 108 = .ok (.aload_n 0, 1) := by decide +kernel
theorem d_Rf_count_109 : decode m_Rf_count.2.1 109 = .ok (.getfield 77, 3) := by decide +kernel
theorem d_Rf_count_112 : decode m_Rf_count.2.1 112 = .ok (.ireturn, 1) := by decide +kernel
theorem d_Rf_count_113 : decode m_Rf_count.2.1 113 = .ok (.aload_n 0, 1) := by decide +kernel
theorem d_Rf_count_114 : decode m_Rf_count.2.1 114 = .ok (.getfield 240, 3) := by decide +kernel
theorem d_Rf_count_117 : decode m_Rf_count.2.1 117 = .ok (.ireturn, 1) := by decide +kernel
theorem d_Rf_count_118 : decode m_Rf_count.2.1 118 = .ok (.aload_n 0, 1) := by decide +kernel
theorem d_Rf_count_119 : decode m_Rf_count.2.1 119 = .ok (.getfield 29, 3) := by decide +kernel
theorem d_Rf_count_122 : decode m_Rf_count.2.1 122 = .ok (.bipush 25, 2) := by decide +kernel
theorem d_Rf_count_124 : decode m_Rf_count.2.1 124 = .ok (.iaload, 1) := by decide +kernel
theorem d_Rf_count_125 : decode m_Rf_count.2.1 125 = .ok (.ireturn, 1) := by decide +kernel
theorem d_Rf_count_126 : decode m_Rf_count.2.1 126 = .ok (.bipush (-3), 2) := by decide +kernel
theorem d_Rf_count_128 : decode m_Rf_count.2.1 128 = .ok (.ireturn, 1) := by decide +kernel
theorem g_Rf_count_0 {X : XS} (a1 : Int32) (h : Hp) (Q : Option AV → Hp → Prop)  (k : Rn X m_Rf_count 4 [some (vR [1]), some (vI a1), some (vI 0), some (vI 0)] [] h Q) : Rn X m_Rf_count 0 [some (vR [1]), some (vI a1), none, none] [] h Q := by
  refine Rn.iconst (n := 1) (v := 0) d_Rf_count_0 rfl (by decide) ?_
  refine Rn.istore_n (n := 2) (i := 2) (ls2 := [some (vR [1]), some (vI a1), some (vI 0), none]) d_Rf_count_1 rfl rfl (Nat.le_of_ble_eq_true rfl) rfl ?_
  refine Rn.iconst (n := 3) (v := 0) d_Rf_count_2 rfl (by decide) ?_
  refine Rn.istore_n (n := 4) (i := 3) (ls2 := [some (vR [1]), some (vI a1), some (vI 0), some (vI 0)]) d_Rf_count_3 rfl rfl (Nat.le_of_ble_eq_true rfl) rfl ?_
  exact k
theorem g_Rf_count_4 {X : XS} (a1 : Int32) (a2 : Int32) (a3 : Int32) (h : Hp) (Q : Option AV → Hp → Prop)  (k : ((6 ≤ a3 → ((a1.toInt < 0 ∨ 7 < a1.toInt → Q (some (vI (-3))) h) ∧ (a1 = 0 → Q (some (vI (h.1 [1] 0))) h) ∧ (a1 = 1 → Q (some (vI (h.1 [1] 1))) h) ∧ (a1 = 2 → (∃ Q'4, EvI X m_Rf_bits [vI (h.1 [1] 3)] h Q'4 ∧ ∀ (r5 : Int32) (h3 : Hp), Q'4 r5 h3 → Q (some (vI r5)) h3)) ∧ (a1 = 3 → Q (some (vI a2)) h) ∧ (a1 = 4 → Q (some (vI (h.1 [18, 1] 24))) h) ∧ (a1 = 5 → Q (some (vI (h.1 [1] 6))) h) ∧ (a1 = 6 → Q (some (vI (h.1 [1] 25))) h) ∧ (a1 = 7 → Q (some (vI (h.1 [18, 1] 25))) h))) ∧ (¬ 6 ≤ a3 → (∃ Q'9, EvI X m_Rf_isOn [vR [1], vI a3] h Q'9 ∧ ∀ (r10 : Int32) (h8 : Hp), Q'9 r10 h8 → ((r10 = 0 → Rn X m_Rf_count 4 [some (vR [1]), some (vI a1), some (vI (a2 + 0)), some (vI (a3 + 1))] [] h8 Q) ∧ (¬ r10 = 0 → Rn X m_Rf_count 4 [some (vR [1]), some (vI a1), some (vI (a2 + 1)), some (vI (a3 + 1))] [] h8 Q)))))) : Rn X m_Rf_count 4 [some (vR [1]), some (vI a1), some (vI a2), some (vI a3)] [] h Q := by
  refine Rn.iload_n (n := 5) (i := 3) d_Rf_count_4 rfl rfl rfl ?_
  refine Rn.bipush (n := 7) (v := 6) d_Rf_count_5 rfl (by decide) ?_
  refine Rn.icmp_ge (n := 10) (t := 32) d_Rf_count_7 rfl (by decide) (fun cc => ?_) (fun cc => ?_)
  · have k := k.1 cc
    refine Rn.iload_n (n := 33) (i := 1) d_Rf_count_32 rfl rfl rfl ?_
    refine Rn.tsw (n := 0) d_Rf_count_33 (fun cc => ⟨126, by decide, ?_⟩) (fun j hz1 hz2 hz3 => ?_)
    · have k := k.1 cc
      refine Rn.bipush (n := 128) (v := (-3)) d_Rf_count_126 rfl (by decide) ?_
      exact Rn.iret d_Rf_count_128 rfl rfl k
    · have k := k.2
      have hj : j < 8 := by omega
      match j, hj, hz3 with
      | 0, _, hz3 =>
        have cc : a1 = 0 := Int32.toInt_inj.mp hz3
        have k := k.1 cc
        refine ⟨47, 80, rfl, by decide, ?_⟩
        refine Rn.aload_n (n := 81) (i := 0) d_Rf_count_80 rfl rfl rfl ?_
        refine Rn.getf (n := 84) (v := vI (h.1 [1] 0)) d_Rf_count_81 rfl fl_Rf_7 Lv_1 rfl ?_
        exact Rn.iret d_Rf_count_84 rfl rfl k
      | 1, _, hz3 =>
        have cc : a1 = 1 := Int32.toInt_inj.mp hz3
        have k := k.2.1 cc
        refine ⟨52, 85, rfl, by decide, ?_⟩
        refine Rn.aload_n (n := 86) (i := 0) d_Rf_count_85 rfl rfl rfl ?_
        refine Rn.getf (n := 89) (v := vI (h.1 [1] 1)) d_Rf_count_86 rfl fl_Rf_13 Lv_1 rfl ?_
        exact Rn.iret d_Rf_count_89 rfl rfl k
      | 2, _, hz3 =>
        have cc : a1 = 2 := Int32.toInt_inj.mp hz3
        have k := k.2.2.1 cc
        refine ⟨57, 90, rfl, by decide, ?_⟩
        refine Rn.aload_n (n := 91) (i := 0) d_Rf_count_90 rfl rfl rfl ?_
        refine Rn.getf (n := 94) (v := vI (h.1 [1] 3)) d_Rf_count_91 rfl fl_Rf_70 Lv_1 rfl ?_
        obtain ⟨Q'4, ev1, k⟩ := k
        refine Rn.callS (n := 97) (av := [vI (h.1 [1] 3)]) d_Rf_count_94 rfl ml_Rf_count_219 ms_Rf_bits rfl rfl (Nat.le_of_ble_eq_true rfl) ev1 (fun v h3 hq => ?_)
        obtain ⟨r5, rfl, hq⟩ := hq
        have k := k r5 h3 hq
        show Rn X m_Rf_count 97 [some (vR [1]), some (vI a1), some (vI a2), some (vI a3)] [vI r5] h3 Q
        exact Rn.iret d_Rf_count_97 rfl rfl k
      | 3, _, hz3 =>
        have cc : a1 = 3 := Int32.toInt_inj.mp hz3
        have k := k.2.2.2.1 cc
        refine ⟨65, 98, rfl, by decide, ?_⟩
        refine Rn.iload_n (n := 99) (i := 2) d_Rf_count_98 rfl rfl rfl ?_
        exact Rn.iret d_Rf_count_99 rfl rfl k
      | 4, _, hz3 =>
        have cc : a1 = 4 := Int32.toInt_inj.mp hz3
        have k := k.2.2.2.2.1 cc
        refine ⟨67, 100, rfl, by decide, ?_⟩
        refine Rn.aload_n (n := 101) (i := 0) d_Rf_count_100 rfl rfl rfl ?_
        refine Rn.getf (n := 104) (v := vR [18, 1]) d_Rf_count_101 rfl fl_Rf_29 Lv_1 rfl ?_
        refine Rn.bipush (n := 106) (v := 24) d_Rf_count_104 rfl (by decide) ?_
        refine Rn.iald (n := 107) (v := h.1 [18, 1] 24) d_Rf_count_106 rfl Lv_18_1 (by unfold vp_in; decide) rfl ?_
        exact Rn.iret d_Rf_count_107 rfl rfl k
      | 5, _, hz3 =>
        have cc : a1 = 5 := Int32.toInt_inj.mp hz3
        have k := k.2.2.2.2.2.1 cc
        refine ⟨75, 108, rfl, by decide, ?_⟩
        refine Rn.aload_n (n := 109) (i := 0) d_Rf_count_108 rfl rfl rfl ?_
        refine Rn.getf (n := 112) (v := vI (h.1 [1] 6)) d_Rf_count_109 rfl fl_Rf_77 Lv_1 rfl ?_
        exact Rn.iret d_Rf_count_112 rfl rfl k
      | 6, _, hz3 =>
        have cc : a1 = 6 := Int32.toInt_inj.mp hz3
        have k := k.2.2.2.2.2.2.1 cc
        refine ⟨80, 113, rfl, by decide, ?_⟩
        refine Rn.aload_n (n := 114) (i := 0) d_Rf_count_113 rfl rfl rfl ?_
        refine Rn.getf (n := 117) (v := vI (h.1 [1] 25)) d_Rf_count_114 rfl fl_Rf_240 Lv_1 rfl ?_
        exact Rn.iret d_Rf_count_117 rfl rfl k
      | 7, _, hz3 =>
        have cc : a1 = 7 := Int32.toInt_inj.mp hz3
        have k := k.2.2.2.2.2.2.2 cc
        refine ⟨85, 118, rfl, by decide, ?_⟩
        refine Rn.aload_n (n := 119) (i := 0) d_Rf_count_118 rfl rfl rfl ?_
        refine Rn.getf (n := 122) (v := vR [18, 1]) d_Rf_count_119 rfl fl_Rf_29 Lv_1 rfl ?_
        refine Rn.bipush (n := 124) (v := 25) d_Rf_count_122 rfl (by decide) ?_
        refine Rn.iald (n := 125) (v := h.1 [18, 1] 25) d_Rf_count_124 rfl Lv_18_1 (by unfold vp_in; decide) rfl ?_
        exact Rn.iret d_Rf_count_125 rfl rfl k
      | j + 8, hj, _ => exact absurd hj (by omega)
  · have k := k.2 cc
    refine Rn.iload_n (n := 11) (i := 2) d_Rf_count_10 rfl rfl rfl ?_
    refine Rn.aload_n (n := 12) (i := 0) d_Rf_count_11 rfl rfl rfl ?_
    refine Rn.iload_n (n := 13) (i := 3) d_Rf_count_12 rfl rfl rfl ?_
    obtain ⟨Q'9, ev6, k⟩ := k
    refine Rn.callV (n := 16) (av := [vI a3]) d_Rf_count_13 rfl ml_Rf_count_181 mi_Rf_isOn Lv_1 rfl rfl rfl rfl (Nat.le_of_ble_eq_true rfl) ev6 (fun v h8 hq => ?_)
    obtain ⟨r10, rfl, hq⟩ := hq
    have k := k r10 h8 hq
    show Rn X m_Rf_count 16 [some (vR [1]), some (vI a1), some (vI a2), some (vI a3)] [vI r10, vI a2] h8 Q
    refine Rn.if_eq (n := 19) (t := 23) d_Rf_count_16 rfl (by decide) (fun cc => ?_) (fun cc => ?_)
    · have k := k.1 cc
      refine Rn.iconst (n := 24) (v := 0) d_Rf_count_23 rfl (by decide) ?_
      refine Rn.iadd (n := 25) d_Rf_count_24 rfl ?_
      refine Rn.istore_n (n := 26) (i := 2) (ls2 := [some (vR [1]), some (vI a1), some (vI (a2 + 0)), some (vI a3)]) d_Rf_count_25 rfl rfl (Nat.le_of_ble_eq_true rfl) rfl ?_
      refine Rn.iinc (n := 29) (i := 3) (v := a3 + 1) (ls2 := [some (vR [1]), some (vI a1), some (vI (a2 + 0)), some (vI (a3 + 1))]) d_Rf_count_26 rfl rfl rfl (Nat.le_of_ble_eq_true rfl) rfl ?_
      refine Rn.goto (n := 4) d_Rf_count_29 (by decide) ?_
      exact k
    · have k := k.2 cc
      refine Rn.iconst (n := 20) (v := 1) d_Rf_count_19 rfl (by decide) ?_
      refine Rn.goto (n := 24) d_Rf_count_20 (by decide) ?_
      refine Rn.iadd (n := 25) d_Rf_count_24 rfl ?_
      refine Rn.istore_n (n := 26) (i := 2) (ls2 := [some (vR [1]), some (vI a1), some (vI (a2 + 1)), some (vI a3)]) d_Rf_count_25 rfl rfl (Nat.le_of_ble_eq_true rfl) rfl ?_
      refine Rn.iinc (n := 29) (i := 3) (v := a3 + 1) (ls2 := [some (vR [1]), some (vI a1), some (vI (a2 + 1)), some (vI (a3 + 1))]) d_Rf_count_26 rfl rfl rfl (Nat.le_of_ble_eq_true rfl) rfl ?_
      refine Rn.goto (n := 4) d_Rf_count_29 (by decide) ?_
      exact k
theorem e_Rf_count {X : XS} (a1 : Int32) (h : Hp) (Q : Option AV → Hp → Prop) (k : Rn X m_Rf_count 0 [some (vR [1]), some (vI a1), none, none] [] h Q) : Ev X m_Rf_count [vR [1], vI a1] h Q := Ev.intro (plainFor_of_name (by decide +kernel)) (Nat.le_of_ble_eq_true rfl) (ls := [some (vR [1]), some (vI a1), none, none]) rfl k
