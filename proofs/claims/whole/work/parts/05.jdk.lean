theorem d_Ar_fill_0 : decode m_Ar_fill.2.1 0 = .ok (.iconst 0, 1) := by decide +kernel
theorem d_Ar_fill_1 : decode m_Ar_fill.2.1 1 = .ok (.istore_n 2, 1) := by decide +kernel
theorem d_Ar_fill_2 : decode m_Ar_fill.2.1 2 = .ok (.aload_n 0, 1) := by decide +kernel
theorem d_Ar_fill_3 : decode m_Ar_fill.2.1 3 = .ok (.arraylength, 1) := by decide +kernel
theorem d_Ar_fill_4 : decode m_Ar_fill.2.1 4 = .ok (.istore_n 3, 1) := by decide +kernel
theorem d_Ar_fill_5 : decode m_Ar_fill.2.1 5 = .ok (.iload_n 2, 1) := by decide +kernel
theorem d_Ar_fill_6 : decode m_Ar_fill.2.1 6 = .ok (.iload_n 3, 1) := by decide +kernel
theorem d_Ar_fill_7 : decode m_Ar_fill.2.1 7 = .ok (.if_icmp .ge 13, 3) := by decide +kernel
theorem d_Ar_fill_10 : decode m_Ar_fill.2.1 10 = .ok (.aload_n 0, 1) := by decide +kernel
theorem d_Ar_fill_11 : decode m_Ar_fill.2.1 11 = .ok (.iload_n 2, 1) := by decide +kernel
theorem d_Ar_fill_12 : decode m_Ar_fill.2.1 12 = .ok (.iload_n 1, 1) := by decide +kernel
theorem d_Ar_fill_13 : decode m_Ar_fill.2.1 13 = .ok (.iastore, 1) := by decide +kernel
theorem d_Ar_fill_14 : decode m_Ar_fill.2.1 14 = .ok (.iinc 2 1, 3) := by decide +kernel
theorem d_Ar_fill_17 : decode m_Ar_fill.2.1 17 = .ok (.goto (-12), 3) := by decide +kernel
theorem d_Ar_fill_20 : decode m_Ar_fill.2.1 20 = .ok (.return_, 1) := by decide +kernel
theorem g_Ar_fill_0 {X : XS} (a0 : List Nat) (n0 : Nat) (a1 : Int32) (h : Hp) (Q : Option AV → Hp → Prop) (w_a0 : Liv a0 8 n0) (k : Rn X m_Ar_fill 5 [some (vR a0), some (vI a1), some (vI 0), some (vI (Int32.ofNat n0))] [] h Q) : Rn X m_Ar_fill 0 [some (vR a0), some (vI a1), none, none] [] h Q := by
  refine Rn.iconst (n := 1) (v := 0) d_Ar_fill_0 rfl (by decide) ?_
  refine Rn.istore_n (n := 2) (i := 2) (ls2 := [some (vR a0), some (vI a1), some (vI 0), none]) d_Ar_fill_1 rfl rfl (Nat.le_of_ble_eq_true rfl) rfl ?_
  refine Rn.aload_n (n := 3) (i := 0) d_Ar_fill_2 rfl rfl rfl ?_
  refine Rn.alen8 (n := 4) (v := Int32.ofNat n0) d_Ar_fill_3 rfl w_a0 rfl ?_
  refine Rn.istore_n (n := 5) (i := 3) (ls2 := [some (vR a0), some (vI a1), some (vI 0), some (vI (Int32.ofNat n0))]) d_Ar_fill_4 rfl rfl (Nat.le_of_ble_eq_true rfl) rfl ?_
  exact k
theorem g_Ar_fill_5 {X : XS} (a0 : List Nat) (n0 : Nat) (a1 : Int32) (a2 : Int32) (a3 : Int32) (h : Hp) (Q : Option AV → Hp → Prop) (w_a0 : Liv a0 8 n0) (k : ((a3 ≤ a2 → Q none h) ∧ (¬ a3 ≤ a2 → (vp_in a2 n0 ∧ Rn X m_Ar_fill 5 [some (vR a0), some (vI a1), some (vI (a2 + 1)), some (vI a3)] [] (hsI h a0 a2.toNatClampNeg a1) Q)))) : Rn X m_Ar_fill 5 [some (vR a0), some (vI a1), some (vI a2), some (vI a3)] [] h Q := by
  refine Rn.iload_n (n := 6) (i := 2) d_Ar_fill_5 rfl rfl rfl ?_
  refine Rn.iload_n (n := 7) (i := 3) d_Ar_fill_6 rfl rfl rfl ?_
  refine Rn.icmp_ge (n := 10) (t := 20) d_Ar_fill_7 rfl (by decide) (fun cc => ?_) (fun cc => ?_)
  · have k := k.1 cc
    exact Rn.vret d_Ar_fill_20 rfl k
  · have k := k.2 cc
    refine Rn.aload_n (n := 11) (i := 0) d_Ar_fill_10 rfl rfl rfl ?_
    refine Rn.iload_n (n := 12) (i := 2) d_Ar_fill_11 rfl rfl rfl ?_
    refine Rn.iload_n (n := 13) (i := 1) d_Ar_fill_12 rfl rfl rfl ?_
    obtain ⟨b1, k⟩ := k
    refine Rn.iast (n := 14) d_Ar_fill_13 rfl w_a0 b1 ?_
    refine Rn.iinc (n := 17) (i := 2) (v := a2 + 1) (ls2 := [some (vR a0), some (vI a1), some (vI (a2 + 1)), some (vI a3)]) d_Ar_fill_14 rfl rfl rfl (Nat.le_of_ble_eq_true rfl) rfl ?_
    refine Rn.goto (n := 5) d_Ar_fill_17 (by decide) ?_
    exact k
theorem e_Ar_fill {X : XS} (a0 : List Nat) (a1 : Int32) (h : Hp) (Q : Option AV → Hp → Prop) (k : Rn X m_Ar_fill 0 [some (vR a0), some (vI a1), none, none] [] h Q) : Ev X m_Ar_fill [vR a0, vI a1] h Q := Ev.intro (plainFor_of_name (by decide +kernel)) (Nat.le_of_ble_eq_true rfl) (ls := [some (vR a0), some (vI a1), none, none]) rfl k
