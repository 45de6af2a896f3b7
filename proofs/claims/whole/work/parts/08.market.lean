theorem d_Mk_watch_0 : decode m_Mk_watch.2.1 0 = .ok (.aload_n 0, 1) := by decide +kernel
theorem d_Mk_watch_1 : decode m_Mk_watch.2.1 1 = .ok (.getfield 9, 3) := by decide +kernel
theorem d_Mk_watch_4 : decode m_Mk_watch.2.1 4 = .ok (.iconst (-1), 1) := by decide +kernel
theorem d_Mk_watch_5 : decode m_Mk_watch.2.1 5 = .ok (.invokestatic 15, 3) := by decide +kernel
theorem d_Mk_watch_8 : decode m_Mk_watch.2.1 8 = .ok (.aload_n 2, 1) := by decide +kernel
theorem d_Mk_watch_9 : decode m_Mk_watch.2.1 9 = .ok (.invokevirtual 21, 3) := by decide +kernel
theorem d_Mk_watch_12 : decode m_Mk_watch.2.1 12 = .ok (.iconst 0, 1) := by decide +kernel
theorem d_Mk_watch_13 : decode m_Mk_watch.2.1 13 = .ok (.istore_n 3, 1) := by decide +kernel
theorem d_Mk_watch_14 : decode m_Mk_watch.2.1 14 = .ok (.iload_n 3, 1) := by decide +kernel
theorem d_Mk_watch_15 : decode m_Mk_watch.2.1 15 = .ok (.bipush 60, 2) := by decide +kernel
theorem d_Mk_watch_17 : decode m_Mk_watch.2.1 17 = .ok (.if_icmp .ge 20, 3) := by decide +kernel
theorem d_Mk_watch_20 : decode m_Mk_watch.2.1 20 = .ok (.aload_n 2, 1) := by decide +kernel
theorem d_Mk_watch_21 : decode m_Mk_watch.2.1 21 = .ok (.aload_n 1, 1) := by decide +kernel
theorem d_Mk_watch_22 : decode m_Mk_watch.2.1 22 = .ok (.invokevirtual 26, 3) := by decide +kernel
theorem d_Mk_watch_25 : decode m_Mk_watch.2.1 25 = .ok (.aload_n 0, 1) := by decide +kernel
theorem d_Mk_watch_26 : decode m_Mk_watch.2.1 26 = .ok (.aload_n 1, 1) := by decide +kernel
theorem d_Mk_watch_27 : decode m_Mk_watch.2.1 27 = .ok (.aload_n 2, 1) := by decide +kernel
theorem d_Mk_watch_28 : decode m_Mk_watch.2.1 28 = .ok (.invokevirtual 30, 3) := by decide +kernel
theorem d_Mk_watch_31 : decode m_Mk_watch.2.1 31 = .ok (.iinc 3 1, 3) := by decide +kernel
theorem d_Mk_watch_34 : decode m_Mk_watch.2.1 34 = .ok (.goto (-20), 3) := by decide +kernel
theorem d_Mk_watch_37 : decode m_Mk_watch.2.1 37 = .ok (.iconst 0, 1) := by decide +kernel
theorem d_Mk_watch_38 : decode m_Mk_watch.2.1 38 = .ok (.istore_n 3, 1) := by decide +kernel
theorem d_Mk_watch_39 : decode m_Mk_watch.2.1 39 = .ok (.iload_n 3, 1) := by decide +kernel
theorem d_Mk_watch_40 : decode m_Mk_watch.2.1 40 = .ok (.aload_n 0, 1) := by decide +kernel
theorem d_Mk_watch_41 : decode m_Mk_watch.2.1 41 = .ok (.getfield 9, 3) := by decide +kernel
theorem d_Mk_watch_44 : decode m_Mk_watch.2.1 44 = .ok (.arraylength, 1) := by decide +kernel
theorem d_Mk_watch_45 : decode m_Mk_watch.2.1 45 = .ok (.if_icmp .ge 41, 3) := by decide +kernel
theorem d_Mk_watch_48 : decode m_Mk_watch.2.1 48 = .ok (.aload_n 0, 1) := by decide +kernel
theorem d_Mk_watch_49 : decode m_Mk_watch.2.1 49 = .ok (.getfield 9, 3) := by decide +kernel
theorem d_Mk_watch_52 : decode m_Mk_watch.2.1 52 = .ok (.iload_n 3, 1) := by decide +kernel
theorem d_Mk_watch_53 : decode m_Mk_watch.2.1 53 = .ok (.iaload, 1) := by decide +kernel
theorem d_Mk_watch_54 : decode m_Mk_watch.2.1 54 = .ok (.iconst (-1), 1) := by decide +kernel
theorem d_Mk_watch_55 : decode m_Mk_watch.2.1 55 = .ok (.if_icmp .eq 25, 3) := by decide +kernel
theorem d_Mk_watch_58 : decode m_Mk_watch.2.1 58 = .ok (.aload_n 0, 1) := by decide +kernel
theorem d_Mk_watch_59 : decode m_Mk_watch.2.1 59 = .ok (.getfield 9, 3) := by decide +kernel
theorem d_Mk_watch_62 : decode m_Mk_watch.2.1 62 = .ok (.iload_n 3, 1) := by decide +kernel
theorem d_Mk_watch_63 : decode m_Mk_watch.2.1 63 = .ok (.aload_n 2, 1) := by decide +kernel
theorem d_Mk_watch_64 : decode m_Mk_watch.2.1 64 = .ok (.getfield 34, 3) := by decide +kernel
theorem d_Mk_watch_67 : decode m_Mk_watch.2.1 67 = .ok (.iload_n 3, 1) := by decide +kernel
theorem d_Mk_watch_68 : decode m_Mk_watch.2.1 68 = .ok (.bipush 6, 2) := by decide +kernel
theorem d_Mk_watch_70 : decode m_Mk_watch.2.1 70 = .ok (.irem, 1) := by decide +kernel
theorem d_Mk_watch_71 : decode m_Mk_watch.2.1 71 = .ok (.iaload, 1) := by decide +kernel
theorem d_Mk_watch_72 : decode m_Mk_watch.2.1 72 = .ok (.aload_n 0, 1) := by decide +kernel
theorem d_Mk_watch_73 : decode m_Mk_watch.2.1 73 = .ok (.getfield 9, 3) := by decide +kernel
theorem d_Mk_watch_76 : decode m_Mk_watch.2.1 76 = .ok (.iload_n 3, 1) := by decide +kernel
theorem d_Mk_watch_77 : decode m_Mk_watch.2.1 77 = .ok (.iaload, 1) := by decide +kernel
theorem d_Mk_watch_78 : decode m_Mk_watch.2.1 78 = .ok (.isub, 1) := by decide +kernel
theorem d_Mk_watch_79 : decode m_Mk_watch.2.1 79 = .ok (.iastore, 1) := by decide +kernel
theorem d_Mk_watch_80 : decode m_Mk_watch.2.1 80 = .ok (.iinc 3 1, 3) := by decide +kernel
theorem d_Mk_watch_83 : decode m_Mk_watch.2.1 83 = .ok (.goto (-44), 3) := by decide +kernel
theorem d_Mk_watch_86 : decode m_Mk_watch.2.1 86 = .ok (.return_, 1) := by decide +kernel
theorem g_Mk_watch_0 {X : XS} (a1 : List Nat) (a2 : List Nat) (h : Hp) (Q : Option AV → Hp → Prop) (w_a1 : IsPl a1) (w_a2 : IsWk a2) (k : (∃ Q'4, EvV X m_Ar_fill [vR [0, 8, 0], vI (-1)] h Q'4 ∧ ∀ (h3 : Hp), Q'4 h3 → (∃ Q'8, EvV X m_Wk_clear [vR a2] h3 Q'8 ∧ ∀ (h7 : Hp), Q'8 h7 → Rn X m_Mk_watch 14 [some (vR [8, 0]), some (vR a1), some (vR a2), some (vI 0)] [] h7 Q))) : Rn X m_Mk_watch 0 [some (vR [8, 0]), some (vR a1), some (vR a2), none] [] h Q := by
  refine Rn.aload_n (n := 1) (i := 0) d_Mk_watch_0 rfl rfl rfl ?_
  refine Rn.getf (n := 4) (v := vR [0, 8, 0]) d_Mk_watch_1 rfl fl_Mk_9 Lv_8_0 rfl ?_
  refine Rn.iconst (n := 5) (v := (-1)) d_Mk_watch_4 rfl (by decide) ?_
  obtain ⟨Q'4, ev1, k⟩ := k
  refine Rn.callS (n := 8) (av := [vR [0, 8, 0], vI (-1)]) d_Mk_watch_5 rfl ml_Mk_watch_15 ms_Ar_fill rfl rfl (Nat.le_of_ble_eq_true rfl) ev1 (fun v h3 hq => ?_)
  obtain ⟨rfl, hq⟩ := hq
  have k := k h3 hq
  show Rn X m_Mk_watch 8 [some (vR [8, 0]), some (vR a1), some (vR a2), none] [] h3 Q
  refine Rn.aload_n (n := 9) (i := 2) d_Mk_watch_8 rfl rfl rfl ?_
  obtain ⟨Q'8, ev5, k⟩ := k
  refine Rn.callV (n := 12) (av := []) d_Mk_watch_9 rfl ml_Mk_watch_21 mi_Wk_clear w_a2.s rfl rfl rfl rfl (Nat.le_of_ble_eq_true rfl) ev5 (fun v h7 hq => ?_)
  obtain ⟨rfl, hq⟩ := hq
  have k := k h7 hq
  show Rn X m_Mk_watch 12 [some (vR [8, 0]), some (vR a1), some (vR a2), none] [] h7 Q
  refine Rn.iconst (n := 13) (v := 0) d_Mk_watch_12 rfl (by decide) ?_
  refine Rn.istore_n (n := 14) (i := 3) (ls2 := [some (vR [8, 0]), some (vR a1), some (vR a2), some (vI 0)]) d_Mk_watch_13 rfl rfl (Nat.le_of_ble_eq_true rfl) rfl ?_
  exact k
theorem g_Mk_watch_14 {X : XS} (a1 : List Nat) (a2 : List Nat) (a3 : Int32) (h : Hp) (Q : Option AV → Hp → Prop) (w_a1 : IsPl a1) (w_a2 : IsWk a2) (k : ((60 ≤ a3 → Rn X m_Mk_watch 39 [some (vR [8, 0]), some (vR a1), some (vR a2), some (vI 0)] [] h Q) ∧ (¬ 60 ≤ a3 → (∃ Q'4, EvV X m_Wk_tick [vR a2, vR a1] h Q'4 ∧ ∀ (h3 : Hp), Q'4 h3 → (∃ Q'8, EvV X m_Mk_noteFirst [vR [8, 0], vR a1, vR a2] h3 Q'8 ∧ ∀ (h7 : Hp), Q'8 h7 → Rn X m_Mk_watch 14 [some (vR [8, 0]), some (vR a1), some (vR a2), some (vI (a3 + 1))] [] h7 Q))))) : Rn X m_Mk_watch 14 [some (vR [8, 0]), some (vR a1), some (vR a2), some (vI a3)] [] h Q := by
  refine Rn.iload_n (n := 15) (i := 3) d_Mk_watch_14 rfl rfl rfl ?_
  refine Rn.bipush (n := 17) (v := 60) d_Mk_watch_15 rfl (by decide) ?_
  refine Rn.icmp_ge (n := 20) (t := 37) d_Mk_watch_17 rfl (by decide) (fun cc => ?_) (fun cc => ?_)
  · have k := k.1 cc
    refine Rn.iconst (n := 38) (v := 0) d_Mk_watch_37 rfl (by decide) ?_
    refine Rn.istore_n (n := 39) (i := 3) (ls2 := [some (vR [8, 0]), some (vR a1), some (vR a2), some (vI 0)]) d_Mk_watch_38 rfl rfl (Nat.le_of_ble_eq_true rfl) rfl ?_
    exact k
  · have k := k.2 cc
    refine Rn.aload_n (n := 21) (i := 2) d_Mk_watch_20 rfl rfl rfl ?_
    refine Rn.aload_n (n := 22) (i := 1) d_Mk_watch_21 rfl rfl rfl ?_
    obtain ⟨Q'4, ev1, k⟩ := k
    refine Rn.callV (n := 25) (av := [vR a1]) d_Mk_watch_22 rfl ml_Mk_watch_26 mi_Wk_tick w_a2.s rfl rfl rfl rfl (Nat.le_of_ble_eq_true rfl) ev1 (fun v h3 hq => ?_)
    obtain ⟨rfl, hq⟩ := hq
    have k := k h3 hq
    show Rn X m_Mk_watch 25 [some (vR [8, 0]), some (vR a1), some (vR a2), some (vI a3)] [] h3 Q
    refine Rn.aload_n (n := 26) (i := 0) d_Mk_watch_25 rfl rfl rfl ?_
    refine Rn.aload_n (n := 27) (i := 1) d_Mk_watch_26 rfl rfl rfl ?_
    refine Rn.aload_n (n := 28) (i := 2) d_Mk_watch_27 rfl rfl rfl ?_
    obtain ⟨Q'8, ev5, k⟩ := k
    refine Rn.callV (n := 31) (av := [vR a1, vR a2]) d_Mk_watch_28 rfl ml_Mk_watch_30 mi_Mk_noteFirst Lv_8_0 rfl rfl rfl rfl (Nat.le_of_ble_eq_true rfl) ev5 (fun v h7 hq => ?_)
    obtain ⟨rfl, hq⟩ := hq
    have k := k h7 hq
    show Rn X m_Mk_watch 31 [some (vR [8, 0]), some (vR a1), some (vR a2), some (vI a3)] [] h7 Q
    refine Rn.iinc (n := 34) (i := 3) (v := a3 + 1) (ls2 := [some (vR [8, 0]), some (vR a1), some (vR a2), some (vI (a3 + 1))]) d_Mk_watch_31 rfl rfl rfl (Nat.le_of_ble_eq_true rfl) rfl ?_
    refine Rn.goto (n := 14) d_Mk_watch_34 (by decide) ?_
    exact k
theorem g_Mk_watch_39 {X : XS} (a1 : List Nat) (a2 : List Nat) (a3 : Int32) (h : Hp) (Q : Option AV → Hp → Prop) (w_a1 : IsPl a1) (w_a2 : IsWk a2) (k : ((72 ≤ a3 → Q none h) ∧ (¬ 72 ≤ a3 → (vp_in a3 72 ∧ (((h.1 [0, 8, 0] a3.toNatClampNeg) = (-1) → Rn X m_Mk_watch 39 [some (vR [8, 0]), some (vR a1), some (vR a2), some (vI (a3 + 1))] [] h Q) ∧ (¬ (h.1 [0, 8, 0] a3.toNatClampNeg) = (-1) → (vp_in (iR a3 6) 6 ∧ (vp_in a3 72 ∧ (vp_in a3 72 ∧ Rn X m_Mk_watch 39 [some (vR [8, 0]), some (vR a1), some (vR a2), some (vI (a3 + 1))] [] (hsI h [0, 8, 0] a3.toNatClampNeg ((h.1 (5 :: a2) (iR a3 6).toNatClampNeg) - (h.1 [0, 8, 0] a3.toNatClampNeg))) Q))))))))) : Rn X m_Mk_watch 39 [some (vR [8, 0]), some (vR a1), some (vR a2), some (vI a3)] [] h Q := by
  refine Rn.iload_n (n := 40) (i := 3) d_Mk_watch_39 rfl rfl rfl ?_
  refine Rn.aload_n (n := 41) (i := 0) d_Mk_watch_40 rfl rfl rfl ?_
  refine Rn.getf (n := 44) (v := vR [0, 8, 0]) d_Mk_watch_41 rfl fl_Mk_9 Lv_8_0 rfl ?_
  refine Rn.alen8 (n := 45) (v := 72) d_Mk_watch_44 rfl Lv_0_8_0 (by decide) ?_
  refine Rn.icmp_ge (n := 48) (t := 86) d_Mk_watch_45 rfl (by decide) (fun cc => ?_) (fun cc => ?_)
  · have k := k.1 cc
    exact Rn.vret d_Mk_watch_86 rfl k
  · have k := k.2 cc
    refine Rn.aload_n (n := 49) (i := 0) d_Mk_watch_48 rfl rfl rfl ?_
    refine Rn.getf (n := 52) (v := vR [0, 8, 0]) d_Mk_watch_49 rfl fl_Mk_9 Lv_8_0 rfl ?_
    refine Rn.iload_n (n := 53) (i := 3) d_Mk_watch_52 rfl rfl rfl ?_
    obtain ⟨b1, k⟩ := k
    refine Rn.iald (n := 54) (v := h.1 [0, 8, 0] a3.toNatClampNeg) d_Mk_watch_53 rfl Lv_0_8_0 b1 rfl ?_
    refine Rn.iconst (n := 55) (v := (-1)) d_Mk_watch_54 rfl (by decide) ?_
    refine Rn.icmp_eq (n := 58) (t := 80) d_Mk_watch_55 rfl (by decide) (fun cc => ?_) (fun cc => ?_)
    · have k := k.1 cc
      refine Rn.iinc (n := 83) (i := 3) (v := a3 + 1) (ls2 := [some (vR [8, 0]), some (vR a1), some (vR a2), some (vI (a3 + 1))]) d_Mk_watch_80 rfl rfl rfl (Nat.le_of_ble_eq_true rfl) rfl ?_
      refine Rn.goto (n := 39) d_Mk_watch_83 (by decide) ?_
      exact k
    · have k := k.2 cc
      refine Rn.aload_n (n := 59) (i := 0) d_Mk_watch_58 rfl rfl rfl ?_
      refine Rn.getf (n := 62) (v := vR [0, 8, 0]) d_Mk_watch_59 rfl fl_Mk_9 Lv_8_0 rfl ?_
      refine Rn.iload_n (n := 63) (i := 3) d_Mk_watch_62 rfl rfl rfl ?_
      refine Rn.aload_n (n := 64) (i := 2) d_Mk_watch_63 rfl rfl rfl ?_
      refine Rn.getf (n := 67) (v := vR (5 :: a2)) d_Mk_watch_64 rfl fl_Mk_34 w_a2.s rfl ?_
      refine Rn.iload_n (n := 68) (i := 3) d_Mk_watch_67 rfl rfl rfl ?_
      refine Rn.bipush (n := 70) (v := 6) d_Mk_watch_68 rfl (by decide) ?_
      refine Rn.irem (n := 71) d_Mk_watch_70 rfl (by decide) ?_
      obtain ⟨b2, k⟩ := k
      refine Rn.iald (n := 72) (v := h.1 (5 :: a2) (iR a3 6).toNatClampNeg) d_Mk_watch_71 rfl w_a2.c5 b2 rfl ?_
      refine Rn.aload_n (n := 73) (i := 0) d_Mk_watch_72 rfl rfl rfl ?_
      refine Rn.getf (n := 76) (v := vR [0, 8, 0]) d_Mk_watch_73 rfl fl_Mk_9 Lv_8_0 rfl ?_
      refine Rn.iload_n (n := 77) (i := 3) d_Mk_watch_76 rfl rfl rfl ?_
      obtain ⟨b3, k⟩ := k
      refine Rn.iald (n := 78) (v := h.1 [0, 8, 0] a3.toNatClampNeg) d_Mk_watch_77 rfl Lv_0_8_0 b3 rfl ?_
      refine Rn.isub (n := 79) d_Mk_watch_78 rfl ?_
      obtain ⟨b4, k⟩ := k
      refine Rn.iast (n := 80) d_Mk_watch_79 rfl Lv_0_8_0 b4 ?_
      refine Rn.iinc (n := 83) (i := 3) (v := a3 + 1) (ls2 := [some (vR [8, 0]), some (vR a1), some (vR a2), some (vI (a3 + 1))]) d_Mk_watch_80 rfl rfl rfl (Nat.le_of_ble_eq_true rfl) rfl ?_
      refine Rn.goto (n := 39) d_Mk_watch_83 (by decide) ?_
      exact k
theorem e_Mk_watch {X : XS} (a1 : List Nat) (a2 : List Nat) (h : Hp) (Q : Option AV → Hp → Prop) (k : Rn X m_Mk_watch 0 [some (vR [8, 0]), some (vR a1), some (vR a2), none] [] h Q) : Ev X m_Mk_watch [vR [8, 0], vR a1, vR a2] h Q := Ev.intro (plainFor_of_name (by decide +kernel)) (Nat.le_of_ble_eq_true rfl) (ls := [some (vR [8, 0]), some (vR a1), some (vR a2), none]) rfl k
theorem d_Mk_noteFirst_0 : decode m_Mk_noteFirst.2.1 0 = .ok (.iconst 0, 1) := by decide +kernel
theorem d_Mk_noteFirst_1 : decode m_Mk_noteFirst.2.1 1 = .ok (.istore_n 3, 1) := by decide +kernel
theorem d_Mk_noteFirst_2 : decode m_Mk_noteFirst.2.1 2 = .ok (.iload_n 3, 1) := by decide +kernel
theorem d_Mk_noteFirst_3 : decode m_Mk_noteFirst.2.1 3 = .ok (.bipush 6, 2) := by decide +kernel
theorem d_Mk_noteFirst_5 : decode m_Mk_noteFirst.2.1 5 = .ok (.if_icmp .ge 83, 3) := by decide +kernel
theorem d_Mk_noteFirst_8 : decode m_Mk_noteFirst.2.1 8 = .ok (.aload_n 2, 1) := by decide +kernel
theorem d_Mk_noteFirst_9 : decode m_Mk_noteFirst.2.1 9 = .ok (.iload_n 3, 1) := by decide +kernel
theorem d_Mk_noteFirst_10 : decode m_Mk_noteFirst.2.1 10 = .ok (.invokevirtual 37, 3) := by decide +kernel
theorem d_Mk_noteFirst_13 : decode m_Mk_noteFirst.2.1 13 = .ok (.ifCond .eq 69, 3) := by decide +kernel
theorem d_Mk_noteFirst_16 : decode m_Mk_noteFirst.2.1 16 = .ok (.aload_n 1, 1) := by decide +kernel
theorem d_Mk_noteFirst_17 : decode m_Mk_noteFirst.2.1 17 = .ok (.getfield 41, 3) := by decide +kernel
theorem d_Mk_noteFirst_20 : decode m_Mk_noteFirst.2.1 20 = .ok (.iload_n 3, 1) := by decide +kernel
theorem d_Mk_noteFirst_21 : decode m_Mk_noteFirst.2.1 21 = .ok (.iaload, 1) := by decide +kernel
theorem d_Mk_noteFirst_22 : decode m_Mk_noteFirst.2.1 22 = .ok (.ifCond .eq 6, 3) := by decide +kernel
theorem d_Mk_noteFirst_25 : decode m_Mk_noteFirst.2.1 25 = .ok (.goto 57, 3) := by decide +kernel
theorem d_Mk_noteFirst_28 : decode m_Mk_noteFirst.2.1 28 = .ok (.aload_n 2, 1) := by decide +kernel
theorem d_Mk_noteFirst_29 : decode m_Mk_noteFirst.2.1 29 = .ok (.getfield 46, 3) := by decide +kernel
theorem d_Mk_noteFirst_32 : decode m_Mk_noteFirst.2.1 32 = .ok (.iload_n 3, 1) := by decide +kernel
theorem d_Mk_noteFirst_33 : decode m_Mk_noteFirst.2.1 33 = .ok (.iaload, 1) := by decide +kernel
theorem d_Mk_noteFirst_34 : decode m_Mk_noteFirst.2.1 34 = .ok (.iconst 4, 1) := by decide +kernel
theorem d_Mk_noteFirst_35 : decode m_Mk_noteFirst.2.1 35 = .ok (.idiv, 1) := by decide +kernel
theorem d_Mk_noteFirst_36 : decode m_Mk_noteFirst.2.1 36 = .ok (.bipush 6, 2) := by decide +kernel
theorem d_Mk_noteFirst_38 : decode m_Mk_noteFirst.2.1 38 = .ok (.imul, 1) := by decide +kernel
theorem d_Mk_noteFirst_39 : decode m_Mk_noteFirst.2.1 39 = .ok (.iload_n 3, 1) := by decide +kernel
theorem d_Mk_noteFirst_40 : decode m_Mk_noteFirst.2.1 40 = .ok (.iadd, 1) := by decide +kernel
theorem d_Mk_noteFirst_41 : decode m_Mk_noteFirst.2.1 41 = .ok (.istore 4, 2) := by decide +kernel
theorem d_Mk_noteFirst_43 : decode m_Mk_noteFirst.2.1 43 = .ok (.iload 4, 2) := by decide +kernel
theorem d_Mk_noteFirst_45 : decode m_Mk_noteFirst.2.1 45 = .ok (.ifCond .lt 37, 3) := by decide +kernel
theorem d_Mk_noteFirst_48 : decode m_Mk_noteFirst.2.1 48 = .ok (.iload 4, 2) := by decide +kernel
theorem d_Mk_noteFirst_50 : decode m_Mk_noteFirst.2.1 50 = .ok (.aload_n 0, 1) := by decide +kernel
theorem d_Mk_noteFirst_51 : decode m_Mk_noteFirst.2.1 51 = .ok (.getfield 9, 3) := by decide +kernel
theorem d_Mk_noteFirst_54 : decode m_Mk_noteFirst.2.1 54 = .ok (.arraylength, 1) := by decide +kernel
theorem d_Mk_noteFirst_55 : decode m_Mk_noteFirst.2.1 55 = .ok (.if_icmp .ge 27, 3) := by decide +kernel
theorem d_Mk_noteFirst_58 : decode m_Mk_noteFirst.2.1 58 = .ok (.aload_n 0, 1) := by decide +kernel
theorem d_Mk_noteFirst_59 : decode m_Mk_noteFirst.2.1 59 = .ok (.getfield 9, 3) := by decide +kernel
theorem d_Mk_noteFirst_62 : decode m_Mk_noteFirst.2.1 62 = .ok (.iload 4, 2) := by decide +kernel
theorem d_Mk_noteFirst_64 : decode m_Mk_noteFirst.2.1 64 = .ok (.iaload, 1) := by decide +kernel
theorem d_Mk_noteFirst_65 : decode m_Mk_noteFirst.2.1 65 = .ok (.iconst (-1), 1) := by decide +kernel
theorem d_Mk_noteFirst_66 : decode m_Mk_noteFirst.2.1 66 = .ok (.if_icmp .ne 16, 3) := by decide +kernel
theorem d_Mk_noteFirst_69 : decode m_Mk_noteFirst.2.1 69 = .ok (.aload_n 0, 1) := by decide +kernel
theorem d_Mk_noteFirst_70 : decode m_Mk_noteFirst.2.1 70 = .ok (.getfield 9, 3) := by decide +kernel
theorem d_Mk_noteFirst_73 : decode m_Mk_noteFirst.2.1 73 = .ok (.iload 4, 2) := by decide +kernel
theorem d_Mk_noteFirst_75 : decode m_Mk_noteFirst.2.1 75 = .ok (.aload_n 2, 1) := by decide +kernel
theorem d_Mk_noteFirst_76 : decode m_Mk_noteFirst.2.1 76 = .ok (.getfield 34, 3) := by decide +kernel
theorem d_Mk_noteFirst_79 : decode m_Mk_noteFirst.2.1 79 = .ok (.iload_n 3, 1) := by decide +kernel
theorem d_Mk_noteFirst_80 : decode m_Mk_noteFirst.2.1 80 = .ok (.iaload, 1) := by decide +kernel
theorem d_Mk_noteFirst_81 : decode m_Mk_noteFirst.2.1 81 = .ok (.iastore, 1) := by decide +kernel
theorem d_Mk_noteFirst_82 : decode m_Mk_noteFirst.2.1 82 = .ok (.iinc 3 1, 3) := by decide +kernel
theorem d_Mk_noteFirst_85 : decode m_Mk_noteFirst.2.1 85 = .ok (.goto (-83), 3) := by decide +kernel
theorem d_Mk_noteFirst_88 : decode m_Mk_noteFirst.2.1 88 = .ok (.return_, 1) := by decide +kernel
theorem g_Mk_noteFirst_0 {X : XS} (a1 : List Nat) (a2 : List Nat) (h : Hp) (Q : Option AV → Hp → Prop) (w_a1 : IsPl a1) (w_a2 : IsWk a2) (k : Rn X m_Mk_noteFirst 2 [some (vR [8, 0]), some (vR a1), some (vR a2), some (vI 0), none] [] h Q) : Rn X m_Mk_noteFirst 0 [some (vR [8, 0]), some (vR a1), some (vR a2), none, none] [] h Q := by
  refine Rn.iconst (n := 1) (v := 0) d_Mk_noteFirst_0 rfl (by decide) ?_
  refine Rn.istore_n (n := 2) (i := 3) (ls2 := [some (vR [8, 0]), some (vR a1), some (vR a2), some (vI 0), none]) d_Mk_noteFirst_1 rfl rfl (Nat.le_of_ble_eq_true rfl) rfl ?_
  exact k
theorem g_Mk_noteFirst_2 {X : XS} (a1 : List Nat) (a2 : List Nat) (a3 : Int32) (h : Hp) (Q : Option AV → Hp → Prop) (w_a1 : IsPl a1) (w_a2 : IsWk a2) (k : ((6 ≤ a3 → Q none h) ∧ (¬ 6 ≤ a3 → (∃ Q'4, EvI X m_Wk_isOn [vR a2, vI a3] h Q'4 ∧ ∀ (r5 : Int32) (h3 : Hp), Q'4 r5 h3 → ((r5 = 0 → Rn X m_Mk_noteFirst 2 [some (vR [8, 0]), some (vR a1), some (vR a2), some (vI (a3 + 1)), none] [] h3 Q) ∧ (¬ r5 = 0 → (vp_in a3 6 ∧ (((h3.1 (8 :: a1) a3.toNatClampNeg) = 0 → (vp_in a3 6 ∧ ((((((h3.1 (3 :: a2) a3.toNatClampNeg) / 4) * 6) + a3) < 0 → Rn X m_Mk_noteFirst 2 [some (vR [8, 0]), some (vR a1), some (vR a2), some (vI (a3 + 1)), none] [] h3 Q) ∧ (¬ ((((h3.1 (3 :: a2) a3.toNatClampNeg) / 4) * 6) + a3) < 0 → ((72 ≤ ((((h3.1 (3 :: a2) a3.toNatClampNeg) / 4) * 6) + a3) → Rn X m_Mk_noteFirst 2 [some (vR [8, 0]), some (vR a1), some (vR a2), some (vI (a3 + 1)), none] [] h3 Q) ∧ (¬ 72 ≤ ((((h3.1 (3 :: a2) a3.toNatClampNeg) / 4) * 6) + a3) → (vp_in ((((h3.1 (3 :: a2) a3.toNatClampNeg) / 4) * 6) + a3) 72 ∧ ((¬ (h3.1 [0, 8, 0] ((((h3.1 (3 :: a2) a3.toNatClampNeg) / 4) * 6) + a3).toNatClampNeg) = (-1) → Rn X m_Mk_noteFirst 2 [some (vR [8, 0]), some (vR a1), some (vR a2), some (vI (a3 + 1)), none] [] h3 Q) ∧ ((h3.1 [0, 8, 0] ((((h3.1 (3 :: a2) a3.toNatClampNeg) / 4) * 6) + a3).toNatClampNeg) = (-1) → (vp_in a3 6 ∧ (vp_in ((((h3.1 (3 :: a2) a3.toNatClampNeg) / 4) * 6) + a3) 72 ∧ Rn X m_Mk_noteFirst 2 [some (vR [8, 0]), some (vR a1), some (vR a2), some (vI (a3 + 1)), none] [] (hsI h3 [0, 8, 0] (((((h3.1 (3 :: a2) a3.toNatClampNeg) / 4) * 6) + a3).toNatClampNeg) (h3.1 (5 :: a2) a3.toNatClampNeg)) Q))))))))))) ∧ (¬ (h3.1 (8 :: a1) a3.toNatClampNeg) = 0 → Rn X m_Mk_noteFirst 2 [some (vR [8, 0]), some (vR a1), some (vR a2), some (vI (a3 + 1)), none] [] h3 Q))))))))) : Rn X m_Mk_noteFirst 2 [some (vR [8, 0]), some (vR a1), some (vR a2), some (vI a3), none] [] h Q := by
  refine Rn.iload_n (n := 3) (i := 3) d_Mk_noteFirst_2 rfl rfl rfl ?_
  refine Rn.bipush (n := 5) (v := 6) d_Mk_noteFirst_3 rfl (by decide) ?_
  refine Rn.icmp_ge (n := 8) (t := 88) d_Mk_noteFirst_5 rfl (by decide) (fun cc => ?_) (fun cc => ?_)
  · have k := k.1 cc
    exact Rn.vret d_Mk_noteFirst_88 rfl k
  · have k := k.2 cc
    refine Rn.aload_n (n := 9) (i := 2) d_Mk_noteFirst_8 rfl rfl rfl ?_
    refine Rn.iload_n (n := 10) (i := 3) d_Mk_noteFirst_9 rfl rfl rfl ?_
    obtain ⟨Q'4, ev1, k⟩ := k
    refine Rn.callV (n := 13) (av := [vI a3]) d_Mk_noteFirst_10 rfl ml_Mk_noteFirst_37 mi_Wk_isOn w_a2.s rfl rfl rfl rfl (Nat.le_of_ble_eq_true rfl) ev1 (fun v h3 hq => ?_)
    obtain ⟨r5, rfl, hq⟩ := hq
    have k := k r5 h3 hq
    show Rn X m_Mk_noteFirst 13 [some (vR [8, 0]), some (vR a1), some (vR a2), some (vI a3), none] [vI r5] h3 Q
    refine Rn.if_eq (n := 16) (t := 82) d_Mk_noteFirst_13 rfl (by decide) (fun cc => ?_) (fun cc => ?_)
    · have k := k.1 cc
      refine Rn.iinc (n := 85) (i := 3) (v := a3 + 1) (ls2 := [some (vR [8, 0]), some (vR a1), some (vR a2), some (vI (a3 + 1)), none]) d_Mk_noteFirst_82 rfl rfl rfl (Nat.le_of_ble_eq_true rfl) rfl ?_
      refine Rn.goto (n := 2) d_Mk_noteFirst_85 (by decide) ?_
      exact k
    · have k := k.2 cc
      refine Rn.aload_n (n := 17) (i := 1) d_Mk_noteFirst_16 rfl rfl rfl ?_
      refine Rn.getf (n := 20) (v := vR (8 :: a1)) d_Mk_noteFirst_17 rfl fl_Mk_41 w_a1.s rfl ?_
      refine Rn.iload_n (n := 21) (i := 3) d_Mk_noteFirst_20 rfl rfl rfl ?_
      obtain ⟨b6, k⟩ := k
      refine Rn.iald (n := 22) (v := h3.1 (8 :: a1) a3.toNatClampNeg) d_Mk_noteFirst_21 rfl w_a1.c8 b6 rfl ?_
      refine Rn.if_eq (n := 25) (t := 28) d_Mk_noteFirst_22 rfl (by decide) (fun cc => ?_) (fun cc => ?_)
      · have k := k.1 cc
        refine Rn.aload_n (n := 29) (i := 2) d_Mk_noteFirst_28 rfl rfl rfl ?_
        refine Rn.getf (n := 32) (v := vR (3 :: a2)) d_Mk_noteFirst_29 rfl fl_Mk_46 w_a2.s rfl ?_
        refine Rn.iload_n (n := 33) (i := 3) d_Mk_noteFirst_32 rfl rfl rfl ?_
        obtain ⟨b7, k⟩ := k
        refine Rn.iald (n := 34) (v := h3.1 (3 :: a2) a3.toNatClampNeg) d_Mk_noteFirst_33 rfl w_a2.c3 b7 rfl ?_
        refine Rn.iconst (n := 35) (v := 4) d_Mk_noteFirst_34 rfl (by decide) ?_
        refine Rn.idiv (n := 36) d_Mk_noteFirst_35 rfl (by decide) ?_
        refine Rn.bipush (n := 38) (v := 6) d_Mk_noteFirst_36 rfl (by decide) ?_
        refine Rn.imul (n := 39) d_Mk_noteFirst_38 rfl ?_
        refine Rn.iload_n (n := 40) (i := 3) d_Mk_noteFirst_39 rfl rfl rfl ?_
        refine Rn.iadd (n := 41) d_Mk_noteFirst_40 rfl ?_
        refine Rn.istore (n := 43) (i := 4) (ls2 := [some (vR [8, 0]), some (vR a1), some (vR a2), some (vI a3), some (vI ((((h3.1 (3 :: a2) a3.toNatClampNeg) / 4) * 6) + a3))]) d_Mk_noteFirst_41 rfl (Nat.le_of_ble_eq_true rfl) rfl ?_
        refine Rn.iload (n := 45) (i := 4) d_Mk_noteFirst_43 rfl rfl ?_
        refine Rn.if_lt (n := 48) (t := 82) d_Mk_noteFirst_45 rfl (by decide) (fun cc => ?_) (fun cc => ?_)
        · have k := k.1 cc
          refine Rn.iinc (n := 85) (i := 3) (v := a3 + 1) (ls2 := [some (vR [8, 0]), some (vR a1), some (vR a2), some (vI (a3 + 1)), some (vI ((((h3.1 (3 :: a2) a3.toNatClampNeg) / 4) * 6) + a3))]) d_Mk_noteFirst_82 rfl rfl rfl (Nat.le_of_ble_eq_true rfl) rfl ?_
          refine Rn.goto (n := 2) d_Mk_noteFirst_85 (by decide) ?_
          exact Rn.loc [some (vR [8, 0]), some (vR a1), some (vR a2), some (vI (a3 + 1)), none] (LLe_ok ⟨rfl, ⟨rfl, ⟨rfl, ⟨rfl, trivial⟩⟩⟩⟩) k
        · have k := k.2 cc
          refine Rn.iload (n := 50) (i := 4) d_Mk_noteFirst_48 rfl rfl ?_
          refine Rn.aload_n (n := 51) (i := 0) d_Mk_noteFirst_50 rfl rfl rfl ?_
          refine Rn.getf (n := 54) (v := vR [0, 8, 0]) d_Mk_noteFirst_51 rfl fl_Mk_9 Lv_8_0 rfl ?_
          refine Rn.alen8 (n := 55) (v := 72) d_Mk_noteFirst_54 rfl Lv_0_8_0 (by decide) ?_
          refine Rn.icmp_ge (n := 58) (t := 82) d_Mk_noteFirst_55 rfl (by decide) (fun cc => ?_) (fun cc => ?_)
          · have k := k.1 cc
            refine Rn.iinc (n := 85) (i := 3) (v := a3 + 1) (ls2 := [some (vR [8, 0]), some (vR a1), some (vR a2), some (vI (a3 + 1)), some (vI ((((h3.1 (3 :: a2) a3.toNatClampNeg) / 4) * 6) + a3))]) d_Mk_noteFirst_82 rfl rfl rfl (Nat.le_of_ble_eq_true rfl) rfl ?_
            refine Rn.goto (n := 2) d_Mk_noteFirst_85 (by decide) ?_
            exact Rn.loc [some (vR [8, 0]), some (vR a1), some (vR a2), some (vI (a3 + 1)), none] (LLe_ok ⟨rfl, ⟨rfl, ⟨rfl, ⟨rfl, trivial⟩⟩⟩⟩) k
          · have k := k.2 cc
            refine Rn.aload_n (n := 59) (i := 0) d_Mk_noteFirst_58 rfl rfl rfl ?_
            refine Rn.getf (n := 62) (v := vR [0, 8, 0]) d_Mk_noteFirst_59 rfl fl_Mk_9 Lv_8_0 rfl ?_
            refine Rn.iload (n := 64) (i := 4) d_Mk_noteFirst_62 rfl rfl ?_
            obtain ⟨b8, k⟩ := k
            refine Rn.iald (n := 65) (v := h3.1 [0, 8, 0] ((((h3.1 (3 :: a2) a3.toNatClampNeg) / 4) * 6) + a3).toNatClampNeg) d_Mk_noteFirst_64 rfl Lv_0_8_0 b8 rfl ?_
            refine Rn.iconst (n := 66) (v := (-1)) d_Mk_noteFirst_65 rfl (by decide) ?_
            refine Rn.icmp_ne (n := 69) (t := 82) d_Mk_noteFirst_66 rfl (by decide) (fun cc => ?_) (fun cc => ?_)
            · have k := k.1 cc
              refine Rn.iinc (n := 85) (i := 3) (v := a3 + 1) (ls2 := [some (vR [8, 0]), some (vR a1), some (vR a2), some (vI (a3 + 1)), some (vI ((((h3.1 (3 :: a2) a3.toNatClampNeg) / 4) * 6) + a3))]) d_Mk_noteFirst_82 rfl rfl rfl (Nat.le_of_ble_eq_true rfl) rfl ?_
              refine Rn.goto (n := 2) d_Mk_noteFirst_85 (by decide) ?_
              exact Rn.loc [some (vR [8, 0]), some (vR a1), some (vR a2), some (vI (a3 + 1)), none] (LLe_ok ⟨rfl, ⟨rfl, ⟨rfl, ⟨rfl, trivial⟩⟩⟩⟩) k
            · have k := k.2 cc
              refine Rn.aload_n (n := 70) (i := 0) d_Mk_noteFirst_69 rfl rfl rfl ?_
              refine Rn.getf (n := 73) (v := vR [0, 8, 0]) d_Mk_noteFirst_70 rfl fl_Mk_9 Lv_8_0 rfl ?_
              refine Rn.iload (n := 75) (i := 4) d_Mk_noteFirst_73 rfl rfl ?_
              refine Rn.aload_n (n := 76) (i := 2) d_Mk_noteFirst_75 rfl rfl rfl ?_
              refine Rn.getf (n := 79) (v := vR (5 :: a2)) d_Mk_noteFirst_76 rfl fl_Mk_34 w_a2.s rfl ?_
              refine Rn.iload_n (n := 80) (i := 3) d_Mk_noteFirst_79 rfl rfl rfl ?_
              obtain ⟨b9, k⟩ := k
              refine Rn.iald (n := 81) (v := h3.1 (5 :: a2) a3.toNatClampNeg) d_Mk_noteFirst_80 rfl w_a2.c5 b9 rfl ?_
              obtain ⟨b10, k⟩ := k
              refine Rn.iast (n := 82) d_Mk_noteFirst_81 rfl Lv_0_8_0 b10 ?_
              refine Rn.iinc (n := 85) (i := 3) (v := a3 + 1) (ls2 := [some (vR [8, 0]), some (vR a1), some (vR a2), some (vI (a3 + 1)), some (vI ((((h3.1 (3 :: a2) a3.toNatClampNeg) / 4) * 6) + a3))]) d_Mk_noteFirst_82 rfl rfl rfl (Nat.le_of_ble_eq_true rfl) rfl ?_
              refine Rn.goto (n := 2) d_Mk_noteFirst_85 (by decide) ?_
              exact Rn.loc [some (vR [8, 0]), some (vR a1), some (vR a2), some (vI (a3 + 1)), none] (LLe_ok ⟨rfl, ⟨rfl, ⟨rfl, ⟨rfl, trivial⟩⟩⟩⟩) k
      · have k := k.2 cc
        refine Rn.goto (n := 82) d_Mk_noteFirst_25 (by decide) ?_
        refine Rn.iinc (n := 85) (i := 3) (v := a3 + 1) (ls2 := [some (vR [8, 0]), some (vR a1), some (vR a2), some (vI (a3 + 1)), none]) d_Mk_noteFirst_82 rfl rfl rfl (Nat.le_of_ble_eq_true rfl) rfl ?_
        refine Rn.goto (n := 2) d_Mk_noteFirst_85 (by decide) ?_
        exact k
theorem e_Mk_noteFirst {X : XS} (a1 : List Nat) (a2 : List Nat) (h : Hp) (Q : Option AV → Hp → Prop) (k : Rn X m_Mk_noteFirst 0 [some (vR [8, 0]), some (vR a1), some (vR a2), none, none] [] h Q) : Ev X m_Mk_noteFirst [vR [8, 0], vR a1, vR a2] h Q := Ev.intro (plainFor_of_name (by decide +kernel)) (Nat.le_of_ble_eq_true rfl) (ls := [some (vR [8, 0]), some (vR a1), some (vR a2), none, none]) rfl k
theorem d_Mk_income_0 : decode m_Mk_income.2.1 0 = .ok (.iconst 0, 1) := by decide +kernel
theorem d_Mk_income_1 : decode m_Mk_income.2.1 1 = .ok (.istore_n 3, 1) := by decide +kernel
theorem d_Mk_income_2 : decode m_Mk_income.2.1 2 = .ok (.iconst 0, 1) := by decide +kernel
theorem d_Mk_income_3 : decode m_Mk_income.2.1 3 = .ok (.istore 4, 2) := by decide +kernel
theorem d_Mk_income_5 : decode m_Mk_income.2.1 5 = .ok (.iload 4, 2) := by decide +kernel
theorem d_Mk_income_7 : decode m_Mk_income.2.1 7 = .ok (.bipush 6, 2) := by decide +kernel
theorem d_Mk_income_9 : decode m_Mk_income.2.1 9 = .ok (.if_icmp .ge 48, 3) := by decide +kernel
theorem d_Mk_income_12 : decode m_Mk_income.2.1 12 = .ok (.iload_n 1, 1) := by decide +kernel
theorem d_Mk_income_13 : decode m_Mk_income.2.1 13 = .ok (.bipush 6, 2) := by decide +kernel
theorem d_Mk_income_15 : decode m_Mk_income.2.1 15 = .ok (.imul, 1) := by decide +kernel
theorem d_Mk_income_16 : decode m_Mk_income.2.1 16 = .ok (.iload 4, 2) := by decide +kernel
theorem d_Mk_income_18 : decode m_Mk_income.2.1 18 = .ok (.iadd, 1) := by decide +kernel
theorem d_Mk_income_19 : decode m_Mk_income.2.1 19 = .ok (.istore 5, 2) := by decide +kernel
theorem d_Mk_income_21 : decode m_Mk_income.2.1 21 = .ok (.iload 5, 2) := by decide +kernel
theorem d_Mk_income_23 : decode m_Mk_income.2.1 23 = .ok (.ifCond .lt 28, 3) := by decide +kernel
theorem d_Mk_income_26 : decode m_Mk_income.2.1 26 = .ok (.iload 5, 2) := by decide +kernel
theorem d_Mk_income_28 : decode m_Mk_income.2.1 28 = .ok (.aload_n 0, 1) := by decide +kernel
theorem d_Mk_income_29 : decode m_Mk_income.2.1 29 = .ok (.getfield 9, 3) := by decide +kernel
theorem d_Mk_income_32 : decode m_Mk_income.2.1 32 = .ok (.arraylength, 1) := by decide +kernel
theorem d_Mk_income_33 : decode m_Mk_income.2.1 33 = .ok (.if_icmp .ge 18, 3) := by decide +kernel
theorem d_Mk_income_36 : decode m_Mk_income.2.1 36 = .ok (.aload_n 0, 1) := by decide +kernel
theorem d_Mk_income_37 : decode m_Mk_income.2.1 37 = .ok (.getfield 9, 3) := by decide +kernel
theorem d_Mk_income_40 : decode m_Mk_income.2.1 40 = .ok (.iload 5, 2) := by decide +kernel
theorem d_Mk_income_42 : decode m_Mk_income.2.1 42 = .ok (.iaload, 1) := by decide +kernel
theorem d_Mk_income_43 : decode m_Mk_income.2.1 43 = .ok (.iload_n 2, 1) := by decide +kernel
theorem d_Mk_income_44 : decode m_Mk_income.2.1 44 = .ok (.if_icmp .lt 7, 3) := by decide +kernel
theorem d_Mk_income_47 : decode m_Mk_income.2.1 47 = .ok (.iload_n 3, 1) := by decide +kernel
theorem d_Mk_income_48 : decode m_Mk_income.2.1 48 = .ok (.iload_n 2, 1) := by decide +kernel
theorem d_Mk_income_49 : decode m_Mk_income.2.1 49 = .ok (.iadd, 1) := by decide +kernel
theorem d_Mk_income_50 : decode m_Mk_income.2.1 50 = .ok (.istore_n 3, 1) := by decide +kernel
theorem d_Mk_income_51 : decode m_Mk_income.2.1 51 = .ok (.iinc 4 1, 3) := by decide +kernel
theorem d_Mk_income_54 : decode m_Mk_income.2.1 54 = .ok (.goto (-49), 3) := by decide +kernel
theorem d_Mk_income_57 : decode m_Mk_income.2.1 57 = .ok (.iload_n 3, 1) := by decide +kernel
theorem d_Mk_income_58 : decode m_Mk_income.2.1 58 = .ok (.ireturn, 1) := by decide +kernel
theorem g_Mk_income_0 {X : XS} (a1 : Int32) (a2 : Int32) (h : Hp) (Q : Option AV → Hp → Prop)  (k : Rn X m_Mk_income 5 [some (vR [8, 0]), some (vI a1), some (vI a2), some (vI 0), some (vI 0), none] [] h Q) : Rn X m_Mk_income 0 [some (vR [8, 0]), some (vI a1), some (vI a2), none, none, none] [] h Q := by
  refine Rn.iconst (n := 1) (v := 0) d_Mk_income_0 rfl (by decide) ?_
  refine Rn.istore_n (n := 2) (i := 3) (ls2 := [some (vR [8, 0]), some (vI a1), some (vI a2), some (vI 0), none, none]) d_Mk_income_1 rfl rfl (Nat.le_of_ble_eq_true rfl) rfl ?_
  refine Rn.iconst (n := 3) (v := 0) d_Mk_income_2 rfl (by decide) ?_
  refine Rn.istore (n := 5) (i := 4) (ls2 := [some (vR [8, 0]), some (vI a1), some (vI a2), some (vI 0), some (vI 0), none]) d_Mk_income_3 rfl (Nat.le_of_ble_eq_true rfl) rfl ?_
  exact k
theorem g_Mk_income_5 {X : XS} (a1 : Int32) (a2 : Int32) (a3 : Int32) (a4 : Int32) (h : Hp) (Q : Option AV → Hp → Prop)  (k : ((6 ≤ a4 → Q (some (vI a3)) h) ∧ (¬ 6 ≤ a4 → ((((a1 * 6) + a4) < 0 → Rn X m_Mk_income 5 [some (vR [8, 0]), some (vI a1), some (vI a2), some (vI a3), some (vI (a4 + 1)), none] [] h Q) ∧ (¬ ((a1 * 6) + a4) < 0 → ((72 ≤ ((a1 * 6) + a4) → Rn X m_Mk_income 5 [some (vR [8, 0]), some (vI a1), some (vI a2), some (vI a3), some (vI (a4 + 1)), none] [] h Q) ∧ (¬ 72 ≤ ((a1 * 6) + a4) → (vp_in ((a1 * 6) + a4) 72 ∧ (((h.1 [0, 8, 0] ((a1 * 6) + a4).toNatClampNeg) < a2 → Rn X m_Mk_income 5 [some (vR [8, 0]), some (vI a1), some (vI a2), some (vI a3), some (vI (a4 + 1)), none] [] h Q) ∧ (¬ (h.1 [0, 8, 0] ((a1 * 6) + a4).toNatClampNeg) < a2 → Rn X m_Mk_income 5 [some (vR [8, 0]), some (vI a1), some (vI a2), some (vI (a3 + a2)), some (vI (a4 + 1)), none] [] h Q)))))))))) : Rn X m_Mk_income 5 [some (vR [8, 0]), some (vI a1), some (vI a2), some (vI a3), some (vI a4), none] [] h Q := by
  refine Rn.iload (n := 7) (i := 4) d_Mk_income_5 rfl rfl ?_
  refine Rn.bipush (n := 9) (v := 6) d_Mk_income_7 rfl (by decide) ?_
  refine Rn.icmp_ge (n := 12) (t := 57) d_Mk_income_9 rfl (by decide) (fun cc => ?_) (fun cc => ?_)
  · have k := k.1 cc
    refine Rn.iload_n (n := 58) (i := 3) d_Mk_income_57 rfl rfl rfl ?_
    exact Rn.iret d_Mk_income_58 rfl rfl k
  · have k := k.2 cc
    refine Rn.iload_n (n := 13) (i := 1) d_Mk_income_12 rfl rfl rfl ?_
    refine Rn.bipush (n := 15) (v := 6) d_Mk_income_13 rfl (by decide) ?_
    refine Rn.imul (n := 16) d_Mk_income_15 rfl ?_
    refine Rn.iload (n := 18) (i := 4) d_Mk_income_16 rfl rfl ?_
    refine Rn.iadd (n := 19) d_Mk_income_18 rfl ?_
    refine Rn.istore (n := 21) (i := 5) (ls2 := [some (vR [8, 0]), some (vI a1), some (vI a2), some (vI a3), some (vI a4), some (vI ((a1 * 6) + a4))]) d_Mk_income_19 rfl (Nat.le_of_ble_eq_true rfl) rfl ?_
    refine Rn.iload (n := 23) (i := 5) d_Mk_income_21 rfl rfl ?_
    refine Rn.if_lt (n := 26) (t := 51) d_Mk_income_23 rfl (by decide) (fun cc => ?_) (fun cc => ?_)
    · have k := k.1 cc
      refine Rn.iinc (n := 54) (i := 4) (v := a4 + 1) (ls2 := [some (vR [8, 0]), some (vI a1), some (vI a2), some (vI a3), some (vI (a4 + 1)), some (vI ((a1 * 6) + a4))]) d_Mk_income_51 rfl rfl rfl (Nat.le_of_ble_eq_true rfl) rfl ?_
      refine Rn.goto (n := 5) d_Mk_income_54 (by decide) ?_
      exact Rn.loc [some (vR [8, 0]), some (vI a1), some (vI a2), some (vI a3), some (vI (a4 + 1)), none] (LLe_ok ⟨rfl, ⟨rfl, ⟨rfl, ⟨rfl, ⟨rfl, trivial⟩⟩⟩⟩⟩) k
    · have k := k.2 cc
      refine Rn.iload (n := 28) (i := 5) d_Mk_income_26 rfl rfl ?_
      refine Rn.aload_n (n := 29) (i := 0) d_Mk_income_28 rfl rfl rfl ?_
      refine Rn.getf (n := 32) (v := vR [0, 8, 0]) d_Mk_income_29 rfl fl_Mk_9 Lv_8_0 rfl ?_
      refine Rn.alen8 (n := 33) (v := 72) d_Mk_income_32 rfl Lv_0_8_0 (by decide) ?_
      refine Rn.icmp_ge (n := 36) (t := 51) d_Mk_income_33 rfl (by decide) (fun cc => ?_) (fun cc => ?_)
      · have k := k.1 cc
        refine Rn.iinc (n := 54) (i := 4) (v := a4 + 1) (ls2 := [some (vR [8, 0]), some (vI a1), some (vI a2), some (vI a3), some (vI (a4 + 1)), some (vI ((a1 * 6) + a4))]) d_Mk_income_51 rfl rfl rfl (Nat.le_of_ble_eq_true rfl) rfl ?_
        refine Rn.goto (n := 5) d_Mk_income_54 (by decide) ?_
        exact Rn.loc [some (vR [8, 0]), some (vI a1), some (vI a2), some (vI a3), some (vI (a4 + 1)), none] (LLe_ok ⟨rfl, ⟨rfl, ⟨rfl, ⟨rfl, ⟨rfl, trivial⟩⟩⟩⟩⟩) k
      · have k := k.2 cc
        refine Rn.aload_n (n := 37) (i := 0) d_Mk_income_36 rfl rfl rfl ?_
        refine Rn.getf (n := 40) (v := vR [0, 8, 0]) d_Mk_income_37 rfl fl_Mk_9 Lv_8_0 rfl ?_
        refine Rn.iload (n := 42) (i := 5) d_Mk_income_40 rfl rfl ?_
        obtain ⟨b1, k⟩ := k
        refine Rn.iald (n := 43) (v := h.1 [0, 8, 0] ((a1 * 6) + a4).toNatClampNeg) d_Mk_income_42 rfl Lv_0_8_0 b1 rfl ?_
        refine Rn.iload_n (n := 44) (i := 2) d_Mk_income_43 rfl rfl rfl ?_
        refine Rn.icmp_lt (n := 47) (t := 51) d_Mk_income_44 rfl (by decide) (fun cc => ?_) (fun cc => ?_)
        · have k := k.1 cc
          refine Rn.iinc (n := 54) (i := 4) (v := a4 + 1) (ls2 := [some (vR [8, 0]), some (vI a1), some (vI a2), some (vI a3), some (vI (a4 + 1)), some (vI ((a1 * 6) + a4))]) d_Mk_income_51 rfl rfl rfl (Nat.le_of_ble_eq_true rfl) rfl ?_
          refine Rn.goto (n := 5) d_Mk_income_54 (by decide) ?_
          exact Rn.loc [some (vR [8, 0]), some (vI a1), some (vI a2), some (vI a3), some (vI (a4 + 1)), none] (LLe_ok ⟨rfl, ⟨rfl, ⟨rfl, ⟨rfl, ⟨rfl, trivial⟩⟩⟩⟩⟩) k
        · have k := k.2 cc
          refine Rn.iload_n (n := 48) (i := 3) d_Mk_income_47 rfl rfl rfl ?_
          refine Rn.iload_n (n := 49) (i := 2) d_Mk_income_48 rfl rfl rfl ?_
          refine Rn.iadd (n := 50) d_Mk_income_49 rfl ?_
          refine Rn.istore_n (n := 51) (i := 3) (ls2 := [some (vR [8, 0]), some (vI a1), some (vI a2), some (vI (a3 + a2)), some (vI a4), some (vI ((a1 * 6) + a4))]) d_Mk_income_50 rfl rfl (Nat.le_of_ble_eq_true rfl) rfl ?_
          refine Rn.iinc (n := 54) (i := 4) (v := a4 + 1) (ls2 := [some (vR [8, 0]), some (vI a1), some (vI a2), some (vI (a3 + a2)), some (vI (a4 + 1)), some (vI ((a1 * 6) + a4))]) d_Mk_income_51 rfl rfl rfl (Nat.le_of_ble_eq_true rfl) rfl ?_
          refine Rn.goto (n := 5) d_Mk_income_54 (by decide) ?_
          exact Rn.loc [some (vR [8, 0]), some (vI a1), some (vI a2), some (vI (a3 + a2)), some (vI (a4 + 1)), none] (LLe_ok ⟨rfl, ⟨rfl, ⟨rfl, ⟨rfl, ⟨rfl, trivial⟩⟩⟩⟩⟩) k
theorem e_Mk_income {X : XS} (a1 : Int32) (a2 : Int32) (h : Hp) (Q : Option AV → Hp → Prop) (k : Rn X m_Mk_income 0 [some (vR [8, 0]), some (vI a1), some (vI a2), none, none, none] [] h Q) : Ev X m_Mk_income [vR [8, 0], vI a1, vI a2] h Q := Ev.intro (plainFor_of_name (by decide +kernel)) (Nat.le_of_ble_eq_true rfl) (ls := [some (vR [8, 0]), some (vI a1), some (vI a2), none, none, none]) rfl k
theorem d_Mk_seekBest_0 : decode m_Mk_seekBest.2.1 0 = .ok (.aload_n 0, 1) := by decide +kernel
theorem d_Mk_seekBest_1 : decode m_Mk_seekBest.2.1 1 = .ok (.iconst (-1), 1) := by decide +kernel
theorem d_Mk_seekBest_2 : decode m_Mk_seekBest.2.1 2 = .ok (.putfield 49, 3) := by decide +kernel
theorem d_Mk_seekBest_5 : decode m_Mk_seekBest.2.1 5 = .ok (.iconst 0, 1) := by decide +kernel
theorem d_Mk_seekBest_6 : decode m_Mk_seekBest.2.1 6 = .ok (.istore_n 2, 1) := by decide +kernel
theorem d_Mk_seekBest_7 : decode m_Mk_seekBest.2.1 7 = .ok (.iload_n 2, 1) := by decide +kernel
theorem d_Mk_seekBest_8 : decode m_Mk_seekBest.2.1 8 = .ok (.iload_n 1, 1) := by decide +kernel
theorem d_Mk_seekBest_9 : decode m_Mk_seekBest.2.1 9 = .ok (.if_icmp .ge 62, 3) := by decide +kernel
theorem d_Mk_seekBest_12 : decode m_Mk_seekBest.2.1 12 = .ok (.iload_n 2, 1) := by decide +kernel
theorem d_Mk_seekBest_13 : decode m_Mk_seekBest.2.1 13 = .ok (.bipush 12, 2) := by decide +kernel
theorem d_Mk_seekBest_15 : decode m_Mk_seekBest.2.1 15 = .ok (.if_icmp .ge 56, 3) := by decide +kernel
theorem d_Mk_seekBest_18 : decode m_Mk_seekBest.2.1 18 = .ok (.iconst 1, 1) := by decide +kernel
theorem d_Mk_seekBest_19 : decode m_Mk_seekBest.2.1 19 = .ok (.istore_n 3, 1) := by decide +kernel
theorem d_Mk_seekBest_20 : decode m_Mk_seekBest.2.1 20 = .ok (.iload_n 3, 1) := by decide +kernel
theorem d_Mk_seekBest_21 : decode m_Mk_seekBest.2.1 21 = .ok (.bipush 99, 2) := by decide +kernel
theorem d_Mk_seekBest_23 : decode m_Mk_seekBest.2.1 23 = .ok (.if_icmp .gt 42, 3) := by decide +kernel
theorem d_Mk_seekBest_26 : decode m_Mk_seekBest.2.1 26 = .ok (.aload_n 0, 1) := by decide +kernel
theorem d_Mk_seekBest_27 : decode m_Mk_seekBest.2.1 27 = .ok (.iload_n 2, 1) := by decide +kernel
theorem d_Mk_seekBest_28 : decode m_Mk_seekBest.2.1 28 = .ok (.iload_n 3, 1) := by decide +kernel
theorem d_Mk_seekBest_29 : decode m_Mk_seekBest.2.1 29 = .ok (.invokevirtual 53, 3) := by decide +kernel
theorem d_Mk_seekBest_32 : decode m_Mk_seekBest.2.1 32 = .ok (.aload_n 0, 1) := by decide +kernel
theorem d_Mk_seekBest_33 : decode m_Mk_seekBest.2.1 33 = .ok (.getfield 49, 3) := by decide +kernel
theorem d_Mk_seekBest_36 : decode m_Mk_seekBest.2.1 36 = .ok (.if_icmp .le 23, 3) := by decide +kernel
theorem d_Mk_seekBest_39 : decode m_Mk_seekBest.2.1 39 = .ok (.aload_n 0, 1) := by decide +kernel
theorem d_Mk_seekBest_40 : decode m_Mk_seekBest.2.1 40 = .ok (.aload_n 0, 1) := by decide +kernel
theorem d_Mk_seekBest_41 : decode m_Mk_seekBest.2.1 41 = .ok (.iload_n 2, 1) := by decide +kernel
theorem d_Mk_seekBest_42 : decode m_Mk_seekBest.2.1 42 = .ok (.iload_n 3, 1) := by decide +kernel
theorem d_Mk_seekBest_43 : decode m_Mk_seekBest.2.1 43 = .ok (.invokevirtual 53, 3) := by decide +kernel
theorem d_Mk_seekBest_46 : decode m_Mk_seekBest.2.1 46 = .ok (.putfield 49, 3) := by decide +kernel
theorem d_Mk_seekBest_49 : decode m_Mk_seekBest.2.1 49 = .ok (.aload_n 0, 1) := by decide +kernel
theorem d_Mk_seekBest_50 : decode m_Mk_seekBest.2.1 50 = .ok (.iload_n 2, 1) := by decide +kernel
theorem d_Mk_seekBest_51 : decode m_Mk_seekBest.2.1 51 = .ok (.putfield 57, 3) := by decide +kernel
theorem d_Mk_seekBest_54 : decode m_Mk_seekBest.2.1 54 = .ok (.aload_n 0, 1) := by decide +kernel
theorem d_Mk_seekBest_55 : decode m_Mk_seekBest.2.1 55 = .ok (.iload_n 3, 1) := by decide +kernel
theorem d_Mk_seekBest_56 : decode m_Mk_seekBest.2.1 56 = .ok (.putfield 60, 3) := by decide +kernel
theorem d_Mk_seekBest_59 : decode m_Mk_seekBest.2.1 59 = .ok (.iinc 3 1, 3) := by decide +kernel
theorem d_Mk_seekBest_62 : decode m_Mk_seekBest.2.1 62 = .ok (.goto (-42), 3) := by decide +kernel
theorem d_Mk_seekBest_65 : decode m_Mk_seekBest.2.1 65 = .ok (.iinc 2 1, 3) := by decide +kernel
theorem d_Mk_seekBest_68 : decode m_Mk_seekBest.2.1 68 = .ok (.goto (-61), 3) := by decide +kernel
theorem d_Mk_seekBest_71 : decode m_Mk_seekBest.2.1 71 = .ok (.return_, 1) := by decide +kernel
theorem g_Mk_seekBest_0 {X : XS} (a1 : Int32) (h : Hp) (Q : Option AV → Hp → Prop)  (k : Rn X m_Mk_seekBest 7 [some (vR [8, 0]), some (vI a1), some (vI 0), none] [] (hsI h [8, 0] 3 (-1)) Q) : Rn X m_Mk_seekBest 0 [some (vR [8, 0]), some (vI a1), none, none] [] h Q := by
  refine Rn.aload_n (n := 1) (i := 0) d_Mk_seekBest_0 rfl rfl rfl ?_
  refine Rn.iconst (n := 2) (v := (-1)) d_Mk_seekBest_1 rfl (by decide) ?_
  refine Rn.putI (n := 5) d_Mk_seekBest_2 rfl fl_Mk_49 pl_Mk_3 Lv_8_0 rfl ?_
  refine Rn.iconst (n := 6) (v := 0) d_Mk_seekBest_5 rfl (by decide) ?_
  refine Rn.istore_n (n := 7) (i := 2) (ls2 := [some (vR [8, 0]), some (vI a1), some (vI 0), none]) d_Mk_seekBest_6 rfl rfl (Nat.le_of_ble_eq_true rfl) rfl ?_
  exact k
theorem g_Mk_seekBest_7 {X : XS} (a1 : Int32) (a2 : Int32) (h : Hp) (Q : Option AV → Hp → Prop)  (k : ((a1 ≤ a2 → Q none h) ∧ (¬ a1 ≤ a2 → ((12 ≤ a2 → Q none h) ∧ (¬ 12 ≤ a2 → Rn X m_Mk_seekBest 20 [some (vR [8, 0]), some (vI a1), some (vI a2), some (vI 1)] [] h Q))))) : Rn X m_Mk_seekBest 7 [some (vR [8, 0]), some (vI a1), some (vI a2), none] [] h Q := by
  refine Rn.iload_n (n := 8) (i := 2) d_Mk_seekBest_7 rfl rfl rfl ?_
  refine Rn.iload_n (n := 9) (i := 1) d_Mk_seekBest_8 rfl rfl rfl ?_
  refine Rn.icmp_ge (n := 12) (t := 71) d_Mk_seekBest_9 rfl (by decide) (fun cc => ?_) (fun cc => ?_)
  · have k := k.1 cc
    exact Rn.vret d_Mk_seekBest_71 rfl k
  · have k := k.2 cc
    refine Rn.iload_n (n := 13) (i := 2) d_Mk_seekBest_12 rfl rfl rfl ?_
    refine Rn.bipush (n := 15) (v := 12) d_Mk_seekBest_13 rfl (by decide) ?_
    refine Rn.icmp_ge (n := 18) (t := 71) d_Mk_seekBest_15 rfl (by decide) (fun cc => ?_) (fun cc => ?_)
    · have k := k.1 cc
      exact Rn.vret d_Mk_seekBest_71 rfl k
    · have k := k.2 cc
      refine Rn.iconst (n := 19) (v := 1) d_Mk_seekBest_18 rfl (by decide) ?_
      refine Rn.istore_n (n := 20) (i := 3) (ls2 := [some (vR [8, 0]), some (vI a1), some (vI a2), some (vI 1)]) d_Mk_seekBest_19 rfl rfl (Nat.le_of_ble_eq_true rfl) rfl ?_
      exact k
theorem g_Mk_seekBest_20 {X : XS} (a1 : Int32) (a2 : Int32) (a3 : Int32) (h : Hp) (Q : Option AV → Hp → Prop)  (k : ((99 < a3 → Rn X m_Mk_seekBest 7 [some (vR [8, 0]), some (vI a1), some (vI (a2 + 1)), none] [] h Q) ∧ (¬ 99 < a3 → (∃ Q'4, EvI X m_Mk_income [vR [8, 0], vI a2, vI a3] h Q'4 ∧ ∀ (r5 : Int32) (h3 : Hp), Q'4 r5 h3 → ((r5 ≤ (h3.1 [8, 0] 3) → Rn X m_Mk_seekBest 20 [some (vR [8, 0]), some (vI a1), some (vI a2), some (vI (a3 + 1))] [] h3 Q) ∧ (¬ r5 ≤ (h3.1 [8, 0] 3) → (∃ Q'9, EvI X m_Mk_income [vR [8, 0], vI a2, vI a3] h3 Q'9 ∧ ∀ (r10 : Int32) (h8 : Hp), Q'9 r10 h8 → Rn X m_Mk_seekBest 20 [some (vR [8, 0]), some (vI a1), some (vI a2), some (vI (a3 + 1))] [] (hsI (hsI (hsI h8 [8, 0] 3 r10) [8, 0] 1 a2) [8, 0] 2 a3) Q))))))) : Rn X m_Mk_seekBest 20 [some (vR [8, 0]), some (vI a1), some (vI a2), some (vI a3)] [] h Q := by
  refine Rn.iload_n (n := 21) (i := 3) d_Mk_seekBest_20 rfl rfl rfl ?_
  refine Rn.bipush (n := 23) (v := 99) d_Mk_seekBest_21 rfl (by decide) ?_
  refine Rn.icmp_gt (n := 26) (t := 65) d_Mk_seekBest_23 rfl (by decide) (fun cc => ?_) (fun cc => ?_)
  · have k := k.1 cc
    refine Rn.iinc (n := 68) (i := 2) (v := a2 + 1) (ls2 := [some (vR [8, 0]), some (vI a1), some (vI (a2 + 1)), some (vI a3)]) d_Mk_seekBest_65 rfl rfl rfl (Nat.le_of_ble_eq_true rfl) rfl ?_
    refine Rn.goto (n := 7) d_Mk_seekBest_68 (by decide) ?_
    exact Rn.loc [some (vR [8, 0]), some (vI a1), some (vI (a2 + 1)), none] (LLe_ok ⟨rfl, ⟨rfl, ⟨rfl, trivial⟩⟩⟩) k
  · have k := k.2 cc
    refine Rn.aload_n (n := 27) (i := 0) d_Mk_seekBest_26 rfl rfl rfl ?_
    refine Rn.iload_n (n := 28) (i := 2) d_Mk_seekBest_27 rfl rfl rfl ?_
    refine Rn.iload_n (n := 29) (i := 3) d_Mk_seekBest_28 rfl rfl rfl ?_
    obtain ⟨Q'4, ev1, k⟩ := k
    refine Rn.callV (n := 32) (av := [vI a2, vI a3]) d_Mk_seekBest_29 rfl ml_Mk_seekBest_53 mi_Mk_income Lv_8_0 rfl rfl rfl rfl (Nat.le_of_ble_eq_true rfl) ev1 (fun v h3 hq => ?_)
    obtain ⟨r5, rfl, hq⟩ := hq
    have k := k r5 h3 hq
    show Rn X m_Mk_seekBest 32 [some (vR [8, 0]), some (vI a1), some (vI a2), some (vI a3)] [vI r5] h3 Q
    refine Rn.aload_n (n := 33) (i := 0) d_Mk_seekBest_32 rfl rfl rfl ?_
    refine Rn.getf (n := 36) (v := vI (h3.1 [8, 0] 3)) d_Mk_seekBest_33 rfl fl_Mk_49 Lv_8_0 rfl ?_
    refine Rn.icmp_le (n := 39) (t := 59) d_Mk_seekBest_36 rfl (by decide) (fun cc => ?_) (fun cc => ?_)
    · have k := k.1 cc
      refine Rn.iinc (n := 62) (i := 3) (v := a3 + 1) (ls2 := [some (vR [8, 0]), some (vI a1), some (vI a2), some (vI (a3 + 1))]) d_Mk_seekBest_59 rfl rfl rfl (Nat.le_of_ble_eq_true rfl) rfl ?_
      refine Rn.goto (n := 20) d_Mk_seekBest_62 (by decide) ?_
      exact k
    · have k := k.2 cc
      refine Rn.aload_n (n := 40) (i := 0) d_Mk_seekBest_39 rfl rfl rfl ?_
      refine Rn.aload_n (n := 41) (i := 0) d_Mk_seekBest_40 rfl rfl rfl ?_
      refine Rn.iload_n (n := 42) (i := 2) d_Mk_seekBest_41 rfl rfl rfl ?_
      refine Rn.iload_n (n := 43) (i := 3) d_Mk_seekBest_42 rfl rfl rfl ?_
      obtain ⟨Q'9, ev6, k⟩ := k
      refine Rn.callV (n := 46) (av := [vI a2, vI a3]) d_Mk_seekBest_43 rfl ml_Mk_seekBest_53 mi_Mk_income Lv_8_0 rfl rfl rfl rfl (Nat.le_of_ble_eq_true rfl) ev6 (fun v h8 hq => ?_)
      obtain ⟨r10, rfl, hq⟩ := hq
      have k := k r10 h8 hq
      show Rn X m_Mk_seekBest 46 [some (vR [8, 0]), some (vI a1), some (vI a2), some (vI a3)] [vI r10, vR [8, 0]] h8 Q
      refine Rn.putI (n := 49) d_Mk_seekBest_46 rfl fl_Mk_49 pl_Mk_3 Lv_8_0 rfl ?_
      refine Rn.aload_n (n := 50) (i := 0) d_Mk_seekBest_49 rfl rfl rfl ?_
      refine Rn.iload_n (n := 51) (i := 2) d_Mk_seekBest_50 rfl rfl rfl ?_
      refine Rn.putI (n := 54) d_Mk_seekBest_51 rfl fl_Mk_57 pl_Mk_1 Lv_8_0 rfl ?_
      refine Rn.aload_n (n := 55) (i := 0) d_Mk_seekBest_54 rfl rfl rfl ?_
      refine Rn.iload_n (n := 56) (i := 3) d_Mk_seekBest_55 rfl rfl rfl ?_
      refine Rn.putI (n := 59) d_Mk_seekBest_56 rfl fl_Mk_60 pl_Mk_2 Lv_8_0 rfl ?_
      refine Rn.iinc (n := 62) (i := 3) (v := a3 + 1) (ls2 := [some (vR [8, 0]), some (vI a1), some (vI a2), some (vI (a3 + 1))]) d_Mk_seekBest_59 rfl rfl rfl (Nat.le_of_ble_eq_true rfl) rfl ?_
      refine Rn.goto (n := 20) d_Mk_seekBest_62 (by decide) ?_
      exact k
theorem e_Mk_seekBest {X : XS} (a1 : Int32) (h : Hp) (Q : Option AV → Hp → Prop) (k : Rn X m_Mk_seekBest 0 [some (vR [8, 0]), some (vI a1), none, none] [] h Q) : Ev X m_Mk_seekBest [vR [8, 0], vI a1] h Q := Ev.intro (plainFor_of_name (by decide +kernel)) (Nat.le_of_ble_eq_true rfl) (ls := [some (vR [8, 0]), some (vI a1), none, none]) rfl k
