/-! what the statement gives of the start -/
theorem nest_mem : nestW = [58, 116, 192, 197, 228, 255].filterMap (fun i => lw_tbl[i]?) := by decide +kernel
theorem nest_in : ∀ w ∈ nestW, w ∈ lw_tbl := by
  intro w hw
  rw [nest_mem] at hw
  obtain ⟨i, -, hi⟩ := List.mem_filterMap.mp hw
  exact List.mem_of_getElem? hi
theorem ins_0 : Cond.instantiable RX0 4 ∈ wsG := wsG_of (i := 254) (by decide +kernel) rfl
theorem ins_1 : Cond.instantiable RX1 11 ∈ wsG := wsG_of (i := 57) (by decide +kernel) rfl
theorem ins_2 : Cond.instantiable RX2 6 ∈ wsG := wsG_of (i := 227) (by decide +kernel) rfl
theorem ins_3 : Cond.instantiable RX3 7 ∈ wsG := wsG_of (i := 115) (by decide +kernel) rfl
theorem ins_4 : Cond.instantiable RX4 7 ∈ wsG := wsG_of (i := 191) (by decide +kernel) rfl
theorem ins_5 : Cond.instantiable RX5 8 ∈ wsG := wsG_of (i := 145) (by decide +kernel) rfl
theorem ins_6 : Cond.instantiable RX6 9 ∈ wsG := wsG_of (i := 49) (by decide +kernel) rfl
theorem ins_7 : Cond.instantiable RX7 31 ∈ wsG := wsG_of (i := 795) (by decide +kernel) rfl
theorem base_world {s : State} {b : Nat} (htl : ∀ w ∈ lw_tbl, w.before #[Value.ref b] s = true) : ∃ (D : va_G) (I : I3), va_K D clsU (T3 I) s ∧ NestU s ∧ va_Nw (.methodLinkNest "UmbrellaStreet$Text" 107 m_Us_isNotIn.1 "UmbrellaStreet") s := by
  have hts : ∀ w ∈ wsG, w.before #[Value.ref b] s = true := fun w hw => htl w (List.mem_filter.mp hw).1
  obtain ⟨k0, i0, n0⟩ := u_known (C := RX0) (T := TX0) (N := 4) (n := 4) hts iwX0 (hts _ ins_0)
  obtain ⟨k1, i1, n1⟩ := u_known (C := RX1) (T := TX1) (N := 11) (n := 11) hts iwX1 (hts _ ins_1)
  obtain ⟨k2, i2, n2⟩ := u_known (C := RX2) (T := TX2) (N := 6) (n := 6) hts iwX2 (hts _ ins_2)
  obtain ⟨k3, i3, n3⟩ := u_known (C := RX3) (T := TX3) (N := 7) (n := 7) hts iwX3 (hts _ ins_3)
  obtain ⟨k4, i4, n4⟩ := u_known (C := RX4) (T := TX4) (N := 7) (n := 7) hts iwX4 (hts _ ins_4)
  obtain ⟨k5, i5, n5⟩ := u_known (C := RX5) (T := TX5) (N := 8) (n := 8) hts iwX5 (hts _ ins_5)
  obtain ⟨k6, i6, n6⟩ := u_known (C := RX6) (T := TX6) (N := 9) (n := 9) hts iwX6 (hts _ ins_6)
  obtain ⟨k7, i7, n7⟩ := u_known (C := RX7) (T := TX7) (N := 31) (n := 31) hts iwX7 (hts _ ins_7)
  obtain ⟨D, hD⟩ : ∃ D : va_G, ∀ (k : Nat) (q : vw_C), clsU[k]? = some q → u_Kn s q.1 q.2.1 q.2.2 (D.1 k) (D.2 k) := by
    refine ⟨(fun k => match k with | 0 => k0 | 1 => k1 | 2 => k2 | 3 => k3 | 4 => k4 | 5 => k5 | 6 => k6 | _ => k7, fun k => match k with | 0 => i0 | 1 => i1 | 2 => i2 | 3 => i3 | 4 => i4 | 5 => i5 | 6 => i6 | _ => i7), fun k q hq => ?_⟩
    match k, hq with
    | 0, hq => cases hq; exact n0
    | 1, hq => cases hq; exact n1
    | 2, hq => cases hq; exact n2
    | 3, hq => cases hq; exact n3
    | 4, hq => cases hq; exact n4
    | 5, hq => cases hq; exact n5
    | 6, hq => cases hq; exact n6
    | 7, hq => cases hq; exact n7
    | k + 8, hq => simp [clsU] at hq
  obtain ⟨cI, kI, pI, f1, f2, f3⟩ := Cond.arrayClass_spec (hts _ arrI_ok)
  obtain ⟨cZ, kZ, pZ, g1, g2, g3⟩ := Cond.arrayClass_spec (hts _ arrZ_ok)
  have hover := htl (.arrayOver (.object "UmbrellaStreet$Walk")) (List.mem_of_getElem? (i := 189) (by decide +kernel))
  obtain ⟨pW, cW, kW, w1, w2, w3, w4, w5⟩ := Cond.arrayOver_spec hover
  refine ⟨D, (cI, cZ, cW), ⟨hD, fun k q hq => ?_⟩, ⟨fun a i x h hm => va_Nw.of rfl (htl _ (nest_in _ hm)), va_AO.of hover⟩, va_Nw.of rfl (htl _ (List.mem_of_getElem? (i := 411) (by decide +kernel)))⟩
  match k, hq with
  | 0, hq => cases hq; exact ⟨fun n z => ⟨fun k h => (by cases h), kI, f2, pI, f3⟩, f1⟩
  | 1, hq => cases hq; exact ⟨fun n z => ⟨fun k h => (by cases h), kZ, g2, pZ, g3⟩, g1⟩
  | 2, hq => cases hq; exact ⟨fun n z => ⟨fun k h => (by cases h), kW, w3, pW, w4⟩, kW, pW, w3, w4, w1, w5⟩
  | k + 3, hq => simp [T3] at hq
set_option maxHeartbeats 4000000 in
theorem base_str {s : State} {b : Nat} {A : Nat → Prop} (htl : ∀ w ∈ lw_tbl, w.before #[Value.ref b] s = true) (hgv : (Jvm.Cond.and given_1 narrow_1).before #[Value.ref b] s = true) (hA : ∀ a : Nat, a < s.heap.size → ¬ A a) : ∃ (adK adV : Nat → Nat) (fm : Nat), (∀ i : Nat, i < 5 → vk_R "UmbrellaStreet$Text" (sIx i) (sTx i) (adK i) s) ∧ vk_S 5 sLen sByt adK adV A s s.heap ∧ va_Z "java/lang/String" "COMPACT_STRINGS" "Z" (.int 1) A s s.heap ∧ (va_Z "jdk/internal/util/Preconditions" "SIOOBE_FORMATTER" "Ljava/util/function/BiFunction;" .null A s s.heap ∨ va_Z "jdk/internal/util/Preconditions" "SIOOBE_FORMATTER" "Ljava/util/function/BiFunction;" (.ref fm) A s s.heap) := by
  have hs := flat_of_before _ hgv
  have hel : ∀ i : Nat, i < 5 → ∀ j : Nat, j < sLen.getD i 0 → (Cond.eq (.elem (.field ((fun i => Term.string "UmbrellaStreet$Text" (sIx i)) i) "java/lang/String" "value" "[B") (.int (Int32.ofNat j))) (.int ((sByt.getD i []).getD j 0))).before #[Value.ref b] s = true := by
    intro i hi j hj
    rcases (show i = 0 ∨ i = 1 ∨ i = 2 ∨ i = 3 ∨ i = 4 by omega) with rfl | rfl | rfl | rfl | rfl
    · have hj : j < 6 := hj
      rcases (show j = 0 ∨ j = 1 ∨ j = 2 ∨ j = 3 ∨ j = 4 ∨ j = 5 by omega) with rfl | rfl | rfl | rfl | rfl | rfl <;> exact hs _ (by decide +kernel)
    · have hj : j < 6 := hj
      rcases (show j = 0 ∨ j = 1 ∨ j = 2 ∨ j = 3 ∨ j = 4 ∨ j = 5 by omega) with rfl | rfl | rfl | rfl | rfl | rfl <;> exact hs _ (by decide +kernel)
    · have hj : j < 6 := hj
      rcases (show j = 0 ∨ j = 1 ∨ j = 2 ∨ j = 3 ∨ j = 4 ∨ j = 5 by omega) with rfl | rfl | rfl | rfl | rfl | rfl <;> exact hs _ (by decide +kernel)
    · have hj : j < 4 := hj
      rcases (show j = 0 ∨ j = 1 ∨ j = 2 ∨ j = 3 by omega) with rfl | rfl | rfl | rfl <;> exact hs _ (by decide +kernel)
    · have hj : j < 4 := hj
      rcases (show j = 0 ∨ j = 1 ∨ j = 2 ∨ j = 3 by omega) with rfl | rfl | rfl | rfl <;> exact hs _ (by decide +kernel)
  have hne : ∀ i j : Nat, i < 5 → j < 5 → i ≠ j → (Cond.not (Cond.eq ((fun i => Term.string "UmbrellaStreet$Text" (sIx i)) i) ((fun i => Term.string "UmbrellaStreet$Text" (sIx i)) j))).before #[Value.ref b] s = true ∨ (Cond.not (Cond.eq ((fun i => Term.string "UmbrellaStreet$Text" (sIx i)) j) ((fun i => Term.string "UmbrellaStreet$Text" (sIx i)) i))).before #[Value.ref b] s = true := by
    intro i j hi hj hij
    rcases (show i = 0 ∨ i = 1 ∨ i = 2 ∨ i = 3 ∨ i = 4 by omega) with rfl | rfl | rfl | rfl | rfl <;> rcases (show j = 0 ∨ j = 1 ∨ j = 2 ∨ j = 3 ∨ j = 4 by omega) with rfl | rfl | rfl | rfl | rfl <;> first | exact absurd rfl hij | exact Or.inl (hs _ (by decide +kernel)) | exact Or.inr (hs _ (by decide +kernel))
  obtain ⟨adK, adV, h1, h2⟩ := vk_Sof (N := 5) (tm := fun i => .string "UmbrellaStreet$Text" (sIx i)) (len := sLen) (byt := sByt) (A := A) (args := #[Value.ref b]) (s := s) (by decide) (fun i hi => by rcases (show i = 0 ∨ i = 1 ∨ i = 2 ∨ i = 3 ∨ i = 4 by omega) with rfl | rfl | rfl | rfl | rfl <;> exact hs _ (by decide +kernel)) (fun i hi => by rcases (show i = 0 ∨ i = 1 ∨ i = 2 ∨ i = 3 ∨ i = 4 by omega) with rfl | rfl | rfl | rfl | rfl <;> exact hs _ (by decide +kernel)) (fun i hi => by rcases (show i = 0 ∨ i = 1 ∨ i = 2 ∨ i = 3 ∨ i = 4 by omega) with rfl | rfl | rfl | rfl | rfl <;> exact hs _ (by decide +kernel)) (fun i hi => by rcases (show i = 0 ∨ i = 1 ∨ i = 2 ∨ i = 3 ∨ i = 4 by omega) with rfl | rfl | rfl | rfl | rfl <;> exact hs _ (by decide +kernel)) hel hne hA
  · obtain ⟨fm, hf⟩ : ∃ fm : Nat, (va_Z "jdk/internal/util/Preconditions" "SIOOBE_FORMATTER" "Ljava/util/function/BiFunction;" .null A s s.heap ∨ va_Z "jdk/internal/util/Preconditions" "SIOOBE_FORMATTER" "Ljava/util/function/BiFunction;" (.ref fm) A s s.heap) := by
      rcases va_Zqof (A := A) (htl (.laysStatic "jdk/internal/util/Preconditions" "SIOOBE_FORMATTER" "Ljava/util/function/BiFunction;") (List.mem_of_getElem? (i := 380) (by decide +kernel))) (htl (.initialized "jdk/internal/util/Preconditions") (List.mem_of_getElem? (i := 45) (by decide +kernel))) (hs _ (by decide +kernel)) hA with h | ⟨t, h⟩
      · exact ⟨0, Or.inl h⟩
      · exact ⟨t, Or.inr h⟩
    refine ⟨adK, adV, fm, fun i hi => ?_, h1, va_Zof (htl (.laysStatic "java/lang/String" "COMPACT_STRINGS" "Z") (List.mem_of_getElem? (i := 364) (by decide +kernel))) (htl (.initialized "java/lang/String") (List.mem_of_getElem? (i := 43) (by decide +kernel))) (va_eqi (hs _ (by decide +kernel))) hA, hf⟩
    have e := h2 i hi
    rcases (show i = 0 ∨ i = 1 ∨ i = 2 ∨ i = 3 ∨ i = 4 by omega) with rfl | rfl | rfl | rfl | rfl
    · exact vk_R.of (htl (.stringRef "UmbrellaStreet$Text" 49 "street") (List.mem_of_getElem? (i := 350) (by decide +kernel))) e
    · exact vk_R.of (htl (.stringRef "UmbrellaStreet$Text" 58 "awning") (List.mem_of_getElem? (i := 416) (by decide +kernel))) e
    · exact vk_R.of (htl (.stringRef "UmbrellaStreet$Text" 63 "walker") (List.mem_of_getElem? (i := 429) (by decide +kernel))) e
    · exact vk_R.of (htl (.stringRef "UmbrellaStreet$Text" 68 "gone") (List.mem_of_getElem? (i := 438) (by decide +kernel))) e
    · exact vk_R.of (htl (.stringRef "UmbrellaStreet$Text" 73 "rain") (List.mem_of_getElem? (i := 451) (by decide +kernel))) e
theorem cw_L_7 : CtW x.cls 7 9 yX6_init cX6_init 2 6 9 := ⟨⟨TX6, rfl⟩, wsG_of (i := 48) (by decide +kernel) rfl, wsG_of (i := 49) (by decide +kernel) rfl, wsG_of (i := 34) (by decide +kernel) rfl, Or.inl (wsG_of (i := 50) (by decide +kernel) rfl), wsG_of (i := 51) (by decide +kernel) rfl, wsG_of (i := 52) (by decide +kernel) rfl, by decide +kernel, rfl⟩
theorem cw_L_10 : CtW x.cls 10 12 yX7_init cX7_init 1 7 31 := ⟨⟨TX7, rfl⟩, wsG_of (i := 794) (by decide +kernel) rfl, wsG_of (i := 795) (by decide +kernel) rfl, wsG_of (i := 42) (by decide +kernel) rfl, Or.inl (wsG_of (i := 796) (by decide +kernel) rfl), wsG_of (i := 797) (by decide +kernel) rfl, wsG_of (i := 798) (by decide +kernel) rfl, by decide +kernel, rfl⟩
theorem dn_0 : decode code 0 = .ok (.new 7, 3) := by decide +kernel
theorem dn_3 : decode code 3 = .ok (.dup, 1) := by decide +kernel
theorem dn_4 : decode code 4 = .ok (.invokespecial 9, 3) := by decide +kernel
theorem dn_7 : decode code 7 = .ok (.astore_n 1, 1) := by decide +kernel
theorem dn_8 : decode code 8 = .ok (.new 10, 3) := by decide +kernel
theorem dn_11 : decode code 11 = .ok (.dup, 1) := by decide +kernel
theorem dn_12 : decode code 12 = .ok (.invokespecial 12, 3) := by decide +kernel
theorem dn_15 : decode code 15 = .ok (.astore_n 2, 1) := by decide +kernel
