/-! the law's loop -/
section LAW
theorem sub7 {n : Nat} (h : n < 2 ^ 31) : (nI n - 7).toInt = (n : Int) - 7 := by
  have h1 : (nI n).toInt = n := by
    show (Int32.ofNat n).toInt = n
    rw [Int32.toInt_ofNat_of_lt h]
  rw [Int32.toInt_sub, h1, show (7 : Int32).toInt = 7 from by decide]
  rw [Int.bmod_eq_of_le (by omega) (by omega)]
theorem toI_nI {n : Nat} (h : n < 2 ^ 31) : (nI n).toInt = n := by
  show (Int32.ofNat n).toInt = n
  rw [Int32.toInt_ofNat_of_lt h]
theorem law_lt2 {i n : Nat} (h : n < 2 ^ 31) (c : ¬ i + 7 ≤ n) (hi : i ≤ n) : nI n - 7 < nI i := by
  rw [Int32.lt_iff_toInt_lt, sub7 h, toI_nI (by omega)]; omega
theorem law_ge {i n : Nat} (h : n < 2 ^ 31) (c : i + 7 ≤ n) : ¬ nI n - 7 < nI i := by
  rw [Int32.lt_iff_toInt_lt, sub7 h, toI_nI (by omega)]; omega
theorem lg_self {x : Int64} : lg_cmp x x = 0 := by
  unfold lg_cmp
  simp
variable {X : XS} {h : Hp} {Q : Option AV → Hp → Prop}
theorem at7 {i k n : Nat} (hk : i + 7 ≤ n) (hn : n < 2 ^ 31) (h : k < 7) : vp_in (nI i + nI k) n := by rw [nI_add]; exact vp_in_nI (by omega) hn
theorem law_loop (hf : ∀ h, Inv h → PairI X m_Us_fault m_Rf_fault [] h) (hs : ∀ h, Inv h → PairI X m_Us_shower m_Rf_shower [] h) (hX : X.1 < 2 ^ 31) (hq : ∀ h', Q (some (vI 1)) h') : ∀ (m i : Nat) (h : Hp), X.1 - i ≤ m → i ≤ X.1 → Inv h → Rn X m_Lw_law 18 [some (vR [2]), some (vR [0]), some (vR [1]), some (vI (nI i))] [] h Q := by
  intro m
  induction m with
  | zero =>
    intro i h hm hi hI
    refine g_Lw_law_18 _ _ _ (cT ?_ (hq h))
    rw [show Int32.ofNat X.1 = nI X.1 from rfl, show i = X.1 by omega]
    exact law_lt2 hX (by omega) (Nat.le_refl _)
  | succ m ih =>
    intro i h hm hi hI
    by_cases c : i + 7 ≤ X.1
    · have nx : ∀ h', Inv h' → Rn X m_Lw_law 1084 [some (vR [2]), some (vR [0]), some (vR [1]), some (vI (nI i))] [] h' Q := by
        intro h' hI'
        refine g_Lw_law_1084 _ _ _ ?_
        rw [show (7 : Int32) = nI 7 from rfl, nI_add]
        exact ih (i + 7) h' (by omega) c hI'
      have v1 := at7 (k := 1) c hX (by omega)
      have v2 := at7 (k := 2) c hX (by omega)
      have v3 := at7 (k := 3) c hX (by omega)
      have v4 := at7 (k := 4) c hX (by omega)
      have v5 := at7 (k := 5) c hX (by omega)
      have v6 := at7 (k := 6) c hX (by omega)
      refine g_Lw_law_18 _ _ _ (cF ?_ ⟨vp_in_nI (by omega) hX, fun _ => nx h hI, fun _ => ?_, fun _ => ?_, fun _ => ?_, fun _ => ?_, fun _ => ?_, fun _ => ?_, fun _ => ?_, fun _ => ?_, fun _ => ?_, fun _ => ?_, fun _ => ?_, fun _ => ?_, fun _ => ?_, fun _ => ?_, fun _ => ?_, fun _ => ?_, fun _ => ?_, fun _ => ?_, fun _ => ?_, fun _ => ?_, fun _ => ?_, fun _ => ?_, fun _ => ?_, fun _ => ?_, fun _ => ?_, fun _ => ?_⟩)
      · rw [show Int32.ofNat X.1 = nI X.1 from rfl]
        exact law_ge hX c
      · obtain ⟨Q1, ev1, k1⟩ := op_write (X := X) hI _ _
        refine g_Lw_law_152 _ _ _ ⟨v1, v2, v3, _, ev1, fun r h1 q => ?_⟩
        obtain ⟨Q2, ev2, k2⟩ := k1 r h1 q
        refine ⟨v1, v2, v3, _, ev2, fun r' h2 q' => ?_⟩
        obtain ⟨e, hI2⟩ := k2 r' h2 q'
        exact ⟨fun _ => nx h2 hI2, fun z => absurd e z⟩
      · obtain ⟨Q1, ev1, k1⟩ := op_erase (X := X) hI
        refine g_Lw_law_215 _ _ _ ⟨_, ev1, fun r h1 q => ?_⟩
        obtain ⟨Q2, ev2, k2⟩ := k1 r h1 q
        refine ⟨_, ev2, fun r' h2 q' => ?_⟩
        obtain ⟨e, hI2⟩ := k2 r' h2 q'
        exact ⟨fun _ => nx h2 hI2, fun z => absurd e z⟩
      · obtain ⟨Q1, ev1, k1⟩ := hf h hI
        refine g_Lw_law_228 _ _ _ ⟨_, ev1, fun r h1 q => ?_⟩
        obtain ⟨Q2, ev2, k2⟩ := k1 r h1 q
        refine ⟨_, ev2, fun r' h2 q' => ?_⟩
        obtain ⟨e, hI2⟩ := k2 r' h2 q'
        exact ⟨fun _ => nx h2 hI2, fun z => absurd e z⟩
      · obtain ⟨Q1, ev1, k1⟩ := hs h hI
        refine g_Lw_law_241 _ _ _ ⟨_, ev1, fun r h1 q => ?_⟩
        obtain ⟨Q2, ev2, k2⟩ := k1 r h1 q
        refine ⟨_, ev2, fun r' h2 q' => ?_⟩
        obtain ⟨e, hI2⟩ := k2 r' h2 q'
        exact ⟨fun _ => nx h2 hI2, fun z => absurd e z⟩
      · obtain ⟨Q1, ev1, k1⟩ := op_cell (X := X) hI _ _
        refine g_Lw_law_254 _ _ _ ⟨v1, v2, _, ev1, fun r h1 q => ?_⟩
        obtain ⟨Q2, ev2, k2⟩ := k1 r h1 q
        refine ⟨v1, v2, _, ev2, fun r' h2 q' => ?_⟩
        obtain ⟨e, hI2⟩ := k2 r' h2 q'
        exact ⟨fun _ => nx h2 hI2, fun z => absurd e z⟩
      · obtain ⟨Q1, ev1, k1⟩ := op_walker (X := X) hI _ _
        refine g_Lw_law_287 _ _ _ ⟨v1, v2, _, ev1, fun r h1 q => ?_⟩
        obtain ⟨Q2, ev2, k2⟩ := k1 r h1 q
        refine ⟨v1, v2, _, ev2, fun r' h2 q' => ?_⟩
        obtain ⟨e, hI2⟩ := k2 r' h2 q'
        exact ⟨fun _ => nx h2 hI2, fun z => absurd e z⟩
      · obtain ⟨Q1, ev1, k1⟩ := op_go (X := X) hI _
        refine g_Lw_law_320 _ _ _ ⟨v1, _, ev1, fun r h1 q => ?_⟩
        obtain ⟨Q2, ev2, k2⟩ := k1 r h1 q
        refine ⟨v1, _, ev2, fun r' h2 q' => ?_⟩
        obtain ⟨e, hI2⟩ := k2 r' h2 q'
        exact ⟨fun _ => nx h2 hI2, fun z => absurd e z⟩
      · obtain ⟨Q1, ev1, k1⟩ := op_keep (X := X) hI _
        refine g_Lw_law_343 _ _ _ ⟨v1, _, ev1, fun r h1 q => ?_⟩
        obtain ⟨Q2, ev2, k2⟩ := k1 r h1 q
        refine ⟨v1, _, ev2, fun r' h2 q' => ?_⟩
        obtain ⟨e, hI2⟩ := k2 r' h2 q'
        exact ⟨fun _ => nx h2 hI2, fun z => absurd e z⟩
      · obtain ⟨Q1, ev1, k1⟩ := op_back (X := X) hI _
        refine g_Lw_law_366 _ _ _ ⟨v1, _, ev1, fun r h1 q => ?_⟩
        obtain ⟨Q2, ev2, k2⟩ := k1 r h1 q
        refine ⟨v1, _, ev2, fun r' h2 q' => ?_⟩
        obtain ⟨e, hI2⟩ := k2 r' h2 q'
        exact ⟨fun _ => nx h2 hI2, fun z => absurd e z⟩
      · obtain ⟨Q1, ev1, k1⟩ := op_done (X := X) hI
        refine g_Lw_law_389 _ _ _ ⟨_, ev1, fun r h1 q => ?_⟩
        obtain ⟨Q2, ev2, k2⟩ := k1 r h1 q
        refine ⟨_, ev2, fun r' h2 q' => ?_⟩
        obtain ⟨e, hI2⟩ := k2 r' h2 q'
        exact ⟨fun _ => nx h2 hI2, fun z => absurd e z⟩
      · obtain ⟨Q1, ev1, k1⟩ := op_pays (X := X) hI _ _ _ _
        refine g_Lw_law_402 _ _ _ ⟨v1, v2, v3, v4, _, ev1, fun r h1 q => ?_⟩
        obtain ⟨Q2, ev2, k2⟩ := k1 r h1 q
        refine ⟨v1, v2, v3, v4, _, ev2, fun r' h2 q' => ?_⟩
        obtain ⟨e, hI2⟩ := k2 r' h2 q'
        exact ⟨fun _ => nx h2 hI2, fun z => absurd e z⟩
      · obtain ⟨Q1, ev1, k1⟩ := op_rests (X := X) hI _ _ _
        refine g_Lw_law_455 _ _ _ ⟨v1, v2, v3, _, ev1, fun r h1 q => ?_⟩
        obtain ⟨Q2, ev2, k2⟩ := k1 r h1 q
        refine ⟨v1, v2, v3, _, ev2, fun r' h2 q' => ?_⟩
        obtain ⟨e, hI2⟩ := k2 r' h2 q'
        exact ⟨fun _ => nx h2 hI2, fun z => absurd e z⟩
      · obtain ⟨Q1, ev1, k1⟩ := op_common (X := X) hI _ _ _
        refine g_Lw_law_498 _ _ _ ⟨v1, v2, v3, _, ev1, fun r h1 q => ?_⟩
        obtain ⟨Q2, ev2, k2⟩ := k1 r h1 q
        refine ⟨v1, v2, v3, _, ev2, fun r' h2 q' => ?_⟩
        obtain ⟨e, hI2⟩ := k2 r' h2 q'
        exact ⟨fun _ => nx h2 hI2, fun z => absurd e z⟩
      · obtain ⟨Q1, ev1, k1⟩ := op_stand (X := X) hI _ _ _
        refine g_Lw_law_541 _ _ _ ⟨v1, v2, v3, _, ev1, fun r h1 q => ?_⟩
        obtain ⟨Q2, ev2, k2⟩ := k1 r h1 q
        refine ⟨v1, v2, v3, _, ev2, fun r' h2 q' => ?_⟩
        obtain ⟨e, hI2⟩ := k2 r' h2 q'
        exact ⟨fun _ => nx h2 hI2, fun z => absurd e z⟩
      · obtain ⟨Q1, ev1, k1⟩ := op_bus (X := X) hI
        refine g_Lw_law_584 _ _ _ ⟨_, ev1, fun r h1 q => ?_⟩
        obtain ⟨Q2, ev2, k2⟩ := k1 r h1 q
        refine ⟨_, ev2, fun r' h2 q' => ?_⟩
        obtain ⟨e, hI2⟩ := k2 r' h2 q'
        exact ⟨fun _ => nx h2 hI2, fun z => absurd e z⟩
      · obtain ⟨Q1, ev1, k1⟩ := op_wet (X := X) hI _
        refine g_Lw_law_597 _ _ _ ⟨v1, _, ev1, fun r h1 q => ?_⟩
        obtain ⟨Q2, ev2, k2⟩ := k1 r h1 q
        refine ⟨v1, _, ev2, fun r' h2 q' => ?_⟩
        obtain ⟨e, hI2⟩ := k2 r' h2 q'
        exact ⟨fun _ => nx h2 hI2, fun z => absurd e z⟩
      · obtain ⟨Q1, ev1, k1⟩ := op_driest (X := X) hI _
        refine g_Lw_law_620 _ _ _ ⟨v1, _, ev1, fun r h1 q => ?_⟩
        obtain ⟨Q2, ev2, k2⟩ := k1 r h1 q
        refine ⟨v1, _, ev2, fun r' h2 q' => ?_⟩
        obtain ⟨e, hI2⟩ := k2 r' h2 q'
        exact ⟨fun _ => nx h2 hI2, fun z => absurd e z⟩
      · obtain ⟨Q1, ev1, k1⟩ := pairSame (X := X) hI (c_two _ _ _ _ _ h) (r_two _ _ _ _ _ h)
        refine g_Lw_law_643 _ _ _ ⟨v1, v2, v3, v4, v5, _, ev1, fun r h1 q => ?_⟩
        obtain ⟨Q2, ev2, k2⟩ := k1 r h1 q
        refine ⟨v1, v2, v3, v4, v5, _, ev2, fun r' h2 q' => ?_⟩
        obtain ⟨e, hI2⟩ := k2 r' h2 q'
        exact ⟨fun _ => nx h2 hI2, fun z => absurd e z⟩
      · obtain ⟨Q1, ev1, k1⟩ := pairSame (X := X) hI (c_fair _ _ _ h) (r_fair _ _ _ h)
        refine g_Lw_law_706 _ _ _ ⟨v1, v2, v3, _, ev1, fun r h1 q => ?_⟩
        obtain ⟨Q2, ev2, k2⟩ := k1 r h1 q
        refine ⟨v1, v2, v3, _, ev2, fun r' h2 q' => ?_⟩
        obtain ⟨e, hI2⟩ := k2 r' h2 q'
        exact ⟨fun _ => nx h2 hI2, fun z => absurd e z⟩
      · obtain ⟨Q1, ev1, k1⟩ := pairSame (X := X) hI (c_run _ _ _ _ _ _ h) (r_run _ _ _ _ _ _ h)
        refine g_Lw_law_749 _ _ _ ⟨v1, v2, v3, v4, v5, v6, _, ev1, fun r h1 q => ?_⟩
        obtain ⟨Q2, ev2, k2⟩ := k1 r h1 q
        refine ⟨v1, v2, v3, v4, v5, v6, _, ev2, fun r' h2 q' => ?_⟩
        obtain ⟨e, hI2⟩ := k2 r' h2 q'
        exact ⟨fun _ => nx h2 hI2, fun z => absurd e z⟩
      · obtain ⟨Q1, ev1, k1⟩ := pairSame (X := X) hI (c_pace _ _ _ _ h) (r_pace _ _ _ _ h)
        refine g_Lw_law_824 _ _ _ ⟨v1, v2, v3, v4, _, ev1, fun r h1 q => ?_⟩
        obtain ⟨Q2, ev2, k2⟩ := k1 r h1 q
        refine ⟨v1, v2, v3, v4, _, ev2, fun r' h2 q' => ?_⟩
        obtain ⟨e, hI2⟩ := k2 r' h2 q'
        exact ⟨fun _ => nx h2 hI2, fun z => absurd e z⟩
      · refine g_Lw_law_877 _ _ _ ⟨v1, v2, v3, v4, v5, _, c_door _ _ _ _ _ h, fun r h1 q => ?_⟩
        obtain ⟨rfl, rfl⟩ := q
        refine ⟨v1, v2, v3, v4, v5, _, r_door _ _ _ _ _ h1, fun r' h2 q' => ?_⟩
        obtain ⟨rfl, rfl⟩ := q'
        exact ⟨fun _ => nx _ hI, fun z => absurd lg_self z⟩
      · refine g_Lw_law_941 _ _ _ ⟨v1, v2, v3, v4, v5, _, c_left _ _ _ _ _ h, fun r h1 q => ?_⟩
        obtain ⟨rfl, rfl⟩ := q
        refine ⟨v1, v2, v3, v4, v5, _, r_left _ _ _ _ _ h1, fun r' h2 q' => ?_⟩
        obtain ⟨rfl, rfl⟩ := q'
        exact ⟨fun _ => nx _ hI, fun z => absurd lg_self z⟩
      · obtain ⟨Q1, ev1, k1⟩ := op_seller (X := X) hI _ _
        refine g_Lw_law_1005 _ _ _ ⟨v1, v2, _, ev1, fun r h1 q => ?_⟩
        obtain ⟨Q2, ev2, k2⟩ := k1 r h1 q
        refine ⟨v1, v2, _, ev2, fun r' h2 q' => ?_⟩
        obtain ⟨e, hI2⟩ := k2 r' h2 q'
        exact ⟨fun _ => nx h2 hI2, fun z => absurd e z⟩
      · obtain ⟨Q1, ev1, k1⟩ := op_where (X := X) hI _
        refine g_Lw_law_1038 _ _ _ ⟨v1, _, ev1, fun r h1 q => ?_⟩
        obtain ⟨Q2, ev2, k2⟩ := k1 r h1 q
        refine ⟨v1, _, ev2, fun r' h2 q' => ?_⟩
        obtain ⟨e, hI2⟩ := k2 r' h2 q'
        exact ⟨fun _ => nx h2 hI2, fun z => absurd e z⟩
      · obtain ⟨Q1, ev1, k1⟩ := op_count (X := X) hI _
        refine g_Lw_law_1061 _ _ _ ⟨v1, _, ev1, fun r h1 q => ?_⟩
        obtain ⟨Q2, ev2, k2⟩ := k1 r h1 q
        refine ⟨v1, _, ev2, fun r' h2 q' => ?_⟩
        obtain ⟨e, hI2⟩ := k2 r' h2 q'
        exact ⟨fun _ => nx h2 hI2, fun z => absurd e z⟩
    · refine g_Lw_law_18 _ _ _ (cT ?_ (hq h))
      rw [show Int32.ofNat X.1 = nI X.1 from rfl]
      exact law_lt2 hX c hi
end LAW
