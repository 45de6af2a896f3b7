/-! pays -/
section PAY
variable {X : XS} {h : Hp} {L N : Nat} {P W : RW} {K : Nat → RW} {T O : RW}
theorem bits_ok {s : Int32} (hs : okS P s) : ∀ k, k < 6 → P 3 k ≠ 0 → ∃ j, j ≤ 2 ∧ bitsS P s k = nI j := by
  intro k hk hp
  obtain ⟨j, hj, e⟩ := and3 (iShr s (2 * nI (walkersG P k)))
  have := hs k hk hp
  unfold bitsS at this ⊢
  rw [e, show (2 : Int32) = nI 2 from rfl, nI_leI (by omega) (by decide)] at this
  exact ⟨j, this, e⟩
theorem c_areSizes (s : Int32) [Decidable (okS P s)] : EvI X m_Us_areSizes [vI s, vI (nI (walkersG P 6))] h (fun r h' => r = bI (okS P s) ∧ h' = h) := by
  apply e_Us_areSizes
  apply g_Us_areSizes_0
  have wl : walkersG P 6 ≤ 6 := walkersG_le 6
  have lp : ∀ (n i : Nat), i + n = walkersG P 6 → (∀ j, j < i → iShr s (2 * nI j) &&& 3 ≤ 2) → Rn X m_Us_areSizes 2 [some (vI s), some (vI (nI (walkersG P 6))), some (vI (nI i))] [] h (fun v h' => ∃ r, v = some (vI r) ∧ r = bI (okS P s) ∧ h' = h) := by
    intro n
    induction n with
    | zero =>
      intro i hi hj
      have : i = walkersG P 6 := by omega
      subst this
      exact g_Us_areSizes_2 _ _ _ _ _ (cT (nI_leI (by omega) (by omega) |>.mpr (Nat.le_refl _)) ⟨_, rfl, eqT (fun k hk hp => hj _ (walkersG_lt hp hk)), rfl⟩)
    | succ n ih =>
      intro i hi hj
      refine g_Us_areSizes_2 _ _ _ _ _ (cF (fun z => absurd ((nI_leI (by omega) (by omega)).mp z) (by omega)) (cF (n6 (by omega)) ⟨fun c => ?_, fun c => ⟨_, rfl, eqF (fun z => ?_), rfl⟩⟩))
      · rw [nI_add1]
        refine ih (i + 1) (by omega) (fun j hj' => ?_)
        by_cases e : j = i
        · rw [e]; exact c
        · exact hj j (by omega)
      · obtain ⟨k, hk, hp, e⟩ := walkersG_ex (P := P) 6 i (by omega)
        have := z k hk hp
        unfold bitsS at this
        rw [e] at this
        exact c this
  exact lp (walkersG P 6) 0 (by omega) (fun j hj => by omega)
theorem c_costs (c p : Int32) : EvI X m_Us_areNotCosts [vI c, vI p] h (fun r h' => r = bI (¬ ((0 ≤ c ∧ c ≤ 99) ∧ (0 ≤ p ∧ p ≤ 99))) ∧ h' = h) := by
  apply e_Us_areNotCosts
  refine g_Us_areNotCosts_0 _ _ _ _ (callB (s_isNotIn c 0 99 h) (fun y => z1b ⟨_, rfl, eqT (fun z => y z.1), rfl⟩) (fun y => z0b (callB (s_isNotIn p 0 99 h) (fun y2 => z1a ⟨_, rfl, eqT (fun z => y2 z.2), rfl⟩) (fun y2 => z0a ⟨_, rfl, eqF (fun z => z ⟨Classical.not_not.mp y, Classical.not_not.mp y2⟩), rfl⟩))))
theorem r_prices (c p : Int32) : EvI X m_Rf_arePrices [vI c, vI p] h (fun r h' => r = bI ((0 ≤ c ∧ c ≤ 99) ∧ (0 ≤ p ∧ p ≤ 99)) ∧ h' = h) := by
  apply e_Rf_arePrices
  refine g_Rf_arePrices_0 _ _ _ _ (callB (s_in c 0 99 h) (fun y => z1a (callB (s_in p 0 99 h) (fun y2 => z1a ⟨_, rfl, eqT ⟨y, y2⟩, rfl⟩) (fun y2 => z0a ⟨_, rfl, eqF (fun z => y2 z.2), rfl⟩))) (fun y => z0a ⟨_, rfl, eqF (fun z => y z.1), rfl⟩))
theorem r_takeSizes (hR : RefP h P) (hP : wfP L N P) (s : Int32) [Decidable (okS P s)] : EvI X m_Rf_takeSizes [vR [1], vI s] h (fun r h' => r = bI (okS P s) ∧ CHr [22] h h' ∧ ∀ k, k < 6 → P 3 k ≠ 0 → h'.1 [22, 1] k = bitsS P s k) := by
  apply e_Rf_takeSizes
  apply g_Rf_takeSizes_0
  have lp : ∀ (n i : Nat) (hh : Hp) (x : Int32), i + n = 6 → CHr [22] h hh → (∀ k, k < i → P 3 k ≠ 0 → hh.1 [22, 1] k = bitsS P s k) → ((x = 1 ∧ ∀ k, k < i → P 3 k ≠ 0 → bitsS P s k ≤ 2) ∨ (x = 0 ∧ ¬ okS P s)) → Rn X m_Rf_takeSizes 7 [some (vR [1]), some (vI s), some (vI (nI (walkersG P i))), some (vI x), some (vI (nI i))] [] hh (fun v h' => ∃ r, v = some (vI r) ∧ r = bI (okS P s) ∧ CHr [22] h h' ∧ ∀ k, k < 6 → P 3 k ≠ 0 → h'.1 [22, 1] k = bitsS P s k) := by
    intro n
    induction n with
    | zero =>
      intro i hh x hi hc h1 h2
      have : i = 6 := by omega
      subst this
      refine g_Rf_takeSizes_7 _ _ _ _ _ _ (cT e6 ?_)
      rcases h2 with ⟨rfl, h2⟩ | ⟨rfl, h2⟩
      · exact ⟨Or.inr rfl, _, rfl, eqT h2, hc, h1⟩
      · exact ⟨Or.inl rfl, _, rfl, eqF h2, hc, h1⟩
    | succ n ih =>
      intro i hh x hi hc h1 h2
      have hi6 : i < 6 := by omega
      have hws : walkersG P (i + 1) = walkersG P i + (if P 3 i ≠ 0 then 1 else 0) := rfl
      refine g_Rf_takeSizes_7 _ _ _ _ _ _ (cF (n6 hi6) ?_)
      refine callB (r_has (hR.ch hc (by decide) (by decide)) hP hi6 hh) (fun c => z1a ?_) (fun c => z0a ?_)
      · rw [if_pos c] at hws
        rw [nI_add1, nI_add1, ci (by omega), show iShr s (2 * nI (walkersG P i)) &&& 3 = bitsS P s i from rfl]
        simp only [rd, true_and, if_true]
        have go : ∀ y : Int32, ((y = 1 ∧ ∀ k, k < i + 1 → P 3 k ≠ 0 → bitsS P s k ≤ 2) ∨ (y = 0 ∧ ¬ okS P s)) → Rn X m_Rf_takeSizes 7 [some (vR [1]), some (vI s), some (vI (nI (walkersG P i + 1))), some (vI y), some (vI (nI (i + 1)))] [] (hsI hh [22, 1] i (bitsS P s i)) (fun v h' => ∃ r, v = some (vI r) ∧ r = bI (okS P s) ∧ CHr [22] h h' ∧ ∀ k, k < 6 → P 3 k ≠ 0 → h'.1 [22, 1] k = bitsS P s k) := by
          intro y hy
          rw [← hws]
          refine ih (i + 1) _ y (by omega) (hc.tr (CHr.set (by simp))) (fun k hk hp => ?_) hy
          simp only [rd, true_and]
          by_cases e : k = i
          · rw [if_pos e, e]
          · rw [if_neg e]; exact h1 k (by omega) hp
        rcases h2 with ⟨rfl, h2⟩ | ⟨rfl, h2⟩
        · refine ⟨v6 hi6, z1a ⟨v6 hi6, fun c2 => go 0 (Or.inr ⟨rfl, fun z => ?_⟩), fun c2 => go 1 (Or.inl ⟨rfl, fun k hk hp => ?_⟩)⟩⟩
          · have := z i hi6 c
            grind
          · by_cases e : k = i
            · rw [e]; grind
            · exact h2 k (by omega) hp
        · exact ⟨v6 hi6, z0a (go 0 (Or.inr ⟨rfl, h2⟩))⟩
      · rw [if_neg c] at hws
        rw [nI_add1]
        have := ih (i + 1) hh x (by omega) hc (fun k hk hp => h1 k (by
          by_cases e : k = i
          · rw [e] at hp; exact absurd hp c
          · omega) hp) (by
          rcases h2 with ⟨a, h2⟩ | h2
          · refine Or.inl ⟨a, fun k hk hp => h2 k ?_ hp⟩
            by_cases e : k = i
            · rw [e] at hp; exact absurd hp c
            · omega
          · exact Or.inr h2)
        rw [hws] at this
        exact this
  exact lp 6 0 h 1 rfl CHr.rf (fun k hk => by omega) (Or.inl ⟨rfl, fun k hk => by omega⟩)
theorem le4 {n : Nat} (hn : n ≤ 6) : (nI n ≤ 4) ↔ n ≤ 4 := by rw [show (4 : Int32) = nI 4 from rfl, nI_leI (by omega) (by decide)]
abbrev costOK (c p : Int32) : Prop := (0 ≤ c ∧ c ≤ 99) ∧ (0 ≤ p ∧ p ≤ 99)
theorem op_pays (hI : Inv h) (a s c p : Int32) : PairI X m_Us_pays m_Rf_pays [vI a, vI s, vI c, vI p] h := by
  obtain ⟨L, N, P, W, K, T, O, hC, hD, hF⟩ := id hI
  haveI : Decidable (okS P s) := Classical.propDecidable _
  have wl : walkersG P 6 ≤ 6 := walkersG_le 6
  -- the class
  refine ⟨fun r h' => r = (if (0 ≤ a ∧ a < 6 ∧ P 3 a.toNatClampNeg ≠ 0) then (if okS P s ∧ costOK c p then (if walkersG P 6 ≤ 4 then paidS (szP P (bitsS P s)) (goN (szP P (bitsS P s)) 60 (Wst (h.1 [1, 6, 0] 0))) c p a.toNatClampNeg else -4) else -3) else -2) ∧ CST P W K T O h' ∧ OnC h h', ?_, fun r h1 q => ?_⟩
  · apply e_Us_pays
    refine g_Us_pays_0 _ _ _ _ _ _ (callB (c_hasWalker ipl0 hC.1 a) (fun c1 => z1b ?_) (fun c1 => z0b ⟨_, rfl, by rw [if_neg c1], hC, OnC.rf⟩))
    rw [if_pos c1]
    refine callP (c_walkers ipl0 hC.1) (callB (c_areSizes s) (fun c2 => z1a (callB (c_costs c p) (fun c3 => z1a ⟨_, rfl, ?_, hC, OnC.rf⟩) (fun c3 => z0a (callP (c_walkers ipl0 hC.1) ⟨fun c4 => ?_, fun c4 => ⟨_, rfl, ?_, hC, OnC.rf⟩⟩)))) (fun c2 => z0a ⟨_, rfl, ?_, hC, OnC.rf⟩))
    · rw [if_neg (fun z => c3 z.2)]
    · obtain ⟨j, hj, e⟩ := nI_of (x := a) (by grind)
      subst e
      have hj6 : j < 6 := by
        rw [show (6 : Int32) = nI 6 from rfl, nI_ltI hj (by decide)] at c1
        exact c1.2.1
      rw [if_pos ⟨c2, Classical.not_not.mp c3⟩, if_pos ((le4 wl).mp c4), ci hj]
      exact callN (c_walkWith hC hF s) (fun h28 q28 => callP (c_paidBy q28.1 q28.2.1 hj6 c p) ⟨_, rfl, rfl, q28.cst hC, q28.on⟩)
    · rw [if_pos ⟨c2, Classical.not_not.mp c3⟩, if_neg (fun z => c4 ((le4 wl).mpr z))]
    · rw [if_neg (fun z => c2 z.1)]
  · obtain ⟨q1, q2, q3⟩ := q
    have hD1 := hD.on q3
    generalize h.1 [1, 6, 0] 0 = c0 at q1
    refine ⟨fun r h' => r = (if (0 ≤ a ∧ a < 6 ∧ P 3 a.toNatClampNeg ≠ 0) then (if okS P s ∧ costOK c p then (if walkersG P 6 ≤ 4 then paidS (szP P (bitsS P s)) (goN (szP P (bitsS P s)) 60 (Wst c0)) c p a.toNatClampNeg else -4) else -3) else -2) ∧ DST P W K T O h' ∧ OnR h1 h', ?_, fun r' h2 q' => ⟨by rw [q1, q'.1], L, N, P, W, K, T, O, q2.on q'.2.2, q'.2.1, hF⟩⟩
    apply e_Rf_pays
    refine g_Rf_pays_0 _ _ _ _ _ _ (callB (r_isWalker hD1.1 hF.1 a) (fun c1 => z1b ?_) (fun c1 => z0b ⟨_, rfl, by rw [if_neg c1], hD1, OnR.rf⟩))
    rw [if_pos c1]
    refine callQ (r_takeSizes hD1.1 hF.1 s) (fun r5 h8 q8 => ?_)
    obtain ⟨q81, q82, q83⟩ := q8
    have hD2 := hD1.ch q82 (by simp)
    have on2 : OnR h1 h8 := OnR.ch q82
    rw [q81]
    by_cases c2 : okS P s
    · rw [bI_t c2]
      refine z1a (callB (r_prices c p) (fun c3 => z1b (callP (r_bits hD2.1 hF.1) ⟨fun c4 => ?_, fun c4 => ⟨_, rfl, ?_, hD2, on2⟩⟩)) (fun c3 => z0b ⟨_, rfl, ?_, hD2, on2⟩))
      · obtain ⟨j, hj, e⟩ := nI_of (x := a) (by grind)
        subst e
        have hj6 : j < 6 := by
          rw [show (6 : Int32) = nI 6 from rfl, nI_ltI hj (by decide)] at c1
          exact c1.2.1
        rw [ci hj] at c1
        rw [if_pos ⟨c2, c3⟩, if_pos ((le4 wl).mp c4), ci hj]
        have hS : SzIs h8 (szP P (bitsS P s)) := fun k hk hp => by
          rw [szP_o (by decide)] at hp
          rw [q83 k hk hp, szP_8 hp]
        refine callN (r_goWhole hD2 hD2.1.sz (wfP_sz hF.1 (bits_ok c2)) hS c p c0) (fun h23 q23 => ⟨v6 hj6, _, rfl, ?_, q23.1, on2.tr (OnR.ch q23.2.1)⟩)
        rw [q23.2.2.1 j hj6, q83 j hj6 c1.2.2]
        unfold paidS
        rw [szP_8 c1.2.2]
      · rw [if_pos ⟨c2, c3⟩, if_neg (fun z => c4 ((le4 wl).mpr z))]
      · rw [if_neg (fun z => c3 z.2)]
    · rw [bI_f c2]
      exact z0a ⟨_, rfl, by rw [if_neg (fun z => c2 z.1)], hD2, on2⟩
end PAY
