/-! small ones of the reference -/
section RS
variable {X : XS} {h : Hp} {L N : Nat} {P W : RW}
theorem r_copy {a b x y na nb : Nat} (hab : a ≠ b) (la : Liv [a, 1] 8 na) (lb : Liv [b, 1] 8 nb) (hx : x + 26 ≤ na) (hy : y + 26 ≤ nb) (hna : na < 1000) (hnb : nb < 1000) : EvV X m_Rf_copy [vR [a, 1], vI (nI x), vR [b, 1], vI (nI y)] h (fun h' => CHr [b] h h' ∧ (∀ i, i < 26 → h'.1 [b, 1] (y + i) = h.1 [a, 1] (x + i)) ∧ ∀ j, (j < y ∨ y + 26 ≤ j) → h'.1 [b, 1] j = h.1 [b, 1] j) := by
  apply e_Rf_copy
  apply g_Rf_copy_0 _ _ _ _ _ _ _ _ la lb
  have lp : ∀ (n i : Nat) (hh : Hp), i + n = 26 → CHr [b] h hh → (∀ j, j < i → hh.1 [b, 1] (y + j) = h.1 [a, 1] (x + j)) → (∀ j, (j < y ∨ y + i ≤ j) → hh.1 [b, 1] j = h.1 [b, 1] j) → Rn X m_Rf_copy 3 [some (vR [a, 1]), some (vI (nI x)), some (vR [b, 1]), some (vI (nI y)), some (vI (nI i))] [] hh (fun v h' => v = none ∧ CHr [b] h h' ∧ (∀ i, i < 26 → h'.1 [b, 1] (y + i) = h.1 [a, 1] (x + i)) ∧ ∀ j, (j < y ∨ y + 26 ≤ j) → h'.1 [b, 1] j = h.1 [b, 1] j) := by
    intro n
    induction n with
    | zero =>
      intro i hh hi hc h1 h2
      have : i = 26 := by omega
      subst this
      exact g_Rf_copy_3 _ _ _ _ _ _ _ _ _ la lb (cT (by decide) ⟨rfl, hc, h1, h2⟩)
    | succ n ih =>
      intro i hh hi hc h1 h2
      have hi6 : i < 26 := by omega
      refine g_Rf_copy_3 _ _ _ _ _ _ _ _ _ la lb (cF (n26 hi6) ?_)
      rw [nI_add1, nI_add, nI_add, ci (by omega), ci (by omega)]
      refine ⟨vp_in_nI (by omega) (by omega), vp_in_nI (by omega) (by omega), ih (i + 1) _ (by omega) (hc.tr (CHr.set (by simp))) (fun j hj => ?_) (fun j hj => ?_)⟩
      · have e := h1 j
        have ea : hh.1 [a, 1] = h.1 [a, 1] := hc.at (by simpa using hab)
        simp only [rd, true_and]
        rw [ea]
        by_cases z : j = i
        · subst z; rw [if_pos rfl]
        · rw [if_neg (by omega)]; exact e (by omega)
      · simp only [rd, true_and]
        rw [if_neg (by omega)]; exact h2 j (by omega)
  exact lp 26 0 h rfl CHr.rf (fun j hj => by omega) (fun j hj => rfl)
theorem r_begin : EvV X m_Rf_begin [vR [1]] h (fun h' => CHr [18] h h' ∧ NowIs h' (fun a _ => if a = 3 then -1 else 0)) := by
  apply e_Rf_begin
  apply g_Rf_begin_0
  have lp : ∀ (n i : Nat) (hh : Hp), i + n = 26 → CHr [18] h hh → (∀ j, j < i → hh.1 [18, 1] j = 0) → Rn X m_Rf_begin 2 [some (vR [1]), some (vI (nI i))] [] hh (fun v h' => v = none ∧ CHr [18] h h' ∧ NowIs h' (fun a _ => if a = 3 then -1 else 0)) := by
    intro n
    induction n with
    | zero =>
      intro i hh hi hc h1
      have : i = 26 := by omega
      subst this
      refine g_Rf_begin_2 _ _ _ (cT (by decide) ⟨rfl, hc, fun j hj => ?_⟩)
      rw [h1 j hj]
      unfold nowOf
      grind
    | succ n ih =>
      intro i hh hi hc h1
      have hi6 : i < 26 := by omega
      refine g_Rf_begin_2 _ _ _ (cF (n26 hi6) ?_)
      rw [nI_add1, ci (by omega)]
      refine ⟨vp_in_nI (by omega) (by omega), ih (i + 1) _ (by omega) (hc.tr (CHr.set (by simp))) (fun j hj => ?_)⟩
      simp only [rd, true_and]
      have e := h1 j
      grind
  exact lp 26 0 h rfl CHr.rf (fun j hj => by omega)
/-- the sizes are those of the walkers, also of those that are gone -/
def Wk4 (h : Hp) (P : RW) : Prop := ∀ k, k < 6 → h.1 [4, 1] (6 * k + 4) = P 8 k
theorem r_sizes (hz : Wk4 h P) : EvV X m_Rf_sizesAsTold [vR [1]] h (fun h' => CHr [22] h h' ∧ ∀ k, k < 6 → h'.1 [22, 1] k = P 8 k) := by
  apply e_Rf_sizesAsTold
  apply g_Rf_sizesAsTold_0
  have lp : ∀ (n i : Nat) (hh : Hp), i + n = 6 → CHr [22] h hh → (∀ j, j < i → hh.1 [22, 1] j = P 8 j) → Rn X m_Rf_sizesAsTold 2 [some (vR [1]), some (vI (nI i))] [] hh (fun v h' => v = none ∧ CHr [22] h h' ∧ ∀ k, k < 6 → h'.1 [22, 1] k = P 8 k) := by
    intro n
    induction n with
    | zero =>
      intro i hh hi hc h1
      have : i = 6 := by omega
      subst this
      exact g_Rf_sizesAsTold_2 _ _ _ (cT e6 ⟨rfl, hc, h1⟩)
    | succ n ih =>
      intro i hh hi hc h1
      have hi6 : i < 6 := by omega
      refine g_Rf_sizesAsTold_2 _ _ _ (cF (n6 hi6) ?_)
      rw [nI_add1, show (6 : Int32) = nI 6 from rfl, pk_mul, show (4 : Int32) = nI 4 from rfl, nI_add, ci (by omega), ci (by omega), hc.at (by decide), hz i hi6]
      refine ⟨vp_in_nI (by omega) (by omega), vp_in_nI (by omega) (by omega), ih (i + 1) _ (by omega) (hc.tr (CHr.set (by simp))) (fun j hj => ?_)⟩
      simp only [rd, true_and]
      have e := h1 j
      grind
  exact lp 6 0 h rfl CHr.rf (fun j hj => by omega)
theorem r_bits (hR : RefP h P) (hP : wfP L N P) : EvI X m_Rf_bits [vI (h.1 [1] 3)] h (fun r h' => r = nI (walkersG P 6) ∧ h' = h) := by
  apply e_Rf_bits
  apply g_Rf_bits_0
  have lp : ∀ (n i : Nat), i + n = 6 → Rn X m_Rf_bits 4 [some (vI (h.1 [1] 3)), some (vI (nI (walkersG P i))), some (vI (nI i))] [] h (fun v h' => ∃ r, v = some (vI r) ∧ r = nI (walkersG P 6) ∧ h' = h) := by
    intro n
    induction n with
    | zero =>
      intro i hi
      have : i = 6 := by omega
      subst this
      exact g_Rf_bits_4 _ _ _ _ _ (cT e6 ⟨_, rfl, rfl, rfl⟩)
    | succ n ih =>
      intro i hi
      have hi6 : i < 6 := by omega
      refine g_Rf_bits_4 _ _ _ _ _ (cF (n6 hi6) ?_)
      rw [hR.2.2.2.1 i hi6, nI_add1]
      have := ih (i + 1) (by omega)
      rw [show walkersG P (i + 1) = walkersG P i + (if P 3 i ≠ 0 then 1 else 0) from rfl] at this
      rcases (hP.2.2.2.2.2.2 i hi6).1 with z | z
      · rw [if_neg (fun y => y z)] at this
        rw [z, show (0 : Int32) = nI 0 from rfl, nI_add]; exact this
      · rw [if_pos (by rw [z]; decide)] at this
        rw [z, nI_add1]; exact this
  exact lp 6 0 rfl
theorem thru_iff (hP : wfP L N P) (hW : wfW L N P W) {k : Nat} (hk : k < 6) : (nowOf W k < 0) ↔ W 4 k ≠ 0 := by
  have hw := hW k hk
  have b1 := hP.2.2.2.1
  have b2 := hP.2.2.2.2.2.1
  by_cases h4 : W 4 k = 0
  · rw [now_on hk h4]
    rcases hw.2 with z | ⟨_, _, a, l, ha, hl, z⟩
    · rw [z]; simp [h4]
    · rw [z]
      simp only [h4, ne_eq, not_true, iff_false]
      rw [nI_add1]
      exact nI_pos (by omega)
  · rw [now_out hk h4]; simp [h4]
theorem r_areThrough (hR : RefP h P) (hP : wfP L N P) (hN : NowIs h W) (hW : wfW L N P W) : EvI X m_Rf_areThrough [vR [1]] h (fun r h' => r = bI (overS P W) ∧ h' = h) := by
  apply e_Rf_areThrough
  apply g_Rf_areThrough_0
  have lp : ∀ (n i : Nat) (x : Int32), i + n = 6 → x = bI (∀ k, k < i → P 3 k ≠ 0 → W 4 k ≠ 0) → Rn X m_Rf_areThrough 4 [some (vR [1]), some (vI x), some (vI (nI i))] [] h (fun v h' => ∃ r, v = some (vI r) ∧ r = bI (overS P W) ∧ h' = h) := by
    intro n
    induction n with
    | zero =>
      intro i x hi hx
      have : i = 6 := by omega
      subst this
      exact g_Rf_areThrough_4 _ _ _ _ (cT e6 ⟨by rw [hx]; exact bI_01 _, _, rfl, hx, rfl⟩)
    | succ n ih =>
      intro i x hi hx
      have hi6 : i < 6 := by omega
      refine g_Rf_areThrough_4 _ _ _ _ (cF (n6 hi6) ?_)
      rw [nI_add1]
      have no : ¬ (∀ k, k < i + 1 → P 3 k ≠ 0 → W 4 k ≠ 0) → Rn X m_Rf_areThrough 4 [some (vR [1]), some (vI 0), some (vI (nI (i + 1)))] [] h (fun v h' => ∃ r, v = some (vI r) ∧ r = bI (overS P W) ∧ h' = h) := fun z => ih (i + 1) 0 (by omega) (eqF z)
      by_cases c0 : ∀ k, k < i → P 3 k ≠ 0 → W 4 k ≠ 0
      · rw [bI_t c0] at hx
        subst hx
        have yes : (P 3 i ≠ 0 → W 4 i ≠ 0) → Rn X m_Rf_areThrough 4 [some (vR [1]), some (vI 1), some (vI (nI (i + 1)))] [] h (fun v h' => ∃ r, v = some (vI r) ∧ r = bI (overS P W) ∧ h' = h) := fun z => ih (i + 1) 1 (by omega) (eqT (fun k hk => by
          by_cases e : k = i
          · rw [e]; exact z
          · exact c0 k (by omega)))
        refine z1a (callB (r_has hR hP hi6 h) (fun c => z1a ⟨vp_in_nI (by omega) (by decide), ?_⟩) (fun c => z0a (yes (fun z => absurd z c))))
        rw [ci (by omega), hN i (by omega)]
        have ht := thru_iff hP hW hi6
        refine ⟨fun c2 => no (fun z => ?_), fun c2 => yes (fun _ => ht.mp (by grind))⟩
        have := ht.mpr (z i (by omega) c)
        grind
      · rw [bI_f c0] at hx
        subst hx
        exact z0a (no (fun z => c0 (fun k hk => z k (by omega))))
  exact lp 6 0 1 rfl (eqT (fun k hk => by omega))
theorem r_isWalker (hR : RefP h P) (hP : wfP L N P) (k : Int32) : EvI X m_Rf_isWalker [vR [1], vI k] h (fun r h' => r = bI (0 ≤ k ∧ k < 6 ∧ P 3 k.toNatClampNeg ≠ 0) ∧ h' = h) := by
  apply e_Rf_isWalker
  refine g_Rf_isWalker_0 _ _ _ (callB (s_in k 0 5 h) (fun c => z1a ?_) (fun c => z0a ⟨_, rfl, eqF (by grind), rfl⟩))
  obtain ⟨j, hj, e⟩ := nI_of (x := k) (by grind)
  subst e
  have hj6 : j < 6 := by
    rcases Nat.lt_or_ge j 6 with z | z
    · exact z
    · exact absurd (nI_leI (by decide) hj |>.mpr z) (by rw [show nI 6 = (6 : Int32) from rfl]; grind)
  rw [ci hj]
  exact callB (r_has hR hP hj6 h) (fun c2 => z1a ⟨_, rfl, eqT ⟨by grind, by grind, c2⟩, rfl⟩) (fun c2 => z0a ⟨_, rfl, eqF (fun z => c2 z.2.2), rfl⟩)
end RS
