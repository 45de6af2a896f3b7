/-! walker and rain lines of the reference -/
section RL2
variable {X : XS} {h : Hp} {P : RW}
theorem r_line4 (hR : RefP h P) (hz : Wk4 h P) {w a b : Nat} (hw : w + 8 ≤ 64) (h0 : h.1 [15, 1] w = 4) (h1 : h.1 [15, 1] (w + 1) = nI a) (h2 : h.1 [15, 1] (w + 2) = nI b) (ha : a < 60) (hb : b < 60) : EvV X m_Rf_doLine [vR [1], vI (nI w)] h (DLp (pourS a b (h.1 [15, 1] (w + 3)) P) h) := by
  apply e_Rf_doLine
  apply g_Rf_doLine_0
  rw [nI_add1, ci (k := w) (by omega), ci (k := w + 1) (by omega), h0, h1]
  refine ⟨vp_in_nI (by omega) (by decide), vp_in_nI (by omega) (by decide), fun _ => ?_, fun z => absurd z (by decide), fun z => absurd z (by decide), fun z => absurd z (by decide), fun z => absurd z (by decide)⟩
  have fin : ∀ (t : Nat) (hh : Hp), b < t → CHr [5] h hh → (∀ y, y < 60 → hh.1 [5, 1] y = if a ≤ y ∧ y < t ∧ y ≤ b then h.1 [15, 1] (w + 3) else P 10 y) → DLp (pourS a b (h.1 [15, 1] (w + 3)) P) h hh := by
    intro t hh ht hc h5
    obtain ⟨a1, a2, a3, a4, a5, a6⟩ := hR
    refine ⟨⟨?_, ?_, fun c hc' => ?_, fun k hk => ?_, fun k hk j hj hj4 => ?_, fun t' ht' => ?_⟩, fun k hk => ?_, ⟨fun q x y z => hc.2 q (fun k hk => by simp at hk; rw [hk]; exact z), fun j x y z => by rw [hc.at1], fun q j z => by rw [hc.1]⟩⟩
    · rw [hc.at1, a1]; unfold pourS; rw [if_neg (by omega)]
    · rw [hc.at1, a2]; unfold pourS; rw [if_neg (by omega)]
    · rw [hc.1, a3 c hc']; unfold pourS; rw [if_neg (show ¬ ((2 : Nat) = 10 ∧ a ≤ c ∧ c ≤ b) by omega)]
    · rw [hc.at1, a4 k hk]; unfold pourS; rw [if_neg (by omega)]
    · rw [hc.at (by decide), a5 k hk j hj hj4]; unfold pourS; rw [if_neg (by omega)]
    · rw [h5 t' ht']; unfold pourS
      by_cases z : a ≤ t' ∧ t' ≤ b
      · rw [if_pos ⟨z.1, by omega, z.2⟩, if_pos ⟨rfl, z⟩]
      · rw [if_neg (fun y => z ⟨y.1, y.2.2⟩), if_neg (fun y => z y.2)]
    · rw [hc.at (by decide), hz k hk]; unfold pourS; rw [if_neg (by omega)]
  have lp : ∀ (m t : Nat) (hh : Hp), t + m = 60 → a ≤ t → CHr [5] h hh → (∀ y, y < 60 → hh.1 [5, 1] y = if a ≤ y ∧ y < t ∧ y ≤ b then h.1 [15, 1] (w + 3) else P 10 y) → Rn X m_Rf_doLine 169 [some (vR [1]), some (vI (nI w)), some (vI (nI a)), some (vI (nI t))] [] hh (fun v h' => v = none ∧ DLp (pourS a b (h.1 [15, 1] (w + 3)) P) h h') := by
    intro m
    induction m with
    | zero =>
      intro t hh ht hat hc h5
      have : t = 60 := by omega
      subst this
      apply g_Rf_doLine_169
      rw [show (2 : Int32) = nI 2 from rfl, nI_add, ci (k := w + 2) (by omega), hc.at (by decide), h2]
      exact ⟨vp_in_nI (by omega) (by decide), cT (nI_lt (by omega) (by omega)) ⟨rfl, fin 60 hh (by omega) hc h5⟩⟩
    | succ m ih =>
      intro t hh ht hat hc h5
      apply g_Rf_doLine_169
      rw [nI_add1 t, show (2 : Int32) = nI 2 from rfl, show (3 : Int32) = nI 3 from rfl, nI_add, nI_add, ci (k := w + 2) (by omega), ci (k := w + 3) (by omega), ci (k := t) (by omega), hc.at (show 15 ∉ [5] by decide), h2]
      refine ⟨vp_in_nI (by omega) (by decide), fun c => ⟨rfl, fin t hh ((nI_ltI (by omega) (by omega)).mp c) hc h5⟩, fun c => ⟨vp_in_nI (by omega) (by decide), vp_in_nI (by omega) (by decide), ?_⟩⟩
      rw [nI_ltI (by omega) (by omega)] at c
      refine ih (t + 1) _ (by omega) (by omega) (hc.tr (CHr.set (by simp))) (fun y hy => ?_)
      have e := h5 y hy
      simp only [rd, true_and]
      by_cases z : y = t
      · rw [if_pos z, if_pos (by omega)]
      · rw [if_neg z, e]
        by_cases x : a ≤ y ∧ y < t ∧ y ≤ b
        · rw [if_pos x, if_pos (by omega)]
        · rw [if_neg x, if_neg (by omega)]
  refine lp (60 - a) a h (by omega) (Nat.le_refl _) CHr.rf (fun y hy => ?_)
  rw [if_neg (by omega)]; exact hR.2.2.2.2.2 y hy
theorem r_line2 (hR : RefP h P) (hz : Wk4 h P) {w a : Nat} (hw : w + 8 ≤ 64) (h0 : h.1 [15, 1] w = 2) (h1 : h.1 [15, 1] (w + 1) = nI a) (ha : a < 6) : EvV X m_Rf_doLine [vR [1], vI (nI w)] h (DLp (welcomeS a (fun j => h.1 [15, 1] (w + 2 + j)) P) h) := by
  apply e_Rf_doLine
  apply g_Rf_doLine_0
  rw [nI_add1, ci (k := w) (by omega), ci (k := w + 1) (by omega), h0, h1]
  refine ⟨vp_in_nI (by omega) (by decide), vp_in_nI (by omega) (by decide), fun z => absurd z (by decide), fun z => absurd z (by decide), fun z => absurd z (by decide), fun _ => ?_, fun z => absurd z (by decide)⟩
  have lp : ∀ (m i : Nat) (hh : Hp), i + m = 6 → hh.2 = h.2 → (∀ q, q ≠ [1] → q ≠ [4, 1] → hh.1 q = h.1 q) → (∀ j, hh.1 [1] j = if j = 3 then h.1 [1] 3 ||| iShl 1 (nI a) else h.1 [1] j) → (∀ j, hh.1 [4, 1] j = if 6 * a ≤ j ∧ j < 6 * a + i then h.1 [15, 1] (w + 2 + (j - 6 * a)) else h.1 [4, 1] j) → Rn X m_Rf_doLine 114 [some (vR [1]), some (vI (nI w)), some (vI (nI a)), some (vI (nI i))] [] hh (fun v h' => v = none ∧ DLp (welcomeS a (fun j => h.1 [15, 1] (w + 2 + j)) P) h h') := by
    intro m
    induction m with
    | zero =>
      intro i hh hi e2 eq e1 e4
      have : i = 6 := by omega
      subst this
      refine g_Rf_doLine_114 _ _ _ _ _ (cT e6 ⟨rfl, ?_⟩)
      obtain ⟨a1, a2, a3, a4, a5, a6⟩ := hR
      have rowv : ∀ k, k < 6 → ∀ j, j < 6 → hh.1 [4, 1] (6 * k + j) = if k = a then h.1 [15, 1] (w + 2 + j) else h.1 [4, 1] (6 * k + j) := by
        intro k hk j hj
        rw [e4]
        by_cases z : k = a
        · subst z; rw [if_pos (by omega), if_pos rfl, show 6 * k + j - 6 * k = j by omega]
        · rw [if_neg (by omega), if_neg z]
      refine ⟨⟨?_, ?_, fun c hc' => ?_, fun k hk => ?_, fun k hk j hj hj4 => ?_, fun t' ht' => ?_⟩, fun k hk => ?_, ⟨fun q x y z => eq q x y, fun j x y z => ?_, fun q j z => by rw [e2]⟩⟩
      · rw [e1, if_neg (by omega), a1]; unfold welcomeS; rw [if_neg (by omega), if_neg (by omega)]
      · rw [e1, if_neg (by omega), a2]; unfold welcomeS; rw [if_neg (by omega), if_neg (by omega)]
      · rw [e2, a3 c hc']; unfold welcomeS; rw [if_neg (show ¬ (c = a ∧ (2 : Nat) = 3) by omega), if_neg (show ¬ (c = a ∧ 4 ≤ (2 : Nat) ∧ (2 : Nat) ≤ 9) by omega)]
      · rw [e1, if_pos rfl, bit_or (by omega) (by omega), a4 k hk]
        unfold welcomeS
        by_cases z : k = a
        · rw [if_pos z, if_pos ⟨z, rfl⟩]
        · rw [if_neg z, if_neg (fun y => z y.1), if_neg (fun y => z y.1)]
      · rw [rowv k hk j hj]
        unfold welcomeS
        by_cases z : k = a
        · rw [if_pos z, if_neg (by omega), if_pos ⟨z, by omega, by omega⟩, show 4 + j - 4 = j by omega]
        · rw [if_neg z, if_neg (fun y => z y.1), if_neg (fun y => z y.1), a5 k hk j hj hj4]
      · rw [eq _ (by simp) (by simp), a6 t' ht']; unfold welcomeS; rw [if_neg (by omega), if_neg (by omega)]
      · rw [rowv k hk 4 (by omega)]
        unfold welcomeS
        by_cases z : k = a
        · rw [if_pos z, if_neg (by omega), if_pos ⟨z, by omega, by omega⟩]
        · rw [if_neg z, if_neg (fun y => z y.1), if_neg (fun y => z y.1), hz k hk]
      · rw [e1, if_neg z]
    | succ m ih =>
      intro i hh hi e2 eq e1 e4
      have hi6 : i < 6 := by omega
      refine g_Rf_doLine_114 _ _ _ _ _ (cF (n6 hi6) ?_)
      rw [nI_add1 i, show (2 : Int32) = nI 2 from rfl, show (6 : Int32) = nI 6 from rfl, nI_add, nI_add, pk_mul, nI_add, ci (k := w + 2 + i) (by omega), ci (k := 6 * a + i) (by omega), eq [15, 1] (by simp) (by simp)]
      refine ⟨vp_in_nI (by omega) (by decide), vp_in_nI (by omega) (by decide), ih (i + 1) _ (by omega) e2 (fun q x y => by rw [hsI_other y]; exact eq q x y) (fun j => by rw [hsI_other (by simp)]; exact e1 j) (fun j => ?_)⟩
      have e := e4 j
      simp only [rd, true_and]
      by_cases z : j = 6 * a + i
      · rw [if_pos z, if_pos (by omega), show j - 6 * a = i by omega]
      · rw [if_neg z, e]
        by_cases x : 6 * a ≤ j ∧ j < 6 * a + i
        · rw [if_pos x, if_pos (by omega)]
        · rw [if_neg x, if_neg (by omega)]
  refine lp 6 0 _ rfl rfl (fun q x y => hsI_other x) (fun j => ?_) (fun j => ?_)
  · simp only [rd, true_and]
  · rw [if_neg (by omega)]
    exact congrFun (hsI_other (by simp)) j
end RL2
