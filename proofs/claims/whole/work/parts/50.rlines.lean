/-! what a line does on a plan: the reference -/
section RLI
variable {X : XS} {h : Hp} {P : RW}
/-- what doLine leaves as it was -/
def DLs (h h' : Hp) : Prop := (∀ q, q ≠ [1] → q ≠ [4, 1] → q ≠ [5, 1] → h'.1 q = h.1 q) ∧ (∀ j, j ≠ 0 → j ≠ 1 → j ≠ 3 → h'.1 [1] j = h.1 [1] j) ∧ ∀ q j, ¬ (q = [1] ∧ j = 2) → h'.2 q j = h.2 q j
def DLp (P' : RW) (h h' : Hp) : Prop := RefP h' P' ∧ Wk4 h' P' ∧ DLs h h'
theorem r_line0 (hR : RefP h P) (hz : Wk4 h P) {w : Nat} (hw : w + 8 ≤ 64) (h0 : h.1 [15, 1] w = 0) : EvV X m_Rf_doLine [vR [1], vI (nI w)] h (DLp (layS (h.1 [15, 1] (w + 1)) (h.1 [15, 1] (w + 2)) P) h) := by
  apply e_Rf_doLine
  apply g_Rf_doLine_0
  rw [nI_add1, show (2 : Int32) = nI 2 from rfl, nI_add, ci (k := w) (by omega), ci (k := w + 1) (by omega), ci (k := w + 2) (by omega), h0]
  refine ⟨vp_in_nI (by omega) (by decide), vp_in_nI (by omega) (by decide), fun z => absurd z (by decide), fun _ => ⟨vp_in_nI (by omega) (by decide), rfl, ?_⟩, fun z => absurd z (by decide), fun z => absurd z (by decide), fun z => absurd z (by decide)⟩
  obtain ⟨a1, a2, a3, a4, a5, a6⟩ := hR
  refine ⟨⟨?_, ?_, fun c hc => ?_, fun k hk => ?_, fun k hk j hj hj4 => ?_, fun t ht => ?_⟩, fun k hk => ?_, ⟨fun q x y z => ?_, fun j x y z => ?_, fun q j z => ?_⟩⟩
  · simp [hsI, hsL, layS]
  · simp [hsI, hsL, layS]
  · have e : (hsI (hsL (hsI (hsI h [1] 0 (h.1 [15, 1] (w + 1))) [1] 1 ((hsI h [1] 0 (h.1 [15, 1] (w + 1))).1 [15, 1] (w + 2))) [1] 2 0) [1] 3 0).2 [1] 2 = 0 := by simp [hsI, hsL]
    rw [e, lbit_0 (by omega)]
    simp [layS]
  · have e : (hsI (hsL (hsI (hsI h [1] 0 (h.1 [15, 1] (w + 1))) [1] 1 ((hsI h [1] 0 (h.1 [15, 1] (w + 1))).1 [15, 1] (w + 2))) [1] 2 0) [1] 3 0).1 [1] 3 = 0 := by simp [hsI, hsL]
    rw [e, bit_0 (by omega)]
    simp [layS]
  · simp [hsI, hsL]
    rw [a5 k hk j hj hj4]; unfold layS; grind
  · simp [hsI, hsL]
    rw [a6 t ht]; unfold layS; grind
  · simp [hsI, hsL]
    rw [hz k hk]; unfold layS; grind
  · simp [hsI, hsL, x]
  · simp [hsI, hsL, x, y, z]
  · simp only [hsI, hsL]; rw [if_neg z]
theorem r_line1 (hR : RefP h P) (hz : Wk4 h P) {w a b : Nat} (hw : w + 8 ≤ 64) (h0 : h.1 [15, 1] w = 1) (h1 : h.1 [15, 1] (w + 1) = nI a) (h2 : h.1 [15, 1] (w + 2) = nI b) (hc : 4 * a + b < 48) : EvV X m_Rf_doLine [vR [1], vI (nI w)] h (DLp (coverS (4 * a + b) P) h) := by
  apply e_Rf_doLine
  apply g_Rf_doLine_0
  rw [nI_add1, show (2 : Int32) = nI 2 from rfl, nI_add, ci (k := w) (by omega), ci (k := w + 1) (by omega), ci (k := w + 2) (by omega), h0, h1, h2, show (4 : Int32) = nI 4 from rfl, pk_mul, nI_add]
  refine ⟨vp_in_nI (by omega) (by decide), vp_in_nI (by omega) (by decide), fun z => absurd z (by decide), fun z => absurd z (by decide), fun _ => ⟨vp_in_nI (by omega) (by decide), rfl, ?_⟩, fun z => absurd z (by decide), fun z => absurd z (by decide)⟩
  obtain ⟨a1, a2, a3, a4, a5, a6⟩ := hR
  refine ⟨⟨a1, a2, fun c hc' => ?_, fun k hk => ?_, fun k hk j hj hj4 => ?_, fun t ht => ?_⟩, fun k hk => ?_, ⟨fun q x y z => rfl, fun j x y z => rfl, fun q j z => ?_⟩⟩
  · have e : (hsL h [1] 2 (h.2 [1] 2 ||| lShl 1 (nI (4 * a + b)))).2 [1] 2 = h.2 [1] 2 ||| lShl 1 (nI (4 * a + b)) := by simp [hsL]
    rw [e, lbit_or (by omega) (by omega), a3 c hc']
    unfold coverS u2
    by_cases z : c = 4 * a + b
    · simp [z]
    · simp [z]
  · show iShr (h.1 [1] 3) (nI k) &&& 1 = _
    rw [a4 k hk]; unfold coverS u2; rw [if_neg (by omega)]
  · show h.1 [4, 1] (6 * k + j) = _
    rw [a5 k hk j hj hj4]; unfold coverS u2; rw [if_neg (by omega)]
  · show h.1 [5, 1] t = _
    rw [a6 t ht]; unfold coverS u2; rw [if_neg (by omega)]
  · show h.1 [4, 1] (6 * k + 4) = _
    rw [hz k hk]; unfold coverS u2; rw [if_neg (by omega)]
  · simp only [hsL]; rw [if_neg z]
theorem r_line3 (hR : RefP h P) (hz : Wk4 h P) {w a : Nat} (hw : w + 8 ≤ 64) (h0 : h.1 [15, 1] w = 3) (h1 : h.1 [15, 1] (w + 1) = nI a) (ha : a < 6) : EvV X m_Rf_doLine [vR [1], vI (nI w)] h (DLp (forgetS a P) h) := by
  apply e_Rf_doLine
  apply g_Rf_doLine_0
  rw [nI_add1, ci (k := w) (by omega), ci (k := w + 1) (by omega), h0, h1]
  refine ⟨vp_in_nI (by omega) (by decide), vp_in_nI (by omega) (by decide), fun z => absurd z (by decide), fun z => absurd z (by decide), fun z => absurd z (by decide), fun z => absurd z (by decide), fun _ => ⟨rfl, ?_⟩⟩
  obtain ⟨a1, a2, a3, a4, a5, a6⟩ := hR
  refine ⟨⟨?_, ?_, fun c hc' => ?_, fun k hk => ?_, fun k hk j hj hj4 => ?_, fun t ht => ?_⟩, fun k hk => ?_, ⟨fun q x y z => hsI_other x, fun j x y z => ?_, fun q j z => rfl⟩⟩
  · simp [rd, forgetS, u2]; exact a1
  · simp [rd, forgetS, u2]; exact a2
  · show lShr (h.2 [1] 2) (nI c) &&& 1 = _
    rw [a3 c hc']; unfold forgetS u2; simp
  · have e : (hsI h [1] 3 (h.1 [1] 3 &&& (iShl 1 (nI a) ^^^ -1))).1 [1] 3 = h.1 [1] 3 &&& (iShl 1 (nI a) ^^^ -1) := by simp [rd]
    rw [e, bit_no (by omega) (by omega), a4 k hk]
    unfold forgetS u2
    by_cases z : k = a
    · simp [z]
    · simp [z]
  · rw [hsI_other (by simp), a5 k hk j hj hj4]; unfold forgetS u2; rw [if_neg (by omega)]
  · rw [hsI_other (by simp), a6 t ht]; unfold forgetS u2; rw [if_neg (by omega)]
  · rw [hsI_other (by simp), hz k hk]; unfold forgetS u2; rw [if_neg (by omega)]
  · simp [rd, z]
end RLI
