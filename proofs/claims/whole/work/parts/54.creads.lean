/-! the class's reads -/
def numG (T : Nat → Int32) (f : Nat) : Nat → Int32
  | 0 => 0
  | m + 1 => 10 * numG T f m + T (f + m) - 48
def tkN (n : Nat) (T : Nat → Int32) (i : Nat) : Int32 := numG T (tkF n T i) (tkE n T i - tkF n T i)
abbrev tkD (n : Nat) (T : Nat → Int32) (i : Nat) : Prop := tkK n T i = 2 ∧ tkE n T i - tkF n T i ≤ 2
section CRE
variable {X : XS} {h : Hp} {n : Nat} {T : Nat → Int32}
theorem tk_le {i : Nat} (hi : i ≤ n) : i ≤ tkF n T i ∧ tkF n T i ≤ tkE n T i ∧ tkE n T i ≤ n := by
  have sk := skip_le (n := n) (T := T) (n - i) i (by omega)
  refine ⟨sk.1, ?_⟩
  have f : tkF n T i ≤ n := sk.2
  unfold tkE
  split
  · rename_i c
    split
    · omega
    · have := ext_le (n := n) (T := T) (k := tkK n T i) (n - (tkF n T i + 1)) (tkF n T i + 1) (by omega)
      omega
  · omega
/-- only the text's places and numbers change -/
def TxN (h h' : Hp) : Prop := h'.2 = h.2 ∧ (∀ q, q ≠ [2, 0] → q ≠ [1, 2, 0] → h'.1 q = h.1 q) ∧ ∀ j, j ≠ 4 → j ≠ 5 → j ≠ 6 → h'.1 [2, 0] j = h.1 [2, 0] j
theorem TxP.tn {h h' : Hp} (p : TxP h h') : TxN h h' := ⟨p.1, fun q x _ => p.2.1 q x, p.2.2⟩
theorem c_reads (hT : TxtC n T h) {i k : Nat} (hi : i ≤ n) (hk : k < 7) (h5 : h.1 [2, 0] 5 = nI i) (lo hi' : Int32) : EvI X m_Tx_reads [vR [2, 0], vI (nI k), vI lo, vI hi'] h (fun r h' => r = bI (tkD n T i ∧ (lo ≤ tkN n T i ∧ tkN n T i ≤ hi')) ∧ TxN h h' ∧ h'.1 [2, 0] 4 = nI (tkF n T i) ∧ h'.1 [2, 0] 5 = nI (tkE n T i) ∧ h'.1 [2, 0] 6 = tkK n T i ∧ (tkD n T i → h'.1 [1, 2, 0] k = tkN n T i) ∧ ∀ j, j ≠ k → h'.1 [1, 2, 0] j = h.1 [1, 2, 0] j) := by
  have n2 := hT.1
  obtain ⟨l1, l2, l3⟩ := tk_le (n := n) (T := T) hi
  apply e_Tx_reads
  refine g_Tx_reads_0 _ _ _ _ _ (callN (c_readToken hT hi h5) (fun h3 q3 => ?_))
  obtain ⟨p3, f4, f5, f6⟩ := q3
  have hT3 := hT.p p3
  rw [f4, f5, f6, pk_sub l2]
  have n12 : h3.1 [1, 2, 0] = h.1 [1, 2, 0] := p3.2.1 _ (by simp)
  have lp : ∀ (m t : Nat), t + m = tkE n T i - tkF n T i → tkD n T i → Rn X m_Tx_reads 49 [some (vR [2, 0]), some (vI (nI k)), some (vI lo), some (vI hi'), some (vI (numG T (tkF n T i) t)), some (vI (nI (tkF n T i + t)))] [] h3 (fun v h' => ∃ r, v = some (vI r) ∧ r = bI (tkD n T i ∧ (lo ≤ tkN n T i ∧ tkN n T i ≤ hi')) ∧ TxN h h' ∧ h'.1 [2, 0] 4 = nI (tkF n T i) ∧ h'.1 [2, 0] 5 = nI (tkE n T i) ∧ h'.1 [2, 0] 6 = tkK n T i ∧ (tkD n T i → h'.1 [1, 2, 0] k = tkN n T i) ∧ ∀ j, j ≠ k → h'.1 [1, 2, 0] j = h.1 [1, 2, 0] j) := by
    intro m
    induction m with
    | zero =>
      intro t ht hd
      have et : t = tkE n T i - tkF n T i := by omega
      have en : numG T (tkF n T i) t = tkN n T i := by rw [et]; rfl
      apply g_Tx_reads_49
      rw [f5, show tkF n T i + t = tkE n T i by omega, en, ci (k := k) (by omega)]
      have pn : TxN h (hsI h3 [1, 2, 0] k (tkN n T i)) := ⟨p3.1, fun q x y => by rw [hsI_other y]; exact p3.2.1 q x, fun j x y z => by rw [hsI_other (by simp)]; exact p3.2.2 j x y z⟩
      have post : ∀ r : Int32, r = bI (tkD n T i ∧ (lo ≤ tkN n T i ∧ tkN n T i ≤ hi')) → ∃ r', some (vI r) = some (vI r') ∧ r' = bI (tkD n T i ∧ (lo ≤ tkN n T i ∧ tkN n T i ≤ hi')) ∧ TxN h (hsI h3 [1, 2, 0] k (tkN n T i)) ∧ (hsI h3 [1, 2, 0] k (tkN n T i)).1 [2, 0] 4 = nI (tkF n T i) ∧ (hsI h3 [1, 2, 0] k (tkN n T i)).1 [2, 0] 5 = nI (tkE n T i) ∧ (hsI h3 [1, 2, 0] k (tkN n T i)).1 [2, 0] 6 = tkK n T i ∧ (tkD n T i → (hsI h3 [1, 2, 0] k (tkN n T i)).1 [1, 2, 0] k = tkN n T i) ∧ ∀ j, j ≠ k → (hsI h3 [1, 2, 0] k (tkN n T i)).1 [1, 2, 0] j = h.1 [1, 2, 0] j := by
        intro r hr
        refine ⟨r, rfl, hr, pn, by rw [hsI_other (by simp)]; exact f4, by rw [hsI_other (by simp)]; exact f5, by rw [hsI_other (by simp)]; exact f6, fun _ => by simp [rd], fun j hj => ?_⟩
        simp only [rd, true_and]; rw [if_neg hj, n12]
      refine cT (nI_leI (by omega) (by omega) |>.mpr (Nat.le_refl _)) ⟨vp_in_nI hk (by decide), callB (s_isNotIn _ lo hi' _) (fun z => z1b (post 0 (eqF (fun y => z y.2)))) (fun z => z0b (post 1 (eqT ⟨hd, Classical.not_not.mp z⟩)))⟩
    | succ m ih =>
      intro t ht hd
      apply g_Tx_reads_49
      rw [f5, nI_add1]
      refine cF (fun z => absurd ((nI_leI (by omega) (by omega)).mp z) (by omega)) (callP (c_byteAt hT3 (by omega)) ?_)
      exact ih (t + 1) (by omega) hd
  have no : ¬ tkD n T i → ∃ r, some (vI 0) = some (vI r) ∧ r = bI (tkD n T i ∧ (lo ≤ tkN n T i ∧ tkN n T i ≤ hi')) ∧ TxN h h3 ∧ h3.1 [2, 0] 4 = nI (tkF n T i) ∧ h3.1 [2, 0] 5 = nI (tkE n T i) ∧ h3.1 [2, 0] 6 = tkK n T i ∧ (tkD n T i → h3.1 [1, 2, 0] k = tkN n T i) ∧ ∀ j, j ≠ k → h3.1 [1, 2, 0] j = h.1 [1, 2, 0] j :=
    fun z => ⟨0, rfl, eqF (fun y => z y.1), p3.tn, f4, f5, f6, fun y => absurd y z, fun j _ => by rw [n12]⟩
  refine ⟨fun c => no (fun z => c z.1), fun c => ⟨fun c2 => no (fun z => ?_), fun c2 => cF (nI_pos (by omega)) (cT (by rw [show (7 : Int32) = nI 7 from rfl]; exact nI_lt hk (by decide)) ?_)⟩⟩
  · rw [show (2 : Int32) = nI 2 from rfl, nI_ltI (by decide) (by omega)] at c2
    have := z.2; omega
  · rw [show (2 : Int32) = nI 2 from rfl, nI_ltI (by decide) (by omega)] at c2
    exact lp (tkE n T i - tkF n T i) 0 (by omega) ⟨c, by omega⟩
end CRE
