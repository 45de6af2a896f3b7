/-! the class's readToken -/
section CTO
variable {X : XS} {h : Hp} {n : Nat} {T : Nat → Int32}
def TxP (h h' : Hp) : Prop := h'.2 = h.2 ∧ (∀ q, q ≠ [2, 0] → h'.1 q = h.1 q) ∧ ∀ j, j ≠ 4 → j ≠ 5 → j ≠ 6 → h'.1 [2, 0] j = h.1 [2, 0] j
theorem TxP.rf {h : Hp} : TxP h h := ⟨rfl, fun _ _ => rfl, fun _ _ _ _ => rfl⟩
theorem TxP.tr {a b c : Hp} (h1 : TxP a b) (h2 : TxP b c) : TxP a c := ⟨h2.1.trans h1.1, fun q x => (h2.2.1 q x).trans (h1.2.1 q x), fun j x y z => (h2.2.2 j x y z).trans (h1.2.2 j x y z)⟩
theorem TxP.set {h : Hp} {j : Nat} {v : Int32} (hj : j = 4 ∨ j = 5 ∨ j = 6) : TxP h (hsI h [2, 0] j v) := ⟨rfl, fun q x => hsI_other x, fun i x y z => by simp only [rd, true_and]; rw [if_neg (by omega)]⟩
theorem TxtC.p {h h' : Hp} (t : TxtC n T h) (p : TxP h h') : TxtC n T h' := ⟨t.1, by rw [p.2.2 2 (by omega) (by omega) (by omega)]; exact t.2.1, fun j hj => by rw [p.2.1 _ (by simp)]; exact t.2.2 j hj⟩
def TokP (n : Nat) (T : Nat → Int32) (i : Nat) (h h' : Hp) : Prop := TxP h h' ∧ h'.1 [2, 0] 4 = nI (tkF n T i) ∧ h'.1 [2, 0] 5 = nI (tkE n T i) ∧ h'.1 [2, 0] 6 = tkK n T i
theorem c_readToken (hT : TxtC n T h) {i : Nat} (hi : i ≤ n) (h5 : h.1 [2, 0] 5 = nI i) : EvV X m_Tx_readToken [vR [2, 0]] h (TokP n T i h) := by
  have n2 := hT.1
  have sk := skip_le (n := n) (T := T) (n - i) i (by omega)
  apply e_Tx_readToken
  apply g_Tx_readToken_0
  rw [h5]
  have lpE : ∀ (f t : Nat) (hh : Hp), t + f = n → tkF n T i < n → tkK n T i ≠ 3 → TxP h hh → hh.1 [2, 0] 4 = nI (tkF n T i) → hh.1 [2, 0] 5 = nI t → hh.1 [2, 0] 6 = tkK n T i → tkE n T i = extG n T (tkK n T i) f t → Rn X m_Tx_readToken 95 [some (vR [2, 0])] [] hh (fun v h' => v = none ∧ TokP n T i h h') := by
    intro f
    induction f with
    | zero =>
      intro t hh ht hf hk hp h4 h5 h6 he
      have : t = n := by omega
      subst this
      apply g_Tx_readToken_95
      rw [h6, (hT.p hp).2.1, h5]
      refine cF hk (cT (nI_leI (by omega) (by omega) |>.mpr (Nat.le_refl _)) ⟨rfl, hp, h4, ?_, h6⟩)
      rw [h5, he]; rfl
    | succ f ih =>
      intro t hh ht hf hk hp h4 h5 h6 he
      rw [extG] at he
      apply g_Tx_readToken_95
      rw [h6, (hT.p hp).2.1, h5]
      refine cF hk (cF (fun z => absurd ((nI_leI (by omega) (by omega)).mp z) (by omega)) (callP (c_byteAt (hT.p hp) (by omega)) (callP (c_kindOf _) ?_)))
      rw [h6, h5, nI_add1]
      refine ⟨fun c => ⟨rfl, hp, h4, ?_, h6⟩, fun c => ih (t + 1) _ (by omega) hf hk (hp.tr (TxP.set (by simp))) ?_ ?_ ?_ ?_⟩
      · rw [if_neg (fun z => c z.2)] at he; rw [h5, he]
      · simp [rd]; exact h4
      · simp [rd]
      · simp [rd]; exact h6
      · rw [if_pos ⟨by omega, c⟩] at he; exact he
  have k45 : ∀ hh : Hp, TxP h hh → hh.1 [2, 0] 4 = nI (tkF n T i) → Rn X m_Tx_readToken 45 [some (vR [2, 0])] [] hh (fun v h' => v = none ∧ TokP n T i h h') := by
    intro hh hp h4
    have hp5 : TxP h (hsI hh [2, 0] 5 (nI (tkF n T i))) := hp.tr (TxP.set (by simp))
    apply g_Tx_readToken_45
    rw [h4]
    have e4 : (hsI hh [2, 0] 5 (nI (tkF n T i))).1 [2, 0] 4 = nI (tkF n T i) := by simp [rd]; exact h4
    rw [e4, (hT.p hp5).2.1]
    have fle : tkF n T i ≤ n := sk.2
    refine ⟨fun c => ?_, fun c => ⟨rfl, hp5.tr (TxP.set (by simp)), ?_, ?_, ?_⟩⟩
    · rw [nI_ltI (by omega) (by omega)] at c
      refine callP (c_byteAt (hT.p hp5) c) (callP (c_kindOf _) ?_)
      have ek : kindS (T (tkF n T i)) = tkK n T i := by unfold tkK; rw [if_pos c]
      rw [ek]
      have e5 : (hsI (hsI hh [2, 0] 5 (nI (tkF n T i))) [2, 0] 6 (tkK n T i)).1 [2, 0] 5 = nI (tkF n T i) := by simp [rd]
      rw [e5, nI_add1]
      have hp6 : TxP h (hsI (hsI (hsI hh [2, 0] 5 (nI (tkF n T i))) [2, 0] 6 (tkK n T i)) [2, 0] 5 (nI (tkF n T i + 1))) := (hp5.tr (TxP.set (by simp))).tr (TxP.set (by simp))
      by_cases k3 : tkK n T i = 3
      · apply g_Tx_readToken_95
        refine cT (by simp [rd]; exact k3) ⟨rfl, hp6, ?_, ?_, ?_⟩
        · simp [rd]; exact h4
        · simp [rd]; unfold tkE; rw [if_pos c, if_pos k3]
        · simp [rd]
      · refine lpE (n - (tkF n T i + 1)) (tkF n T i + 1) _ (by omega) c k3 hp6 ?_ ?_ ?_ ?_
        · simp [rd]; exact h4
        · simp [rd]
        · simp [rd]
        · unfold tkE; rw [if_pos c, if_neg k3]
    · have c' : ¬ tkF n T i < n := fun z => c (nI_lt z (by omega))
      simp [rd]; exact h4
    · have c' : ¬ tkF n T i < n := fun z => c (nI_lt z (by omega))
      simp [rd]; unfold tkE; rw [if_neg c']
    · have c' : ¬ tkF n T i < n := fun z => c (nI_lt z (by omega))
      simp [rd]; unfold tkK; rw [if_neg c']
  have lp : ∀ (f t : Nat) (hh : Hp), t + f = n → TxP h hh → hh.1 [2, 0] 4 = nI t → tkF n T i = skipG n T f t → Rn X m_Tx_readToken 8 [some (vR [2, 0])] [] hh (fun v h' => v = none ∧ TokP n T i h h') := by
    intro f
    induction f with
    | zero =>
      intro t hh ht hp h4 he
      have : t = n := by omega
      subst this
      apply g_Tx_readToken_8
      rw [(hT.p hp).2.1, h4]
      exact cT (nI_leI (by omega) (by omega) |>.mpr (Nat.le_refl _)) (k45 hh hp (by rw [h4, he]; rfl))
    | succ f ih =>
      intro t hh ht hp h4 he
      rw [skipG] at he
      apply g_Tx_readToken_8
      rw [(hT.p hp).2.1, h4]
      refine cF (fun z => absurd ((nI_leI (by omega) (by omega)).mp z) (by omega)) (callP (c_byteAt (hT.p hp) (by omega)) ?_)
      rw [h4, nI_add1]
      refine ⟨fun c => k45 hh hp ?_, fun c => ih (t + 1) _ (by omega) (hp.tr (TxP.set (by simp))) (by simp [rd]) ?_⟩
      · rw [if_neg (fun z => c z.2)] at he; rw [h4, he]
      · rw [if_pos ⟨by omega, c⟩] at he; exact he
  exact lp (n - i) i _ (by omega) (TxP.set (by simp)) (by simp [rd]) rfl
end CTO
