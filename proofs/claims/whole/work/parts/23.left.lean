/-! umbrellas left behind -/
abbrev leftOk (n l k m q : Int32) : Prop := (1 ≤ n ∧ n ≤ 9) ∧ (0 ≤ l ∧ l ≤ 10) ∧ (0 ≤ k ∧ k ≤ 10) ∧ (0 ≤ m ∧ m ≤ n) ∧ (0 ≤ q ∧ q ≤ 1)
/-- ways to choose, as the class counts them -/
def wyS (n : Nat) : Nat → Nat
  | 0 => 1
  | j + 1 => wyS n j * (n - j) / (j + 1)
/-- as the reference counts them -/
def ownB (n j : Nat) : Nat → Nat
  | 0 => 1
  | i + 1 => ownB n j i * (n - j + (i + 1)) / (i + 1)
def termS (n t j : Nat) : Nat := wyS n j * t ^ j * (100 - t) ^ (n - j)
/-- the sum over m .. j - 1 -/
def sumS (n t m : Nat) : Nat → Nat
  | 0 => 0
  | j + 1 => if m ≤ j then sumS n t m j + termS n t j else sumS n t m j
def leftN (n t m : Nat) (q : Int32) : Int64 := if q = 0 then lN (sumS n t m (n + 1) / Nat.gcd (sumS n t m (n + 1)) (100 ^ n)) else lN (100 ^ n / Nat.gcd (sumS n t m (n + 1)) (100 ^ n))
def leftS (n l k m q : Int32) : Int64 := if leftOk n l k m q then leftN n.toNatClampNeg (l.toNatClampNeg * (10 - k.toNatClampNeg)) m.toNatClampNeg q else -3
theorem wyS_ok : ∀ n, n < 10 → ∀ j, j ≤ n → wyS n j ≤ 126 ∧ ownB n j j = wyS n j ∧ ∀ i, i ≤ j → ownB n j i ≤ 126 := by decide +kernel
theorem sumS_ok : ∀ n, n < 10 → ∀ l, l < 11 → ∀ k, k < 11 → ∀ m, m < 10 → sumS n (l * (10 - k)) m (n + 1) ≤ 10 ^ 18 := by decide +kernel
theorem s_power {X : XS} (a n : Nat) (hn : n < 100) (h : Hp) : EvL X m_Us_power [vL (lN a), vI (nI n)] h (fun r h' => r = lN (a ^ n) ∧ h' = h) := by
  apply e_Us_power
  apply g_Us_power_0
  have lp : ∀ (k i : Nat), i + k = n → Rn X m_Us_power 5 [some (vL (lN a)), none, some (vI (nI n)), some (vL (lN (a ^ i))), none, some (vI (nI i))] [] h (fun v h' => ∃ r, v = some (vL r) ∧ r = lN (a ^ n) ∧ h' = h) := by
    intro k
    induction k with
    | zero =>
      intro i hi
      have : i = n := by omega
      subst this
      exact g_Us_power_5 _ _ _ _ _ _ (cT (nI_le (Nat.le_refl _) (by omega)) ⟨_, rfl, rfl, rfl⟩)
    | succ k ih =>
      intro i hi
      refine g_Us_power_5 _ _ _ _ _ _ (cF (nI_ge (by omega) (by omega)) ?_)
      rw [lN_mul, nI_add1]
      have := ih (i + 1) (by omega)
      rw [Nat.pow_succ] at this
      exact this
  exact lp n 0 (by omega)
theorem left_t {l k : Nat} (hl : l ≤ 10) (hk : k ≤ 10) : l * (10 - k) ≤ 100 := by
  have := Nat.mul_le_mul hl (show 10 - k ≤ 10 by omega)
  omega
theorem c_left {X : XS} (n l k m q : Int32) (h : Hp) : EvL X m_Us_left [vR [0], vI n, vI l, vI k, vI m, vI q] h (fun x h' => x = leftS n l k m q ∧ h' = h) := by
  apply e_Us_left
  apply g_Us_left_0
  refine callB (s_isNotIn _ _ _ _) (fun c1 => z1b ⟨_, rfl, by unfold leftS; rw [if_neg (fun z => c1 z.1)], rfl⟩) (fun c1 => z0b ?_)
  refine callB (s_isNotIn _ _ _ _) (fun c2 => z1b ⟨_, rfl, by unfold leftS; rw [if_neg (fun z => c2 z.2.1)], rfl⟩) (fun c2 => z0b ?_)
  refine callB (s_isNotIn _ _ _ _) (fun c3 => z1a ⟨_, rfl, by unfold leftS; rw [if_neg (fun z => c3 z.2.2.1)], rfl⟩) (fun c3 => z0a ?_)
  refine callB (s_isNotIn _ _ _ _) (fun c4 => z1b ⟨_, rfl, by unfold leftS; rw [if_neg (fun z => c4 z.2.2.2.1)], rfl⟩) (fun c4 => z0b ?_)
  refine callB (s_isNotIn _ _ _ _) (fun c5 => z1a ⟨_, rfl, by unfold leftS; rw [if_neg (fun z => c5 z.2.2.2.2)], rfl⟩) (fun c5 => z0a ?_)
  have ok : leftOk n l k m q := ⟨Classical.not_not.mp c1, Classical.not_not.mp c2, Classical.not_not.mp c3, Classical.not_not.mp c4, Classical.not_not.mp c5⟩
  have e0 : leftS n l k m q = leftN n.toNatClampNeg (l.toNatClampNeg * (10 - k.toNatClampNeg)) m.toNatClampNeg q := by unfold leftS; rw [if_pos ok]
  rw [e0]
  obtain ⟨n', hn0, hn, rfl⟩ := nI_rng1 (n := 9) ok.1.1 ok.1.2 (by decide)
  obtain ⟨l', hl, rfl⟩ := nI_rng (n := 10) ok.2.1.1 ok.2.1.2 (by decide)
  obtain ⟨k', hk, rfl⟩ := nI_rng (n := 10) ok.2.2.1.1 ok.2.2.1.2 (by decide)
  obtain ⟨m', hm, rfl⟩ := nI_rng (n := n') ok.2.2.2.1.1 ok.2.2.2.1.2 (by omega)
  rw [nI_clamp (by omega), nI_clamp (by omega), nI_clamp (by omega), nI_clamp (by omega)]
  have hsum := sumS_ok n' (by omega) l' (by omega) k' (by omega) m' (by omega)
  have ht := left_t hl hk
  rw [show (10 : Int32) = nI 10 from rfl, pk_sub hk, pk_mul]
  generalize l' * (10 - k') = t at hsum ht
  have hp : (100 : Nat) ^ n' ≤ 100 ^ 9 := Nat.pow_le_pow_right (by decide) hn
  have hp0 : 0 < (100 : Nat) ^ n' := Nat.pow_pos (by decide)
  have lp : ∀ (r j : Nat), j + r = n' + 1 → ∀ w : Nat, (j ≤ n' → w = wyS n' j) → Rn X m_Us_left 75 [some (vR [0]), some (vI (nI n')), some (vI (nI l')), some (vI (nI k')), some (vI (nI m')), some (vI q), some (vI (nI t)), some (vL (lN (sumS n' t m' j))), none, some (vL (lN w)), none, some (vI (nI j))] [] h (fun v h' => ∃ x, v = some (vL x) ∧ x = leftN n' t m' q ∧ h' = h) := by
    intro r
    induction r with
    | zero =>
      intro j hj w hw
      have : j = n' + 1 := by omega
      subst this
      refine g_Us_left_75 _ _ _ _ _ _ _ _ _ _ _ (cT (nI_lt (by omega) (by omega)) ?_)
      rw [show (100 : Int64) = lN 100 from rfl]
      refine callL (s_power 100 n' (by omega) h) ?_
      exact callL (s_lowest _ _ q (by omega) (by omega) hp0 h) ⟨_, rfl, rfl, rfl⟩
    | succ r ih =>
      intro j hj w hw
      have hw := hw (by omega)
      have hwo := wyS_ok n' (by omega) j (by omega)
      have hnx : ∀ w2 : Nat, w2 = w * (n' - j) / (j + 1) → (j + 1 ≤ n' → w2 = wyS n' (j + 1)) := by
        intro w2 h2 _
        rw [h2, hw]; rfl
      have hwl : w * (n' - j) ≤ 126 * 9 := Nat.mul_le_mul (by omega) (by omega)
      have ediv : (lN w * (nI n' - nI j).toInt64) / (nI j + 1).toInt64 = lN (w * (n' - j) / (j + 1)) := by
        rw [pk_sub (by omega), nI_add1, nI_l (by omega), nI_l (by omega), lN_mul, pk_lDiv (by omega) (by omega) (by omega)]
      have hne : ¬ (nI j + 1).toInt64 = 0 := by
        rw [nI_add1, nI_l (by omega)]; exact lN_ne0 (by omega) (by omega)
      refine g_Us_left_75 _ _ _ _ _ _ _ _ _ _ _ (cF (nI_nlt (by omega) (by omega)) ?_)
      by_cases hc : j < m'
      · refine cT (nI_lt hc (by omega)) ⟨hne, ?_⟩
        rw [ediv, nI_add1]
        have := ih (j + 1) (by omega) _ (hnx _ rfl)
        simp only [sumS] at this
        rw [if_neg (by omega)] at this
        exact this
      · refine cF (nI_nlt (by omega) (by omega)) ?_
        rw [nI_l (by omega), show (100 : Int32) = nI 100 from rfl, pk_sub ht, nI_l (by omega)]
        refine callL (s_power t j (by omega) h) ?_
        rw [pk_sub (show j ≤ n' by omega)]
        refine callL (s_power (100 - t) (n' - j) (by omega) h) ⟨hne, ?_⟩
        rw [← pk_sub (show j ≤ n' by omega), ediv, nI_add1, lN_mul, lN_mul, lN_add]
        have := ih (j + 1) (by omega) _ (hnx _ rfl)
        simp only [sumS] at this
        rw [if_pos (by omega), termS, ← hw] at this
        exact this
  exact lp (n' + 1) 0 (by omega) 1 (fun _ => rfl)
theorem r_left {X : XS} (n l k m q : Int32) (h : Hp) : EvL X m_Rf_left [vR [1], vI n, vI l, vI k, vI m, vI q] h (fun x h' => x = leftS n l k m q ∧ h' = h) := by
  apply e_Rf_left
  apply g_Rf_left_0
  refine callB (s_in _ _ _ _) (fun c1 => z1a ?_) (fun c1 => z0a ⟨_, rfl, by unfold leftS; rw [if_neg (fun z => c1 z.1)], rfl⟩)
  refine callB (s_in _ _ _ _) (fun c2 => z1a ?_) (fun c2 => z0a ⟨_, rfl, by unfold leftS; rw [if_neg (fun z => c2 z.2.1)], rfl⟩)
  refine callB (s_in _ _ _ _) (fun c3 => z1a ?_) (fun c3 => z0a ⟨_, rfl, by unfold leftS; rw [if_neg (fun z => c3 z.2.2.1)], rfl⟩)
  refine callB (s_in _ _ _ _) (fun c4 => z1a ?_) (fun c4 => z0a ⟨_, rfl, by unfold leftS; rw [if_neg (fun z => c4 z.2.2.2.1)], rfl⟩)
  refine callB (s_in _ _ _ _) (fun c5 => z1b ?_) (fun c5 => z0b ⟨_, rfl, by unfold leftS; rw [if_neg (fun z => c5 z.2.2.2.2)], rfl⟩)
  have ok : leftOk n l k m q := ⟨c1, c2, c3, c4, c5⟩
  have e0 : leftS n l k m q = leftN n.toNatClampNeg (l.toNatClampNeg * (10 - k.toNatClampNeg)) m.toNatClampNeg q := by unfold leftS; rw [if_pos ok]
  rw [e0]
  obtain ⟨n', hn0, hn, rfl⟩ := nI_rng1 (n := 9) ok.1.1 ok.1.2 (by decide)
  obtain ⟨l', hl, rfl⟩ := nI_rng (n := 10) ok.2.1.1 ok.2.1.2 (by decide)
  obtain ⟨k', hk, rfl⟩ := nI_rng (n := 10) ok.2.2.1.1 ok.2.2.1.2 (by decide)
  obtain ⟨m', hm, rfl⟩ := nI_rng (n := n') ok.2.2.2.1.1 ok.2.2.2.1.2 (by omega)
  rw [nI_clamp (by omega), nI_clamp (by omega), nI_clamp (by omega), nI_clamp (by omega)]
  have hsum := sumS_ok n' (by omega) l' (by omega) k' (by omega) m' (by omega)
  have ht := left_t hl hk
  rw [show (10 : Int32) = nI 10 from rfl, pk_sub hk, pk_mul]
  generalize l' * (10 - k') = t at hsum ht
  rw [nI_l (by omega)]
  have hp : (100 : Nat) ^ n' ≤ 100 ^ 9 := Nat.pow_le_pow_right (by decide) hn
  have hp0 : 0 < (100 : Nat) ^ n' := Nat.pow_pos (by decide)
  have h0 : ∀ j, j ≤ m' → sumS n' t m' j = 0 := by
    intro j
    induction j with
    | zero => intro _; rfl
    | succ j ih => intro hj; simp only [sumS]; rw [if_neg (by omega)]; exact ih (by omega)
  -- the product by j
  have pr : ∀ (r i j : Nat) (o a : Nat), i + r = n' → j ≤ n' → m' ≤ j → a = sumS n' t m' j → o = wyS n' j * (if i ≤ j then t ^ i else t ^ j * (100 - t) ^ (i - j)) →
      (Rn X m_Rf_left 96 [some (vR [1]), some (vI (nI n')), some (vI (nI l')), some (vI (nI k')), some (vI (nI m')), some (vI q), some (vL (lN t)), none, some (vL (lN (sumS n' t m' (j + 1)))), none, some (vL (lN (100 ^ n'))), none, some (vI (nI (j + 1))), none, none, none] [] h (fun v h' => ∃ x, v = some (vL x) ∧ x = leftN n' t m' q ∧ h' = h)) →
      Rn X m_Rf_left 141 [some (vR [1]), some (vI (nI n')), some (vI (nI l')), some (vI (nI k')), some (vI (nI m')), some (vI q), some (vL (lN t)), none, some (vL (lN a)), none, some (vL (lN (100 ^ n'))), none, some (vI (nI j)), some (vL (lN o)), none, some (vI (nI i))] [] h (fun v h' => ∃ x, v = some (vL x) ∧ x = leftN n' t m' q ∧ h' = h) := by
    intro r
    induction r with
    | zero =>
      intro i j o a hi hj hmj ha ho kk
      have : i = n' := by omega
      subst this
      refine g_Rf_left_141 _ _ _ _ _ _ _ _ _ _ _ _ _ (cT (nI_le (Nat.le_refl _) (by omega)) ?_)
      rw [lN_add, nI_add1]
      have e : a + o = sumS i t m' (j + 1) := by
        simp only [sumS]
        rw [if_pos hmj, ha, ho, termS]
        by_cases hc : i ≤ j
        · have : i = j := by omega
          subst this
          simp
        · rw [if_neg hc, Nat.mul_assoc]
      rw [e]
      exact kk
    | succ r ih =>
      intro i j o a hi hj hmj ha ho kk
      refine g_Rf_left_141 _ _ _ _ _ _ _ _ _ _ _ _ _ (cF (nI_ge (by omega) (by omega)) ?_)
      rw [show (100 : Int64) = lN 100 from rfl, lN_sub ht, lN_mul, lN_mul, nI_add1]
      by_cases hc : j ≤ i
      · refine cT (nI_le hc (by omega)) (ih (i + 1) j _ a (by omega) hj hmj ha ?_ kk)
        rw [ho, if_neg (show ¬ i + 1 ≤ j by omega), Nat.mul_assoc]
        congr 1
        by_cases hc2 : i ≤ j
        · have : i = j := by omega
          subst this
          rw [if_pos (Nat.le_refl _), show i + 1 - i = 1 by omega, Nat.pow_one]
        · rw [if_neg hc2, show i + 1 - j = (i - j) + 1 by omega, Nat.pow_succ, Nat.mul_assoc]
      · refine cF (nI_ge (by omega) (by omega)) (ih (i + 1) j _ a (by omega) hj hmj ha ?_ kk)
        rw [ho, if_pos (show i ≤ j by omega), if_pos (show i + 1 ≤ j by omega), Nat.pow_succ, Nat.mul_assoc]
  have bn : ∀ (r i j a : Nat), i + r = j → j ≤ n' → m' ≤ j → a = sumS n' t m' j →
      (Rn X m_Rf_left 96 [some (vR [1]), some (vI (nI n')), some (vI (nI l')), some (vI (nI k')), some (vI (nI m')), some (vI q), some (vL (lN t)), none, some (vL (lN (sumS n' t m' (j + 1)))), none, some (vL (lN (100 ^ n'))), none, some (vI (nI (j + 1))), none, none, none] [] h (fun v h' => ∃ x, v = some (vL x) ∧ x = leftN n' t m' q ∧ h' = h)) →
      Rn X m_Rf_left 108 [some (vR [1]), some (vI (nI n')), some (vI (nI l')), some (vI (nI k')), some (vI (nI m')), some (vI q), some (vL (lN t)), none, some (vL (lN a)), none, some (vL (lN (100 ^ n'))), none, some (vI (nI j)), some (vL (lN (ownB n' j i))), none, some (vI (nI (i + 1)))] [] h (fun v h' => ∃ x, v = some (vL x) ∧ x = leftN n' t m' q ∧ h' = h) := by
    intro r
    induction r with
    | zero =>
      intro i j a hi hj hmj ha kk
      have : i = j := by omega
      subst this
      refine g_Rf_left_108 _ _ _ _ _ _ _ _ _ _ _ _ _ (cT (nI_lt (by omega) (by omega)) ?_)
      have hw := wyS_ok n' (by omega) i hj
      exact pr n' 0 i _ a (by omega) hj hmj ha (by rw [hw.2.1]; simp) kk
    | succ r ih =>
      intro i j a hi hj hmj ha kk
      have hw := (wyS_ok n' (by omega) j hj).2.2 i (by omega)
      have hbd : ownB n' j i * (n' - j + (i + 1)) ≤ 126 * 9 := Nat.mul_le_mul hw (by omega)
      refine g_Rf_left_108 _ _ _ _ _ _ _ _ _ _ _ _ _ (cF (nI_nlt (by omega) (by omega)) ?_)
      rw [pk_sub hj, nI_add, nI_l (by omega), nI_l (by omega), lN_mul, pk_lDiv (by omega) (by omega) (by omega), nI_add1]
      exact ⟨lN_ne0 (by omega) (by omega), ih (i + 1) j a (by omega) hj hmj ha kk⟩
  have lp : ∀ (r j : Nat), j + r = n' + 1 → m' ≤ j → Rn X m_Rf_left 96 [some (vR [1]), some (vI (nI n')), some (vI (nI l')), some (vI (nI k')), some (vI (nI m')), some (vI q), some (vL (lN t)), none, some (vL (lN (sumS n' t m' j))), none, some (vL (lN (100 ^ n'))), none, some (vI (nI j)), none, none, none] [] h (fun v h' => ∃ x, v = some (vL x) ∧ x = leftN n' t m' q ∧ h' = h) := by
    intro r
    induction r with
    | zero =>
      intro j hj hmj
      have : j = n' + 1 := by omega
      subst this
      refine g_Rf_left_96 _ _ _ _ _ _ _ _ _ _ _ (cT (nI_lt (by omega) (by omega)) ?_)
      have hg : 0 < Nat.gcd (sumS n' t m' (n' + 1)) (100 ^ n') := Nat.gcd_pos_of_pos_right _ hp0
      have hgl : Nat.gcd (sumS n' t m' (n' + 1)) (100 ^ n') ≤ 100 ^ n' := Nat.gcd_le_right _ hp0
      refine callL (s_gcd _ _ (by omega) (by omega) h) ⟨fun c => ⟨lN_ne0 (by omega) (by omega), _, rfl, ?_, rfl⟩, fun c => ⟨lN_ne0 (by omega) (by omega), _, rfl, ?_, rfl⟩⟩
      · rw [pk_lDiv (by omega) hg (by omega), leftN, if_neg c]
      · rw [pk_lDiv (by omega) hg (by omega), leftN, if_pos c]
    | succ r ih =>
      intro j hj hmj
      refine g_Rf_left_96 _ _ _ _ _ _ _ _ _ _ _ (cF (nI_nlt (by omega) (by omega)) ?_)
      exact bn j 0 j _ (by omega) (by omega) hmj rfl (ih (j + 1) (by omega) (by omega))
  have d0 : ∀ (r i : Nat), i + r = n' → Rn X m_Rf_left 72 [some (vR [1]), some (vI (nI n')), some (vI (nI l')), some (vI (nI k')), some (vI (nI m')), some (vI q), some (vL (lN t)), none, some (vL 0), none, some (vL (lN (100 ^ i))), none, some (vI (nI i)), none, none, none] [] h (fun v h' => ∃ x, v = some (vL x) ∧ x = leftN n' t m' q ∧ h' = h) := by
    intro r
    induction r with
    | zero =>
      intro i hi
      have : i = n' := by omega
      subst this
      refine g_Rf_left_72 _ _ _ _ _ _ _ _ _ _ _ (cT (nI_le (Nat.le_refl _) (by omega)) ?_)
      have := lp (i + 1 - m') m' (by omega) (Nat.le_refl _)
      rw [h0 m' (Nat.le_refl _)] at this
      exact this
    | succ r ih =>
      intro i hi
      refine g_Rf_left_72 _ _ _ _ _ _ _ _ _ _ _ (cF (nI_ge (by omega) (by omega)) ?_)
      rw [show (100 : Int64) = lN 100 from rfl, lN_mul, nI_add1]
      have := ih (i + 1) (by omega)
      rw [Nat.pow_succ] at this
      exact this
  exact d0 n' 0 (by omega)
