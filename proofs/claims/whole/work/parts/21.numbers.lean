/-! two, fair, pace, run: both sides by one value -/
abbrev wide (s a b : Int32) : Prop := (1 ≤ s ∧ s ≤ 9) ∧ (1 ≤ a ∧ a ≤ 19) ∧ (1 ≤ b ∧ b ≤ 19)
theorem s_areWide {X : XS} (s a b : Int32) (h : Hp) : EvI X m_Rf_areWide [vI s, vI a, vI b] h (fun r h' => r = bI (wide s a b) ∧ h' = h) := by
  apply e_Rf_areWide
  apply g_Rf_areWide_0
  refine callB (s_in _ _ _ _) (fun c1 => z1a ?_) (fun c1 => z0a ⟨_, rfl, eqF (fun z => c1 z.1), rfl⟩)
  refine callB (s_in _ _ _ _) (fun c2 => z1a ?_) (fun c2 => z0a ⟨_, rfl, eqF (fun z => c2 z.2.1), rfl⟩)
  exact callB (s_in _ _ _ _) (fun c3 => z1a ⟨_, rfl, eqT ⟨c1, c2, c3⟩, rfl⟩) (fun c3 => z0a ⟨_, rfl, eqF (fun z => c3 z.2.2), rfl⟩)
theorem s_areNotWidths {X : XS} (s a b : Int32) (h : Hp) : EvI X m_Us_areNotWidths [vI s, vI a, vI b] h (fun r h' => r = bI (¬ wide s a b) ∧ h' = h) := by
  apply e_Us_areNotWidths
  apply g_Us_areNotWidths_0
  refine callB (s_isNotIn _ _ _ _) (fun c1 => z1b ⟨_, rfl, eqT (fun z => c1 z.1), rfl⟩) (fun c1 => z0b ?_)
  refine callB (s_isNotIn _ _ _ _) (fun c2 => z1b ⟨_, rfl, eqT (fun z => c2 z.2.1), rfl⟩) (fun c2 => z0b ?_)
  exact callB (s_isNotIn _ _ _ _) (fun c3 => z1a ⟨_, rfl, eqT (fun z => c3 z.2.2), rfl⟩) (fun c3 => z0a ⟨_, rfl, eqF (fun z => z ⟨Classical.not_not.mp c1, Classical.not_not.mp c2, Classical.not_not.mp c3⟩), rfl⟩)
def sharedS (f t l u : Int32) : Int32 := iMax 0 (iMin t u - iMax f l)
def underR (f t l u : Int32) : Int32 := if (if u ≤ t then u else t) ≤ (if f ≤ l then l else f) then 0 else (if u ≤ t then u else t) - (if f ≤ l then l else f)
def bareL (s a d : Int32) : Int32 := a - sharedS (-a) 0 (d - s) (d + s)
def bareR (s b d : Int32) : Int32 := b - sharedS 0 b (d - s) (d + s)
theorem under_eq {f t l u : Int32} (h1 : -40 ≤ f ∧ f ≤ 40) (h2 : -40 ≤ t ∧ t ≤ 40) (h3 : -40 ≤ l ∧ l ≤ 40) (h4 : -40 ≤ u ∧ u ≤ 40) : underR f t l u = sharedS f t l u := by
  have e1 : (if u ≤ t then u else t) = iMin t u := by unfold iMin; grind
  have e2 : (if f ≤ l then l else f) = iMax f l := by unfold iMax; grind
  have b1 : -40 ≤ iMin t u ∧ iMin t u ≤ 40 := by unfold iMin; split <;> assumption
  have b2 : -40 ≤ iMax f l ∧ iMax f l ≤ 40 := by unfold iMax; split <;> assumption
  unfold underR sharedS
  rw [e1, e2]
  generalize iMin t u = B at b1
  generalize iMax f l = A at b2
  unfold iMax
  grind
theorem under_L {s a b d : Int32} (hw : wide s a b) (h1 : -20 ≤ d) (h2 : d ≤ 20) : a - underR (-a) 0 (d - s) (d + s) = bareL s a d := by
  obtain ⟨h3, h4, h5⟩ := hw
  rw [under_eq (by grind) (by decide) (by grind) (by grind)]
  rfl
theorem under_R {s a b d : Int32} (hw : wide s a b) (h1 : -20 ≤ d) (h2 : d ≤ 20) : b - underR 0 b (d - s) (d + s) = bareR s b d := by
  obtain ⟨h3, h4, h5⟩ := hw
  rw [under_eq (by decide) (by grind) (by grind) (by grind)]
  rfl
theorem s_shared {X : XS} (f t l u : Int32) (h : Hp) : EvI X m_Us_shared [vI f, vI t, vI l, vI u] h (fun r h' => r = sharedS f t l u ∧ h' = h) := by
  apply e_Us_shared
  apply g_Us_shared_0
  exact ⟨_, rfl, rfl, rfl⟩
theorem s_under {X : XS} (f t l u : Int32) (h : Hp) : EvI X m_Rf_under [vI f, vI t, vI l, vI u] h (fun r h' => r = underR f t l u ∧ h' = h) := by
  apply e_Rf_under
  apply g_Rf_under_0
  refine ⟨fun c => ?_, fun c => ?_⟩ <;> apply g_Rf_under_10 <;> refine ⟨fun c2 => ?_, fun c2 => ?_⟩ <;> apply g_Rf_under_22 <;> refine ⟨fun c3 => ⟨_, rfl, ?_, rfl⟩, fun c3 => ⟨_, rfl, ?_, rfl⟩⟩ <;> unfold underR <;> grind
theorem s_bareL {X : XS} (s a d : Int32) (h : Hp) : EvI X m_Us_bareOfLeft [vI s, vI a, vI d] h (fun r h' => r = bareL s a d ∧ h' = h) := by
  apply e_Us_bareOfLeft
  apply g_Us_bareOfLeft_0
  exact callP (s_shared _ _ _ _ _) ⟨_, rfl, rfl, rfl⟩
theorem s_bareR {X : XS} (s b d : Int32) (h : Hp) : EvI X m_Us_bareOfRight [vI s, vI b, vI d] h (fun r h' => r = bareR s b d ∧ h' = h) := by
  apply e_Us_bareOfRight
  apply g_Us_bareOfRight_0
  exact callP (s_shared _ _ _ _ _) ⟨_, rfl, rfl, rfl⟩
def twoS (s a b d w : Int32) : Int32 := if ¬ wide s a b ∨ ¬ (-20 ≤ d ∧ d ≤ 20) ∨ ¬ (0 ≤ w ∧ w ≤ 1) then -3 else if w = 0 then bareL s a d else bareR s b d
theorem c_two {X : XS} (s a b d w : Int32) (h : Hp) : EvI X m_Us_two [vR [0], vI s, vI a, vI b, vI d, vI w] h (fun r h' => r = twoS s a b d w ∧ h' = h) := by
  apply e_Us_two
  apply g_Us_two_0
  refine callB (s_areNotWidths _ _ _ _) (fun c1 => z1b ⟨_, rfl, by simp [twoS, c1], rfl⟩) (fun c1 => z0b ?_)
  refine callB (s_isNotIn _ _ _ _) (fun c2 => z1b ⟨_, rfl, by simp only [twoS]; grind, rfl⟩) (fun c2 => z0b ?_)
  refine callB (s_isNotIn _ _ _ _) (fun c3 => z1a ⟨_, rfl, by simp only [twoS]; grind, rfl⟩) (fun c3 => z0a ?_)
  refine ⟨fun c4 => ?_, fun c4 => ?_⟩
  · exact callP (s_bareR _ _ _ _) ⟨_, rfl, by simp only [twoS]; grind, rfl⟩
  · exact callP (s_bareL _ _ _ _) ⟨_, rfl, by simp only [twoS]; grind, rfl⟩
theorem r_two {X : XS} (s a b d w : Int32) (h : Hp) : EvI X m_Rf_two [vR [1], vI s, vI a, vI b, vI d, vI w] h (fun r h' => r = twoS s a b d w ∧ h' = h) := by
  apply e_Rf_two
  apply g_Rf_two_0
  refine callB (s_areWide _ _ _ _) (fun c1 => z1a ?_) (fun c1 => z0a ⟨_, rfl, by simp [twoS, c1], rfl⟩)
  refine callB (s_in _ _ _ _) (fun c2 => z1a ?_) (fun c2 => z0a ⟨_, rfl, by simp only [twoS]; grind, rfl⟩)
  refine callB (s_in _ _ _ _) (fun c3 => z1b ?_) (fun c3 => z0b ⟨_, rfl, by simp only [twoS]; grind, rfl⟩)
  refine ⟨fun c4 => ?_, fun c4 => ?_⟩
  · exact callP (s_under _ _ _ _ _) ⟨_, rfl, by rw [under_R c1 c2.1 c2.2]; simp only [twoS]; grind, rfl⟩
  · exact callP (s_under _ _ _ _ _) ⟨_, rfl, by rw [under_L c1 c2.1 c2.2]; simp only [twoS]; grind, rfl⟩
def greatS (s a b d : Int32) : Int32 := iMax (bareL s a d * b) (bareR s b d * a)
def fairStep (s a b best d : Int32) : Int32 := if greatS s a b d < greatS s a b best then d else best
def fairC (s a b : Int32) : Nat → Int32
  | 0 => 0
  | n + 1 => fairStep s a b (fairStep s a b (fairC s a b n) (-nI (n + 1))) (nI (n + 1))
def fairS (s a b : Int32) : Int32 := if wide s a b then fairC s a b 20 + 100 else -3
theorem s_great {X : XS} (s a b d : Int32) (h : Hp) : EvI X m_Us_greaterPart [vI s, vI a, vI b, vI d] h (fun r h' => r = greatS s a b d ∧ h' = h) := by
  apply e_Us_greaterPart
  apply g_Us_greaterPart_0
  refine callP (s_bareL _ _ _ _) ?_
  exact callP (s_bareR _ _ _ _) ⟨_, rfl, rfl, rfl⟩
theorem c_fair_lp {X : XS} {s a b : Int32} {h : Hp} {Q : Option AV → Hp → Prop} (hQ : Q (some (vI (fairC s a b 20 + 100))) h) : ∀ (n i : Nat), i + n = 20 → Rn X m_Us_fair 18 [some (vR [0]), some (vI s), some (vI a), some (vI b), some (vI (fairC s a b i)), some (vI (nI (i + 1)))] [] h Q := by
  intro n
  induction n with
  | zero =>
    intro i hi
    have : i = 20 := by omega
    subst this
    exact g_Us_fair_18 _ _ _ _ _ _ _ (cT (by decide) hQ)
  | succ n ih =>
    intro i hi
    refine g_Us_fair_18 _ _ _ _ _ _ _ (cF ?_ ?_)
    · rw [show (20 : Int32) = nI 20 from rfl]
      exact nI_nlt (by omega) (by omega)
    refine callP (s_great _ _ _ _ _) (callP (s_great _ _ _ _ _) ?_)
    have fin : ∀ best, best = fairStep s a b (fairC s a b i) (-nI (i + 1)) → Rn X m_Us_fair 50 [some (vR [0]), some (vI s), some (vI a), some (vI b), some (vI best), some (vI (nI (i + 1)))] [] h Q := by
      intro best hb
      refine g_Us_fair_50 _ _ _ _ _ _ _ (callP (s_great _ _ _ _ _) (callP (s_great _ _ _ _ _) ?_))
      have k := ih (i + 1) (by omega)
      rw [nI_add1]
      refine ⟨fun c => ?_, fun c => ?_⟩
      · have e : fairC s a b (i + 1) = best := by
          simp only [fairC]; rw [← hb, fairStep, if_neg (by grind)]
        rw [e] at k; exact k
      · have e : fairC s a b (i + 1) = nI (i + 1) := by
          simp only [fairC]; rw [← hb, fairStep, if_pos (by grind)]
        rw [e] at k; exact k
    refine ⟨fun c => fin _ ?_, fun c => fin _ ?_⟩
    · rw [fairStep, if_neg (by grind)]
    · rw [fairStep, if_pos (by grind)]
theorem c_fair {X : XS} (s a b : Int32) (h : Hp) : EvI X m_Us_fair [vR [0], vI s, vI a, vI b] h (fun r h' => r = fairS s a b ∧ h' = h) := by
  apply e_Us_fair
  apply g_Us_fair_0
  refine callB (s_areNotWidths _ _ _ _) (fun c1 => z1a ⟨_, rfl, by simp [fairS, c1], rfl⟩) (fun c1 => z0a ?_)
  have c1 := Classical.not_not.mp c1
  exact c_fair_lp ⟨_, rfl, by simp [fairS, c1], rfl⟩ 20 0 rfl
def dOf (k : Nat) : Int32 := if iR (nI k) 2 = 1 then (-(nI k + 1)) / 2 else nI k / 2
theorem dOf_ok : ∀ k, k < 41 → -20 ≤ dOf k ∧ dOf k ≤ 20 := by decide +kernel
theorem dOf_odd : ∀ m, m < 20 → dOf (2 * m + 1) = -nI (m + 1) ∧ dOf (2 * m + 2) = nI (m + 1) := by decide +kernel
def fairR (s a b : Int32) : Nat → Int32
  | 0 => 0
  | n + 1 => fairStep s a b (fairR s a b n) (dOf (n + 1))
theorem fairR_C (s a b : Int32) : ∀ m, m ≤ 20 → fairR s a b (2 * m) = fairC s a b m
  | 0, _ => rfl
  | m + 1, h => by
    have ih := fairR_C s a b m (by omega)
    have e := dOf_odd m (by omega)
    rw [show 2 * (m + 1) = 2 * m + 1 + 1 by omega]
    simp only [fairR, fairC, ih, e.1, show 2 * m + 1 + 1 = 2 * m + 2 by omega, e.2]
theorem r_fair_lp {X : XS} {s a b : Int32} {h : Hp} {Q : Option AV → Hp → Prop} (hw : wide s a b) (hQ : Q (some (vI (fairR s a b 40 + 100))) h) : ∀ (n k : Nat) (x4 x5 x6 : Int32), k + n = 41 → (k = 0 ∧ x6 = 0 ∨ ∃ m, k = m + 1 ∧ x6 = 1 ∧ x4 = fairR s a b m ∧ x5 = greatS s a b (fairR s a b m)) → Rn X m_Rf_fair 24 [some (vR [1]), some (vI s), some (vI a), some (vI b), some (vI x4), some (vI x5), some (vI x6), some (vI (nI k)), none, none, none, none] [] h Q := by
  intro n
  induction n with
  | zero =>
    intro k x4 x5 x6 hk hc
    have : k = 41 := by omega
    subst this
    refine g_Rf_fair_24 _ _ _ _ _ _ _ _ _ (cT (by decide) ?_)
    rcases hc with hc | ⟨m, h1, h2, h3, h4⟩
    · omega
    · have : m = 40 := by omega
      subst this
      rw [h3]; exact hQ
  | succ n ih =>
    intro k x4 x5 x6 hk hc
    refine g_Rf_fair_24 _ _ _ _ _ _ _ _ _ (cF ?_ ?_)
    · rw [show (41 : Int32) = nI 41 from rfl]
      exact nI_ge (by omega) (by omega)
    have hd := dOf_ok k (by omega)
    have main : Rn X m_Rf_fair 53 [some (vR [1]), some (vI s), some (vI a), some (vI b), some (vI x4), some (vI x5), some (vI x6), some (vI (nI k)), none, none, none, none] [vI (dOf k)] h Q := by
      refine g_Rf_fair_53 _ _ _ _ _ _ _ _ _ _ (callP (s_under _ _ _ _ _) (callP (s_under _ _ _ _ _) ?_))
      rw [under_L hw hd.1 hd.2, under_R hw hd.1 hd.2]
      have go : ∀ x9 x10 : Int32, Rn X m_Rf_fair 108 [some (vR [1]), some (vI s), some (vI a), some (vI b), some (vI x4), some (vI x5), some (vI x6), some (vI (nI k)), some (vI (dOf k)), some (vI x9), some (vI x10), none] [vI (greatS s a b (dOf k))] h Q := by
        intro x9 x10
        refine g_Rf_fair_108 _ _ _ _ _ _ _ _ _ _ _ _ _ ?_
        have nxt : ∀ y4 y5 : Int32, y4 = fairR s a b k → y5 = greatS s a b (fairR s a b k) → Rn X m_Rf_fair 24 [some (vR [1]), some (vI s), some (vI a), some (vI b), some (vI y4), some (vI y5), some (vI 1), some (vI (nI k + 1)), none, none, none, none] [] h Q := by
          intro y4 y5 e4 e5
          rw [nI_add1]
          exact ih (k + 1) y4 y5 1 (by omega) (Or.inr ⟨k, rfl, rfl, e4, e5⟩)
        rcases hc with ⟨rfl, rfl⟩ | ⟨m, rfl, rfl, rfl, rfl⟩
        · refine z0a (g_Rf_fair_122 _ _ _ _ _ _ _ _ _ _ _ _ _ (g_Rf_fair_129 _ _ _ _ _ _ _ _ _ _ _ _ _ _ (z0a ?_)))
          exact nxt _ _ (show dOf 0 = 0 by decide) (by rw [show dOf 0 = 0 by decide]; rfl)
        · refine z1a ⟨fun c => ?_, fun c => ?_⟩
          · refine g_Rf_fair_129 _ _ _ _ _ _ _ _ _ _ _ _ _ _ (z1a (cT c ?_))
            exact nxt _ _ (by simp only [fairR]; rw [fairStep, if_neg (by grind)]) (by simp only [fairR]; rw [fairStep, if_neg (by grind)])
          · refine g_Rf_fair_122 _ _ _ _ _ _ _ _ _ _ _ _ _ (g_Rf_fair_129 _ _ _ _ _ _ _ _ _ _ _ _ _ _ (z1a (cF c ?_)))
            exact nxt _ _ (by simp only [fairR]; rw [fairStep, if_pos (by grind)]) (by simp only [fairR]; rw [fairStep, if_pos (by grind)])
      refine ⟨fun c => ?_, fun c => ?_⟩
      · have e : bareR s b (dOf k) * a = greatS s a b (dOf k) := iMax_r c
        have := go (bareL s a (dOf k) * b) (bareR s b (dOf k) * a)
        rw [← e] at this
        exact this
      · have e : bareL s a (dOf k) * b = greatS s a b (dOf k) := iMax_l c
        have := go (bareL s a (dOf k) * b) (bareR s b (dOf k) * a)
        rw [← e] at this
        exact this
    refine ⟨fun c => ?_, fun c => ?_⟩
    · rw [dOf, if_neg c] at main; exact main
    · rw [dOf, if_pos c] at main; exact main
theorem r_fair {X : XS} (s a b : Int32) (h : Hp) : EvI X m_Rf_fair [vR [1], vI s, vI a, vI b] h (fun r h' => r = fairS s a b ∧ h' = h) := by
  apply e_Rf_fair
  apply g_Rf_fair_0
  refine callB (s_areWide _ _ _ _) (fun c1 => z1b ?_) (fun c1 => z0b ⟨_, rfl, by simp [fairS, c1], rfl⟩)
  exact r_fair_lp c1 ⟨_, rfl, by simp only [fairS, if_pos c1]; rw [show (40 : Nat) = 2 * 20 from rfl, fairR_C s a b 20 (by omega)], rfl⟩ 41 0 _ _ _ rfl (Or.inl ⟨rfl, rfl⟩)

/-! pace and run -/
abbrev runner (t f r w : Int32) : Prop := (1 ≤ t ∧ t ≤ 99) ∧ (1 ≤ f ∧ f ≤ 99) ∧ (1 ≤ r ∧ r ≤ 99) ∧ (0 ≤ w ∧ w ≤ 20)
theorem s_isRun {X : XS} (t f r w : Int32) (h : Hp) : EvI X m_Rf_isRun [vI t, vI f, vI r, vI w] h (fun x h' => x = bI (runner t f r w) ∧ h' = h) := by
  apply e_Rf_isRun
  apply g_Rf_isRun_0
  refine callB (s_in _ _ _ _) (fun c1 => z1a ?_) (fun c1 => z0a ⟨_, rfl, eqF (fun z => c1 z.1), rfl⟩)
  refine callB (s_in _ _ _ _) (fun c2 => z1a ?_) (fun c2 => z0a ⟨_, rfl, eqF (fun z => c2 z.2.1), rfl⟩)
  refine callB (s_in _ _ _ _) (fun c3 => z1a ?_) (fun c3 => z0a ⟨_, rfl, eqF (fun z => c3 z.2.2.1), rfl⟩)
  exact callB (s_in _ _ _ _) (fun c4 => z1a ⟨_, rfl, eqT ⟨c1, c2, c3, c4⟩, rfl⟩) (fun c4 => z0a ⟨_, rfl, eqF (fun z => c4 z.2.2.2), rfl⟩)
theorem s_areNotRunners {X : XS} (t f r w : Int32) (h : Hp) : EvI X m_Us_areNotRunners [vI t, vI f, vI r, vI w] h (fun x h' => x = bI (¬ runner t f r w) ∧ h' = h) := by
  apply e_Us_areNotRunners
  apply g_Us_areNotRunners_0
  refine callB (s_isNotIn _ _ _ _) (fun c1 => z1b ⟨_, rfl, eqT (fun z => c1 z.1), rfl⟩) (fun c1 => z0b ?_)
  refine callB (s_isNotIn _ _ _ _) (fun c2 => z1b ⟨_, rfl, eqT (fun z => c2 z.2.1), rfl⟩) (fun c2 => z0b ?_)
  refine callB (s_isNotIn _ _ _ _) (fun c3 => z1b ⟨_, rfl, eqT (fun z => c3 z.2.2.1), rfl⟩) (fun c3 => z0b ?_)
  exact callB (s_isNotIn _ _ _ _) (fun c4 => z1a ⟨_, rfl, eqT (fun z => c4 z.2.2.2), rfl⟩) (fun c4 => z0a ⟨_, rfl, eqF (fun z => z ⟨Classical.not_not.mp c1, Classical.not_not.mp c2, Classical.not_not.mp c3, Classical.not_not.mp c4⟩), rfl⟩)
def wetS (t f r w p : Int32) : Int32 := r * (t + f * iAbs (p - w))
theorem s_wetPerWay {X : XS} (t f r w p : Int32) (h : Hp) : EvI X m_Us_wetPerWay [vI t, vI f, vI r, vI w, vI p] h (fun x h' => x = wetS t f r w p ∧ h' = h) := by
  apply e_Us_wetPerWay
  apply g_Us_wetPerWay_0
  exact ⟨_, rfl, rfl, rfl⟩
theorem off_abs {p w : Int32} (h1 : 0 ≤ w ∧ w ≤ 20) (h2 : 0 ≤ p ∧ p ≤ 21) : (if w < p then p - w else w - p) = iAbs (p - w) := by
  unfold iAbs
  grind
theorem s_runOf {X : XS} (t f r w p : Int32) (h1 : 0 ≤ w ∧ w ≤ 20) (h2 : 0 ≤ p ∧ p ≤ 21) (h : Hp) : EvI X m_Rf_runOf [vI t, vI f, vI r, vI w, vI p] h (fun x h' => x = wetS t f r w p ∧ h' = h) := by
  apply e_Rf_runOf
  apply g_Rf_runOf_0
  exact callP (s_off _ _ _) ⟨_, rfl, by rw [off_abs h1 h2]; rfl, rfl⟩
def bpC (t f r w : Int32) : Nat → Int32
  | 0 => 1
  | n + 1 => if wetS t f r w (bpC t f r w n) * nI (n + 2) ≤ wetS t f r w (nI (n + 2)) * bpC t f r w n then bpC t f r w n else nI (n + 2)
theorem nI_small : ∀ k, k < 22 → 0 ≤ nI k ∧ nI k ≤ 21 ∧ (1 ≤ k → 1 ≤ nI k) ∧ (k ≤ 20 → nI k ≤ 20) := by decide +kernel
theorem bpC_nat (t f r w : Int32) : ∀ n, ∃ m, 1 ≤ m ∧ m ≤ n + 1 ∧ bpC t f r w n = nI m
  | 0 => ⟨1, by omega, by omega, rfl⟩
  | n + 1 => by
    obtain ⟨m, h1, h2, h3⟩ := bpC_nat t f r w n
    simp only [bpC]
    split
    · exact ⟨m, h1, by omega, h3⟩
    · exact ⟨n + 2, by omega, by omega, rfl⟩
theorem bpC_ok (t f r w : Int32) {n : Nat} (hn : n < 20) : 0 ≤ bpC t f r w n ∧ bpC t f r w n ≤ 21 := by
  obtain ⟨m, h1, h2, h3⟩ := bpC_nat t f r w n
  rw [h3]
  have := nI_small m (by omega)
  exact ⟨this.1, this.2.1⟩
theorem s_bestPaceC {X : XS} (t f r w : Int32) (h : Hp) : EvI X m_Us_bestPace [vI t, vI f, vI r, vI w] h (fun x h' => x = bpC t f r w 19 ∧ h' = h) := by
  apply e_Us_bestPace
  apply g_Us_bestPace_0
  have lp : ∀ (n i : Nat), i + n = 19 → ∀ (Q : Option AV → Hp → Prop), Q (some (vI (bpC t f r w 19))) h → Rn X m_Us_bestPace 6 [some (vI t), some (vI f), some (vI r), some (vI w), some (vI (bpC t f r w i)), some (vI (nI (i + 2))), none] [] h Q := by
    intro n
    induction n with
    | zero =>
      intro i hi Q hQ
      have : i = 19 := by omega
      subst this
      exact g_Us_bestPace_6 _ _ _ _ _ _ _ _ (cT (by decide) hQ)
    | succ n ih =>
      intro i hi Q hQ
      refine g_Us_bestPace_6 _ _ _ _ _ _ _ _ (cF ?_ ?_)
      · rw [show (20 : Int32) = nI 20 from rfl]
        exact nI_nlt (by omega) (by omega)
      refine callP (s_wetPerWay _ _ _ _ _ _) (callP (s_wetPerWay _ _ _ _ _ _) ?_)
      have k := ih (i + 1) (by omega) Q hQ
      rw [nI_add1]
      refine ⟨fun c => ?_, fun c => ?_⟩
      · simp only [bpC] at k; rw [if_pos c] at k; exact k
      · simp only [bpC] at k; rw [if_neg c] at k; exact k
  exact lp 19 0 rfl _ ⟨_, rfl, rfl, rfl⟩
theorem s_bestPaceR {X : XS} (t f r w : Int32) (hw : 0 ≤ w ∧ w ≤ 20) (h : Hp) : EvI X m_Rf_bestPace [vI t, vI f, vI r, vI w] h (fun x h' => x = bpC t f r w 19 ∧ h' = h) := by
  apply e_Rf_bestPace
  apply g_Rf_bestPace_0
  have lp : ∀ (n i : Nat), i + n = 19 → ∀ (Q : Option AV → Hp → Prop), Q (some (vI (bpC t f r w 19))) h → Rn X m_Rf_bestPace 6 [some (vI t), some (vI f), some (vI r), some (vI w), some (vI (bpC t f r w i)), some (vI (nI (i + 2)))] [] h Q := by
    intro n
    induction n with
    | zero =>
      intro i hi Q hQ
      have : i = 19 := by omega
      subst this
      exact g_Rf_bestPace_6 _ _ _ _ _ _ _ _ (cT (by decide) hQ)
    | succ n ih =>
      intro i hi Q hQ
      refine g_Rf_bestPace_6 _ _ _ _ _ _ _ _ (cF ?_ ?_)
      · rw [show (21 : Int32) = nI 21 from rfl]
        exact nI_ge (by omega) (by omega)
      have hp := nI_small (i + 2) (by omega)
      refine callP (s_runOf _ _ _ _ _ hw ⟨hp.1, hp.2.1⟩ _) (callP (s_runOf _ _ _ _ _ hw (bpC_ok t f r w (by omega)) _) ?_)
      have k := ih (i + 1) (by omega) Q hQ
      rw [nI_add1]
      refine ⟨fun c => ?_, fun c => ?_⟩
      · simp only [bpC] at k; rw [if_pos c] at k; exact k
      · simp only [bpC] at k; rw [if_neg c] at k; exact k
  exact lp 19 0 rfl _ ⟨_, rfl, rfl, rfl⟩
def paceS (t f r w : Int32) : Int32 := if runner t f r w then bpC t f r w 19 else -3
theorem c_pace {X : XS} (t f r w : Int32) (h : Hp) : EvI X m_Us_pace [vR [0], vI t, vI f, vI r, vI w] h (fun x h' => x = paceS t f r w ∧ h' = h) := by
  apply e_Us_pace
  apply g_Us_pace_0
  refine callB (s_areNotRunners _ _ _ _ _) (fun c1 => z1a ⟨_, rfl, by simp [paceS, c1], rfl⟩) (fun c1 => z0a ?_)
  exact callP (s_bestPaceC _ _ _ _ _) ⟨_, rfl, by simp only [paceS]; rw [if_pos (Classical.not_not.mp c1)], rfl⟩
theorem r_pace {X : XS} (t f r w : Int32) (h : Hp) : EvI X m_Rf_pace [vR [1], vI t, vI f, vI r, vI w] h (fun x h' => x = paceS t f r w ∧ h' = h) := by
  apply e_Rf_pace
  apply g_Rf_pace_0
  refine callB (s_isRun _ _ _ _ _) (fun c1 => z1a ?_) (fun c1 => z0a ⟨_, rfl, by simp [paceS, c1], rfl⟩)
  exact callP (s_bestPaceR _ _ _ _ c1.2.2.2 _) ⟨_, rfl, by simp only [paceS]; rw [if_pos c1], rfl⟩
/-! the greatest common divisor -/
theorem lg_cmp0 {x : Int64} : lg_cmp x 0 = 0 ↔ x = 0 := by
  constructor
  · intro h
    have h1 := (lg_cmp_ge x 0).mp (by rw [h]; decide)
    have h2 := (lg_cmp_le x 0).mp (by rw [h]; decide)
    rw [← Int64.toInt_inj]
    rw [Int64.le_iff_toInt_le] at h1 h2
    omega
  · rintro rfl; decide
theorem lN_ne0 {n : Nat} (h : n < 2 ^ 63) (h0 : n ≠ 0) : ¬ lN n = 0 := by
  intro e
  rw [show (0 : Int64) = lN 0 from rfl, pk_lEQ h (by decide)] at e
  exact h0 e
theorem gcd_step {x y : Nat} (h : y ≠ 0) : Nat.gcd y (x % y) = Nat.gcd x y := by
  rw [Nat.gcd_comm x y, Nat.gcd_rec y x]
  rw [Nat.gcd_comm]
theorem s_divisor {X : XS} (a b : Nat) (ha : a < 2 ^ 63) (hb : b < 2 ^ 62) (h : Hp) : EvL X m_Us_commonDivisor [vL (lN a), vL (lN b)] h (fun r h' => r = lN (Nat.gcd a b) ∧ h' = h) := by
  apply e_Us_commonDivisor
  apply g_Us_commonDivisor_0
  have lp : ∀ (m k x y : Nat), x < 2 ^ 63 → y < 2 ^ m → m ≤ 62 → k + 2 * m + 2 ≤ 1000 → ∀ (Q : Option AV → Hp → Prop), Q (some (vL (lN (Nat.gcd x y)))) h → Rn X m_Us_commonDivisor 9 [some (vL (lN a)), none, some (vL (lN b)), none, some (vL (lN x)), none, some (vL (lN y)), none, some (vI (nI k)), none, none] [] h Q := by
    intro m
    induction m with
    | zero =>
      intro k x y hx hy hm hk Q hQ
      have : y = 0 := by simpa using hy
      subst this
      refine g_Us_commonDivisor_9 _ _ _ _ _ _ _ (cF ?_ (cT (lg_cmp0.mpr rfl) ?_))
      · rw [show (1000 : Int32) = nI 1000 from rfl]; exact nI_ge (by omega) (by omega)
      · rw [Nat.gcd_zero_right] at hQ; exact hQ
    | succ m ih =>
      intro k x y hx hy hm hk Q hQ
      have hp : 2 ^ (m + 1) ≤ 2 ^ 62 := Nat.pow_le_pow_right (by decide) hm
      refine g_Us_commonDivisor_9 _ _ _ _ _ _ _ (cF ?_ ?_)
      · rw [show (1000 : Int32) = nI 1000 from rfl]; exact nI_ge (by omega) (by omega)
      by_cases hy0 : y = 0
      · subst hy0
        rw [Nat.gcd_zero_right] at hQ
        exact cT (lg_cmp0.mpr rfl) hQ
      have hyl : y < 2 ^ 63 := by omega
      refine cF (fun z => lN_ne0 hyl hy0 (lg_cmp0.mp z)) ⟨lN_ne0 hyl hy0, ?_⟩
      rw [show lR (lN x) (lN y) = lN (x % y) from pk_lRem hx (by omega) hyl, nI_add1]
      rw [← gcd_step hy0] at hQ
      have hr : x % y < y := Nat.mod_lt _ (by omega)
      generalize x % y = z at hQ hr
      -- the second step halves
      refine g_Us_commonDivisor_9 _ _ _ _ _ _ _ (cF ?_ ?_)
      · rw [show (1000 : Int32) = nI 1000 from rfl]; exact nI_ge (by omega) (by omega)
      by_cases hz0 : z = 0
      · subst hz0
        rw [Nat.gcd_zero_right] at hQ
        exact cT (lg_cmp0.mpr rfl) hQ
      have hzl : z < 2 ^ 63 := by omega
      refine cF (fun q => lN_ne0 hzl hz0 (lg_cmp0.mp q)) ⟨lN_ne0 hzl hz0, ?_⟩
      rw [show lR (lN y) (lN z) = lN (y % z) from pk_lRem hyl (by omega) hzl, nI_add1]
      rw [← gcd_step hz0] at hQ
      refine ih (k + 1 + 1) z (y % z) hzl ?_ (by omega) (by omega) Q hQ
      have h1 : y % z < z := Nat.mod_lt _ (by omega)
      have h2 : y = z * (y / z) + y % z := (Nat.div_add_mod y z).symm
      have h3 : 1 ≤ y / z := Nat.div_pos (by omega) (by omega)
      have h4 : z * 1 ≤ z * (y / z) := Nat.mul_le_mul_left z h3
      have h5 : 2 ^ (m + 1) = 2 * 2 ^ m := by rw [Nat.pow_succ]; omega
      omega
  exact lp 62 0 a b ha hb (by omega) (by omega) _ ⟨_, rfl, rfl, rfl⟩
theorem s_gcd {X : XS} (a b : Nat) (ha : a < 2 ^ 63) (hb : b < 2 ^ 63) (h : Hp) : EvL X m_Rf_gcd [vL (lN a), vL (lN b)] h (fun r h' => r = lN (Nat.gcd a b) ∧ h' = h) := by
  apply e_Rf_gcd
  apply g_Rf_gcd_0
  have lp : ∀ (m x y : Nat), y < m → x < 2 ^ 63 → y < 2 ^ 63 → ∀ (Q : Option AV → Hp → Prop), Q (some (vL (lN (Nat.gcd x y)))) h → Rn X m_Rf_gcd 6 [some (vL (lN a)), none, some (vL (lN b)), none, some (vL (lN x)), none, some (vL (lN y)), none, none, none] [] h Q := by
    intro m
    induction m with
    | zero => intro x y hy; omega
    | succ m ih =>
      intro x y hy hx hyl Q hQ
      refine g_Rf_gcd_6 _ _ _ _ _ _ ?_
      by_cases hy0 : y = 0
      · subst hy0
        rw [Nat.gcd_zero_right] at hQ
        exact cT (lg_cmp0.mpr rfl) hQ
      refine cF (fun z => lN_ne0 hyl hy0 (lg_cmp0.mp z)) ⟨lN_ne0 hyl hy0, ?_⟩
      rw [show lR (lN x) (lN y) = lN (x % y) from pk_lRem hx (by omega) hyl]
      rw [← gcd_step hy0] at hQ
      have hr : x % y < y := Nat.mod_lt _ (by omega)
      exact ih y (x % y) (by omega) hyl (by omega) Q hQ
  exact lp (b + 1) a b (by omega) ha hb _ ⟨_, rfl, rfl, rfl⟩
theorem s_lowest {X : XS} (a b : Nat) (w : Int32) (ha : a < 2 ^ 63) (hb : b < 2 ^ 62) (hb0 : 0 < b) (h : Hp) : EvL X m_Us_lowest [vL (lN a), vL (lN b), vI w] h (fun r h' => r = (if w = 0 then lN (a / Nat.gcd a b) else lN (b / Nat.gcd a b)) ∧ h' = h) := by
  apply e_Us_lowest
  apply g_Us_lowest_0
  have hg : 0 < Nat.gcd a b := Nat.gcd_pos_of_pos_right _ hb0
  have hgl : Nat.gcd a b ≤ b := Nat.gcd_le_right _ hb0
  refine callL (s_divisor a b ha hb h) (cT ?_ ?_)
  · rw [lg_cmp_ge, show (1 : Int64) = lN 1 from rfl, pk_lLE (by decide) (by omega)]; exact hg
  have hn0 : ¬ lN (Nat.gcd a b) = 0 := lN_ne0 (by omega) (by omega)
  refine ⟨fun c => ⟨hn0, _, rfl, ?_, rfl⟩, fun c => ⟨hn0, _, rfl, ?_, rfl⟩⟩
  · rw [if_neg c, pk_lDiv (by omega) hg (by omega)]
  · rw [if_pos c, pk_lDiv ha hg (by omega)]
