/-! copies and clears of the class's walks and plans -/
theorem rd {h : Hp} {p q : List Nat} {i j : Nat} {v : Int32} : (hsI h p i v).1 q j = if q = p ∧ j = i then v else h.1 q j := rfl
def W00 : RW := fun a _ => if a = 3 then -1 else 0
theorem and1 {x : Int32} (h : x = 0 ∨ x = 1) : x &&& 1 = x := by
  rcases h with h | h <;> rw [h] <;> decide
theorem n60 {k : Nat} (h : k < 60) : ¬ (60 : Int32) ≤ nI k := by rw [show (60 : Int32) = nI 60 from rfl]; exact nI_ge h (by decide)
theorem n48 {k : Nat} (h : k < 48) : ¬ (48 : Int32) ≤ nI k := by rw [show (48 : Int32) = nI 48 from rfl]; exact nI_ge h (by decide)
theorem n26 {k : Nat} (h : k < 26) : ¬ (26 : Int32) ≤ nI k := by rw [show (26 : Int32) = nI 26 from rfl]; exact nI_ge h (by decide)
section CPY
variable {X : XS} {h : Hp} {w q : List Nat} {K : RW}
def PlPost (p : List Nat) (h : Hp) (P' : RW) : Hp → Prop := fun h' => PlanIs h' p P' ∧ CH p h h'
theorem c_clear (hw : IsWk w) : EvV X m_Wk_clear [vR w] h (WkPost w h (u2 W00 0 0 (h.1 w 0))) := by
  apply e_Wk_clear
  apply g_Wk_clear_0 _ _ _ hw
  have lp : ∀ (n i : Nat) (hh : Hp), i + n = 6 → CH w h hh → (∀ j, j < 3 → hh.1 w j = (u2 W00 0 0 (h.1 w 0)) 0 j) → (∀ k, 3 ≤ k → k < 8 → ∀ j, j < i → hh.1 (k :: w) j = W00 k j) → Rn X m_Wk_clear 12 [some (vR w), some (vI (nI i))] [] hh (fun v h' => v = none ∧ WkPost w h (u2 W00 0 0 (h.1 w 0)) h') := by
    intro n
    induction n with
    | zero =>
      intro i hh hi hc h0 hk
      have : i = 6 := by omega
      subst this
      refine g_Wk_clear_12 _ _ _ _ hw (cT e6 ⟨rfl, ⟨h0, fun k h1 h2 j hj => ?_⟩, hc⟩)
      rw [hk k h1 h2 j hj]; unfold u2; rw [if_neg (by omega)]
    | succ n ih =>
      intro i hh hi hc h0 hk
      have hi6 : i < 6 := by omega
      refine g_Wk_clear_12 _ _ _ _ hw (cF (n6 hi6) ⟨v6 hi6, v6 hi6, v6 hi6, v6 hi6, v6 hi6, ?_⟩)
      rw [nI_add1, ci (by omega)]
      refine ih (i + 1) _ (by omega) (hc.tr (((((CH.set.tr CH.set).tr CH.set).tr CH.set).tr CH.set))) (fun j hj => ?_) (fun k h1 h2 j hj => ?_)
      · simp only [rd, fun k => show (w = k :: w) = False from by simp, false_and, if_false]
        exact h0 j hj
      · have e := hk k h1 h2 j
        simp only [rd, List.cons.injEq, and_true]
        unfold W00 at e ⊢
        grind
  refine lp 6 0 _ rfl (CH.set0.tr CH.set0) (fun j hj => ?_) (fun k h1 h2 j hj => by omega)
  simp only [rd]
  unfold u2 W00
  grind
theorem c_copyWk (hw : IsWk w) (hq : IsWk q) (ap : Apart w q) (hK : WalkIs h q K) (hb : ∀ k, k < 6 → K 4 k = 0 ∨ K 4 k = 1) : EvV X m_Wk_copyFrom [vR w, vR q] h (WkPost w h (u2 K 0 0 (h.1 w 0))) := by
  have ne1 : ∀ a b : Nat, (a :: q = b :: w) = False := fun a b => by simp; exact fun _ => ap.1
  have ne2 : ∀ b : Nat, (q = b :: w) = False := fun b => by simp; exact ap.2.1 b
  have ne3 : ∀ b : Nat, (w = b :: q) = False := fun b => by simp; exact ap.2.2 b
  apply e_Wk_copyFrom
  apply g_Wk_copyFrom_0 _ _ _ _ hw hq
  have lp : ∀ (n i : Nat) (hh : Hp), i + n = 6 → CH w h hh → (∀ j, j < 3 → hh.1 w j = (u2 K 0 0 (h.1 w 0)) 0 j) → (∀ k, 3 ≤ k → k < 8 → ∀ j, j < i → hh.1 (k :: w) j = K k j) → Rn X m_Wk_copyFrom 18 [some (vR w), some (vR q), some (vI (nI i))] [] hh (fun v h' => v = none ∧ WkPost w h (u2 K 0 0 (h.1 w 0)) h') := by
    intro n
    induction n with
    | zero =>
      intro i hh hi hc h0 hk
      have : i = 6 := by omega
      subst this
      refine g_Wk_copyFrom_18 _ _ _ _ _ hw hq (cT e6 ⟨rfl, ⟨h0, fun k h1 h2 j hj => ?_⟩, hc⟩)
      rw [hk k h1 h2 j hj]; unfold u2; rw [if_neg (by omega)]
    | succ n ih =>
      intro i hh hi hc h0 hk
      have hi6 : i < 6 := by omega
      have hK2 := hK.ch hc ap
      refine g_Wk_copyFrom_18 _ _ _ _ _ hw hq (cF (n6 hi6) ⟨v6 hi6, v6 hi6, v6 hi6, v6 hi6, v6 hi6, v6 hi6, v6 hi6, v6 hi6, v6 hi6, v6 hi6, ?_⟩)
      rw [nI_add1, ci (by omega)]
      simp only [rd, ne1, false_and, if_false]
      rw [hK2.2 3 (by omega) (by omega) i hi6, hK2.2 4 (by omega) (by omega) i hi6, hK2.2 5 (by omega) (by omega) i hi6, hK2.2 6 (by omega) (by omega) i hi6, hK2.2 7 (by omega) (by omega) i hi6, and1 (hb i hi6)]
      refine ih (i + 1) _ (by omega) (hc.tr (((((CH.set.tr CH.set).tr CH.set).tr CH.set).tr CH.set))) (fun j hj => ?_) (fun k h1 h2 j hj => ?_)
      · simp only [rd, fun k => show (w = k :: w) = False from by simp, false_and, if_false]
        exact h0 j hj
      · have e := hk k h1 h2 j
        simp only [rd, List.cons.injEq, and_true]
        grind
  refine lp 6 0 _ rfl (CH.set0.tr CH.set0) (fun j hj => ?_) (fun k h1 h2 j hj => by omega)
  simp only [rd]
  have a1 := hK.1 1 (by omega)
  have a2 := hK.1 2 (by omega)
  have z := ap.1
  unfold u2
  grind
theorem c_copyPl (hw : IsPl w) (hq : IsPl q) (ap : Apart w q) (hK : PlanIs h q K) (hb2 : ∀ k, k < 48 → K 2 k = 0 ∨ K 2 k = 1) (hb3 : ∀ k, k < 6 → K 3 k = 0 ∨ K 3 k = 1) : EvV X m_Pl_copyFrom [vR w, vR q] h (PlPost w h K) := by
  have ne1 : ∀ a b : Nat, (a :: q = b :: w) = False := fun a b => by simp; exact fun _ => ap.1
  have ne4 : ∀ k : Nat, (w = k :: w) = False := fun k => by simp
  apply e_Pl_copyFrom
  apply g_Pl_copyFrom_0 _ _ _ _ hw hq
  have lpC : ∀ (n i : Nat) (hh : Hp), i + n = 60 → CH w h hh → (∀ j, j < 2 → hh.1 w j = K 0 j) → (∀ j, j < 48 → hh.1 (2 :: w) j = K 2 j) → (∀ k, 3 ≤ k → k < 10 → ∀ j, j < 6 → hh.1 (k :: w) j = K k j) → (∀ j, j < i → hh.1 (10 :: w) j = K 10 j) → Rn X m_Pl_copyFrom 142 [some (vR w), some (vR q), some (vI (nI i))] [] hh (fun v h' => v = none ∧ PlPost w h K h') := by
    intro n
    induction n with
    | zero =>
      intro i hh hi hc h0 h2 h3 hk
      have : i = 60 := by omega
      subst this
      exact g_Pl_copyFrom_142 _ _ _ _ _ hw hq (cT (by decide) ⟨rfl, ⟨h0, h2, h3, hk⟩, hc⟩)
    | succ n ih =>
      intro i hh hi hc h0 h2 h3 hk
      have hi6 : i < 60 := by omega
      have hK2 := hK.ch hc ap
      refine g_Pl_copyFrom_142 _ _ _ _ _ hw hq (cF (n60 hi6) ⟨vp_in_nI hi6 (by decide), vp_in_nI hi6 (by decide), ?_⟩)
      rw [nI_add1, ci (by omega), hK2.2.2.2 i hi6]
      refine ih (i + 1) _ (by omega) (hc.tr CH.set) (fun j hj => ?_) (fun j hj => ?_) (fun k a1 a2 j hj => ?_) (fun j hj => ?_)
      · simp only [rd, ne4, false_and, if_false]; exact h0 j hj
      · simp only [rd, List.cons.injEq, and_true]; rw [if_neg (by omega)]; exact h2 j hj
      · simp only [rd, List.cons.injEq, and_true]; rw [if_neg (by omega)]; exact h3 k a1 a2 j hj
      · have e := hk j
        simp only [rd, true_and]; grind
  have lpB : ∀ (n i : Nat) (hh : Hp), i + n = 6 → CH w h hh → (∀ j, j < 2 → hh.1 w j = K 0 j) → (∀ j, j < 48 → hh.1 (2 :: w) j = K 2 j) → (∀ k, 3 ≤ k → k < 10 → ∀ j, j < i → hh.1 (k :: w) j = K k j) → Rn X m_Pl_copyFrom 44 [some (vR w), some (vR q), some (vI (nI i))] [] hh (fun v h' => v = none ∧ PlPost w h K h') := by
    intro n
    induction n with
    | zero =>
      intro i hh hi hc h0 h2 h3
      have : i = 6 := by omega
      subst this
      exact g_Pl_copyFrom_44 _ _ _ _ _ hw hq (cT e6 (lpC 60 0 hh rfl hc h0 h2 h3 (fun j hj => by omega)))
    | succ n ih =>
      intro i hh hi hc h0 h2 h3
      have hi6 : i < 6 := by omega
      have hK2 := hK.ch hc ap
      refine g_Pl_copyFrom_44 _ _ _ _ _ hw hq (cF (n6 hi6) ⟨v6 hi6, v6 hi6, v6 hi6, v6 hi6, v6 hi6, v6 hi6, v6 hi6, v6 hi6, v6 hi6, v6 hi6, v6 hi6, v6 hi6, v6 hi6, v6 hi6, ?_⟩)
      rw [nI_add1, ci (by omega)]
      simp only [rd, ne1, false_and, if_false]
      rw [hK2.2.2.1 3 (by omega) (by omega) i hi6, hK2.2.2.1 4 (by omega) (by omega) i hi6, hK2.2.2.1 5 (by omega) (by omega) i hi6, hK2.2.2.1 6 (by omega) (by omega) i hi6, hK2.2.2.1 7 (by omega) (by omega) i hi6, hK2.2.2.1 8 (by omega) (by omega) i hi6, hK2.2.2.1 9 (by omega) (by omega) i hi6, and1 (hb3 i hi6)]
      refine ih (i + 1) _ (by omega) (hc.tr (((((((CH.set.tr CH.set).tr CH.set).tr CH.set).tr CH.set).tr CH.set).tr CH.set))) (fun j hj => ?_) (fun j hj => ?_) (fun k a1 a2 j hj => ?_)
      · simp only [rd, ne4, false_and, if_false]; exact h0 j hj
      · simp only [rd, List.cons.injEq, and_true, show (2 = 3) = False from by simp, show (2 = 4) = False from by simp, show (2 = 5) = False from by simp, show (2 = 6) = False from by simp, show (2 = 7) = False from by simp, show (2 = 8) = False from by simp, show (2 = 9) = False from by simp, false_and, if_false]; exact h2 j hj
      · have e := h3 k a1 a2 j
        simp only [rd, List.cons.injEq, and_true]
        grind
  have lpA : ∀ (n i : Nat) (hh : Hp), i + n = 48 → CH w h hh → (∀ j, j < 2 → hh.1 w j = K 0 j) → (∀ j, j < i → hh.1 (2 :: w) j = K 2 j) → Rn X m_Pl_copyFrom 18 [some (vR w), some (vR q), some (vI (nI i))] [] hh (fun v h' => v = none ∧ PlPost w h K h') := by
    intro n
    induction n with
    | zero =>
      intro i hh hi hc h0 h2
      have : i = 48 := by omega
      subst this
      exact g_Pl_copyFrom_18 _ _ _ _ _ hw hq (cT (by decide) (lpB 6 0 hh rfl hc h0 h2 (fun k a1 a2 j hj => by omega)))
    | succ n ih =>
      intro i hh hi hc h0 h2
      have hi6 : i < 48 := by omega
      have hK2 := hK.ch hc ap
      refine g_Pl_copyFrom_18 _ _ _ _ _ hw hq (cF (n48 hi6) ⟨vp_in_nI hi6 (by decide), vp_in_nI hi6 (by decide), ?_⟩)
      rw [nI_add1, ci (by omega), hK2.2.1 i hi6, and1 (hb2 i hi6)]
      refine ih (i + 1) _ (by omega) (hc.tr CH.set) (fun j hj => ?_) (fun j hj => ?_)
      · simp only [rd, ne4, false_and, if_false]; exact h0 j hj
      · have e := h2 j
        simp only [rd, true_and]; grind
  refine lpA 48 0 _ rfl (CH.set0.tr CH.set0) (fun j hj => ?_) (fun j hj => by omega)
  simp only [rd]
  have a1 := hK.1 0 (by omega)
  have a2 := hK.1 1 (by omega)
  have z := ap.1
  grind
/-! looks at a plan and a walk -/
variable {p : List Nat} {P W : RW}
def walkersG (P : RW) : Nat → Nat
  | 0 => 0
  | n + 1 => walkersG P n + (if P 3 n ≠ 0 then 1 else 0)
theorem walkersG_le {P : RW} : ∀ n, walkersG P n ≤ n
  | 0 => Nat.le_refl _
  | n + 1 => by
    have := walkersG_le (P := P) n
    unfold walkersG
    split <;> omega
theorem c_walkers (hp : IsPl p) (hP : PlanIs h p P) : EvI X m_Pl_walkers [vR p] h (fun r h' => r = nI (walkersG P 6) ∧ h' = h) := by
  apply e_Pl_walkers
  apply g_Pl_walkers_0 _ _ _ hp
  have lp : ∀ (n i : Nat), i + n = 6 → Rn X m_Pl_walkers 4 [some (vR p), some (vI (nI (walkersG P i))), some (vI (nI i))] [] h (fun v h' => ∃ r, v = some (vI r) ∧ r = nI (walkersG P 6) ∧ h' = h) := by
    intro n
    induction n with
    | zero =>
      intro i hi
      have : i = 6 := by omega
      subst this
      exact g_Pl_walkers_4 _ _ _ _ _ hp (cT e6 ⟨_, rfl, rfl, rfl⟩)
    | succ n ih =>
      intro i hi
      have hi6 : i < 6 := by omega
      refine g_Pl_walkers_4 _ _ _ _ _ hp (cF (n6 hi6) ⟨v6 hi6, ?_⟩)
      rw [ci (by omega), hP.2.2.1 3 (by omega) (by omega) i hi6, nI_add1]
      have := ih (i + 1) (by omega)
      rw [show walkersG P (i + 1) = walkersG P i + (if P 3 i ≠ 0 then 1 else 0) from rfl] at this
      refine ⟨fun c => ?_, fun c => ?_⟩
      · rw [if_neg (fun z => z c)] at this
        rw [show (0 : Int32) = nI 0 from rfl, nI_add]; exact this
      · rw [if_pos c] at this
        rw [nI_add1]; exact this
  exact lp 6 0 rfl
theorem c_hasWalker (hp : IsPl p) (hP : PlanIs h p P) (k : Int32) : EvI X m_Pl_hasWalker [vR p, vI k] h (fun r h' => r = bI (0 ≤ k ∧ k < 6 ∧ P 3 k.toNatClampNeg ≠ 0) ∧ h' = h) := by
  apply e_Pl_hasWalker
  apply g_Pl_hasWalker_0 _ _ _ _ hp
  refine ⟨fun c => ⟨_, rfl, eqF (by grind), rfl⟩, fun c => ⟨fun c2 => ⟨_, rfl, eqF (by grind), rfl⟩, fun c2 => ?_⟩⟩
  obtain ⟨j, hj, e⟩ := nI_of (x := k) (by grind)
  subst e
  have hj6 : j < 6 := by
    rcases Nat.lt_or_ge j 6 with z | z
    · exact z
    · exact absurd (nI_leI (by decide) hj |>.mpr z) c2
  refine ⟨v6 hj6, ?_⟩
  rw [ci hj, hP.2.2.1 3 (by omega) (by omega) j hj6]
  exact ⟨fun c3 => ⟨_, rfl, eqF (fun z => z.2.2 c3), rfl⟩, fun c3 => ⟨_, rfl, eqT ⟨nI_pos' hj, by grind, c3⟩, rfl⟩⟩
def onG (W : RW) : Nat → Nat
  | 0 => 0
  | n + 1 => onG W n + (if W 3 n ≠ -1 then 1 else 0)
theorem c_onStreet (hw : IsWk w) (hW : WalkIs h w W) : EvI X m_Wk_onStreet [vR w] h (fun r h' => r = nI (onG W 6) ∧ h' = h) := by
  apply e_Wk_onStreet
  apply g_Wk_onStreet_0 _ _ _ hw
  have lp : ∀ (n i : Nat), i + n = 6 → Rn X m_Wk_onStreet 4 [some (vR w), some (vI (nI (onG W i))), some (vI (nI i))] [] h (fun v h' => ∃ r, v = some (vI r) ∧ r = nI (onG W 6) ∧ h' = h) := by
    intro n
    induction n with
    | zero =>
      intro i hi
      have : i = 6 := by omega
      subst this
      exact g_Wk_onStreet_4 _ _ _ _ _ hw (cT e6 ⟨_, rfl, rfl, rfl⟩)
    | succ n ih =>
      intro i hi
      have hi6 : i < 6 := by omega
      refine g_Wk_onStreet_4 _ _ _ _ _ hw (cF (n6 hi6) ?_)
      rw [nI_add1]
      have := ih (i + 1) (by omega)
      rw [show onG W (i + 1) = onG W i + (if W 3 i ≠ -1 then 1 else 0) from rfl] at this
      refine callB (c_isOn hw hW hi6) (fun c => z1a ?_) (fun c => z0a ?_)
      · rw [if_pos c] at this
        rw [nI_add1]; exact this
      · rw [if_neg c] at this
        rw [show (0 : Int32) = nI 0 from rfl, nI_add]; exact this
  exact lp 6 0 rfl
abbrev overS (P W : RW) : Prop := ∀ k, k < 6 → P 3 k ≠ 0 → W 4 k ≠ 0
theorem c_isOver (hw : IsWk w) (hp : IsPl p) (hW : WalkIs h w W) (hP : PlanIs h p P) : EvI X m_Wk_isOver [vR w, vR p] h (fun r h' => r = bI (overS P W) ∧ h' = h) := by
  apply e_Wk_isOver
  apply g_Wk_isOver_0 _ _ _ _ hw hp
  have lp : ∀ (n i : Nat), i + n = 6 → (∀ k, k < i → P 3 k ≠ 0 → W 4 k ≠ 0) → Rn X m_Wk_isOver 2 [some (vR w), some (vR p), some (vI (nI i))] [] h (fun v h' => ∃ r, v = some (vI r) ∧ r = bI (overS P W) ∧ h' = h) := by
    intro n
    induction n with
    | zero =>
      intro i hi hk
      have : i = 6 := by omega
      subst this
      exact g_Wk_isOver_2 _ _ _ _ _ hw hp (cT e6 ⟨_, rfl, eqT hk, rfl⟩)
    | succ n ih =>
      intro i hi hk
      have hi6 : i < 6 := by omega
      refine g_Wk_isOver_2 _ _ _ _ _ hw hp (cF (n6 hi6) ⟨v6 hi6, ?_⟩)
      rw [nI_add1, ci (by omega), hP.2.2.1 3 (by omega) (by omega) i hi6, hW.2 4 (by omega) (by omega) i hi6]
      have go : (P 3 i ≠ 0 → W 4 i ≠ 0) → _ := fun z => ih (i + 1) (by omega) (fun k hk' => by
        by_cases e : k = i
        · rw [e]; exact z
        · exact hk k (by omega))
      exact ⟨fun c => go (fun z => absurd c z), fun c => ⟨v6 hi6, fun c2 => go (fun _ => c2), fun c2 => ⟨_, rfl, eqF (fun z => z i hi6 c c2), rfl⟩⟩⟩
  exact lp 6 0 rfl (fun k hk => by omega)
end CPY
