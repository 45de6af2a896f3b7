/-! run, door, left -/
theorem nI_rng {x : Int32} {n : Nat} (h0 : 0 ≤ x) (h : x ≤ nI n) (hn : n < 2 ^ 31) : ∃ j : Nat, j ≤ n ∧ x = nI j := by
  obtain ⟨j, hj, rfl⟩ := nI_of (x := x) (by grind)
  exact ⟨j, (nI_leI hj hn).mp h, rfl⟩
theorem nI_rng1 {x : Int32} {n : Nat} (h0 : 1 ≤ x) (h : x ≤ nI n) (hn : n < 2 ^ 31) : ∃ j : Nat, 1 ≤ j ∧ j ≤ n ∧ x = nI j := by
  obtain ⟨j, hj, rfl⟩ := nI_rng (x := x) (by grind) h hn
  refine ⟨j, ?_, hj, rfl⟩
  exact (nI_leI (a := 1) (by decide) (by omega)).mp h0
theorem wet_nat {t f r w p : Int32} (h : runner t f r w) (hp : 1 ≤ p ∧ p ≤ 20) : ∃ U : Nat, 1 ≤ U ∧ U < 2 ^ 30 ∧ wetS t f r w p = nI U := by
  obtain ⟨⟨a1, a2⟩, ⟨b1, b2⟩, ⟨c1, c2⟩, d1, d2⟩ := h
  obtain ⟨tn, t1, t2, rfl⟩ := nI_rng1 (n := 99) a1 a2 (by decide)
  obtain ⟨fn, f1, f2, rfl⟩ := nI_rng1 (n := 99) b1 b2 (by decide)
  obtain ⟨rn, r1, r2, rfl⟩ := nI_rng1 (n := 99) c1 c2 (by decide)
  obtain ⟨dn, e2, e3⟩ := nI_rng (x := iAbs (p - w)) (n := 20) (by unfold iAbs; grind) (by rw [show nI 20 = (20 : Int32) from rfl]; unfold iAbs; grind) (by decide)
  refine ⟨rn * (tn + fn * dn), ?_, ?_, ?_⟩
  · exact Nat.mul_pos r1 (by omega)
  · have g1 : fn * dn ≤ 99 * 20 := Nat.mul_le_mul f2 e2
    have g2 : rn * (tn + fn * dn) ≤ 99 * (99 + 99 * 20) := Nat.mul_le_mul r2 (by omega)
    omega
  · unfold wetS
    rw [e3, pk_mul, nI_add, pk_mul]
def runS (t f r w p q : Int32) : Int32 :=
  if ¬ runner t f r w ∨ ¬ (0 ≤ p ∧ p ≤ 20) ∨ ¬ (0 ≤ q ∧ q ≤ 1) then -3 else
  (fun s : Int32 => (fun U P : Nat => if q = 0 then nI (U / Nat.gcd U P) else nI (P / Nat.gcd U P)) (wetS t f r w s).toNatClampNeg s.toNatClampNeg) (if p = 0 then bpC t f r w 19 else p)
theorem bp19 (t f r w : Int32) : 1 ≤ bpC t f r w 19 ∧ bpC t f r w 19 ≤ 20 := by
  obtain ⟨m, h1, h2, h3⟩ := bpC_nat t f r w 19
  rw [h3]
  have := nI_small m (by omega)
  exact ⟨this.2.2.1 h1, this.2.2.2 (by omega)⟩
theorem c_run53 {X : XS} {t f r w p q s : Int32} (hr : runner t f r w) (hp : 0 ≤ p ∧ p ≤ 20) (hq : 0 ≤ q ∧ q ≤ 1) (hs : s = if p = 0 then bpC t f r w 19 else p) (hs2 : 1 ≤ s ∧ s ≤ 20) (h : Hp) : Rn X m_Us_run 53 [some (vR [0]), some (vI t), some (vI f), some (vI r), some (vI w), some (vI p), some (vI q), none] [vI s] h (fun v h' => ∃ x, v = some (vI x) ∧ x = runS t f r w p q ∧ h' = h) := by
  obtain ⟨U, u1, u2, u3⟩ := wet_nat hr hs2
  obtain ⟨P, p1, p2, p3⟩ := nI_rng1 (n := 20) hs2.1 hs2.2 (by decide)
  have e : runS t f r w p q = if q = 0 then nI (U / Nat.gcd U P) else nI (P / Nat.gcd U P) := by
    unfold runS
    rw [if_neg (by simp only [not_or, Classical.not_not]; exact ⟨hr, hp, hq⟩), ← hs]
    dsimp only
    rw [u3, p3, nI_clamp (by omega), nI_clamp (by omega)]
  apply g_Us_run_53
  refine callP (s_wetPerWay _ _ _ _ _ _) ?_
  rw [u3, p3, nI_l (by omega), nI_l (by omega)]
  refine callL (s_lowest U P q (by omega) (by omega) (by omega) h) ⟨_, rfl, ?_, rfl⟩
  rw [e]
  split <;> exact lN_i _
theorem c_run {X : XS} (t f r w p q : Int32) (h : Hp) : EvI X m_Us_run [vR [0], vI t, vI f, vI r, vI w, vI p, vI q] h (fun x h' => x = runS t f r w p q ∧ h' = h) := by
  apply e_Us_run
  apply g_Us_run_0
  refine callB (s_areNotRunners _ _ _ _ _) (fun c1 => z1b ⟨_, rfl, by unfold runS; rw [if_pos (Or.inl c1)], rfl⟩) (fun c1 => z0b ?_)
  refine callB (s_isNotIn _ _ _ _) (fun c2 => z1b ⟨_, rfl, by unfold runS; rw [if_pos (Or.inr (Or.inl c2))], rfl⟩) (fun c2 => z0b ?_)
  refine callB (s_isNotIn _ _ _ _) (fun c3 => z1a ⟨_, rfl, by unfold runS; rw [if_pos (Or.inr (Or.inr c3))], rfl⟩) (fun c3 => z0a ?_)
  have c1 := Classical.not_not.mp c1
  have c2 := Classical.not_not.mp c2
  have c3 := Classical.not_not.mp c3
  refine ⟨fun c4 => ?_, fun c4 => ?_⟩
  · exact c_run53 c1 c2 c3 (by rw [if_neg c4]) (by grind) h
  · refine callP (s_bestPaceC _ _ _ _ _) ?_
    exact c_run53 c1 c2 c3 (by rw [if_pos c4]) (bp19 _ _ _ _) h
theorem r_run53 {X : XS} {t f r w p q s : Int32} (hr : runner t f r w) (hp : 0 ≤ p ∧ p ≤ 20) (hq : 0 ≤ q ∧ q ≤ 1) (hs : s = if p = 0 then bpC t f r w 19 else p) (hs2 : 1 ≤ s ∧ s ≤ 20) (h : Hp) : Rn X m_Rf_run 53 [some (vR [1]), some (vI t), some (vI f), some (vI r), some (vI w), some (vI p), some (vI q), none, none] [vI s] h (fun v h' => ∃ x, v = some (vI x) ∧ x = runS t f r w p q ∧ h' = h) := by
  obtain ⟨U, u1, u2, u3⟩ := wet_nat hr hs2
  obtain ⟨P, p1, p2, p3⟩ := nI_rng1 (n := 20) hs2.1 hs2.2 (by decide)
  have e : runS t f r w p q = if q = 0 then nI (U / Nat.gcd U P) else nI (P / Nat.gcd U P) := by
    unfold runS
    rw [if_neg (by simp only [not_or, Classical.not_not]; exact ⟨hr, hp, hq⟩), ← hs]
    dsimp only
    rw [u3, p3, nI_clamp (by omega), nI_clamp (by omega)]
  have hg : 0 < Nat.gcd U P := Nat.gcd_pos_of_pos_right _ (by omega)
  have hgl : Nat.gcd U P ≤ P := Nat.gcd_le_right _ (by omega)
  apply g_Rf_run_53
  refine callP (s_runOf _ _ _ _ _ hr.2.2.2 ⟨by grind, by grind⟩ _) ?_
  rw [u3]
  have fin : ∀ y : Nat, y < 2 ^ 31 → (if q = 0 then nI (U / Nat.gcd U P) else nI (P / Nat.gcd U P)) = nI (y / Nat.gcd U P) → Rn X m_Rf_run 79 [some (vR [1]), some (vI t), some (vI f), some (vI r), some (vI w), some (vI p), some (vI q), some (vI s), some (vI (nI U))] [vI (nI y)] h (fun v h' => ∃ x, v = some (vI x) ∧ x = runS t f r w p q ∧ h' = h) := by
    intro y hy hye
    apply g_Rf_run_79
    rw [p3, nI_l (by omega), nI_l (by omega)]
    refine callL (s_gcd U P (by omega) (by omega) h) ?_
    rw [lN_i]
    refine ⟨nI_ne0 hg (by omega), _, rfl, ?_, rfl⟩
    rw [e, hye, pk_div hy hg (by omega)]
  refine ⟨fun c => ?_, fun c => ?_⟩
  · rw [p3]
    have := fin P (by omega) (by rw [if_neg c])
    rw [p3] at this
    exact this
  · exact fin U (by omega) (by rw [if_pos c])
theorem r_run {X : XS} (t f r w p q : Int32) (h : Hp) : EvI X m_Rf_run [vR [1], vI t, vI f, vI r, vI w, vI p, vI q] h (fun x h' => x = runS t f r w p q ∧ h' = h) := by
  apply e_Rf_run
  apply g_Rf_run_0
  refine callB (s_isRun _ _ _ _ _) (fun c1 => z1a ?_) (fun c1 => z0a ⟨_, rfl, by unfold runS; rw [if_pos (Or.inl c1)], rfl⟩)
  refine callB (s_in _ _ _ _) (fun c2 => z1a ?_) (fun c2 => z0a ⟨_, rfl, by unfold runS; rw [if_pos (Or.inr (Or.inl c2))], rfl⟩)
  refine callB (s_in _ _ _ _) (fun c3 => z1b ?_) (fun c3 => z0b ⟨_, rfl, by unfold runS; rw [if_pos (Or.inr (Or.inr c3))], rfl⟩)
  refine ⟨fun c4 => ?_, fun c4 => ?_⟩
  · exact r_run53 c1 c2 c3 (by rw [if_neg c4]) (by grind) h
  · refine callP (s_bestPaceR _ _ _ _ c1.2.2.2 _) ?_
    exact r_run53 c1 c2 c3 (by rw [if_pos c4]) (bp19 _ _ _ _) h
/-! a door -/
def dU (m : Nat) : Nat := 10 ^ (m + 1)
def dL (s b g : Nat) : Nat → Nat × Nat
  | 0 => (g * 10, 0)
  | m + 1 => if dU m * 10 + s * b * g * (dU m / 10) + (10 - s) * (dL s b g m).1 < g * (dU m * 10) then (dU m * 10 + s * b * g * (dU m / 10) + (10 - s) * (dL s b g m).1, (dL s b g m).2 + 1) else (g * (dU m * 10), 0)
theorem dL_le (s b g : Nat) : ∀ m, (dL s b g m).1 ≤ g * dU m ∧ (dL s b g m).2 ≤ m
  | 0 => ⟨by simp [dL, dU], by simp [dL]⟩
  | m + 1 => by
    have ih := dL_le s b g m
    have e : dU (m + 1) = dU m * 10 := by unfold dU; rw [Nat.pow_succ]
    rw [e]
    simp only [dL]
    split
    · exact ⟨by dsimp only; omega, by dsimp only; omega⟩
    · exact ⟨Nat.le_refl _, by dsimp only; omega⟩
abbrev doorOk (s b g n q : Int32) : Prop := (0 ≤ s ∧ s ≤ 10) ∧ (0 ≤ b ∧ b ≤ 10) ∧ (0 ≤ g ∧ g ≤ 999) ∧ (0 ≤ n ∧ n ≤ 8) ∧ (0 ≤ q ∧ q ≤ 2)
def doorN (s b g n : Nat) (q : Int32) : Int64 := if q = 2 then lN (dL s b g n).2 else if q = 0 then lN ((dL s b g n).1 / Nat.gcd (dL s b g n).1 (dU n)) else lN (dU n / Nat.gcd (dL s b g n).1 (dU n))
def doorS (s b g n q : Int32) : Int64 := if doorOk s b g n q then doorN s.toNatClampNeg b.toNatClampNeg g.toNatClampNeg n.toNatClampNeg q else -3
theorem dU_ok : ∀ m, m ≤ 8 → dU m ≤ 1000000000 ∧ 10 * (dU m / 10) = dU m ∧ 10 ≤ dU m := by decide +kernel
theorem d_bound {s b g m : Nat} (hs : s ≤ 10) (hb : b ≤ 10) (hg : g ≤ 999) (hm : m ≤ 8) : (dL s b g m).1 ≤ 999000000000 ∧ s * b * g * (dU m / 10) ≤ 9990000000000 ∧ (10 - s) * (dL s b g m).1 ≤ 9990000000000 ∧ g * (dU m * 10) ≤ 9990000000000 := by
  have h1 := dL_le s b g m
  have h2 := dU_ok m hm
  have a1 : g * dU m ≤ 999 * 1000000000 := Nat.mul_le_mul hg h2.1
  have a2 : s * b ≤ 10 * 10 := Nat.mul_le_mul hs hb
  have a3 : s * b * g ≤ 100 * 999 := Nat.mul_le_mul a2 hg
  have a4 : s * b * g * (dU m / 10) ≤ 99900 * 100000000 := Nat.mul_le_mul a3 (by omega)
  have a5 : (10 - s) * (dL s b g m).1 ≤ 10 * 999000000000 := Nat.mul_le_mul (by omega) (by omega)
  have a6 : g * (dU m * 10) ≤ 999 * 10000000000 := Nat.mul_le_mul hg (by omega)
  omega
theorem lN_lt_iff {a b : Nat} (ha : a < 2 ^ 63) (hb : b < 2 ^ 63) : (0 ≤ lg_cmp (lN a) (lN b)) ↔ ¬ a < b := by
  rw [lg_cmp_ge, pk_lLE hb ha]; omega
theorem nI_10 {s : Nat} (hs : s ≤ 10) : ((10 : Int32) - nI s).toInt64 = lN (10 - s) := by
  rw [show (10 : Int32) = nI 10 from rfl, pk_sub hs, nI_l (by omega)]
theorem c_door {X : XS} (s b g n q : Int32) (h : Hp) : EvL X m_Us_door [vR [0], vI s, vI b, vI g, vI n, vI q] h (fun x h' => x = doorS s b g n q ∧ h' = h) := by
  apply e_Us_door
  apply g_Us_door_0
  refine callB (s_isNotIn _ _ _ _) (fun c1 => z1b ⟨_, rfl, by unfold doorS; rw [if_neg (fun z => c1 z.1)], rfl⟩) (fun c1 => z0b ?_)
  refine callB (s_isNotIn _ _ _ _) (fun c2 => z1b ⟨_, rfl, by unfold doorS; rw [if_neg (fun z => c2 z.2.1)], rfl⟩) (fun c2 => z0b ?_)
  refine callB (s_isNotIn _ _ _ _) (fun c3 => z1a ⟨_, rfl, by unfold doorS; rw [if_neg (fun z => c3 z.2.2.1)], rfl⟩) (fun c3 => z0a ?_)
  refine callB (s_isNotIn _ _ _ _) (fun c4 => z1b ⟨_, rfl, by unfold doorS; rw [if_neg (fun z => c4 z.2.2.2.1)], rfl⟩) (fun c4 => z0b ?_)
  refine callB (s_isNotIn _ _ _ _) (fun c5 => z1a ⟨_, rfl, by unfold doorS; rw [if_neg (fun z => c5 z.2.2.2.2)], rfl⟩) (fun c5 => z0a ?_)
  have ok : doorOk s b g n q := ⟨Classical.not_not.mp c1, Classical.not_not.mp c2, Classical.not_not.mp c3, Classical.not_not.mp c4, Classical.not_not.mp c5⟩
  have e0 : doorS s b g n q = doorN s.toNatClampNeg b.toNatClampNeg g.toNatClampNeg n.toNatClampNeg q := by unfold doorS; rw [if_pos ok]
  rw [e0]
  obtain ⟨s', hs, rfl⟩ := nI_rng (n := 10) ok.1.1 ok.1.2 (by decide)
  obtain ⟨b', hb, rfl⟩ := nI_rng (n := 10) ok.2.1.1 ok.2.1.2 (by decide)
  obtain ⟨g', hg, rfl⟩ := nI_rng (n := 999) ok.2.2.1.1 ok.2.2.1.2 (by decide)
  obtain ⟨n', hn, rfl⟩ := nI_rng (n := 8) ok.2.2.2.1.1 ok.2.2.2.1.2 (by decide)
  rw [nI_clamp (by omega), nI_clamp (by omega), nI_clamp (by omega), nI_clamp (by omega)]
  have lp : ∀ (k m : Nat), m + k = n' → Rn X m_Us_door 78 [some (vR [0]), some (vI (nI s')), some (vI (nI b')), some (vI (nI g')), some (vI (nI n')), some (vI q), some (vL (lN (dU m))), none, some (vL (lN (dL s' b' g' m).1)), none, some (vI (nI (dL s' b' g' m).2)), some (vI (nI (m + 1))), none, none, none] [] h (fun v h' => ∃ x, v = some (vL x) ∧ x = doorN s' b' g' n' q ∧ h' = h) := by
    intro k
    induction k with
    | zero =>
      intro m hm
      have : m = n' := by omega
      subst this
      have hb1 := d_bound hs hb hg hn
      have hu := dU_ok m hn
      refine g_Us_door_78 _ _ _ _ _ _ _ _ _ _ _ (cT (nI_lt (by omega) (by omega)) ⟨fun c => ?_, fun c => ?_⟩)
      · refine callL (s_lowest _ _ q (by omega) (by omega) (by omega) h) ⟨_, rfl, ?_, rfl⟩
        unfold doorN
        rw [if_neg c]
      · refine ⟨_, rfl, ?_, rfl⟩
        have := (dL_le s' b' g' m).2
        unfold doorN
        rw [if_pos c, nI_l (by omega)]
    | succ k ih =>
      intro m hm
      have hb1 := d_bound hs hb hg (m := m) (by omega)
      have hu := dU_ok m (by omega)
      have hl := (dL_le s' b' g' m).2
      refine g_Us_door_78 _ _ _ _ _ _ _ _ _ _ _ (cF (nI_nlt (by omega) (by omega)) ?_)
      rw [nI_10 hs, nI_l (by omega), nI_l (by omega), nI_l (by omega), show (10 : Int64) = lN 10 from rfl, lN_mul, lN_mul, lN_mul, pk_lDiv (by omega) (by decide) (by decide), lN_mul, lN_mul, lN_mul, lN_add, lN_add, lN_lt_iff (by omega) (by omega)]
      have k2 := ih (m + 1) (by omega)
      have e2 : dU (m + 1) = dU m * 10 := by unfold dU; rw [Nat.pow_succ]
      rw [e2] at k2
      refine ⟨fun c => ?_, fun c => ?_⟩
      · apply g_Us_door_142
        refine z0a (g_Us_door_159 _ _ _ _ _ _ _ _ _ _ _ _ _ _ (z0a ?_))
        simp only [dL] at k2
        rw [if_neg c] at k2
        rw [nI_l (by omega), lN_mul, nI_add1]
        exact k2
      · have c := Classical.not_not.mp c
        apply g_Us_door_142
        refine z1a (g_Us_door_159 _ _ _ _ _ _ _ _ _ _ _ _ _ _ (z1a ?_))
        simp only [dL] at k2
        rw [if_pos c] at k2
        rw [nI_add1, nI_add1]
        exact k2
  have := lp n' 0 (by omega)
  rw [nI_l (by omega), show (10 : Int64) = lN 10 from rfl, lN_mul]
  exact this
theorem gcd10 (a b : Nat) : Nat.gcd (10 * a) (10 * b) = 10 * Nat.gcd a b := Nat.gcd_mul_left 10 a b
theorem r_door {X : XS} (s b g n q : Int32) (h : Hp) : EvL X m_Rf_door [vR [1], vI s, vI b, vI g, vI n, vI q] h (fun x h' => x = doorS s b g n q ∧ h' = h) := by
  apply e_Rf_door
  apply g_Rf_door_0
  refine callB (s_in _ _ _ _) (fun c1 => z1a ?_) (fun c1 => z0a ⟨_, rfl, by unfold doorS; rw [if_neg (fun z => c1 z.1)], rfl⟩)
  refine callB (s_in _ _ _ _) (fun c2 => z1a ?_) (fun c2 => z0a ⟨_, rfl, by unfold doorS; rw [if_neg (fun z => c2 z.2.1)], rfl⟩)
  refine callB (s_in _ _ _ _) (fun c3 => z1a ?_) (fun c3 => z0a ⟨_, rfl, by unfold doorS; rw [if_neg (fun z => c3 z.2.2.1)], rfl⟩)
  refine callB (s_in _ _ _ _) (fun c4 => z1a ?_) (fun c4 => z0a ⟨_, rfl, by unfold doorS; rw [if_neg (fun z => c4 z.2.2.2.1)], rfl⟩)
  refine callB (s_in _ _ _ _) (fun c5 => z1b ?_) (fun c5 => z0b ⟨_, rfl, by unfold doorS; rw [if_neg (fun z => c5 z.2.2.2.2)], rfl⟩)
  have ok : doorOk s b g n q := ⟨c1, c2, c3, c4, c5⟩
  have e0 : doorS s b g n q = doorN s.toNatClampNeg b.toNatClampNeg g.toNatClampNeg n.toNatClampNeg q := by unfold doorS; rw [if_pos ok]
  rw [e0]
  obtain ⟨s', hs, rfl⟩ := nI_rng (n := 10) ok.1.1 ok.1.2 (by decide)
  obtain ⟨b', hb, rfl⟩ := nI_rng (n := 10) ok.2.1.1 ok.2.1.2 (by decide)
  obtain ⟨g', hg, rfl⟩ := nI_rng (n := 999) ok.2.2.1.1 ok.2.2.1.2 (by decide)
  obtain ⟨n', hn, rfl⟩ := nI_rng (n := 8) ok.2.2.2.1.1 ok.2.2.2.1.2 (by decide)
  rw [nI_clamp (by omega), nI_clamp (by omega), nI_clamp (by omega), nI_clamp (by omega)]
  have lp : ∀ (k m : Nat), m + k = n' → Rn X m_Rf_door 75 [some (vR [1]), some (vI (nI s')), some (vI (nI b')), some (vI (nI g')), some (vI (nI n')), some (vI q), some (vL (lN (10 * dU m))), none, some (vL (lN (10 * (dL s' b' g' m).1))), none, some (vI (nI (dL s' b' g' m).2)), some (vI (nI m)), none, none, none] [] h (fun v h' => ∃ x, v = some (vL x) ∧ x = doorN s' b' g' n' q ∧ h' = h) := by
    intro k
    induction k with
    | zero =>
      intro m hm
      have : m = n' := by omega
      subst this
      have hb1 := d_bound hs hb hg hn
      have hu := dU_ok m hn
      have hgp : 0 < Nat.gcd (dL s' b' g' m).1 (dU m) := Nat.gcd_pos_of_pos_right _ (by omega)
      have hgl : Nat.gcd (dL s' b' g' m).1 (dU m) ≤ dU m := Nat.gcd_le_right _ (by omega)
      refine g_Rf_door_75 _ _ _ _ _ _ _ _ _ _ _ (cT (nI_le (Nat.le_refl _) (by omega)) ⟨fun c => ⟨fun c2 => ?_, fun c2 => ?_⟩, fun c => ?_⟩)
      · apply g_Rf_door_207
        refine callL (s_gcd _ _ (by omega) (by omega) h) ⟨lN_ne0 (by rw [gcd10]; omega) (by rw [gcd10]; omega), _, rfl, ?_, rfl⟩
        rw [gcd10, pk_lDiv (by omega) (by omega) (by omega), Nat.mul_div_mul_left _ _ (by decide)]
        unfold doorN
        rw [if_neg c, if_neg c2]
      · apply g_Rf_door_207
        refine callL (s_gcd _ _ (by omega) (by omega) h) ⟨lN_ne0 (by rw [gcd10]; omega) (by rw [gcd10]; omega), _, rfl, ?_, rfl⟩
        rw [gcd10, pk_lDiv (by omega) (by omega) (by omega), Nat.mul_div_mul_left _ _ (by decide)]
        unfold doorN
        rw [if_neg c, if_pos c2]
      · refine ⟨_, rfl, ?_, rfl⟩
        have := (dL_le s' b' g' m).2
        unfold doorN
        rw [if_pos c, nI_l (by omega)]
    | succ k ih =>
      intro m hm
      have hb1 := d_bound hs hb hg (m := m) (by omega)
      have hu := dU_ok m (by omega)
      have hl := (dL_le s' b' g' m).2
      refine g_Rf_door_75 _ _ _ _ _ _ _ _ _ _ _ (cF (nI_ge (by omega) (by omega)) ?_)
      have ew : 10 * (10 * dU m) + (10 * (10 * dU m)) / 100 * s' * b' * g' + (10 - s') * (10 * (dL s' b' g' m).1) = 10 * (dU m * 10 + s' * b' * g' * (dU m / 10) + (10 - s') * (dL s' b' g' m).1) := by
        have e1 : (10 * (10 * dU m)) / 100 = dU m := by omega
        have e2 : dU m * s' * b' * g' = 10 * (s' * b' * g' * (dU m / 10)) := by
          rw [show 10 * (s' * b' * g' * (dU m / 10)) = (10 * (dU m / 10)) * (s' * b' * g') by ac_rfl, hu.2.1]
          ac_rfl
        rw [e1, e2, show (10 - s') * (10 * (dL s' b' g' m).1) = 10 * ((10 - s') * (dL s' b' g' m).1) by ac_rfl]
        omega
      have eg : 10 * dU m * 10 * g' = 10 * (g' * (dU m * 10)) := by ac_rfl
      rw [nI_10 hs, nI_l (by omega), nI_l (by omega), nI_l (by omega), show (10 : Int64) = lN 10 from rfl, show (100 : Int64) = lN 100 from rfl, lN_mul, pk_lDiv (by omega) (by decide) (by decide), lN_mul, lN_mul, lN_mul, lN_mul, lN_add, lN_add, lN_mul, lN_mul, ew, eg, lN_lt_iff (by omega) (by omega)]
      have k2 := ih (m + 1) (by omega)
      have e2 : dU (m + 1) = dU m * 10 := by unfold dU; rw [Nat.pow_succ]
      rw [e2] at k2
      refine ⟨fun c => ?_, fun c => ?_⟩
      · apply g_Rf_door_143
        refine z0a (g_Rf_door_160 _ _ _ _ _ _ _ _ _ _ _ _ _ _ (z0a ?_))
        simp only [dL] at k2
        rw [if_neg (by omega)] at k2
        rw [nI_l (by omega), lN_mul, nI_add1, eg, show 10 * dU m * 10 = 10 * (dU m * 10) by omega]
        exact k2
      · have c := Classical.not_not.mp c
        apply g_Rf_door_143
        refine z1a (g_Rf_door_160 _ _ _ _ _ _ _ _ _ _ _ _ _ _ (z1a ?_))
        simp only [dL] at k2
        rw [if_pos (by omega)] at k2
        rw [nI_add1, nI_add1, show 10 * dU m * 10 = 10 * (dU m * 10) by omega]
        exact k2
  have := lp n' 0 (by omega)
  rw [nI_l (by omega), show (100 : Int64) = lN 100 from rfl, lN_mul]
  have e3 : 10 * (dL s' b' g' 0).1 = 100 * g' := by show 10 * (g' * 10) = 100 * g'; omega
  rw [e3] at this
  exact this
