/-! a stop: the class -/
theorem top_f {S : Nat → Bool} {f : Nat → Nat} {m : Nat} (h : S m = false) : topG S f (m + 1) = topG S f m := by
  rw [topG]
  cases e : topG S f m with
  | none => simp [h]
  | some b => simp [h]
theorem top_n {S : Nat → Bool} {f : Nat → Nat} {m : Nat} (h : S m = true) (e : topG S f m = none) : topG S f (m + 1) = some m := by
  rw [topG, e]; simp [h]
theorem top_s {S : Nat → Bool} {f : Nat → Nat} {m b : Nat} (h : S m = true) (e : topG S f m = some b) : topG S f (m + 1) = if f b < f m then some m else some b := by
  rw [topG, e]; simp [h]
def FB (O : RW) (n : Nat) (frm : Int32) (b : Nat) : Prop := (frm = -1 ∧ b = 80) ∨ ∃ j, j < n ∧ frm = nI j ∧ b = kk O j
def RwC (O R : RW) (h : Hp) : Prop := h.1 [7, 0] 0 = O 0 0 ∧ (∀ j, j < 3 → ∀ i, i < 8 → h.1 [1 + j, 7, 0] i = O (1 + j) i) ∧ (∀ i, i < 8 → h.1 [4, 7, 0] i = R 0 i) ∧ ∀ x, x < 20 → h.1 [5, 7, 0] x = R 1 x
def CHW (h h' : Hp) : Prop := h'.2 = h.2 ∧ ∀ q, q ≠ [4, 7, 0] → q ≠ [5, 7, 0] → h'.1 q = h.1 q
theorem CHW.rf {h : Hp} : CHW h h := ⟨rfl, fun _ _ _ => rfl⟩
theorem CHW.tr {a b c : Hp} (h1 : CHW a b) (h2 : CHW b c) : CHW a c := ⟨h2.1.trans h1.1, fun q x y => (h2.2 q x y).trans (h1.2 q x y)⟩
theorem CHW.ch {h h' : Hp} (c : CHW h h') : CH [7, 0] h h' := ⟨c.1, fun q _ b => c.2 q (b 4) (b 5)⟩
theorem toI_none : toI none = -1 := rfl
theorem toI_some {i : Nat} : toI (some i) = nI i := rfl
theorem nI_nm {i : Nat} (h : i < 1000) : ¬ nI i = -1 := by
  intro z
  have h0 : (0 : Int32) ≤ nI i := nI_pos' (by omega)
  rw [z] at h0; exact absurd h0 (by decide)
theorem n8 {k : Nat} (h : k < 8) : ¬ (8 : Int32) ≤ nI k := by rw [show (8 : Int32) = nI 8 from rfl]; exact nI_ge h (by decide)
theorem v8 {k : Nat} (h : k < 8) : vp_in (nI k) 8 := vp_in_nI h (by decide)
theorem n20 {k : Nat} (h : k < 20) : ¬ (20 : Int32) ≤ nI k := by rw [show (20 : Int32) = nI 20 from rfl]; exact nI_ge h (by decide)
section CRW
variable {X : XS} {h : Hp} {O R : RW} {n : Nat}
theorem c_isLower (hO : rowOK O n) (hR : RwC O R h) {i b : Nat} {frm : Int32} (hi : i < n) (hf : FB O n frm b) : EvI X m_Ro_isLower [vR [7, 0], vI (nI i), vI frm] h (fun r h' => r = bI (kk O i < b) ∧ h' = h) := by
  have n8' := hO.1
  apply e_Ro_isLower
  refine g_Ro_isLower_0 _ _ _ _ (cF (nI_pos (by omega)) (cF (n8 (by omega)) ?_))
  rcases hf with ⟨rfl, rfl⟩ | ⟨j, hj, rfl, rfl⟩
  · exact cT (by decide) (g_Ro_isLower_20 _ _ _ _ (cT' rfl ⟨_, rfl, eqT (kk_lt hO hi), rfl⟩))
  · refine cF (nI_pos (by omega)) (cT (by rw [show (8 : Int32) = nI 8 from rfl]; exact nI_lt (by omega) (by decide)) ⟨v8 (by omega), v8 (by omega), ?_⟩)
    have e1 := hR.2.1 2 (by omega) i (by omega)
    have e2 := hR.2.1 2 (by omega) j (by omega)
    rw [show 1 + 2 = 3 from rfl] at e1 e2
    rw [ci (by omega), ci (by omega), e1, e2]
    have kl := kk_lower hO hi hj
    refine ⟨fun c => ⟨_, rfl, eqT (kl.mp (Or.inl c)), rfl⟩, fun c => ⟨v8 (by omega), v8 (by omega), fun c2 => ⟨_, rfl, eqF (fun z => ?_), rfl⟩, fun c2 => ⟨fun c3 => ⟨_, rfl, eqF (fun z => ?_), rfl⟩, fun c3 => ⟨_, rfl, eqT (kl.mp (Or.inr ⟨c2, ?_⟩)), rfl⟩⟩⟩⟩
    · rcases kl.mpr z with y | y
      · exact c y
      · exact c2 y.1
    · rw [nI_leI (by omega) (by omega)] at c3
      rcases kl.mpr z with y | y
      · exact c y
      · omega
    · rw [nI_leI (by omega) (by omega)] at c3; omega
theorem c_isOverR (hO : rowOK O n) (hR : RwC O R h) {i x : Nat} (hi : i < n) : EvI X m_Ro_isOver [vR [7, 0], vI (nI i), vI (nI x)] h (fun r h' => r = bI (ovS O i x) ∧ h' = h) := by
  have n8' := hO.1
  apply e_Ro_isOver
  refine g_Ro_isOver_0 _ _ _ _ (cF (nI_pos (by omega)) (cF (n8 (by omega)) ⟨v8 (by omega), v8 (by omega), ?_⟩))
  have e1 := hR.2.1 0 (by omega) i (by omega)
  have e2 := hR.2.1 1 (by omega) i (by omega)
  rw [show 1 + 0 = 1 from rfl] at e1
  rw [show 1 + 1 = 2 from rfl] at e2
  rw [ci (by omega), e1, e2]
  unfold ovS
  exact ⟨fun c => ⟨_, rfl, eqF (by grind), rfl⟩, fun c => ⟨_, rfl, eqT (by grind), rfl⟩⟩
theorem c_drop (hO : rowOK O n) (hR : RwC O R h) {b : Nat} {frm x amt : Int32} (hf : FB O n frm b) : EvV X m_Ro_drop [vR [7, 0], vI x, vI amt, vI frm] h (fun h' => RwC O (dropX O n x amt b R) h' ∧ CHW h h') := by
  have n8' := hO.1
  apply e_Ro_drop
  refine g_Ro_drop_0 _ _ _ _ _ ⟨fun c => ⟨rfl, by rw [dropX, if_neg (by grind)]; exact hR, CHW.rf⟩, fun c => ⟨fun c2 => ?_, fun c2 => ⟨rfl, by rw [dropX, if_neg (by grind)]; exact hR, CHW.rf⟩⟩⟩
  obtain ⟨a, ha, rfl⟩ := x_rng (x := x) ⟨by grind, c2⟩
  have ed : dropX O n (nI a) amt b R = dropS O n a amt b R := by
    rw [dropX, if_pos ⟨by grind, c2⟩, ci (by omega)]
  rw [ed]
  have fin : ∀ z : Int32, Rn X m_Ro_drop 80 [some (vR [7, 0]), some (vI (nI a)), some (vI amt), some (vI frm), some (vI (toI (topG (fun i => decide (ovS O i a) && decide (kk O i < b)) (kk O) n))), some (vI z)] [] h (fun v h' => v = none ∧ RwC O (dropS O n a amt b R) h' ∧ CHW h h') := by
    intro z
    apply g_Ro_drop_80
    cases e : topG (fun i => decide (ovS O i a) && decide (kk O i < b)) (kk O) n with
    | none =>
      rw [toI_none, ci (by omega), hR.2.2.2 a ha]
      refine cT (by decide) ⟨vp_in_nI ha (by decide), vp_in_nI ha (by decide), rfl, ?_, ⟨rfl, fun q x y => hsI_other y⟩⟩
      rw [dropS, e]
      obtain ⟨r1, r2, r3, r4⟩ := hR
      refine ⟨?_, fun j hj i hi => ?_, fun i hi => ?_, fun y hy => ?_⟩
      · rw [hsI_other (by simp)]; exact r1
      · rw [hsI_other (by simp; omega)]; exact r2 j hj i hi
      · rw [hsI_other (by simp), r3 i hi]; simp only; unfold u2; rw [if_neg (by omega)]
      · simp only [rd, true_and]; unfold u2; rw [r4 y hy]; by_cases q : y = a <;> simp [q]
    | some j =>
      obtain ⟨t1, -, -⟩ := top_some n j e
      rw [toI_some, ci (k := j) (by omega), hR.2.2.1 j (by omega)]
      refine cF (nI_pos (by omega)) (cF (n8 (by omega)) ⟨v8 (by omega), v8 (by omega), rfl, ?_, ⟨rfl, fun q x y => hsI_other x⟩⟩)
      rw [dropS, e]
      obtain ⟨r1, r2, r3, r4⟩ := hR
      refine ⟨?_, fun j hj i hi => ?_, fun i hi => ?_, fun y hy => ?_⟩
      · rw [hsI_other (by simp)]; exact r1
      · rw [hsI_other (by simp; omega)]; exact r2 j hj i hi
      · simp only [rd, true_and]; unfold u2; rw [r3 i hi]; by_cases q : i = j <;> simp [q]
      · rw [hsI_other (by simp), r4 y hy]; simp only; unfold u2; rw [if_neg (by omega)]
  have lp : ∀ (k m : Nat), m + k = n → Rn X m_Ro_drop 17 [some (vR [7, 0]), some (vI (nI a)), some (vI amt), some (vI frm), some (vI (toI (topG (fun i => decide (ovS O i a) && decide (kk O i < b)) (kk O) m))), some (vI (nI m))] [] h (fun v h' => v = none ∧ RwC O (dropS O n a amt b R) h' ∧ CHW h h') := by
    intro k
    induction k with
    | zero =>
      intro m hm
      have : m = n := by omega
      subst this
      apply g_Ro_drop_17
      rw [hR.1, hO.2.1]
      exact cT (nI_leI (by omega) (by omega) |>.mpr (Nat.le_refl _)) (fin _)
    | succ k ih =>
      intro m hm
      have hmn : m < n := by omega
      have ihm := ih (m + 1) (by omega)
      apply g_Ro_drop_17
      rw [hR.1, hO.2.1, nI_add1]
      refine cF (fun z => absurd ((nI_leI (by omega) (by omega)).mp z) (by omega)) (cF (n8 (by omega)) (callB (c_isOverR hO hR hmn) (fun z => z1a (callB (c_isLower hO hR hmn hf) (fun z2 => z1a ?_) (fun z2 => z0a ?_))) (fun z => z0a ?_)))
      · have hS : (decide (ovS O m a) && decide (kk O m < b)) = true := by simp only [Bool.and_eq_true, decide_eq_true_eq]; exact ⟨z, z2⟩
        cases e : topG (fun i => decide (ovS O i a) && decide (kk O i < b)) (kk O) m with
        | none =>
          rw [top_n hS e] at ihm
          rw [toI_none]
          exact cT rfl ihm
        | some j =>
          obtain ⟨t1, -, -⟩ := top_some m j e
          rw [top_s hS e] at ihm
          rw [toI_some]
          refine cF (nI_nm (by omega)) (callB (c_isLower hO hR (by omega) (Or.inr ⟨m, hmn, rfl, rfl⟩)) (fun y => z1a ?_) (fun y => z0a ?_))
          · rw [if_pos y] at ihm; exact ihm
          · rw [if_neg y] at ihm; exact ihm
      · rw [top_f (by simp [z2])] at ihm; exact ihm
      · rw [top_f (by simp [z])] at ihm; exact ihm
  exact lp n 0 (by omega)
abbrev posB (O : RW) (b : Nat) : Nat → Bool := fun i => decide (0 < O 2 i) && decide (kk O i < b)
theorem c_highest (hO : rowOK O n) (hR : RwC O R h) {b : Nat} {frm : Int32} (hf : FB O n frm b) : EvI X m_Ro_highestBelow [vR [7, 0], vI frm] h (fun r h' => r = toI (topG (posB O b) (kk O) n) ∧ h' = h) := by
  have n8' := hO.1
  apply e_Ro_highestBelow
  apply g_Ro_highestBelow_0
  have lp : ∀ (k m : Nat), m + k = n → Rn X m_Ro_highestBelow 4 [some (vR [7, 0]), some (vI frm), some (vI (toI (topG (posB O b) (kk O) m))), some (vI (nI m))] [] h (fun v h' => ∃ r, v = some (vI r) ∧ r = toI (topG (posB O b) (kk O) n) ∧ h' = h) := by
    intro k
    induction k with
    | zero =>
      intro m hm
      have : m = n := by omega
      subst this
      apply g_Ro_highestBelow_4
      rw [hR.1, hO.2.1]
      exact cT (nI_leI (by omega) (by omega) |>.mpr (Nat.le_refl _)) ⟨_, rfl, rfl, rfl⟩
    | succ k ih =>
      intro m hm
      have hmn : m < n := by omega
      have ihm := ih (m + 1) (by omega)
      have e2 := hR.2.1 1 (by omega) m (by omega)
      rw [show 1 + 1 = 2 from rfl] at e2
      apply g_Ro_highestBelow_4
      rw [hR.1, hO.2.1, nI_add1, ci (by omega), e2]
      refine cF (fun z => absurd ((nI_leI (by omega) (by omega)).mp z) (by omega)) (cF (n8 (by omega)) ⟨v8 (by omega), fun z => ?_, fun z => callB (c_isLower hO hR hmn hf) (fun z2 => z1a ?_) (fun z2 => z0a ?_)⟩)
      · have hS : posB O b m = false := by simp; intro y; exact absurd z (by grind)
        rw [top_f hS] at ihm; exact ihm
      · have hS : posB O b m = true := by simp only [Bool.and_eq_true, decide_eq_true_eq]; exact ⟨by grind, z2⟩
        cases e : topG (posB O b) (kk O) m with
        | none =>
          rw [top_n hS e] at ihm
          rw [toI_none]
          exact cT rfl ihm
        | some j =>
          obtain ⟨t1, -, -⟩ := top_some m j e
          rw [top_s hS e] at ihm
          rw [toI_some]
          refine cF (nI_nm (by omega)) (callB (c_isLower hO hR (by omega) (Or.inr ⟨m, hmn, rfl, rfl⟩)) (fun y => z1a ?_) (fun y => z0a ?_))
          · rw [if_pos y] at ihm; exact ihm
          · rw [if_neg y] at ihm; exact ihm
      · rw [top_f (by simp [z2])] at ihm; exact ihm
  exact lp n 0 (by omega)
theorem c_runOff (hO : rowOK O n) (hR : RwC O R h) {i : Nat} (hi : i < n) : EvV X m_Ro_runOff [vR [7, 0], vI (nI i)] h (fun h' => RwC O (flowS O n i R) h' ∧ CHW h h') := by
  have n8' := hO.1
  have r2 := fun (hh : Hp) (R2 : RW) (q : RwC O R2 hh) => (show hh.1 [1, 7, 0] i = O 1 i from q.2.1 0 (by omega) i (by omega))
  have r3 := fun (hh : Hp) (R2 : RW) (q : RwC O R2 hh) => (show hh.1 [2, 7, 0] i = O 2 i from q.2.1 1 (by omega) i (by omega))
  apply e_Ro_runOff
  refine g_Ro_runOff_0 _ _ _ (cF (nI_pos (by omega)) (cT (by rw [show (8 : Int32) = nI 8 from rfl]; exact nI_lt (by omega) (by decide)) ⟨v8 (by omega), v8 (by omega), v8 (by omega), v8 (by omega), ?_⟩))
  rw [ci (by omega), r2 h R hR, r3 h R hR, hR.2.2.1 i (by omega)]
  refine callN (c_drop hO hR (Or.inr ⟨i, hi, rfl, rfl⟩)) (fun h7 q7 => ⟨v8 (by omega), v8 (by omega), ?_⟩)
  rw [r2 h7 _ q7.1, r3 h7 _ q7.1]
  exact callN (c_drop hO q7.1 (Or.inr ⟨i, hi, rfl, rfl⟩)) (fun h9 q9 => ⟨rfl, q9.1, q7.2.tr q9.2⟩)
theorem pos_step (hO : rowOK O n) {b i : Nat} (e : topG (posB O b) (kk O) n = some i) {R : RW} (hn : noW O n R) (hb : b ≤ 80) : rainV O n b R = rainV O n (kk O i) (flowS O n i R) ∧ cntB (posB O b) n = cntB (posB O (kk O i)) n + 1 := by
  obtain ⟨t1, t2, t3⟩ := top_some n i e
  have t2' := t2
  simp only [Bool.and_eq_true, decide_eq_true_eq] at t2
  refine ⟨?_, cntB_1 t2' (by simp) n t1 (fun j hj hji => ?_)⟩
  · rw [← rain_at hO t1]
    refine rain_skip b (kk O i + 1) (by omega) (fun j hj h1 h2 => run_0 hj hn ?_)
    obtain ⟨s, hs, es⟩ := (hO.2.2 j hj).2.1
    by_cases z : 0 < O 2 j
    · have := t3 j hj (by simp only [Bool.and_eq_true, decide_eq_true_eq]; exact ⟨z, h2⟩)
      omega
    · have h0 : (0 : Int32) ≤ nI s := nI_pos' (by omega)
      rw [es] at z ⊢; grind
  · by_cases z : 0 < O 2 j ∧ kk O j < b
    · have h1 := t3 j hj (by simp only [Bool.and_eq_true, decide_eq_true_eq]; exact z)
      have h2 : kk O j ≠ kk O i := fun y => hji (kk_inj hO hj t1 y)
      simp only [posB]
      have a1 : kk O j < kk O i := by omega
      simp [z.1, z.2, a1]
    · simp only [posB]
      by_cases y : 0 < O 2 j
      · have a1 : ¬ kk O j < b := fun x => z ⟨y, x⟩
        have a2 : ¬ kk O j < kk O i := by omega
        simp [a1, a2]
      · simp [y]
theorem pos_end (hO : rowOK O n) {b : Nat} (e : ∀ j, j < n → posB O b j = false) {R : RW} (hn : noW O n R) : rainV O n b R = R := by
  have := rain_skip (O := O) (n := n) (R := R) b 0 (by omega) (fun j hj _ h2 => run_0 hj hn (by
    obtain ⟨s, hs, es⟩ := (hO.2.2 j hj).2.1
    have := e j hj
    simp only [Bool.and_eq_false_iff, decide_eq_false_iff_not] at this
    rcases this with y | y
    · have h0 : (0 : Int32) ≤ nI s := nI_pos' (by omega)
      rw [es] at y ⊢; grind
    · exact absurd h2 y))
  exact this
theorem c_rainLoop (hO : rowOK O n) : ∀ (k a2 b : Nat) (hh : Hp) (R : RW), a2 + k = 8 → b ≤ 80 → cntB (posB O b) n ≤ k → RwC O R hh → noW O n R → rainV O n b R = allS O n → CHW h hh → Rn X m_Ro_letItRain 47 [some (vR [7, 0]), some (vI (toI (topG (posB O b) (kk O) n))), some (vI (nI a2))] [] hh (fun v h' => v = none ∧ RwC O (allS O n) h' ∧ CHW h h') := by
  have n8' := hO.1
  intro k
  induction k with
  | zero =>
    intro a2 b hh R ha hb hc hR hn hr hw
    have : a2 = 8 := by omega
    subst this
    refine g_Ro_letItRain_47 _ _ _ _ (cT (by decide) ⟨rfl, ?_, hw⟩)
    rw [pos_end hO (cntB_0 n (by omega)) hn] at hr
    rw [← hr]; exact hR
  | succ k ih =>
    intro a2 b hh R ha hb hc hR hn hr hw
    refine g_Ro_letItRain_47 _ _ _ _ (cF (n8 (by omega)) ?_)
    cases e : topG (posB O b) (kk O) n with
    | none =>
      rw [toI_none]
      refine cT (by decide) ⟨rfl, ?_, hw⟩
      rw [pos_end hO (top_none e) hn] at hr
      rw [← hr]; exact hR
    | some i =>
      obtain ⟨t1, -, -⟩ := top_some n i e
      obtain ⟨p1, p2⟩ := pos_step hO e hn hb
      rw [toI_some, nI_add1]
      refine cF (nI_pos (by omega)) (cF (n8 (by omega)) (callN (c_runOff hO hR t1) (fun h3 q3 => callP (c_highest hO q3.1 (Or.inr ⟨i, t1, rfl, rfl⟩)) ?_)))
      exact ih (a2 + 1) (kk O i) h3 _ (by omega) (by have := kk_lt hO t1; omega) (by omega) q3.1 (noW_run hO hn) (by rw [← p1]; exact hr) (hw.tr q3.2)
end CRW
