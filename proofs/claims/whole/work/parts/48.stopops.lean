/-! stand, wet, driest -/
theorem driG_none {O R : RW} {n x : Nat} (z : ¬ taken O n x = true) (e : driG O R n x = none) : driG O R n (x + 1) = some x := by
  rw [driG, if_neg z, e]
theorem driG_some {O R : RW} {n x b : Nat} (z : ¬ taken O n x = true) (e : driG O R n x = some b) : driG O R n (x + 1) = if R 1 x < R 1 b then some x else some b := by
  rw [driG, if_neg z, e]
theorem taken_iff {O : RW} {x : Nat} : ∀ n, taken O n x = true ↔ ∃ i, i < n ∧ O 1 i = nI x
  | 0 => ⟨fun h => by simp [taken] at h, fun ⟨i, hi, _⟩ => absurd hi (by omega)⟩
  | n + 1 => by
    rw [taken, Bool.or_eq_true, decide_eq_true_eq, taken_iff n]
    refine ⟨fun h => ?_, fun ⟨i, hi, e⟩ => ?_⟩
    · rcases h with h | ⟨i, hi, e⟩
      · exact ⟨n, by omega, h⟩
      · exact ⟨i, by omega, e⟩
    · by_cases z : i = n
      · subst z; exact Or.inl e
      · exact Or.inr ⟨i, by omega, e⟩
section SOP
variable {X : XS} {h : Hp} {L N : Nat} {P W : RW} {K : Nat → RW} {T O R : RW} {n : Nat}
theorem c_isTaken (hO : rowOK O n) (h0 : h.1 [7, 0] 0 = O 0 0) (h1 : ∀ i, i < 8 → h.1 [1, 7, 0] i = O 1 i) {x : Nat} : EvI X m_Ro_isTaken [vR [7, 0], vI (nI x)] h (fun r h' => r = bI (taken O n x = true) ∧ h' = h) := by
  have n8' := hO.1
  apply e_Ro_isTaken
  apply g_Ro_isTaken_0
  have lp : ∀ (k m : Nat), m + k = n → (∀ i, i < m → O 1 i ≠ nI x) → Rn X m_Ro_isTaken 2 [some (vR [7, 0]), some (vI (nI x)), some (vI (nI m))] [] h (fun v h' => ∃ r, v = some (vI r) ∧ r = bI (taken O n x = true) ∧ h' = h) := by
    intro k
    induction k with
    | zero =>
      intro m hm hj
      have : m = n := by omega
      subst this
      apply g_Ro_isTaken_2
      rw [h0, hO.2.1]
      refine cT (nI_leI (by omega) (by omega) |>.mpr (Nat.le_refl _)) ⟨_, rfl, eqF (fun z => ?_), rfl⟩
      obtain ⟨i, hi, e⟩ := (taken_iff m).mp z
      exact hj i hi e
    | succ k ih =>
      intro m hm hj
      apply g_Ro_isTaken_2
      rw [h0, hO.2.1, nI_add1, ci (by omega), h1 m (by omega)]
      refine cF (fun z => absurd ((nI_leI (by omega) (by omega)).mp z) (by omega)) (cF (n8 (by omega)) ⟨v8 (by omega), fun z => ih (m + 1) (by omega) (fun i hi => ?_), fun z => ⟨_, rfl, eqT ((taken_iff n).mpr ⟨m, by omega, z⟩), rfl⟩⟩)
      by_cases e : i = m
      · rw [e]; exact z
      · exact hj i (by omega)
  exact lp n 0 (by omega) (fun i hi => by omega)
theorem c_reaching (hR : RwC O R h) {x : Nat} (hx : x < 20) : EvI X m_Ro_reaching [vR [7, 0], vI (nI x)] h (fun r h' => r = R 1 x ∧ h' = h) := by
  apply e_Ro_reaching
  refine g_Ro_reaching_0 _ _ _ (cF (nI_pos (by omega)) (cF (n20 hx) ⟨vp_in_nI hx (by decide), _, rfl, ?_, rfl⟩))
  rw [ci (by omega)]; exact hR.2.2.2 x hx
theorem c_driestFree (hO : rowOK O n) (hR : RwC O R h) : EvI X m_Ro_driestFree [vR [7, 0]] h (fun r h' => r = toI (driG O R n 20) ∧ h' = h) := by
  apply e_Ro_driestFree
  apply g_Ro_driestFree_0
  have lp : ∀ (k x : Nat), x + k = 20 → Rn X m_Ro_driestFree 4 [some (vR [7, 0]), some (vI (toI (driG O R n x))), some (vI (nI x))] [] h (fun v h' => ∃ r, v = some (vI r) ∧ r = toI (driG O R n 20) ∧ h' = h) := by
    intro k
    induction k with
    | zero =>
      intro x hx
      have : x = 20 := by omega
      subst this
      exact g_Ro_driestFree_4 _ _ _ _ (cT (by decide) ⟨_, rfl, rfl, rfl⟩)
    | succ k ih =>
      intro x hx
      have ihx := ih (x + 1) (by omega)
      refine g_Ro_driestFree_4 _ _ _ _ (cF (n20 (by omega)) ?_)
      rw [nI_add1]
      refine callB (c_isTaken hO hR.1 (hR.2.1 0 (by omega))) (fun z => z1b ?_) (fun z => z0b ?_)
      · rw [driG, if_pos z] at ihx; exact ihx
      · cases e : driG O R n x with
        | none => rw [driG_none z e] at ihx; rw [toI_none]; exact cT rfl ihx
        | some b =>
          have hb := dri_lt x b e
          rw [driG_some z e] at ihx
          rw [toI_some, ci (k := x) (by omega), hR.2.2.2 x (by omega)]
          refine cF (nI_nm (by omega)) ⟨vp_in_nI (by omega) (by decide), callP (c_reaching hR (by omega)) ⟨fun y => ?_, fun y => ?_⟩⟩
          · rw [if_neg (by grind)] at ihx; exact ihx
          · rw [if_pos (by grind)] at ihx; exact ihx
  exact lp 20 0 rfl
theorem WFS.row (hF : WFS L N P W K T O) : ∃ n, rowOK O n := by
  obtain ⟨n, a, b, c⟩ := hF.2.2.2.2.2.2.2
  exact ⟨n, a, b, c⟩
theorem CST.rain {h' : Hp} (s : CST P W K T O h) (c : CHW h h') (hR : RwC O R h') : CST P W K T O h' := by
  refine s.io [7, 0] c.ch (by simp [Apart]) (by simp [Apart]) (fun k hk => by simp [Apart]) ?_ ?_ hR.1 hR.2.1
  · rw [c.2 _ (by simp) (by simp)]; exact s.2.2.2.1
  · intro i hi; rw [c.2 _ (by simp) (by simp)]; exact s.2.2.2.2.1 i hi
theorem op_wet (hI : Inv h) (a : Int32) : PairI X m_Us_wet m_Rf_wet [vI a] h := by
  obtain ⟨L, N, P, W, K, T, O, hC, hD, hF⟩ := id hI
  obtain ⟨n, hO⟩ := hF.row
  have n8' := hO.1
  have e0 : h.1 [7, 0] 0 = nI n := by rw [hC.2.2.2.2.2.1, hO.2.1]
  have e25 : h.1 [1] 25 = nI n := by rw [hD.2.2.2.2.2.2.1, hO.2.1]
  by_cases c : 0 ≤ a ∧ a < nI n
  · obtain ⟨i, hi, rfl⟩ := nI_of (x := a) (by grind)
    have hin : i < n := (nI_ltI hi (by omega)).mp c.2
    obtain ⟨x, hx, ex⟩ := (hO.2.2 i hin).1
    refine ⟨fun r h' => r = (allS O n) 1 x ∧ CST P W K T O h' ∧ OnC h h', ?_, fun r h1 q => ?_⟩
    · apply e_Us_wet
      apply g_Us_wet_0
      rw [e0]
      refine cF (nI_pos (by omega)) (cF (fun z => absurd ((nI_leI (by omega) (by omega)).mp z) (by omega)) (cT (by rw [show (8 : Int32) = nI 8 from rfl]; exact nI_lt (by omega) (by decide)) (callN (c_letItRain hO hC.2.2.2.2.2.1 hC.2.2.2.2.2.2) (fun h3 q3 => ⟨v8 (by omega), ?_⟩))))
      have e1 : h3.1 [1, 7, 0] i = O 1 i := q3.1.2.1 0 (by omega) i (by omega)
      rw [ci (by omega), e1, ex]
      exact callP (c_reaching q3.1 hx) ⟨_, rfl, rfl, hC.rain q3.2 q3.1, OnC.ch q3.2.ch rfl⟩
    · obtain ⟨q1, q2, q3⟩ := q
      have hD1 := hD.on q3
      refine ⟨fun r h' => r = (allS O n) 1 x ∧ DST P W K T O h' ∧ OnR h1 h', ?_, fun r' h2 q' => ⟨by rw [q1, q'.1], L, N, P, W, K, T, O, q2.on q'.2.2, q'.2.1, hF⟩⟩
      apply e_Rf_wet
      apply g_Rf_wet_0
      have e25' : h1.1 [1] 25 - 1 = nI (n - 1) := by rw [hD1.2.2.2.2.2.2.1, hO.2.1, show (1 : Int32) = nI 1 from rfl, pk_sub (by omega)]
      rw [e25']
      refine callB (s_in (nI i) 0 (nI (n - 1)) h1) (fun _ => z1b (callN (r_pour hO hD1.2.2.2.2.2.2.1 hD1.2.2.2.2.2.2.2) (fun h8 q8 => ?_))) (fun z => absurd ⟨c.1, (nI_leI (by omega) (by omega)).mpr (by omega)⟩ z)
      have e1 : h8.1 [26, 1] (3 * i) = O 1 i := q8.1.2.1 0 (by omega) i (by omega)
      rw [show (3 : Int32) = nI 3 from rfl, pk_mul, ci (k := 3 * i) (by omega), e1, ex, ci (k := x) (by omega), q8.1.2.2.2 x hx]
      exact ⟨vp_in_nI (by omega) (by decide), vp_in_nI hx (by decide), _, rfl, rfl, hD1.ch q8.2 (by simp), OnR.ch q8.2⟩
  · refine pairSame (f := -2) hI ?_ ?_
    · apply e_Us_wet
      apply g_Us_wet_0
      rw [e0]
      exact ⟨fun _ => ⟨_, rfl, rfl, rfl⟩, fun z => ⟨fun _ => ⟨_, rfl, rfl, rfl⟩, fun z2 => absurd ⟨by grind, by grind⟩ c⟩⟩
    · apply e_Rf_wet
      apply g_Rf_wet_0
      rw [e25]
      refine callB (s_in a 0 (nI n - 1) h) (fun z => absurd ⟨z.1, ?_⟩ c) (fun _ => z0b ⟨_, rfl, rfl, rfl⟩)
      have h1 : (0 : Int32) ≤ nI n := nI_pos' (by omega)
      grind
theorem r_driest {h1 : Hp} {w : Int32} (hO : rowOK O n) (hR : RwR O R h) (hD : DST P W K T O h) (ho : OnR h1 h) : Rn X m_Rf_driest 20 [some (vR [1]), some (vI w), some (vI (-1)), some (vI 0), none, none] [] h (fun v h' => ∃ r, v = some (vI r) ∧ (∀ b, driG O R n 20 = some b → r = if w = 0 then nI b else R 1 b) ∧ DST P W K T O h' ∧ OnR h1 h') := by
  have n8' := hO.1
  obtain ⟨bb, hbb, ebb⟩ := dri_ex (O := O) (R := R) n8'
  have lp : ∀ (k x : Nat), x + k = 20 → Rn X m_Rf_driest 20 [some (vR [1]), some (vI w), some (vI (toI (driG O R n x))), some (vI (nI x)), none, none] [] h (fun v h' => ∃ r, v = some (vI r) ∧ (∀ b, driG O R n 20 = some b → r = if w = 0 then nI b else R 1 b) ∧ DST P W K T O h' ∧ OnR h1 h') := by
    intro k
    induction k with
    | zero =>
      intro x hx
      have : x = 20 := by omega
      subst this
      rw [ebb, toI_some]
      refine g_Rf_driest_20 _ _ _ _ _ (cT (by decide) ⟨fun w0 => ⟨vp_in_nI hbb (by decide), _, rfl, fun b hb => ?_, hD, ho⟩, fun w0 => ⟨_, rfl, fun b hb => ?_, hD, ho⟩⟩)
      · simp only [Option.some.injEq] at hb
        subst hb
        rw [if_neg w0, ci (by omega)]; exact hR.2.2.2 _ hbb
      · simp only [Option.some.injEq] at hb
        subst hb
        rw [if_pos w0]
    | succ k ih =>
      intro x hx
      have ihx := ih (x + 1) (by omega)
      refine g_Rf_driest_20 _ _ _ _ _ (cF (n20 (by omega)) ?_)
      have inn : ∀ (k2 m : Nat) (f : Int32), m + k2 = n → ((f = 1 ∧ ∀ i, i < m → O 1 i ≠ nI x) ∨ (f = 0 ∧ taken O n x = true)) → Rn X m_Rf_driest 32 [some (vR [1]), some (vI w), some (vI (toI (driG O R n x))), some (vI (nI x)), some (vI f), some (vI (nI m))] [] h (fun v h' => ∃ r, v = some (vI r) ∧ (∀ b, driG O R n 20 = some b → r = if w = 0 then nI b else R 1 b) ∧ DST P W K T O h' ∧ OnR h1 h') := by
        intro k2
        induction k2 with
        | zero =>
          intro m f hm hf
          have : m = n := by omega
          subst this
          apply g_Rf_driest_32
          rw [hR.1, hO.2.1, nI_add1]
          refine cT (nI_leI (by omega) (by omega) |>.mpr (Nat.le_refl _)) ?_
          rcases hf with ⟨rfl, hf⟩ | ⟨rfl, hf⟩
          · refine z1a ?_
            have nt : ¬ taken O m x = true := fun z => by
              obtain ⟨i, hi, e⟩ := (taken_iff m).mp z
              exact hf i hi e
            cases e : driG O R m x with
            | none => rw [driG_none nt e] at ihx; rw [toI_none]; exact cT rfl ihx
            | some b =>
              have hb := dri_lt x b e
              rw [driG_some nt e] at ihx
              rw [toI_some, ci (k := x) (by omega), ci (k := b) (by omega), hR.2.2.2 x (by omega), hR.2.2.2 b (by omega)]
              refine cF (nI_nm (by omega)) ⟨vp_in_nI (by omega) (by decide), vp_in_nI (by omega) (by decide), fun y => ?_, fun y => ?_⟩
              · rw [if_neg (by grind)] at ihx; exact ihx
              · rw [if_pos (by grind)] at ihx; exact ihx
          · refine z0a ?_
            rw [driG, if_pos hf] at ihx; exact ihx
        | succ k2 ih2 =>
          intro m f hm hf
          have e1 : h.1 [26, 1] (3 * m) = O 1 m := hR.2.1 0 (by omega) m (by omega)
          apply g_Rf_driest_32
          rw [hR.1, hO.2.1, nI_add1 m, show (3 : Int32) = nI 3 from rfl, pk_mul, ci (k := 3 * m) (by omega), e1]
          refine cF (fun z => absurd ((nI_leI (by omega) (by omega)).mp z) (by omega)) ?_
          rcases hf with ⟨rfl, hf⟩ | ⟨rfl, hf⟩
          · refine z1a ⟨vp_in_nI (by omega) (by decide), fun z => ih2 (m + 1) 0 (by omega) (Or.inr ⟨rfl, (taken_iff n).mpr ⟨m, by omega, z⟩⟩), fun z => ih2 (m + 1) 1 (by omega) (Or.inl ⟨rfl, fun i hi => ?_⟩)⟩
            by_cases e : i = m
            · rw [e]; exact z
            · exact hf i (by omega)
          · exact z0a (ih2 (m + 1) 0 (by omega) (Or.inr ⟨rfl, hf⟩))
      exact inn n 0 1 (by omega) (Or.inl ⟨rfl, fun i hi => by omega⟩)
  exact lp 20 0 rfl
theorem op_driest (hI : Inv h) (w : Int32) : PairI X m_Us_driest m_Rf_driest [vI w] h := by
  obtain ⟨L, N, P, W, K, T, O, hC, hD, hF⟩ := id hI
  obtain ⟨n, hO⟩ := hF.row
  by_cases c : 0 ≤ w ∧ w ≤ 1
  · obtain ⟨b, hb, eb⟩ := dri_ex (O := O) (R := allS O n) hO.1
    refine ⟨fun r h' => r = (if w = 0 then nI b else (allS O n) 1 b) ∧ CST P W K T O h' ∧ OnC h h', ?_, fun r h1 q => ?_⟩
    · apply e_Us_driest
      refine g_Us_driest_0 _ _ _ (callB (s_isNotIn w 0 1 h) (fun z => absurd c z) (fun _ => z0a (callN (c_letItRain hO hC.2.2.2.2.2.1 hC.2.2.2.2.2.2) (fun h8 q8 => callP (c_driestFree hO q8.1) ?_))))
      rw [eb, toI_some]
      refine ⟨fun w0 => callP (c_reaching q8.1 hb) ⟨_, rfl, ?_, hC.rain q8.2 q8.1, OnC.ch q8.2.ch rfl⟩, fun w0 => ⟨_, rfl, ?_, hC.rain q8.2 q8.1, OnC.ch q8.2.ch rfl⟩⟩
      · rw [if_neg w0]
      · rw [if_pos w0]
    · obtain ⟨q1, q2, q3⟩ := q
      have hD1 := hD.on q3
      refine ⟨fun r h' => (∀ b, driG O (allS O n) n 20 = some b → r = if w = 0 then nI b else (allS O n) 1 b) ∧ DST P W K T O h' ∧ OnR h1 h', ?_, fun r' h2 q' => ⟨by rw [q1, q'.1 b eb], L, N, P, W, K, T, O, q2.on q'.2.2, q'.2.1, hF⟩⟩
      apply e_Rf_driest
      exact g_Rf_driest_0 _ _ _ (callB (s_in w 0 1 h1) (fun _ => z1b (callN (r_pour hO hD1.2.2.2.2.2.2.1 hD1.2.2.2.2.2.2.2) (fun h8 q8 => r_driest (h1 := h1) hO q8.1 (hD1.ch q8.2 (by simp)) (OnR.ch q8.2)))) (fun z => absurd c z))
  · refine pairSame (f := -3) hI ?_ ?_
    · apply e_Us_driest
      exact g_Us_driest_0 _ _ _ (callB (s_isNotIn w 0 1 h) (fun _ => z1a ⟨_, rfl, rfl, rfl⟩) (fun z => absurd (Classical.not_not.mp z) c))
    · apply e_Rf_driest
      exact g_Rf_driest_0 _ _ _ (callB (s_in w 0 1 h) (fun z => absurd z c) (fun _ => z0b ⟨_, rfl, rfl, rfl⟩))
theorem op_stand (hI : Inv h) (a s e : Int32) : PairI X m_Us_stand m_Rf_stand [vI a, vI s, vI e] h := by
  obtain ⟨L, N, P, W, K, T, O, hC, hD, hF⟩ := id hI
  obtain ⟨n, hO⟩ := hF.row
  have n8' := hO.1
  have e0 : h.1 [7, 0] 0 = nI n := by rw [hC.2.2.2.2.2.1, hO.2.1]
  have e25 : h.1 [1] 25 = nI n := by rw [hD.2.2.2.2.2.2.1, hO.2.1]
  by_cases c : (0 ≤ a ∧ a ≤ 19) ∧ (0 ≤ s ∧ s ≤ 3) ∧ (0 ≤ e ∧ e ≤ 9)
  · obtain ⟨x, hx, rfl⟩ := nI_rng (x := a) (n := 19) c.1.1 c.1.2 (by decide)
    have r35 : ∀ (hh : Hp) (T2 O2 : RW) (hd : DST P W K T O hh) (Q : Option AV → Hp → Prop), ((taken O n x = true → Q (some (vI (-4))) hh) ∧ (¬ taken O n x = true → (n = 8 → Q (some (vI (-5))) hh) ∧ (n ≠ 8 → Q (some (vI (nI (n + 1)))) (hsI (hsI (hsI (hsI hh [26, 1] (3 * n) (nI x)) [26, 1] (3 * n + 1) s) [26, 1] (3 * n + 2) e) [1] 25 (nI (n + 1)))))) → Rn X m_Rf_stand 35 [some (vR [1]), some (vI (nI x)), some (vI s), some (vI e), some (vI 0)] [] hh Q := by
      intro hh T2 O2 hd Q hq
      have e25 : hh.1 [1] 25 = nI n := by rw [hd.2.2.2.2.2.2.1, hO.2.1]
      have lp : ∀ (k m : Nat), m + k = n → (∀ i, i < m → O 1 i ≠ nI x) → Rn X m_Rf_stand 35 [some (vR [1]), some (vI (nI x)), some (vI s), some (vI e), some (vI (nI m))] [] hh Q := by
        intro k
        induction k with
        | zero =>
          intro m hm hj
          have : m = n := by omega
          subst this
          have nt : ¬ taken O m x = true := fun z => by
            obtain ⟨i, hi, e⟩ := (taken_iff m).mp z
            exact hj i hi e
          have q := hq.2 nt
          apply g_Rf_stand_35
          have p1 : ∀ (i : Nat) (v : Int32) (g : Hp), (hsI g [26, 1] i v).1 [1] 25 = g.1 [1] 25 := fun i v g => by rw [hsI_other (by simp)]
          rw [p1, p1, p1, e25, show (3 : Int32) = nI 3 from rfl, show (1 : Int32) = nI 1 from rfl, show (2 : Int32) = nI 2 from rfl, pk_mul, nI_add, nI_add, nI_add, ci (k := 3 * m) (by omega), ci (k := 3 * m + 1) (by omega), ci (k := 3 * m + 2) (by omega)]
          refine cT (nI_leI (by omega) (by omega) |>.mpr (Nat.le_refl _)) ⟨fun z => ?_, fun z => q.1 ((nI_eq (by omega) (by omega)).mp z)⟩
          have m8 : m ≠ 8 := fun y => z (by rw [y]; rfl)
          refine ⟨vp_in_nI (by omega) (by decide), vp_in_nI (by omega) (by decide), vp_in_nI (by omega) (by decide), ?_⟩
          have q2 := q.2 m8
          simp only [rd, true_and, if_true, show (([1] : List Nat) = [26, 1]) = False from by simp, false_and, if_false, e25, show nI m + nI 1 = nI (m + 1) from nI_add _ _]
          exact q2
        | succ k ih =>
          intro m hm hj
          have e1 : hh.1 [26, 1] (3 * m) = O 1 m := hd.2.2.2.2.2.2.2 0 (by omega) m (by omega)
          apply g_Rf_stand_35
          rw [e25, nI_add1 m, show (3 : Int32) * nI m = nI (3 * m) from by rw [show (3 : Int32) = nI 3 from rfl, pk_mul], ci (k := 3 * m) (by omega), e1]
          refine cF (fun z => absurd ((nI_leI (by omega) (by omega)).mp z) (by omega)) ⟨vp_in_nI (by omega) (by decide), fun z => ih (m + 1) (by omega) (fun i hi => ?_), fun z => hq.1 ((taken_iff n).mpr ⟨m, by omega, z⟩)⟩
          by_cases e : i = m
          · rw [e]; exact z
          · exact hj i (by omega)
      exact lp n 0 (by omega) (fun i hi => by omega)
    by_cases tk : taken O n x = true
    · refine pairSame (f := -4) hI ?_ ?_
      · apply e_Us_stand
        exact g_Us_stand_0 _ _ _ _ _ (callB (s_isNotIn (nI x) 0 19 h) (fun z => absurd c.1 z) (fun _ => z0b (callB (s_isNotIn s 0 3 h) (fun z => absurd c.2.1 z) (fun _ => z0b (callB (s_isNotIn e 0 9 h) (fun z => absurd c.2.2 z) (fun _ => z0a (callB (c_isTaken hO hC.2.2.2.2.2.1 (hC.2.2.2.2.2.2 0 (by omega))) (fun _ => z1a ⟨_, rfl, rfl, rfl⟩) (fun z => absurd tk z))))))))
      · apply e_Rf_stand
        exact g_Rf_stand_0 _ _ _ _ _ (callB (s_in (nI x) 0 19 h) (fun _ => z1a (callB (s_in s 0 3 h) (fun _ => z1a (callB (s_in e 0 9 h) (fun _ => z1b (r35 h T O hD _ ⟨fun _ => ⟨_, rfl, rfl, rfl⟩, fun z => absurd tk z⟩)) (fun z => absurd c.2.2 z))) (fun z => absurd c.2.1 z))) (fun z => absurd c.1 z))
    by_cases m8 : n = 8
    · refine pairSame (f := -5) hI ?_ ?_
      · apply e_Us_stand
        refine g_Us_stand_0 _ _ _ _ _ (callB (s_isNotIn (nI x) 0 19 h) (fun z => absurd c.1 z) (fun _ => z0b (callB (s_isNotIn s 0 3 h) (fun z => absurd c.2.1 z) (fun _ => z0b (callB (s_isNotIn e 0 9 h) (fun z => absurd c.2.2 z) (fun _ => z0a (callB (c_isTaken hO hC.2.2.2.2.2.1 (hC.2.2.2.2.2.2 0 (by omega))) (fun z => absurd z tk) (fun _ => z0a (callP (f := 0) ?_ (z0a ⟨_, rfl, rfl, rfl⟩))))))))))
        apply e_Ro_add
        apply g_Ro_add_0
        rw [e0, m8]
        exact cF (by decide) (cF (by decide) ⟨_, rfl, rfl, rfl⟩)
      · apply e_Rf_stand
        exact g_Rf_stand_0 _ _ _ _ _ (callB (s_in (nI x) 0 19 h) (fun _ => z1a (callB (s_in s 0 3 h) (fun _ => z1a (callB (s_in e 0 9 h) (fun _ => z1b (r35 h T O hD _ ⟨fun z => absurd z tk, fun _ => ⟨fun _ => ⟨_, rfl, rfl, rfl⟩, fun z => absurd m8 z⟩⟩)) (fun z => absurd c.2.2 z))) (fun z => absurd c.2.1 z))) (fun z => absurd c.1 z))
    · have O'0 : (u2 (u2 (u2 (u2 O 1 n (nI x)) 2 n s) 3 n e) 0 0 (nI (n + 1))) 0 0 = nI (n + 1) := by unfold u2; simp
      have O'r : ∀ j i, (u2 (u2 (u2 (u2 O 1 n (nI x)) 2 n s) 3 n e) 0 0 (nI (n + 1))) (1 + j) i = if i = n ∧ j = 0 then nI x else if i = n ∧ j = 1 then s else if i = n ∧ j = 2 then e else O (1 + j) i := by
        intro j i
        unfold u2
        by_cases j0 : j = 0
        · subst j0; simp
        · by_cases j1 : j = 1
          · subst j1; simp
          · by_cases j2 : j = 2
            · subst j2; simp
            · rw [if_neg (by omega), if_neg (by omega), if_neg (by omega), if_neg (by omega), if_neg (by omega), if_neg (by omega), if_neg (by omega)]
      generalize (u2 (u2 (u2 (u2 O 1 n (nI x)) 2 n s) 3 n e) 0 0 (nI (n + 1))) = O' at O'0 O'r
      refine ⟨fun r h' => r = nI (n + 1) ∧ CST P W K T O' h' ∧ OnC h h', ?_, fun r h1 q => ?_⟩
      · apply e_Us_stand
        refine g_Us_stand_0 _ _ _ _ _ (callB (s_isNotIn (nI x) 0 19 h) (fun z => absurd c.1 z) (fun _ => z0b (callB (s_isNotIn s 0 3 h) (fun z => absurd c.2.1 z) (fun _ => z0b (callB (s_isNotIn e 0 9 h) (fun z => absurd c.2.2 z) (fun _ => z0a (callB (c_isTaken hO hC.2.2.2.2.2.1 (hC.2.2.2.2.2.2 0 (by omega))) (fun z => absurd z tk) (fun _ => z0a (callQ (Q0 := fun r h' => r = 1 ∧ CST P W K T O' h' ∧ OnC h h') ?_ (fun r5 h5 q5 => ?_))))))))))
        · apply e_Ro_add
          apply g_Ro_add_0
          have p1 : ∀ (k i : Nat) (v : Int32) (g : Hp), (hsI g [k, 7, 0] i v).1 [7, 0] 0 = g.1 [7, 0] 0 := fun k i v g => by rw [hsI_other (by simp)]
          simp only [p1, e0, nI_add1]
          rw [ci (k := n) (by omega)]
          refine cF (nI_pos (by omega)) (cT (by rw [show (8 : Int32) = nI 8 from rfl]; exact nI_lt (by omega) (by decide)) ⟨v8 (by omega), v8 (by omega), v8 (by omega), _, rfl, rfl, ?_, ((OnC.set rfl).tr (OnC.set rfl)).tr ((OnC.set rfl).tr (OnC.set rfl))⟩)
          have cc : CH [7, 0] h (hsI (hsI (hsI (hsI h [1, 7, 0] n (nI x)) [2, 7, 0] n s) [3, 7, 0] n e) [7, 0] 0 (nI (n + 1))) := ((CH.set.tr CH.set).tr CH.set).tr CH.set0
          refine hC.io [7, 0] cc (by simp [Apart]) (by simp [Apart]) (fun k hk => by simp [Apart]) ?_ ?_ ?_ ?_
          · rw [cc.2 _ (by simp) (by simp)]; exact hC.2.2.2.1
          · intro i hi; rw [cc.2 _ (by simp) (by simp)]; exact hC.2.2.2.2.1 i hi
          · rw [O'0]; simp [rd]
          · intro j hj i hi
            rw [O'r]
            have o := hC.2.2.2.2.2.2 j hj i hi
            simp only [rd, List.cons.injEq, and_true]
            have : j = 0 ∨ j = 1 ∨ j = 2 := by omega
            rcases this with rfl | rfl | rfl
            · simp at o ⊢; rw [o]
            · simp at o ⊢; rw [o]
            · simp at o ⊢; rw [o]
        · rw [q5.1]
          refine z1a ⟨_, rfl, ?_, q5.2.1, q5.2.2⟩
          rw [q5.2.1.2.2.2.2.2.1, O'0]
      · obtain ⟨q1, q2, q3⟩ := q
        have hD1 := hD.on q3
        refine ⟨fun r h' => r = nI (n + 1) ∧ DST P W K T O' h' ∧ OnR h1 h', ?_, fun r' h2 q' => ⟨by rw [q1, q'.1], L, N, P, W, K, T, O', q2.on q'.2.2, q'.2.1, hF.1, hF.2.1, hF.2.2.1, hF.2.2.2.1, hF.2.2.2.2.1, hF.2.2.2.2.2.1, hF.2.2.2.2.2.2.1, n + 1, by omega, O'0, fun i hi => ?_⟩⟩
        · apply e_Rf_stand
          refine g_Rf_stand_0 _ _ _ _ _ (callB (s_in (nI x) 0 19 h1) (fun _ => z1a (callB (s_in s 0 3 h1) (fun _ => z1a (callB (s_in e 0 9 h1) (fun _ => z1b (r35 h1 T O hD1 (fun v h' => ∃ r, v = some (vI r) ∧ (fun r h' => r = nI (n + 1) ∧ DST P W K T O' h' ∧ OnR h1 h') r h') ⟨fun z => absurd z tk, fun _ => ⟨fun z => absurd z m8, fun _ => ⟨_, rfl, rfl, ?_, ((OnR.set rfl).tr (OnR.set rfl)).tr ((OnR.set rfl).tr (OnR.set rfl))⟩⟩⟩)) (fun z => absurd c.2.2 z))) (fun z => absurd c.2.1 z))) (fun z => absurd c.1 z))
          refine hD1.io (fun j hj => ?_) rfl (fun k hk => ?_) ?_ ?_ ?_ ?_
          · simp only [rd, true_and]; rw [if_neg (by omega)]; simp
          · rw [hsI_other (by simp), hsI_other (by simp; omega), hsI_other (by simp; omega), hsI_other (by simp; omega)]
          · simp [rd]; exact hD1.2.2.2.2.1
          · intro i hi; rw [hsI_other (by simp), hsI_other (by simp), hsI_other (by simp), hsI_other (by simp)]; exact hD1.2.2.2.2.2.1 i hi
          · rw [O'0]; simp [rd]
          · intro j hj i hi
            rw [O'r]
            have o := hD1.2.2.2.2.2.2.2 j hj i hi
            rw [hsI_other (by simp)]
            simp only [rd, true_and]
            rw [o]
            have : j = 0 ∨ j = 1 ∨ j = 2 := by omega
            rcases this with rfl | rfl | rfl <;> grind
        · have o0 := O'r 0 i
          have o1 := O'r 1 i
          have o2 := O'r 2 i
          rw [show 1 + 0 = 1 from rfl] at o0
          rw [show 1 + 1 = 2 from rfl] at o1
          rw [show 1 + 2 = 3 from rfl] at o2
          rw [o0, o1, o2]
          by_cases z : i = n
          · subst z
            simp
            obtain ⟨s', hs', es⟩ := nI_rng (x := s) (n := 3) c.2.1.1 c.2.1.2 (by decide)
            obtain ⟨e', he', ee⟩ := nI_rng (x := e) (n := 9) c.2.2.1 c.2.2.2 (by decide)
            exact ⟨⟨x, by omega, rfl⟩, ⟨s', hs', es⟩, e', he', ee⟩
          · simp [z]
            exact hO.2.2 i (by omega)
  · refine pairSame (f := -3) hI ?_ ?_
    · apply e_Us_stand
      exact g_Us_stand_0 _ _ _ _ _ (callB (s_isNotIn a 0 19 h) (fun _ => z1b ⟨_, rfl, rfl, rfl⟩) (fun y1 => z0b (callB (s_isNotIn s 0 3 h) (fun _ => z1b ⟨_, rfl, rfl, rfl⟩) (fun y2 => z0b (callB (s_isNotIn e 0 9 h) (fun _ => z1a ⟨_, rfl, rfl, rfl⟩) (fun y3 => absurd ⟨Classical.not_not.mp y1, Classical.not_not.mp y2, Classical.not_not.mp y3⟩ c))))))
    · apply e_Rf_stand
      exact g_Rf_stand_0 _ _ _ _ _ (callB (s_in a 0 19 h) (fun y1 => z1a (callB (s_in s 0 3 h) (fun y2 => z1a (callB (s_in e 0 9 h) (fun y3 => absurd ⟨y1, y2, y3⟩ c) (fun _ => z0b ⟨_, rfl, rfl, rfl⟩))) (fun _ => z0a ⟨_, rfl, rfl, rfl⟩))) (fun _ => z0a ⟨_, rfl, rfl, rfl⟩))
end SOP
