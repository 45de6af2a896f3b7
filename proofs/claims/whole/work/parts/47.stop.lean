/-! a stop: the reference, and the operations -/
def taken (O : RW) (n x : Nat) : Bool := match n with
  | 0 => false
  | m + 1 => decide (O 1 m = nI x) || taken O m x
def driG (O R : RW) (n : Nat) : Nat → Option Nat
  | 0 => none
  | x + 1 => if taken O n x then driG O R n x else match driG O R n x with
    | none => some x
    | some b => if R 1 x < R 1 b then some x else some b
theorem dri_lt {O R : RW} {n : Nat} : ∀ x b, driG O R n x = some b → b < x
  | 0, b, h => by simp [driG] at h
  | x + 1, b, h => by
    rw [driG] at h
    split at h
    · have := dri_lt x b h; omega
    · cases e : driG O R n x with
      | none => rw [e] at h; simp at h; omega
      | some c =>
        rw [e] at h
        have := dri_lt x c e
        simp only at h
        split at h <;> simp at h <;> omega
theorem dri_none {O R : RW} {n : Nat} : ∀ x, driG O R n x = none → ∀ y, y < x → taken O n y = true
  | 0, _, y, hy => absurd hy (by omega)
  | x + 1, h, y, hy => by
    rw [driG] at h
    split at h
    · rename_i c
      by_cases e : y = x
      · rw [e]; exact c
      · exact dri_none x h y (by omega)
    · cases e : driG O R n x with
      | none => rw [e] at h; simp at h
      | some c => rw [e] at h; simp only at h; split at h <;> simp at h
theorem free_one {O : RW} : ∀ (n : Nat) (l : List Nat), l.Nodup → n < l.length → (∀ x ∈ l, x < 20) → ∃ x ∈ l, taken O n x = false
  | 0, l, _, hl, _ => by
    cases l with
    | nil => simp at hl
    | cons a t => exact ⟨a, by simp, rfl⟩
  | n + 1, l, hd, hl, h20 => by
    by_cases z : ∃ a ∈ l, O 1 n = nI a
    · obtain ⟨a, ha, ea⟩ := z
      obtain ⟨x, hx, ex⟩ := free_one (O := O) n (l.erase a) (hd.erase a) (by rw [List.length_erase_of_mem ha]; omega) (fun x hx => h20 x (List.mem_of_mem_erase hx))
      have hm := (List.Nodup.mem_erase_iff hd).mp hx
      refine ⟨x, hm.2, ?_⟩
      have h1 := h20 x hm.2
      have h2 := h20 a ha
      rw [taken, ex, ea]
      simp only [Bool.or_false, decide_eq_false_iff_not]
      intro y
      exact hm.1 ((nI_eq (by omega) (by omega)).mp y).symm
    · obtain ⟨x, hx, ex⟩ := free_one (O := O) n l hd (by omega) h20
      refine ⟨x, hx, ?_⟩
      rw [taken, ex]
      simp only [Bool.or_false, decide_eq_false_iff_not]
      exact fun y => z ⟨x, hx, y⟩
theorem dri_ex {O R : RW} {n : Nat} (hn : n ≤ 8) : ∃ b, b < 20 ∧ driG O R n 20 = some b := by
  cases e : driG O R n 20 with
  | some b => exact ⟨b, dri_lt 20 b e, rfl⟩
  | none =>
    obtain ⟨x, hx, ex⟩ := free_one (O := O) n (List.range 20) List.nodup_range (by simp; omega) (fun x hx => List.mem_range.mp hx)
    have := dri_none 20 e x (List.mem_range.mp hx)
    rw [ex] at this; simp at this
def RwR (O R : RW) (h : Hp) : Prop := h.1 [1] 25 = O 0 0 ∧ (∀ j, j < 3 → ∀ i, i < 8 → h.1 [26, 1] (3 * i + j) = O (1 + j) i) ∧ (∀ i, i < 8 → h.1 [27, 1] i = R 0 i) ∧ ∀ x, x < 20 → h.1 [28, 1] x = R 1 x
section STO
variable {X : XS} {h : Hp} {O R : RW} {n : Nat}
theorem c_letItRain (hO : rowOK O n) (h0 : h.1 [7, 0] 0 = O 0 0) (h1 : ∀ j, j < 3 → ∀ i, i < 8 → h.1 [1 + j, 7, 0] i = O (1 + j) i) : EvV X m_Ro_letItRain [vR [7, 0]] h (fun h' => RwC O (allS O n) h' ∧ CHW h h') := by
  have n8' := hO.1
  apply e_Ro_letItRain
  refine g_Ro_letItRain_0 _ _ (callN (c_fill (n := 8) (by decide) (by decide)) (fun h3 q3 => callN (c_fill (n := 20) (by decide) (by decide)) (fun h7 q7 => ?_)))
  have w3 : CHW h h3 := ⟨q3.1.1, fun q a b => by
    by_cases z : ∃ k, q = k :: [4, 7, 0]
    · obtain ⟨k, rfl⟩ := z; exact q3.2.1 k
    · exact q3.1.2 q a (fun k y => z ⟨k, y⟩)⟩
  have w7 : CHW h3 h7 := ⟨q7.1.1, fun q a b => by
    by_cases z : ∃ k, q = k :: [5, 7, 0]
    · obtain ⟨k, rfl⟩ := z; exact q7.2.1 k
    · exact q7.1.2 q b (fun k y => z ⟨k, y⟩)⟩
  have w : CHW h h7 := w3.tr w7
  have hR : RwC O R00 h7 := by
    refine ⟨?_, fun j hj i hi => ?_, fun i hi => ?_, fun x hx => q7.2.2 x hx⟩
    · rw [w.2 _ (by simp) (by simp)]; exact h0
    · rw [w.2 _ (by simp; omega) (by simp; omega)]; exact h1 j hj i hi
    · rw [q7.1.2 _ (by simp) (by simp)]; exact q3.2.2 i hi
  have lp : ∀ (m x : Nat) (hh : Hp), x + m = 20 → RwC O (itr (fun x R => dropS O n x 1024 80 R) x R00) hh → noW O n (itr (fun x R => dropS O n x 1024 80 R) x R00) → CHW h hh → Rn X m_Ro_letItRain 18 [some (vR [7, 0]), some (vI (nI x)), none] [] hh (fun v h' => v = none ∧ RwC O (allS O n) h' ∧ CHW h h') := by
    intro m
    induction m with
    | zero =>
      intro x hh hx hR hn hw
      have : x = 20 := by omega
      subst this
      refine g_Ro_letItRain_18 _ _ _ (cT (by decide) (callP (c_highest hO hR (Or.inl ⟨rfl, rfl⟩)) ?_))
      exact c_rainLoop hO 8 0 80 hh _ rfl (by omega) (by have := cntB_le (S := posB O 80) n; omega) hR hn rfl hw
    | succ m ih =>
      intro x hh hx hR hn hw
      refine g_Ro_letItRain_18 _ _ _ (cF (n20 (by omega)) (callN (c_drop hO hR (Or.inl ⟨rfl, rfl⟩)) (fun h8 q8 => ?_)))
      rw [nI_add1]
      have e : dropX O n (nI x) 1024 80 (itr (fun x R => dropS O n x 1024 80 R) x R00) = itr (fun x R => dropS O n x 1024 80 R) (x + 1) R00 := by
        rw [dropX, if_pos ⟨nI_pos' (by omega), by rw [show (20 : Int32) = nI 20 from rfl]; exact nI_lt (by omega) (by decide)⟩, ci (by omega), itr_s]
      rw [e] at q8
      refine ih (x + 1) h8 (by omega) q8.1 ?_ (hw.tr q8.2)
      rw [itr_s]
      exact noW_drop hO (by omega) hn
  exact lp 20 0 h7 rfl hR (fun i hi hz => rfl) w
theorem r_isHigher (hO : rowOK O n) (hR : RwR O R h) {a b : Nat} (ha : a < n) (hb : b < n) : EvI X m_Rf_isHigher [vR [1], vI (nI a), vI (nI b)] h (fun r h' => r = bI (kk O b < kk O a) ∧ h' = h) := by
  have n8' := hO.1
  have kl := kk_lower hO hb ha
  apply e_Rf_isHigher
  apply g_Rf_isHigher_0
  have e1 := hR.2.1 2 (by omega) a (by omega)
  have e2 := hR.2.1 2 (by omega) b (by omega)
  rw [show 1 + 2 = 3 from rfl] at e1 e2
  rw [show (3 : Int32) = nI 3 from rfl, show (2 : Int32) = nI 2 from rfl, pk_mul, pk_mul, nI_add, nI_add, ci (k := 3 * a + 2) (by omega), ci (k := 3 * b + 2) (by omega), e1, e2]
  refine ⟨vp_in_nI (by omega) (by decide), vp_in_nI (by omega) (by decide), fun c => ⟨_, rfl, eqT (kl.mp (Or.inl c)), rfl⟩, fun c => ⟨vp_in_nI (by omega) (by decide), vp_in_nI (by omega) (by decide), fun c2 => ⟨_, rfl, eqF (fun z => ?_), rfl⟩, fun c2 => ⟨fun c3 => ⟨_, rfl, eqF (fun z => ?_), rfl⟩, fun c3 => ⟨_, rfl, eqT (kl.mp (Or.inr ⟨c2.symm, ?_⟩)), rfl⟩⟩⟩⟩
  · rcases kl.mpr z with y | y
    · exact c y
    · exact c2 y.1.symm
  · rw [nI_leI (by omega) (by omega)] at c3
    rcases kl.mpr z with y | y
    · exact c y
    · omega
  · rw [nI_leI (by omega) (by omega)] at c3; omega
theorem r_umbrella (hO : rowOK O n) (hR : RwR O R h) {x b : Nat} {frm : Int32} (hx : x < 20) (hf : FB O n frm b) : EvI X m_Rf_umbrellaAt [vR [1], vI (nI x), vI frm] h (fun r h' => r = toI (topG (fun i => decide (ovS O i x) && decide (kk O i < b)) (kk O) n) ∧ h' = h) := by
  have n8' := hO.1
  apply e_Rf_umbrellaAt
  apply g_Rf_umbrellaAt_0
  have lp : ∀ (k m : Nat), m + k = n → Rn X m_Rf_umbrellaAt 5 [some (vR [1]), some (vI (nI x)), some (vI frm), some (vI (toI (topG (fun i => decide (ovS O i x) && decide (kk O i < b)) (kk O) m))), some (vI (nI m)), none] [] h (fun v h' => ∃ r, v = some (vI r) ∧ r = toI (topG (fun i => decide (ovS O i x) && decide (kk O i < b)) (kk O) n) ∧ h' = h) := by
    intro k
    induction k with
    | zero =>
      intro m hm
      have : m = n := by omega
      subst this
      apply g_Rf_umbrellaAt_5
      rw [hR.1, hO.2.1]
      exact cT (nI_leI (by omega) (by omega) |>.mpr (Nat.le_refl _)) ⟨_, rfl, rfl, rfl⟩
    | succ k ih =>
      intro m hm
      have hmn : m < n := by omega
      have ihm := ih (m + 1) (by omega)
      have e1 := hR.2.1 0 (by omega) m (by omega)
      have e2 := hR.2.1 1 (by omega) m (by omega)
      rw [show 1 + 0 = 1 from rfl, show 3 * m + 0 = 3 * m from rfl] at e1
      rw [show 1 + 1 = 2 from rfl] at e2
      obtain ⟨a, ha, ea⟩ := (hO.2.2 m hmn).1
      have no : (decide (ovS O m x) && decide (kk O m < b)) = false → Rn X m_Rf_umbrellaAt 60 [some (vR [1]), some (vI (nI x)), some (vI frm), some (vI (toI (topG (fun i => decide (ovS O i x) && decide (kk O i < b)) (kk O) m))), some (vI (nI m)), none] [] h (fun v h' => ∃ r, v = some (vI r) ∧ r = toI (topG (fun i => decide (ovS O i x) && decide (kk O i < b)) (kk O) n) ∧ h' = h) := by
        intro z
        refine g_Rf_umbrellaAt_60 _ _ _ _ _ _ (g_Rf_umbrellaAt_61 _ _ _ _ _ _ _ (z0a ?_))
        rw [nI_add1]
        rw [top_f z] at ihm; exact ihm
      have yes : (decide (ovS O m x) && decide (kk O m < b)) = true → Rn X m_Rf_umbrellaAt 56 [some (vR [1]), some (vI (nI x)), some (vI frm), some (vI (toI (topG (fun i => decide (ovS O i x) && decide (kk O i < b)) (kk O) m))), some (vI (nI m)), none] [] h (fun v h' => ∃ r, v = some (vI r) ∧ r = toI (topG (fun i => decide (ovS O i x) && decide (kk O i < b)) (kk O) n) ∧ h' = h) := by
        intro hS
        refine g_Rf_umbrellaAt_56 _ _ _ _ _ _ (g_Rf_umbrellaAt_61 _ _ _ _ _ _ _ (z1a ?_))
        rw [nI_add1]
        cases e : topG (fun i => decide (ovS O i x) && decide (kk O i < b)) (kk O) m with
        | none =>
          rw [top_n hS e] at ihm
          rw [toI_none]
          exact cT rfl ihm
        | some j =>
          obtain ⟨t1, -, -⟩ := top_some m j e
          rw [top_s hS e] at ihm
          rw [toI_some]
          refine cF (nI_nm (by omega)) (callB (r_isHigher hO hR hmn (show j < n by omega)) (fun y => z1a ?_) (fun y => z0a ?_))
          · rw [if_pos y] at ihm; exact ihm
          · rw [if_neg y] at ihm; exact ihm
      apply g_Rf_umbrellaAt_5
      rw [hR.1, hO.2.1, show (3 : Int32) = nI 3 from rfl, show (1 : Int32) = nI 1 from rfl, pk_mul, nI_add, ci (k := 3 * m) (by omega), ci (k := 3 * m + 1) (by omega), e1]
      refine cF (fun z => absurd ((nI_leI (by omega) (by omega)).mp z) (by omega)) ⟨vp_in_nI (by omega) (by decide), callP (s_off _ _ _) ⟨vp_in_nI (by omega) (by decide), ?_⟩⟩
      rw [ea, off_nat (by omega) (by omega), e2]
      have hov : ovS O m x ↔ ¬ O 2 m ≤ iAbs (nI a - nI x) := by unfold ovS; rw [ea]; grind
      refine ⟨fun c => no (by simp only [Bool.and_eq_false_iff, decide_eq_false_iff_not]; exact Or.inl (fun z => hov.mp z c)), fun c => ?_⟩
      have h1 := hov.mpr c
      rcases hf with ⟨rfl, rfl⟩ | ⟨j, hj, rfl, rfl⟩
      · exact cT rfl (yes (by simp only [Bool.and_eq_true, decide_eq_true_eq]; exact ⟨h1, kk_lt hO hmn⟩))
      · refine cF (nI_nm (by omega)) (callB (r_isHigher hO hR hj hmn) (fun y => z1a (yes (by simp only [Bool.and_eq_true, decide_eq_true_eq]; exact ⟨h1, y⟩))) (fun y => z0a (no (by simp only [Bool.and_eq_false_iff, decide_eq_false_iff_not]; exact Or.inr y))))
  exact lp n 0 (by omega)
theorem r_falls (hO : rowOK O n) (hR : RwR O R h) {b : Nat} {frm x amt : Int32} (hf : FB O n frm b) : EvV X m_Rf_falls [vR [1], vI x, vI amt, vI frm] h (fun h' => RwR O (dropX O n x amt b R) h' ∧ CHr [27, 28] h h') := by
  have n8' := hO.1
  apply e_Rf_falls
  refine g_Rf_falls_0 _ _ _ _ _ (callB (s_in x 0 19 h) (fun c => z1a ?_) (fun c => z0a ⟨rfl, by rw [dropX, if_neg (by grind)]; exact hR, CHr.rf⟩))
  obtain ⟨a, ha, rfl⟩ := x_rng (x := x) (by grind)
  have ed : dropX O n (nI a) amt b R = dropS O n a amt b R := by
    rw [dropX, if_pos (by grind), ci (by omega)]
  rw [ed]
  refine callP (r_umbrella hO hR ha hf) ?_
  cases e : topG (fun i => decide (ovS O i a) && decide (kk O i < b)) (kk O) n with
  | none =>
    rw [toI_none, ci (by omega), hR.2.2.2 a ha]
    refine cT' rfl ⟨vp_in_nI ha (by decide), vp_in_nI ha (by decide), rfl, ?_, CHr.set (by simp)⟩
    rw [dropS, e]
    obtain ⟨r1, r2, r3, r4⟩ := hR
    refine ⟨?_, fun j hj i hi => ?_, fun i hi => ?_, fun y hy => ?_⟩
    · rw [hsI_other (by simp)]; exact r1
    · rw [hsI_other (by simp)]; exact r2 j hj i hi
    · rw [hsI_other (by simp), r3 i hi]; simp only; unfold u2; rw [if_neg (by omega)]
    · simp only [rd, true_and]; unfold u2; rw [r4 y hy]; by_cases q : y = a <;> simp [q]
  | some j =>
    obtain ⟨t1, -, -⟩ := top_some n j e
    rw [toI_some, ci (k := j) (by omega), hR.2.2.1 j (by omega)]
    refine cF' (nI_nm (by omega)) ⟨v8 (by omega), v8 (by omega), rfl, ?_, CHr.set (by simp)⟩
    rw [dropS, e]
    obtain ⟨r1, r2, r3, r4⟩ := hR
    refine ⟨?_, fun j hj i hi => ?_, fun i hi => ?_, fun y hy => ?_⟩
    · rw [hsI_other (by simp)]; exact r1
    · rw [hsI_other (by simp)]; exact r2 j hj i hi
    · simp only [rd, true_and]; unfold u2; rw [r3 i hi]; by_cases q : i = j <;> simp [q]
    · rw [hsI_other (by simp), r4 y hy]; simp only; unfold u2; rw [if_neg (by omega)]
abbrev allB (O : RW) (b : Nat) : Nat → Bool := fun i => decide (kk O i < b)
theorem all_step (hO : rowOK O n) {b i : Nat} (e : topG (allB O b) (kk O) n = some i) {R : RW} (hb : b ≤ 80) : rainV O n b R = rainV O n (kk O i) (flowS O n i R) ∧ cntB (allB O b) n = cntB (allB O (kk O i)) n + 1 := by
  obtain ⟨t1, t2, t3⟩ := top_some n i e
  have t2' := t2
  simp only [decide_eq_true_eq] at t2
  refine ⟨?_, cntB_1 t2' (by simp) n t1 (fun j hj hji => ?_)⟩
  · rw [← rain_at hO t1]
    refine rain_skip b (kk O i + 1) (by omega) (fun j hj h1 h2 => ?_)
    have := t3 j hj (by simp only [decide_eq_true_eq]; exact h2)
    omega
  · simp only [allB]
    by_cases z : kk O j < b
    · have h1 := t3 j hj (by simp only [decide_eq_true_eq]; exact z)
      have h2 : kk O j ≠ kk O i := fun y => hji (kk_inj hO hj t1 y)
      have a1 : kk O j < kk O i := by omega
      simp [z, a1]
    · have a2 : ¬ kk O j < kk O i := by omega
      simp [z, a2]
theorem r_pour (hO : rowOK O n) (h0 : h.1 [1] 25 = O 0 0) (h1 : ∀ j, j < 3 → ∀ i, i < 8 → h.1 [26, 1] (3 * i + j) = O (1 + j) i) : EvV X m_Rf_pour [vR [1]] h (fun h' => RwR O (allS O n) h' ∧ CHr [27, 28] h h') := by
  have n8' := hO.1
  apply e_Rf_pour
  apply g_Rf_pour_0
  have lpD : ∀ (k a b : Nat) (hh : Hp) (R : RW) (met : Int32), a + k = n → b ≤ 80 → cntB (allB O b) n = k → (∀ i, i < n → iShr met (nI i) &&& 1 = if kk O i < b then (0 : Int32) else 1) → RwR O R hh → rainV O n b R = allS O n → CHr [27, 28] h hh → Rn X m_Rf_pour 69 [some (vR [1]), some (vI met), some (vI (nI a)), none, none] [] hh (fun v h' => v = none ∧ RwR O (allS O n) h' ∧ CHr [27, 28] h h') := by
    intro k
    induction k with
    | zero =>
      intro a b hh R met ha hb hc hm hR hr hw
      have : a = n := by omega
      subst this
      apply g_Rf_pour_69
      rw [hR.1, hO.2.1]
      refine cT (nI_leI (by omega) (by omega) |>.mpr (Nat.le_refl _)) ⟨rfl, ?_, hw⟩
      have e0 := cntB_0 a hc
      have := rain_skip (O := O) (n := a) (R := R) b 0 (by omega) (fun j hj _ h2 => by
        have := e0 j hj
        simp only [decide_eq_false_iff_not] at this
        exact absurd h2 this)
      rw [← hr, this]; exact hR
    | succ k ih =>
      intro a b hh R met ha hb hc hm hR hr hw
      apply g_Rf_pour_69
      rw [hR.1, hO.2.1]
      refine cF (fun z => absurd ((nI_leI (by omega) (by omega)).mp z) (by omega)) ?_
      have lp : ∀ (k2 m : Nat), m + k2 = n → Rn X m_Rf_pour 82 [some (vR [1]), some (vI met), some (vI (nI a)), some (vI (toI (topG (allB O b) (kk O) m))), some (vI (nI m))] [] hh (fun v h' => v = none ∧ RwR O (allS O n) h' ∧ CHr [27, 28] h h') := by
        intro k2
        induction k2 with
        | zero =>
          intro m hm2
          have : m = n := by omega
          subst this
          apply g_Rf_pour_82
          rw [hR.1, hO.2.1]
          refine cT (nI_leI (by omega) (by omega) |>.mpr (Nat.le_refl _)) ?_
          cases e : topG (allB O b) (kk O) m with
          | none =>
            have := cntB_all m (top_none e)
            omega
          | some i =>
            obtain ⟨t1, t2, -⟩ := top_some m i e
            simp only [decide_eq_true_eq] at t2
            obtain ⟨p1, p2⟩ := all_step hO e (R := R) hb
            have fb : FB O m (nI i) (kk O i) := Or.inr ⟨i, t1, rfl, rfl⟩
            have r2 := fun (hh : Hp) (R2 : RW) (q : RwR O R2 hh) => (show hh.1 [26, 1] (3 * i) = O 1 i from q.2.1 0 (by omega) i (by omega))
            have r3 := fun (hh : Hp) (R2 : RW) (q : RwR O R2 hh) => (show hh.1 [26, 1] (3 * i + 1) = O 2 i from q.2.1 1 (by omega) i (by omega))
            rw [toI_some, show (3 : Int32) = nI 3 from rfl, pk_mul, show nI (3 * i) + 1 = nI (3 * i + 1) from nI_add1 _, ci (k := i) (by omega), ci (k := 3 * i) (by omega), ci (k := 3 * i + 1) (by omega), r2 hh R hR, r3 hh R hR, hR.2.2.1 i (by omega)]
            refine ⟨v8 (by omega), vp_in_nI (by omega) (by decide), vp_in_nI (by omega) (by decide), v8 (by omega), callN (r_falls hO hR fb) (fun h7 q7 => ⟨vp_in_nI (by omega) (by decide), vp_in_nI (by omega) (by decide), ?_⟩)⟩
            rw [r2 h7 _ q7.1, r3 h7 _ q7.1]
            refine callN (r_falls hO q7.1 fb) (fun h9 q9 => ?_)
            rw [nI_add1]
            refine ih (a + 1) (kk O i) h9 _ _ (by omega) (by have := kk_lt hO t1; omega) (by omega) (fun j hj => ?_) q9.1 (by rw [← hr, p1]; rfl) ((hw.tr q7.2).tr q9.2)
            rw [bit_or (by omega) (by omega), hm j hj]
            by_cases z : j = i
            · subst z; rw [if_pos rfl, if_neg (by omega)]
            · rw [if_neg z]
              have h2 : kk O j ≠ kk O i := fun y => z (kk_inj hO hj t1 y)
              obtain ⟨_, _, t3⟩ := top_some m i e
              by_cases y : kk O j < b
              · have := t3 j hj (by simp only [decide_eq_true_eq]; exact y)
                rw [if_pos y, if_pos (by omega)]
              · rw [if_neg y, if_neg (by omega)]
        | succ k2 ih2 =>
          intro m hm2
          have hmn : m < n := by omega
          have ihm := ih2 (m + 1) (by omega)
          apply g_Rf_pour_82
          rw [hR.1, hO.2.1]
          refine cF (fun z => absurd ((nI_leI (by omega) (by omega)).mp z) (by omega)) ?_
          have has : EvI X m_Rf_has [vI met, vI (nI m)] hh (fun r h2 => r = bI (¬ kk O m < b) ∧ h2 = hh) := by
            apply e_Rf_has
            apply g_Rf_has_0
            rw [hm m hmn]
            refine ⟨fun c => ⟨_, rfl, eqF ?_, rfl⟩, fun c => ⟨_, rfl, eqT ?_, rfl⟩⟩
            · intro z; rw [if_neg z] at c; exact absurd rfl c
            · intro z; rw [if_pos z] at c; exact absurd c (by decide)
          rw [nI_add1]
          refine callB has (fun z => z1b ?_) (fun z => z0b ?_)
          · rw [top_f (by simp only [allB, decide_eq_false_iff_not]; exact z)] at ihm; exact ihm
          · have hS : allB O b m = true := by simp only [allB, decide_eq_true_eq]; exact Classical.not_not.mp z
            cases e : topG (allB O b) (kk O) m with
            | none =>
              rw [top_n hS e] at ihm
              rw [toI_none]
              exact cT rfl ihm
            | some j =>
              obtain ⟨t1, -, -⟩ := top_some m j e
              rw [top_s hS e] at ihm
              rw [toI_some]
              refine cF (nI_nm (by omega)) (callB (r_isHigher hO hR hmn (show j < n by omega)) (fun y => z1a ?_) (fun y => z0a ?_))
              · rw [if_pos y] at ihm; exact ihm
              · rw [if_neg y] at ihm; exact ihm
      exact lp n 0 (by omega)
  have lpC : ∀ (m x : Nat) (hh : Hp), x + m = 20 → RwR O (itr (fun x R => dropS O n x 1024 80 R) x R00) hh → CHr [27, 28] h hh → Rn X m_Rf_pour 46 [some (vR [1]), some (vI 0), some (vI (nI x)), none, none] [] hh (fun v h' => v = none ∧ RwR O (allS O n) h' ∧ CHr [27, 28] h h') := by
    intro m
    induction m with
    | zero =>
      intro x hh hx hR hw
      have : x = 20 := by omega
      subst this
      refine g_Rf_pour_46 _ _ _ _ (cT (by decide) (lpD n 0 80 hh _ 0 (by omega) (by omega) (cntB_full n (fun j hj => by simp only [allB, decide_eq_true_eq]; exact kk_lt hO hj)) (fun i hi => ?_) hR rfl hw))
      rw [if_pos (kk_lt hO hi), bit_0 (by omega)]
    | succ m ih =>
      intro x hh hx hR hw
      refine g_Rf_pour_46 _ _ _ _ (cF (n20 (by omega)) (callN (r_falls hO hR (Or.inl ⟨rfl, rfl⟩)) (fun h8 q8 => ?_)))
      rw [nI_add1]
      have e : dropX O n (nI x) 1024 80 (itr (fun x R => dropS O n x 1024 80 R) x R00) = itr (fun x R => dropS O n x 1024 80 R) (x + 1) R00 := by
        rw [dropX, if_pos ⟨nI_pos' (by omega), by rw [show (20 : Int32) = nI 20 from rfl]; exact nI_lt (by omega) (by decide)⟩, ci (by omega), itr_s]
      rw [e] at q8
      exact ih (x + 1) h8 (by omega) q8.1 (hw.tr q8.2)
  have lpB : ∀ (m x : Nat) (hh : Hp), x + m = 20 → CHr [27, 28] h hh → (∀ i, i < 8 → hh.1 [27, 1] i = 0) → (∀ i, i < x → hh.1 [28, 1] i = 0) → Rn X m_Rf_pour 25 [some (vR [1]), some (vI 0), some (vI (nI x)), none, none] [] hh (fun v h' => v = none ∧ RwR O (allS O n) h' ∧ CHr [27, 28] h h') := by
    intro m
    induction m with
    | zero =>
      intro x hh hx hw h27 h28
      have : x = 20 := by omega
      subst this
      refine g_Rf_pour_25 _ _ _ _ (cT (by decide) (lpC 20 0 hh rfl ⟨by rw [hw.at1]; exact h0, fun j hj i hi => by rw [hw.at (by decide)]; exact h1 j hj i hi, h27, h28⟩ hw))
    | succ m ih =>
      intro x hh hx hw h27 h28
      refine g_Rf_pour_25 _ _ _ _ (cF (n20 (by omega)) ⟨vp_in_nI (by omega) (by decide), ?_⟩)
      rw [nI_add1, ci (by omega)]
      refine ih (x + 1) _ (by omega) (hw.tr (CHr.set (by simp))) (fun i hi => by rw [hsI_other (by simp)]; exact h27 i hi) (fun i hi => ?_)
      simp only [rd, true_and]
      by_cases z : i = x
      · rw [if_pos z]
      · rw [if_neg z]; exact h28 i (by omega)
  have lpA : ∀ (m x : Nat) (hh : Hp), x + m = 8 → CHr [27, 28] h hh → (∀ i, i < x → hh.1 [27, 1] i = 0) → Rn X m_Rf_pour 4 [some (vR [1]), some (vI 0), some (vI (nI x)), none, none] [] hh (fun v h' => v = none ∧ RwR O (allS O n) h' ∧ CHr [27, 28] h h') := by
    intro m
    induction m with
    | zero =>
      intro x hh hx hw h27
      have : x = 8 := by omega
      subst this
      exact g_Rf_pour_4 _ _ _ _ (cT (by decide) (lpB 20 0 hh rfl hw h27 (fun i hi => by omega)))
    | succ m ih =>
      intro x hh hx hw h27
      refine g_Rf_pour_4 _ _ _ _ (cF (n8 (by omega)) ⟨v8 (by omega), ?_⟩)
      rw [nI_add1, ci (by omega)]
      refine ih (x + 1) _ (by omega) (hw.tr (CHr.set (by simp))) (fun i hi => ?_)
      simp only [rd, true_and]
      by_cases z : i = x
      · rw [if_pos z]
      · rw [if_neg z]; exact h27 i (by omega)
  exact lpA 8 0 h rfl CHr.rf (fun i hi => by omega)
end STO
