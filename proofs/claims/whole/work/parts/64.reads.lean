/-! the whole text read, both sides -/
def posG (n : Nat) (T : Nat → Int32) : Nat → Nat
  | 0 => 0
  | k + 1 => tkE n T (lnE n T (posG n T k))
def plG (n : Nat) (T : Nat → Int32) (P : RW) : Nat → RW
  | 0 => P
  | k + 1 => lnS n T (posG n T k) (plG n T P k)
/-- line k can stand there -/
def gOK (n : Nat) (T : Nat → Int32) (P : RW) (k : Nat) : Prop := lnOK n T (posG n T k) (plG n T P k 0 0) (plG n T P k 0 1)
abbrev sepP (n : Nat) (T : Nat → Int32) (e : Nat) : Prop := tkK n T e = 3 ∧ T (tkF n T e) = 59
/-- behind k lines, m more at most: the place of the fault, and how many lines were begun -/
noncomputable def rdG (n : Nat) (T : Nat → Int32) (P : RW) : Nat → Nat → Option Nat × Nat
  | 0, k => (some 0, k)
  | m + 1, k => @ite _ (gOK n T P k) (Classical.propDecidable _) (if tkK n T (lnE n T (posG n T k)) = 0 then (none, k + 1) else if sepP n T (lnE n T (posG n T k)) ∧ m ≠ 0 then rdG n T P m (k + 1) else (some (tkF n T (lnE n T (posG n T k))), k + 1)) (some (lnF n T (posG n T k) (plG n T P k 0 0) (plG n T P k 0 1)), k + 1)
section REA
variable {X : XS} {h : Hp} {n : Nat} {T : Nat → Int32} {P : RW}
theorem posG_le : ∀ k, posG n T k ≤ n
  | 0 => Nat.zero_le n
  | k + 1 => (tk_le (lnE_le (posG_le k))).2.2
/-- all lines up to k stand there -/
theorem plG_wf (hw : PWF P) : ∀ k, (∀ j, j < k → gOK n T P j) → PWF (plG n T P k)
  | 0, _ => hw
  | k + 1, h => lnS_wf (plG_wf hw k (fun j hj => h j (by omega))) (h k (by omega))
theorem rdG_no {m k : Nat} (h : ¬ gOK n T P k) : rdG n T P (m + 1) k = (some (lnF n T (posG n T k) (plG n T P k 0 0) (plG n T P k 0 1)), k + 1) := by rw [rdG, if_neg h]
theorem rdG_end {m k : Nat} (h : gOK n T P k) (e : tkK n T (lnE n T (posG n T k)) = 0) : rdG n T P (m + 1) k = (none, k + 1) := by rw [rdG, if_pos h, if_pos e]
theorem rdG_bad {m k : Nat} (h : gOK n T P k) (e : ¬ tkK n T (lnE n T (posG n T k)) = 0) (s : ¬ (sepP n T (lnE n T (posG n T k)) ∧ m ≠ 0)) : rdG n T P (m + 1) k = (some (tkF n T (lnE n T (posG n T k))), k + 1) := by rw [rdG, if_pos h, if_neg e, if_neg s]
theorem rdG_go {m k : Nat} (h : gOK n T P k) (s : sepP n T (lnE n T (posG n T k))) (hm : m ≠ 0) : rdG n T P (m + 1) k = rdG n T P m (k + 1) := by
  have e : ¬ tkK n T (lnE n T (posG n T k)) = 0 := fun z => by have := s.1; rw [z] at this; exact absurd this (by decide)
  rw [rdG, if_pos h, if_neg e, if_pos ⟨s, hm⟩]
/-- what is read on the draft, its places and its count of lines change -/
def TxI (h h' : Hp) : Prop := h'.2 = h.2 ∧ (∀ q, q ≠ [2, 0] → q ≠ [1, 2, 0] → q ≠ [1, 0] → (∀ k, q ≠ [k, 1, 0]) → h'.1 q = h.1 q) ∧ ∀ j, j ≠ 3 → j ≠ 4 → j ≠ 5 → j ≠ 6 → h'.1 [2, 0] j = h.1 [2, 0] j
theorem TxI.tr {a b c : Hp} (h1 : TxI a b) (h2 : TxI b c) : TxI a c := ⟨h2.1.trans h1.1, fun q x y z w => (h2.2.1 q x y z w).trans (h1.2.1 q x y z w), fun j x y z w => (h2.2.2 j x y z w).trans (h1.2.2 j x y z w)⟩
theorem TxD.ti {h h' : Hp} (p : TxD h h') : TxI h h' := ⟨p.1, p.2.1, fun j _ x y z => p.2.2 j x y z⟩
theorem TxI.set {h : Hp} {j : Nat} {v : Int32} (hj : j = 3 ∨ j = 5) : TxI h (hsI h [2, 0] j v) := ⟨rfl, fun q x _ _ _ => hsI_other x, fun i x y z w => by simp only [rd, true_and]; rw [if_neg (by omega)]⟩
theorem TxtC.ti {h h' : Hp} (t : TxtC n T h) (p : TxI h h') : TxtC n T h' := ⟨t.1, by rw [p.2.2 2 (by omega) (by omega) (by omega) (by omega)]; exact t.2.1, fun j hj => by rw [p.2.1 _ (by simp) (by simp) (by simp) (by simp)]; exact t.2.2 j hj⟩
def IntoP (n : Nat) (T : Nat → Int32) (P : RW) (g : Option Nat × Nat) (h0 : Hp) (r : Int32) (h' : Hp) : Prop := TxI h0 h' ∧ ((∃ f, g.1 = some f ∧ f ≤ n ∧ r = nI f) ∨ (g.1 = none ∧ r = -1 ∧ h'.1 [2, 0] 3 = nI g.2 ∧ PlanIs h' [1, 0] (plG n T P g.2)))
theorem c_readInto (hT : TxtC n T h) (hP : PlanIs h [1, 0] P) (hw : PWF P) : EvI X m_Tx_readInto [vR [2, 0], vR [1, 0]] h (IntoP n T P (rdG n T P 8 0) h) := by
  have n2 := hT.1
  apply e_Tx_readInto
  apply g_Tx_readInto_0 _ _ _ ipl1
  have step : ∀ (m k : Nat) (hh : Hp), k + m = 7 → TxI h hh → hh.1 [2, 0] 5 = nI (posG n T k) → PlanIs hh [1, 0] (plG n T P k) → (∀ j, j < k → gOK n T P j) → rdG n T P 8 0 = rdG n T P (m + 1) k → (∀ h', m ≠ 0 → gOK n T P k → sepP n T (lnE n T (posG n T k)) → TxI h h' → h'.1 [2, 0] 5 = nI (posG n T (k + 1)) → PlanIs h' [1, 0] (plG n T P (k + 1)) → Rn X m_Tx_readInto 7 [some (vR [2, 0]), some (vR [1, 0]), some (vI (nI (k + 1 + 1)))] [] h' (fun v h' => ∃ r, v = some (vI r) ∧ IntoP n T P (rdG n T P 8 0) h r h')) → Rn X m_Tx_readInto 7 [some (vR [2, 0]), some (vR [1, 0]), some (vI (nI (k + 1)))] [] hh (fun v h' => ∃ r, v = some (vI r) ∧ IntoP n T P (rdG n T P 8 0) h r h') := by
    intro m k hh hk hp h5 hq hj hg nx
    obtain ⟨L, N, w, -⟩ := plG_wf (n := n) (T := T) hw k hj
    have pl := posG_le (n := n) (T := T) k
    have hp1 : TxI h (hsI hh [2, 0] 3 (nI (k + 1))) := hp.tr (TxI.set (Or.inl rfl))
    have hq1 : PlanIs (hsI hh [2, 0] 3 (nI (k + 1))) [1, 0] (plG n T P k) := hq.ch (CH.set0 (w := [2, 0])) (by simp [Apart])
    have h51 : (hsI hh [2, 0] 3 (nI (k + 1))).1 [2, 0] 5 = nI (posG n T k) := by simp [rd]; exact h5
    have h31 : (hsI hh [2, 0] 3 (nI (k + 1))).1 [2, 0] 3 = nI (k + 1) := by simp [rd]
    refine g_Tx_readInto_7 _ _ _ _ ipl1 (cF (by rw [show (8 : Int32) = nI 8 from rfl, nI_ltI (by omega) (by omega)]; omega) ?_)
    generalize hsI hh [2, 0] 3 (nI (k + 1)) = H1 at hp1 hq1 h51 h31 ⊢
    refine callQ (c_readLine (hT.ti hp1) hq1 w pl h51) (fun r h3 q => ?_)
    rcases q with ⟨rfl, q2, q3, q4, q5⟩ | ⟨rfl, q2, q3, q4⟩
    · have gk : gOK n T P k := q2
      have le := lnE_le (T := T) pl
      have t3 := hp1.tr q5.ti
      refine z1b (callN (c_readToken (hT.ti t3) le q3) (fun h8 q8 => ?_))
      obtain ⟨p8, f4, f5, f6⟩ := q8
      have t8 := t3.tr p8.tn.td.ti
      have q48 := q4.tn p8.tn
      have h38 : h8.1 [2, 0] 3 = nI (k + 1) := by
        rw [p8.2.2 3 (by omega) (by omega) (by omega), q5.2.2 3 (by omega) (by omega) (by omega)]; exact h31
      obtain ⟨a1, a2, a3⟩ := tk_le (T := T) le
      rw [f6, f4]
      have bad : ¬ tkK n T (lnE n T (posG n T k)) = 0 → ¬ (sepP n T (lnE n T (posG n T k)) ∧ m ≠ 0) → IntoP n T P (rdG n T P 8 0) h (nI (tkF n T (lnE n T (posG n T k)))) h8 := by
        intro z y
        rw [hg, rdG_bad gk z y]
        exact ⟨t8, Or.inl ⟨_, rfl, by omega, rfl⟩⟩
      refine ⟨fun c => ⟨fun c3 => ⟨_, rfl, bad c (fun z => c3 z.1.1)⟩, fun c3 => ?_⟩, fun c => ⟨_, rfl, ?_⟩⟩
      · have lt : tkF n T (lnE n T (posG n T k)) < n := by
          rcases Nat.lt_or_ge (tkF n T (lnE n T (posG n T k))) n with z | z
          · exact z
          · exact absurd (by unfold tkK; rw [if_neg (by omega)]) c
        refine callP (c_byteAt (hT.ti t8) lt) ⟨fun c5 => ?_, fun c5 => ⟨_, rfl, ?_⟩⟩
        · rw [nI_add1]
          by_cases hm : m = 0
          · subst hm
            refine g_Tx_readInto_7 _ _ _ _ ipl1 (cT (by rw [show (8 : Int32) = nI 8 from rfl, nI_ltI (by omega) (by omega)]; omega) ⟨_, rfl, ?_⟩)
            rw [f4]; exact bad c (fun z => z.2 rfl)
          · exact nx h8 hm gk ⟨c3, c5⟩ t8 f5 q48
        · rw [f4]; exact bad c (fun z => c5 z.1.2)
      · rw [hg, rdG_end gk c]
        exact ⟨t8, Or.inr ⟨rfl, rfl, h38, q48⟩⟩
    · refine z0b ⟨_, rfl, ?_⟩
      rw [hg, rdG_no q2]
      exact ⟨hp1.tr q4.ti, Or.inl ⟨_, rfl, lnF_le pl, q3⟩⟩
  have lp : ∀ (m k : Nat) (hh : Hp), k + m = 7 → TxI h hh → hh.1 [2, 0] 5 = nI (posG n T k) → PlanIs hh [1, 0] (plG n T P k) → (∀ j, j < k → gOK n T P j) → rdG n T P 8 0 = rdG n T P (m + 1) k → Rn X m_Tx_readInto 7 [some (vR [2, 0]), some (vR [1, 0]), some (vI (nI (k + 1)))] [] hh (fun v h' => ∃ r, v = some (vI r) ∧ IntoP n T P (rdG n T P 8 0) h r h') := by
    intro m
    induction m with
    | zero =>
      intro k hh hk hp h5 hq hj hg
      exact step 0 k hh hk hp h5 hq hj hg (fun h' z => absurd rfl z)
    | succ m ih =>
      intro k hh hk hp h5 hq hj hg
      refine step (m + 1) k hh hk hp h5 hq hj hg (fun h' _ gk sp a b c => ih (k + 1) h' (by omega) a b c (fun j hj' => ?_) ?_)
      · by_cases z : j = k
        · subst z; exact gk
        · exact hj j (by omega)
      · rw [hg, rdG_go gk sp (by omega)]
  exact lp 7 0 _ rfl (TxI.set (Or.inr rfl)) (by simp [rd]; rfl) (hP.ch (CH.set0 (w := [2, 0])) (by simp [Apart])) (fun j hj => by omega) rfl
/-- rows that hold the lines up to k -/
def RowI (n : Nat) (T : Nat → Int32) (P : RW) (k : Nat) (h : Hp) : Prop := ∀ j, j < k → gOK n T P j ∧ h.1 [15, 1] (8 * j) = nI (wK n T (posG n T j)) ∧ ∀ t, t < cntG (wK n T (posG n T j)) → h.1 [15, 1] (8 * j + 1 + t) = vNu n T (tkE n T (posG n T j)) t
abbrev J8 : Nat → Prop := fun j => J7 j ∨ j = 14
abbrev I64 : Nat → Prop := fun x => x < 64
def ReadP (n : Nat) (T : Nat → Int32) (P : RW) (g : Option Nat × Nat) (h0 : Hp) (r : Int32) (h' : Hp) : Prop := RdP J8 I64 h0 h' ∧ ((∃ f, g.1 = some f ∧ r = 0 ∧ h'.1 [1] 13 = nI f) ∨ (g.1 = none ∧ r = 1 ∧ g.2 ≤ 8 ∧ h'.1 [1] 14 = nI g.2 ∧ RowI n T P g.2 h'))
theorem cnt7 : ∀ kd, cntG kd ≤ 7
  | 0 => by decide
  | 1 => by decide
  | 2 => by decide
  | 3 => by decide
  | _ + 4 => by show (3 : Nat) ≤ 7; decide
theorem r_isRead (hT : TxtR n T h) (h0 : h.1 [1] 0 = P 0 0) (h1 : h.1 [1] 1 = P 0 1) : EvI X m_Rf_isRead [vR [1]] h (ReadP n T P (rdG n T P 8 0) h) := by
  have n2 := hT.1
  apply e_Rf_isRead
  apply g_Rf_isRead_0
  have step : ∀ (m k : Nat) (hh : Hp), k + m = 7 → RdP J8 I64 h hh → hh.1 [1] 14 = nI k → hh.1 [1] 8 = nI (posG n T k) → hh.1 [1] 16 = plG n T P k 0 0 → hh.1 [1] 17 = plG n T P k 0 1 → RowI n T P k hh → rdG n T P 8 0 = rdG n T P (m + 1) k → (∀ h', m ≠ 0 → gOK n T P k → sepP n T (lnE n T (posG n T k)) → RdP J8 I64 h h' → h'.1 [1] 14 = nI (k + 1) → h'.1 [1] 8 = nI (posG n T (k + 1)) → h'.1 [1] 16 = plG n T P (k + 1) 0 0 → h'.1 [1] 17 = plG n T P (k + 1) 0 1 → RowI n T P (k + 1) h' → Rn X m_Rf_isRead 28 [some (vR [1]), some (vI 1)] [] h' (fun v h' => ∃ r, v = some (vI r) ∧ ReadP n T P (rdG n T P 8 0) h r h')) → Rn X m_Rf_isRead 28 [some (vR [1]), some (vI 1)] [] hh (fun v h' => ∃ r, v = some (vI r) ∧ ReadP n T P (rdG n T P 8 0) h r h') := by
    intro m k hh hk hp h14 h8 h16 h17 hr hg nx
    have pl := posG_le (n := n) (T := T) k
    have hTh : TxtR n T hh := hT.rd hp (by decide)
    refine g_Rf_isRead_28 _ _ _ (cF (by decide) ?_)
    rw [h14, show (8 : Int32) = nI 8 from rfl, pk_mul]
    refine callQ (r_isLine hTh (w := 8 * k) (by omega) pl h8 h16 h17) (fun r h3 q => ?_)
    rcases q with ⟨rfl, q2, q3, q4, q5, q6, q7, q8⟩ | ⟨rfl, q2, q3, q4⟩
    · have gk : gOK n T P k := q2
      have le := lnE_le (T := T) pl
      have p3 : RdP J8 I64 h h3 := hp.tr (q8.le (fun j hj => Or.inl hj) (fun x hx => by have := hx.2; show x < 64; omega))
      have e14 : h3.1 [1] 14 = nI k := by rw [q8.2.2.1 14 (by decide)]; exact h14
      refine z1b ?_
      rw [e14, nI_add1]
      have p4 : RdP J8 I64 h (hsI h3 [1] 14 (nI (k + 1))) := p3.tr (RdP.setJ (Or.inr rfl))
      have x8 : (hsI h3 [1] 14 (nI (k + 1))).1 [1] 8 = nI (lnE n T (posG n T k)) := by simp [rd]; exact q3
      have x14 : (hsI h3 [1] 14 (nI (k + 1))).1 [1] 14 = nI (k + 1) := by simp [rd]
      have x16 : (hsI h3 [1] 14 (nI (k + 1))).1 [1] 16 = plG n T P (k + 1) 0 0 := by simp [rd]; exact q4
      have x17 : (hsI h3 [1] 14 (nI (k + 1))).1 [1] 17 = plG n T P (k + 1) 0 1 := by simp [rd]; exact q5
      have xr : (hsI h3 [1] 14 (nI (k + 1))).1 [15, 1] = h3.1 [15, 1] := hsI_other (by simp)
      generalize hsI h3 [1] 14 (nI (k + 1)) = H at p4 x8 x14 x16 x17 xr ⊢
      refine callN (r_nextToken (hT.rd p4 (by decide)) le x8) (fun h5 q => ?_)
      obtain ⟨p5, f8, f9, -, tk⟩ := q
      have p6 : RdP J8 I64 h h5 := p4.tr (p5.le (fun j hj => Or.inl (Or.inl (by unfold J4 at hj; unfold J5; omega))) (fun _ z => z.elim))
      have y14 : h5.1 [1] 14 = nI (k + 1) := by rw [p5.2.2.1 14 (by decide)]; exact x14
      have y16 : h5.1 [1] 16 = plG n T P (k + 1) 0 0 := by rw [p5.2.2.1 16 (by decide)]; exact x16
      have y17 : h5.1 [1] 17 = plG n T P (k + 1) 0 1 := by rw [p5.2.2.1 17 (by decide)]; exact x17
      have yr : ∀ x, h5.1 [15, 1] x = h3.1 [15, 1] x := fun x => by rw [p5.2.2.2 x (fun z => z), xr]
      have row : RowI n T P (k + 1) h5 := by
        intro j hj
        by_cases z : j = k
        · subst z
          refine ⟨gk, by rw [yr]; exact q6, fun t ht => by rw [yr]; exact q7 t ht⟩
        · obtain ⟨r1, r2, r3⟩ := hr j (by omega)
          refine ⟨r1, ?_, fun t ht => ?_⟩
          · rw [yr, q8.2.2.2 (8 * j) (by unfold IX; omega)]; exact r2
          · have := cnt7 (wK n T (posG n T j))
            rw [yr, q8.2.2.2 (8 * j + 1 + t) (by unfold IX; omega)]; exact r3 t ht
      have fin : ¬ (sepP n T (lnE n T (posG n T k)) ∧ m ≠ 0) → Rn X m_Rf_isRead 28 [some (vR [1]), some (vI 0)] [] h5 (fun v h' => ∃ r, v = some (vI r) ∧ ReadP n T P (rdG n T P 8 0) h r h') := by
        intro ns
        refine g_Rf_isRead_28 _ _ _ (cT rfl ⟨fun c => ⟨_, rfl, p6, Or.inr ?_⟩, fun c => callQ r_fails (fun r h' q => ?_)⟩)
        · rw [hg, rdG_end gk (tk.2.1.mp (lgE.mp c))]
          exact ⟨rfl, rfl, by show k + 1 ≤ 8; omega, y14, row⟩
        · obtain ⟨rfl, rfl⟩ := q
          refine z0a ⟨_, rfl, p6.tr (RdP.setJ (Or.inl (by decide))), Or.inl ⟨tkF n T (lnE n T (posG n T k)), ?_, rfl, ?_⟩⟩
          · rw [hg, rdG_bad gk (fun z => c (lgE.mpr (tk.2.1.mpr z))) ns]
          · simp only [rd, true_and]
            rw [if_pos trivial]; exact f9
      refine ⟨fun c => fin (fun z => c (lgE.mpr (tk.2.2.1.mpr z.1))), fun c => ?_⟩
      have sp : sepP n T (lnE n T (posG n T k)) := tk.2.2.1.mp (lgE.mp c)
      rw [y14, nI_leI (by omega) (by omega)]
      refine ⟨fun c8 => fin (fun z => z.2 (by omega)), fun c8 => nx h5 (by omega) gk sp p6 y14 f8 y16 y17 row⟩
    · refine z0b ⟨_, rfl, hp.tr (q4.le (fun j hj => Or.inl hj) (fun x hx => by have := hx.2; show x < 64; omega)), Or.inl ⟨lnF n T (posG n T k) (plG n T P k 0 0) (plG n T P k 0 1), ?_, rfl, q3⟩⟩
      rw [hg, rdG_no q2]
  have lp : ∀ (m k : Nat) (hh : Hp), k + m = 7 → RdP J8 I64 h hh → hh.1 [1] 14 = nI k → hh.1 [1] 8 = nI (posG n T k) → hh.1 [1] 16 = plG n T P k 0 0 → hh.1 [1] 17 = plG n T P k 0 1 → RowI n T P k hh → rdG n T P 8 0 = rdG n T P (m + 1) k → Rn X m_Rf_isRead 28 [some (vR [1]), some (vI 1)] [] hh (fun v h' => ∃ r, v = some (vI r) ∧ ReadP n T P (rdG n T P 8 0) h r h') := by
    intro m
    induction m with
    | zero =>
      intro k hh hk a b c d e f g
      exact step 0 k hh hk a b c d e f g (fun h' z => absurd rfl z)
    | succ m ih =>
      intro k hh hk a b c d e f g
      exact step (m + 1) k hh hk a b c d e f g (fun h' _ gk sp a' b' c' d' e' f' => ih (k + 1) h' (by omega) a' b' c' d' e' f' (by rw [g, rdG_go gk sp (by omega)]))
  refine lp 7 0 _ rfl ((((RdP.setJ (j := 8) (by decide)).tr (RdP.setJ (j := 14) (by decide))).tr (RdP.setJ (j := 16) (by decide))).tr (RdP.setJ (j := 17) (by decide))) ?_ ?_ ?_ ?_ (fun j hj => by omega) rfl
  · simp [rd]; rfl
  · simp [rd]; rfl
  · simp [rd]; exact h0
  · simp [rd]; exact h1
end REA
