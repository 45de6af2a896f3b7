/-! common -/
def sumG (P : RW) (f : Nat → Int32) : Nat → Int32
  | 0 => 0
  | n + 1 => sumG P f n + (if P 3 n ≠ 0 then f n else 0)
def bestG (F : Nat → Int32) : Nat → Int32 × Int32
  | 0 => (-1, 0)
  | s + 1 => if (bestG F s).1 = -1 ∨ F s < (bestG F s).2 then (nI s, F s) else bestG F s
theorem bestG_1 {F : Nat → Int32} : ∀ s, (bestG F (s + 1)).1 = -1 → s < 100 → False
  | 0, h, _ => by unfold bestG bestG at h; revert h; simp; decide
  | s + 1, h, hs => by
    rw [bestG] at h
    split at h
    · rw [show (-1 : Int32) = -1 from rfl] at h
      have h0 : (0 : Int32) ≤ nI (s + 1) := nI_pos' (by omega)
      simp only at h
      rw [h] at h0
      exact absurd h0 (by decide)
    · exact bestG_1 s h (by omega)
section COM
variable {X : XS} {h : Hp} {L N : Nat} {P W : RW} {K : Nat → RW} {T O : RW}
abbrev PS (P : RW) (s : Nat) : RW := szP P (bitsS P (nI s * 1365))
theorem bits_all : ∀ s, s < 3 → ∀ r, r < 6 → iShr (nI s * 1365) (2 * nI r) &&& 3 = nI s := by decide +kernel
theorem PS_8 {s k : Nat} (hs : s < 3) (hk : k < 6) (hp : P 3 k ≠ 0) : PS P s 8 k = nI s := by
  unfold PS
  rw [szP_8 hp]
  have := walkersG_le (P := P) k
  exact bits_all s hs _ (by omega)
def FS (P : RW) (c0 c p : Int32) (s : Nat) : Int32 := sumG P (paidS (PS P s) (goN (PS P s) 60 (Wst c0)) c p) 6
theorem c_common {c0 c p : Int32} (hF : WFS L N P W K T O) : ∀ (n s : Nat) (hh : Hp), s + n = 3 → CST P W K T O hh → OnC h hh → hh.1 [1, 6, 0] 0 = c0 → hh.1 [6, 0] 5 = (bestG (FS P c0 c p) s).1 → hh.1 [6, 0] 6 = (bestG (FS P c0 c p) s).2 ∨ s = 0 → Rn X m_Tr_seekCommon 8 [some (vR [6, 0]), some (vR [0, 0]), some (vI c), some (vI p), some (vI (nI s)), none, none] [] hh (fun v h' => v = none ∧ CST P W K T O h' ∧ OnC h h' ∧ h'.1 [6, 0] 5 = (bestG (FS P c0 c p) 3).1 ∧ h'.1 [6, 0] 6 = (bestG (FS P c0 c p) 3).2) := by
  intro n
  induction n with
  | zero =>
    intro s hh hs hc ho h0 h5 h6
    have : s = 3 := by omega
    subst this
    refine g_Tr_seekCommon_8 _ _ _ _ _ _ ipl0 (cT (by decide) ⟨rfl, hc, ho, h5, ?_⟩)
    rcases h6 with z | z
    · exact z
    · omega
  | succ n ih =>
    intro s hh hs hc ho h0 h5 h6
    have hs3 : s < 3 := by omega
    have sum : ∀ (m k : Nat) (h2 : Hp), k + m = 6 → CST P W K T O h2 → OnC h h2 → h2.1 [1, 6, 0] 0 = c0 → h2.1 [6, 0] = hh.1 [6, 0] → PlanIs h2 [0, 6, 0] (PS P s) → WalkIs h2 [1, 6, 0] (goN (PS P s) 60 (Wst c0)) → Rn X m_Tr_seekCommon 31 [some (vR [6, 0]), some (vR [0, 0]), some (vI c), some (vI p), some (vI (nI s)), some (vI (sumG P (paidS (PS P s) (goN (PS P s) 60 (Wst c0)) c p) k)), some (vI (nI k))] [] h2 (fun v h' => v = none ∧ CST P W K T O h' ∧ OnC h h' ∧ h'.1 [6, 0] 5 = (bestG (FS P c0 c p) 3).1 ∧ h'.1 [6, 0] 6 = (bestG (FS P c0 c p) 3).2) := by
      intro m
      induction m with
      | zero =>
        intro k h2 hk hc2 ho2 h02 h62 hp2 hw2
        have : k = 6 := by omega
        subst this
        rw [show sumG P (paidS (PS P s) (goN (PS P s) 60 (Wst c0)) c p) 6 = FS P c0 c p s from rfl]
        have new : ((bestG (FS P c0 c p) s).1 = -1 ∨ FS P c0 c p s < (bestG (FS P c0 c p) s).2) → Rn X m_Tr_seekCommon 8 [some (vR [6, 0]), some (vR [0, 0]), some (vI c), some (vI p), some (vI (nI (s + 1))), none, none] [] (hsI (hsI h2 [6, 0] 5 (nI s)) [6, 0] 6 (FS P c0 c p s)) (fun v h' => v = none ∧ CST P W K T O h' ∧ OnC h h' ∧ h'.1 [6, 0] 5 = (bestG (FS P c0 c p) 3).1 ∧ h'.1 [6, 0] 6 = (bestG (FS P c0 c p) 3).2) := by
          intro z
          refine ih (s + 1) _ (by omega) (hc2.sc [6, 0] (CH.set0.tr CH.set0) (by simp)) (ho2.tr ((OnC.set rfl).tr (OnC.set rfl))) ?_ ?_ (Or.inl ?_)
          · rw [hsI_other (by simp), hsI_other (by simp)]; exact h02
          · rw [bestG, if_pos z]; simp [rd]
          · rw [bestG, if_pos z]; simp [rd]
        have old : ¬ ((bestG (FS P c0 c p) s).1 = -1 ∨ FS P c0 c p s < (bestG (FS P c0 c p) s).2) → Rn X m_Tr_seekCommon 8 [some (vR [6, 0]), some (vR [0, 0]), some (vI c), some (vI p), some (vI (nI (s + 1))), none, none] [] h2 (fun v h' => v = none ∧ CST P W K T O h' ∧ OnC h h' ∧ h'.1 [6, 0] 5 = (bestG (FS P c0 c p) 3).1 ∧ h'.1 [6, 0] 6 = (bestG (FS P c0 c p) 3).2) := by
          intro z
          refine ih (s + 1) _ (by omega) hc2 ho2 h02 ?_ (Or.inl ?_)
          · rw [bestG, if_neg z, h62]; exact h5
          · rw [bestG, if_neg z, h62]
            rcases h6 with y | y
            · exact y
            · subst y; exact absurd (Or.inl rfl) z
        refine g_Tr_seekCommon_31 _ _ _ _ _ _ _ _ ipl0 (cT e6 ?_)
        rw [nI_add1, h62, h5]
        refine ⟨fun z => new (Or.inl z), fun z => ?_⟩
        rcases h6 with y | y
        · rw [y]
          exact ⟨fun x => old (by grind), fun x => new (Or.inr (by grind))⟩
        · subst y; exact absurd rfl z
      | succ m ihm =>
        intro k h2 hk hc2 ho2 h02 h62 hp2 hw2
        have hk6 : k < 6 := by omega
        refine g_Tr_seekCommon_31 _ _ _ _ _ _ _ _ ipl0 (cF (n6 hk6) ⟨v6 hk6, ?_⟩)
        rw [ci (by omega), hp2.2.2.1 3 (by omega) (by omega) k hk6, nI_add1, show PS P s 3 k = P 3 k from szP_o (by decide)]
        have e : sumG P (paidS (PS P s) (goN (PS P s) 60 (Wst c0)) c p) (k + 1) = sumG P (paidS (PS P s) (goN (PS P s) 60 (Wst c0)) c p) k + (if P 3 k ≠ 0 then paidS (PS P s) (goN (PS P s) 60 (Wst c0)) c p k else 0) := rfl
        have := ihm (k + 1) h2 (by omega) hc2 ho2 h02 h62 hp2 hw2
        rw [e] at this
        refine ⟨fun z => ?_, fun z => callP (c_paidBy hp2 hw2 hk6 c p) ?_⟩
        · rw [if_neg (fun y => y z)] at this; exact this
        · rw [if_pos z] at this; exact this
    refine g_Tr_seekCommon_8 _ _ _ _ _ _ ipl0 (cF ?_ (callN (c_walkWith hc hF (nI s * 1365)) (fun h3 q3 => ?_)))
    · rw [show (2 : Int32) = nI 2 from rfl, nI_ltI (by decide) (by omega)]; omega
    · have e1 : h3.1 [1, 6, 0] 0 = c0 := q3.2.2.1.trans h0
      have e2 := q3.2.1
      rw [h0] at e2
      exact sum 6 0 h3 rfl (q3.cst hc) (ho.tr q3.on) e1 (q3.other (by simp) (by simp) (by simp) (by simp)) q3.1 e2
theorem r_common {h1 : Hp} {c0 c p : Int32} (hF : WFS L N P W K T O) (w : Int32) : ∀ (n s : Nat) (hh : Hp) (x y : Int32), s + n = 3 → DST P W K T O hh → OnR h1 hh → ((x = (bestG (FS P c0 c p) s).1 ∧ y = (bestG (FS P c0 c p) s).2) ∨ s = 0) → Rn X m_Rf_common 43 [some (vR [1]), some (vI c), some (vI p), some (vI w), some (vI x), some (vI y), some (vI (nI s)), none, none] [] hh (fun v h' => ∃ r, v = some (vI r) ∧ r = (if w = 0 then (bestG (FS P c0 c p) 3).1 else (bestG (FS P c0 c p) 3).2) ∧ DST P W K T O h' ∧ OnR h1 h') := by
  intro n
  induction n with
  | zero =>
    intro s hh x y hs hd ho hxy
    have : s = 3 := by omega
    subst this
    have hxy := hxy.resolve_right (by omega)
    refine g_Rf_common_43 _ _ _ _ _ _ _ _ (cT (by decide) ⟨fun z => ⟨_, rfl, ?_, hd, ho⟩, fun z => ⟨_, rfl, ?_, hd, ho⟩⟩)
    · rw [if_neg z]; exact hxy.2
    · rw [if_pos z]; exact hxy.1
  | succ n ih =>
    intro s hh x y hs hd ho hxy
    have hs3 : s < 3 := by omega
    have z0 : (nI s = 0) ↔ s = 0 := by
      have : s = 0 ∨ s = 1 ∨ s = 2 := by omega
      rcases this with rfl | rfl | rfl <;> decide
    have sum : ∀ (m k : Nat) (h2 : Hp), k + m = 6 → DST P W K T O h2 → OnR h1 h2 → (∀ j, j < 6 → P 3 j ≠ 0 → h2.1 [29, 1] j = paidS (PS P s) (goN (PS P s) 60 (Wst c0)) c p j) → Rn X m_Rf_common 86 [some (vR [1]), some (vI c), some (vI p), some (vI w), some (vI x), some (vI y), some (vI (nI s)), some (vI (sumG P (paidS (PS P s) (goN (PS P s) 60 (Wst c0)) c p) k)), some (vI (nI k))] [] h2 (fun v h' => ∃ r, v = some (vI r) ∧ r = (if w = 0 then (bestG (FS P c0 c p) 3).1 else (bestG (FS P c0 c p) 3).2) ∧ DST P W K T O h' ∧ OnR h1 h') := by
      intro m
      induction m with
      | zero =>
        intro k h2 hk hd2 ho2 hp2
        have : k = 6 := by omega
        subst this
        rw [show sumG P (paidS (PS P s) (goN (PS P s) 60 (Wst c0)) c p) 6 = FS P c0 c p s from rfl]
        have ihs := fun x' y' hx => ih (s + 1) h2 x' y' (by omega) hd2 ho2 hx
        have nw : (s = 0 ∨ FS P c0 c p s < y) → bestG (FS P c0 c p) (s + 1) = (nI s, FS P c0 c p s) := by
          intro z
          rw [bestG, if_pos]
          rcases z with rfl | z
          · exact Or.inl rfl
          · rcases hxy with q | q
            · rw [← q.2]; exact Or.inr z
            · subst q; exact Or.inl rfl
        have od : (s ≠ 0 ∧ ¬ FS P c0 c p s < y) → bestG (FS P c0 c p) (s + 1) = (x, y) := by
          intro z
          have q := hxy.resolve_right z.1
          rw [bestG, if_neg, q.1, q.2]
          intro t
          rcases t with t | t
          · obtain ⟨s', rfl⟩ : ∃ s', s = s' + 1 := ⟨s - 1, by omega⟩
            exact bestG_1 s' t (by omega)
          · rw [← q.2] at t; exact z.2 t
        have n139 : (s = 0 ∨ FS P c0 c p s < y) → Rn X m_Rf_common 139 [some (vR [1]), some (vI c), some (vI p), some (vI w), some (vI x), some (vI y), some (vI (nI s)), some (vI (FS P c0 c p s)), some (vI (nI 6))] [] h2 (fun v h' => ∃ r, v = some (vI r) ∧ r = (if w = 0 then (bestG (FS P c0 c p) 3).1 else (bestG (FS P c0 c p) 3).2) ∧ DST P W K T O h' ∧ OnR h1 h') := by
          intro z
          refine g_Rf_common_139 _ _ _ _ _ _ _ _ _ _ (g_Rf_common_146 _ _ _ _ _ _ _ _ _ _ _ ?_)
          rw [nI_add1]
          have k := ihs (nI s) (FS P c0 c p s) (Or.inl (by rw [nw z]; exact ⟨rfl, rfl⟩))
          refine ⟨fun _ => k, fun t => ⟨fun t2 => ?_, fun _ => k⟩⟩
          exfalso
          rcases z with z | z
          · exact t (z0.mpr z)
          · grind
        refine g_Rf_common_86 _ _ _ _ _ _ _ _ _ _ (cT e6 ⟨fun z => n139 (Or.inl (z0.mp z)), fun z => ⟨fun z2 => ?_, fun z2 => n139 (Or.inr (by grind))⟩⟩)
        refine g_Rf_common_146 _ _ _ _ _ _ _ _ _ _ _ ⟨fun t => absurd t z, fun _ => ⟨fun _ => ?_, fun t => absurd z2 t⟩⟩
        rw [nI_add1]
        exact ihs x y (Or.inl (by rw [od ⟨fun t => z (z0.mpr t), by grind⟩]; exact ⟨rfl, rfl⟩))
      | succ m ihm =>
        intro k h2 hk hd2 ho2 hp2
        have hk6 : k < 6 := by omega
        have e : sumG P (paidS (PS P s) (goN (PS P s) 60 (Wst c0)) c p) (k + 1) = sumG P (paidS (PS P s) (goN (PS P s) 60 (Wst c0)) c p) k + (if P 3 k ≠ 0 then paidS (PS P s) (goN (PS P s) 60 (Wst c0)) c p k else 0) := rfl
        have := ihm (k + 1) h2 (by omega) hd2 ho2 hp2
        rw [e] at this
        refine g_Rf_common_86 _ _ _ _ _ _ _ _ _ _ (cF (n6 hk6) ?_)
        rw [nI_add1, ci (by omega)]
        refine callB (r_has hd2.1 hF.1 hk6 h2) (fun z => z1a ⟨v6 hk6, ?_⟩) (fun z => z0a ?_)
        · rw [if_pos z] at this
          rw [hp2 k hk6 z]; exact this
        · rw [if_neg z] at this; exact this
    have fill : ∀ (m k : Nat) (h2 : Hp), k + m = 6 → CHr [22] hh h2 → (∀ j, j < k → h2.1 [22, 1] j = nI s) → Rn X m_Rf_common 55 [some (vR [1]), some (vI c), some (vI p), some (vI w), some (vI x), some (vI y), some (vI (nI s)), some (vI 0), some (vI (nI k))] [] h2 (fun v h' => ∃ r, v = some (vI r) ∧ r = (if w = 0 then (bestG (FS P c0 c p) 3).1 else (bestG (FS P c0 c p) 3).2) ∧ DST P W K T O h' ∧ OnR h1 h') := by
      intro m
      induction m with
      | zero =>
        intro k h2 hk hc2 h22
        have : k = 6 := by omega
        subst this
        have hd2 := hd.ch hc2 (by simp)
        have hS : SzIs h2 (PS P s) := fun k hk hp => by
          rw [show PS P s 3 k = P 3 k from szP_o (by decide)] at hp
          rw [h22 k hk, PS_8 hs3 hk hp]
        have hsz : wfP L N (PS P s) := wfP_sz hF.1 (fun k hk hp => ⟨s, by omega, by
          have := PS_8 (P := P) hs3 hk hp
          unfold PS at this
          rw [szP_8 hp] at this
          exact this⟩)
        refine g_Rf_common_55 _ _ _ _ _ _ _ _ _ _ (cT e6 (callN (r_goWhole hd2 hd2.1.sz hsz hS c p c0) (fun h3 q3 => ?_)))
        refine sum 6 0 h3 rfl q3.1 (ho.tr ((OnR.ch hc2).tr (OnR.ch q3.2.1))) (fun j hj hp => ?_)
        rw [q3.2.2.1 j hj, h22 j hj]
        unfold paidS
        rw [PS_8 hs3 hj hp]
      | succ m ihm =>
        intro k h2 hk hc2 h22
        have hk6 : k < 6 := by omega
        refine g_Rf_common_55 _ _ _ _ _ _ _ _ _ _ (cF (n6 hk6) ⟨v6 hk6, ?_⟩)
        rw [nI_add1, ci (by omega)]
        refine ihm (k + 1) _ (by omega) (hc2.tr (CHr.set (by simp))) (fun j hj => ?_)
        simp only [rd, true_and]
        by_cases e : j = k
        · rw [if_pos e]
        · rw [if_neg e]; exact h22 j (by omega)
    refine g_Rf_common_43 _ _ _ _ _ _ _ _ (cF ?_ (fill 6 0 hh rfl CHr.rf (fun j hj => by omega)))
    rw [show (3 : Int32) = nI 3 from rfl, nI_leI (by decide) (by omega)]; omega
theorem op_common (hI : Inv h) (c p w : Int32) : PairI X m_Us_common m_Rf_common [vI c, vI p, vI w] h := by
  obtain ⟨L, N, P, W, K, T, O, hC, hD, hF⟩ := id hI
  have wl : walkersG P 6 ≤ 6 := walkersG_le 6
  by_cases c1 : costOK c p ∧ (0 ≤ w ∧ w ≤ 1)
  · by_cases c4 : walkersG P 6 ≤ 4
    · refine ⟨fun r h' => r = (if w = 0 then (bestG (FS P (h.1 [1, 6, 0] 0) c p) 3).1 else (bestG (FS P (h.1 [1, 6, 0] 0) c p) 3).2) ∧ CST P W K T O h' ∧ OnC h h', ?_, fun r h1 q => ?_⟩
      · apply e_Us_common
        refine g_Us_common_0 _ _ _ _ _ (callB (c_costs c p) (fun z => absurd c1.1 z) (fun _ => z0b (callB (s_isNotIn w 0 1 h) (fun z => absurd c1.2 z) (fun _ => z0a (callP (c_walkers ipl0 hC.1) (cT ((le4 wl).mpr c4) ?_))))))
        refine callN (Q0 := fun h' => CST P W K T O h' ∧ OnC h h' ∧ h'.1 [6, 0] 5 = (bestG (FS P (h.1 [1, 6, 0] 0) c p) 3).1 ∧ h'.1 [6, 0] 6 = (bestG (FS P (h.1 [1, 6, 0] 0) c p) 3).2) ?_ (fun h18 q => ⟨fun z => ⟨_, rfl, ?_, q.1, q.2.1⟩, fun z => ⟨_, rfl, ?_, q.1, q.2.1⟩⟩)
        · apply e_Tr_seekCommon
          refine g_Tr_seekCommon_0 _ _ _ _ _ ipl0 (c_common (h := h) hF 3 0 _ rfl (hC.sc [6, 0] CH.set0 (by simp)) (OnC.set rfl) ?_ ?_ (Or.inr rfl))
          · rw [hsI_other (by simp)]
          · simp [rd]; rfl
        · rw [if_neg z]; exact q.2.2.2
        · rw [if_pos z]; exact q.2.2.1
      · obtain ⟨q1, q2, q3⟩ := q
        have hD1 := hD.on q3
        generalize h.1 [1, 6, 0] 0 = c0 at q1
        refine ⟨fun r h' => r = (if w = 0 then (bestG (FS P c0 c p) 3).1 else (bestG (FS P c0 c p) 3).2) ∧ DST P W K T O h' ∧ OnR h1 h', ?_, fun r' h2 q' => ⟨by rw [q1, q'.1], L, N, P, W, K, T, O, q2.on q'.2.2, q'.2.1, hF⟩⟩
        apply e_Rf_common
        refine g_Rf_common_0 _ _ _ _ _ (callB (r_prices c p) (fun _ => z1a (callB (s_in w 0 1 h1) (fun _ => z1b (callP (r_bits hD1.1 hF.1) (cT ((le4 wl).mpr c4) ?_))) (fun z => absurd c1.2 z))) (fun z => absurd c1.1 z))
        exact r_common (h1 := h1) hF w 3 0 h1 0 0 rfl hD1 OnR.rf (Or.inr rfl)
    · refine pairSame (f := -4) hI ?_ ?_
      · apply e_Us_common
        exact g_Us_common_0 _ _ _ _ _ (callB (c_costs c p) (fun z => absurd c1.1 z) (fun _ => z0b (callB (s_isNotIn w 0 1 h) (fun z => absurd c1.2 z) (fun _ => z0a (callP (c_walkers ipl0 hC.1) (cF (fun z => c4 ((le4 wl).mp z)) ⟨_, rfl, rfl, rfl⟩))))))
      · apply e_Rf_common
        exact g_Rf_common_0 _ _ _ _ _ (callB (r_prices c p) (fun _ => z1a (callB (s_in w 0 1 h) (fun _ => z1b (callP (r_bits hD.1 hF.1) (cF (fun z => c4 ((le4 wl).mp z)) ⟨_, rfl, rfl, rfl⟩))) (fun z => absurd c1.2 z))) (fun z => absurd c1.1 z))
  · refine pairSame (f := -3) hI ?_ ?_
    · apply e_Us_common
      exact g_Us_common_0 _ _ _ _ _ (callB (c_costs c p) (fun _ => z1b ⟨_, rfl, rfl, rfl⟩) (fun y => z0b (callB (s_isNotIn w 0 1 h) (fun _ => z1a ⟨_, rfl, rfl, rfl⟩) (fun y2 => absurd ⟨Classical.not_not.mp y, Classical.not_not.mp y2⟩ c1))))
    · apply e_Rf_common
      exact g_Rf_common_0 _ _ _ _ _ (callB (r_prices c p) (fun y => z1a (callB (s_in w 0 1 h) (fun y2 => absurd ⟨y, y2⟩ c1) (fun _ => z0b ⟨_, rfl, rfl, rfl⟩))) (fun _ => z0a ⟨_, rfl, rfl, rfl⟩))
end COM
