/-! seller and where -/
section MD2
variable {X : XS} {h : Hp} {L N : Nat} {P W : RW} {K : Nat → RW} {T O : RW}
theorem CST.c8 {h' : Hp} (s : CST P W K T O h) (c : CH [8, 0] h h') : CST P W K T O h' := s.sc [8, 0] c (by simp)
theorem CST.c08 {h' : Hp} (s : CST P W K T O h) (c : CH [0, 8, 0] h h') : CST P W K T O h' := by
  obtain ⟨c1, c2, c3, c4, c5, c6, c7⟩ := s
  refine ⟨c1.ch c (by simp [Apart]), c2.ch c (by simp [Apart]), fun k hk => (c3 k hk).ch c (by simp [Apart]), ?_, ?_, ?_, ?_⟩
  · rw [c.2 _ (by simp) (by simp)]; exact c4
  · intro i hi; rw [c.2 _ (by simp) (by simp)]; exact c5 i hi
  · rw [c.2 _ (by simp) (by simp)]; exact c6
  · intro j hj i hi; rw [c.2 _ (by simp) (by simp)]; exact c7 j hj i hi
def WatchP (P : RW) (c0 : Int32) (h' : Hp) : Prop := ∀ a, a < 12 → ∀ k, k < 6 → h'.1 [0, 8, 0] (6 * a + k) = worthS P (Wst c0) k a
theorem c_watch (hC : CST P W K T O h) (hF : WFS L N P W K T O) : EvV X m_Mk_watch [vR [8, 0], vR [0, 0], vR [4, 0]] h (fun h' => CST P W K T O h' ∧ OnC h h' ∧ WatchP P (h.1 [4, 0] 0) h') := by
  apply e_Mk_watch
  refine g_Mk_watch_0 _ _ _ _ ipl0 iwk4 (callN (c_fill (n := 72) (by decide) (by decide)) (fun h3 q3 => callN (c_clear iwk4) (fun h7 q7 => ?_)))
  have e0 : h3.1 [4, 0] 0 = h.1 [4, 0] 0 := by rw [q3.1.2 _ (by simp) (by simp)]
  rw [e0] at q7
  generalize h.1 [4, 0] 0 = c0 at q7
  have fin : ∀ (n i : Nat) (hh : Hp), i + n = 72 → CST P W K T O hh → OnC h hh → WalkIs hh [4, 0] (goN P 60 (Wst c0)) → (∀ a, a < 12 → ∀ k, k < 6 → hh.1 [0, 8, 0] (6 * a + k) = if 6 * a + k < i then worthS P (Wst c0) k a else stG P (Wst c0) k a 60) → Rn X m_Mk_watch 39 [some (vR [8, 0]), some (vR [0, 0]), some (vR [4, 0]), some (vI (nI i))] [] hh (fun v h' => v = none ∧ CST P W K T O h' ∧ OnC h h' ∧ WatchP P c0 h') := by
    intro n
    induction n with
    | zero =>
      intro i hh hi hc ho hw hs
      have : i = 72 := by omega
      subst this
      refine g_Mk_watch_39 _ _ _ _ _ ipl0 iwk4 (cT (by decide) ⟨rfl, hc, ho, fun a ha k hk => ?_⟩)
      rw [hs a ha k hk, if_pos (by omega)]
    | succ n ih =>
      intro i hh hi hc ho hw hs
      have hi72 : i < 72 := by omega
      have hk6 : i % 6 < 6 := Nat.mod_lt _ (by decide)
      have hsi := hs (i / 6) (by omega) (i % 6) hk6
      rw [show 6 * (i / 6) + i % 6 = i by omega, if_neg (by omega)] at hsi
      refine g_Mk_watch_39 _ _ _ _ _ ipl0 iwk4 (cF (show ¬ (72 : Int32) ≤ nI i from by rw [show (72 : Int32) = nI 72 from rfl]; exact nI_ge hi72 (by decide)) ⟨vp_in_nI hi72 (by decide), ?_⟩)
      rw [nI_add1, ci (k := i) (by omega), hsi]
      unfold iR
      rw [show (6 : Int32) = nI 6 from rfl, pk_rem (by omega) (by decide) (by decide), ci (k := i % 6) (by omega), hw.2 5 (by omega) (by omega) (i % 6) hk6]
      have wv : worthS P (Wst c0) (i % 6) (i / 6) = if stG P (Wst c0) (i % 6) (i / 6) 60 = -1 then -1 else (goN P 60 (Wst c0)) 5 (i % 6) - stG P (Wst c0) (i % 6) (i / 6) 60 := rfl
      refine ⟨fun z => ih (i + 1) hh (by omega) hc ho hw (fun a ha k hk => ?_), fun z => ⟨v6 hk6, vp_in_nI hi72 (by decide), vp_in_nI hi72 (by decide), ih (i + 1) _ (by omega) (hc.c08 CH.set0) (ho.tr (OnC.set rfl)) (hw.ch (w := [0, 8, 0]) CH.set0 (by simp [Apart])) (fun a ha k hk => ?_)⟩⟩
      · rw [hs a ha k hk]
        by_cases e : 6 * a + k = i
        · obtain rfl : a = i / 6 := by omega
          obtain rfl : k = i % 6 := by omega
          rw [if_neg (by omega), if_pos (by omega), wv, if_pos z, z]
        · by_cases y : 6 * a + k < i
          · rw [if_pos y, if_pos (by omega)]
          · rw [if_neg y, if_neg (by omega)]
      · simp only [rd, true_and]
        by_cases e : 6 * a + k = i
        · obtain rfl : a = i / 6 := by omega
          obtain rfl : k = i % 6 := by omega
          rw [if_pos e, if_pos (by omega), wv, if_neg z]
        · rw [if_neg e, hs a ha k hk]
          by_cases y : 6 * a + k < i
          · rw [if_pos y, if_pos (by omega)]
          · rw [if_neg y, if_neg (by omega)]
  have lp : ∀ (n t : Nat) (hh : Hp), t + n = 60 → CST P W K T O hh → OnC h hh → WalkIs hh [4, 0] (goN P t (Wst c0)) → (∀ a, a < 12 → ∀ k, k < 6 → hh.1 [0, 8, 0] (6 * a + k) = stG P (Wst c0) k a t) → Rn X m_Mk_watch 14 [some (vR [8, 0]), some (vR [0, 0]), some (vR [4, 0]), some (vI (nI t))] [] hh (fun v h' => v = none ∧ CST P W K T O h' ∧ OnC h h' ∧ WatchP P c0 h') := by
    intro n
    induction n with
    | zero =>
      intro t hh ht hc ho hw hs
      have : t = 60 := by omega
      subst this
      exact g_Mk_watch_14 _ _ _ _ _ ipl0 iwk4 (cT (by decide) (fin 72 0 hh rfl hc ho hw (fun a ha k hk => by rw [hs a ha k hk, if_neg (by omega)])))
    | succ n ih =>
      intro t hh ht hc ho hw hs
      refine g_Mk_watch_14 _ _ _ _ _ ipl0 iwk4 (cF (n60 (by omega)) (callN (c_tick iwk4 ipl0 (by simp [Apart]) hw hc.1) (fun h8 q8 => ?_)))
      have hc8 := hc.sc [4, 0] q8.2 (by simp)
      have q81 := q8.1
      rw [← goN_s] at q81
      have e8 : h8.1 [0, 8, 0] = hh.1 [0, 8, 0] := q8.2.2 _ (by simp) (by simp)
      refine callN (c_noteFirst (t := t) (c0 := c0) hF.1 hc8.1 q81 (fun a ha k hk => by rw [e8]; exact hs a ha k hk)) (fun h9 q9 => ?_)
      rw [nI_add1]
      exact ih (t + 1) h9 (by omega) (hc8.c8 q9.1.ch) ((ho.tr (OnC.ch q8.2 rfl)).tr (OnC.ch q9.1.ch rfl)) (q81.c8 q9.1 (by simp) (by simp)) q9.2
  have c3 : CST P W K T O h3 := hC.c08 q3.1
  refine lp 60 0 h7 rfl (c3.sc [4, 0] q7.2 (by simp)) ((OnC.ch q3.1 rfl).tr (OnC.ch q7.2 rfl)) q7.1 (fun a ha k hk => ?_)
  rw [q7.2.2 _ (by simp) (by simp), q3.2.2 _ (by omega)]
  rfl
theorem c_income {c0 : Int32} {a p : Nat} (hw : WatchP P c0 h) (ha : a < 12) (hp : p ≤ 99) : EvI X m_Mk_income [vR [8, 0], vI (nI a), vI (nI p)] h (fun r h' => r = incG (fun k => worthS P (Wst c0) k a) (nI p) 6 ∧ h' = h) := by
  apply e_Mk_income
  apply g_Mk_income_0
  have lp : ∀ (n k : Nat), k + n = 6 → Rn X m_Mk_income 5 [some (vR [8, 0]), some (vI (nI a)), some (vI (nI p)), some (vI (incG (fun k => worthS P (Wst c0) k a) (nI p) k)), some (vI (nI k)), none] [] h (fun v h' => ∃ r, v = some (vI r) ∧ r = incG (fun k => worthS P (Wst c0) k a) (nI p) 6 ∧ h' = h) := by
    intro n
    induction n with
    | zero =>
      intro k hk
      have : k = 6 := by omega
      subst this
      exact g_Mk_income_5 _ _ _ _ _ _ (cT e6 ⟨_, rfl, rfl, rfl⟩)
    | succ n ih =>
      intro k hk
      have hk6 : k < 6 := by omega
      have e : nI a * 6 + nI k = nI (6 * a + k) := by
        rw [show (6 : Int32) = nI 6 from rfl, pk_mul, nI_add]; congr 1; omega
      refine g_Mk_income_5 _ _ _ _ _ _ (cF (n6 hk6) ?_)
      rw [e, nI_add1, ci (k := 6 * a + k) (by omega), hw a ha k hk6]
      have := ih (k + 1) (by omega)
      rw [incG] at this
      refine cF (nI_pos (by omega)) (cF (show ¬ (72 : Int32) ≤ nI (6 * a + k) from by rw [show (72 : Int32) = nI 72 from rfl]; exact nI_ge (by omega) (by decide)) ⟨vp_in_nI (by omega) (by decide), fun z => ?_, fun z => ?_⟩)
      · rw [if_pos z] at this
        rw [show incG (fun k => worthS P (Wst c0) k a) (nI p) k + 0 = incG (fun k => worthS P (Wst c0) k a) (nI p) k by grind] at this
        exact this
      · rw [if_neg z] at this; exact this
  exact lp 6 0 rfl
/-- the best place and price: by places, then by prices -/
def INC (P : RW) (c0 : Int32) (a p : Nat) : Int32 := incG (fun k => worthS P (Wst c0) k a) (nI p) 6
def bpG (F : Nat → Nat → Int32) (a : Nat) : Nat → Int32 × Int32 × Int32 → Int32 × Int32 × Int32
  | 0, s => s
  | p + 1, s => if F a (p + 1) ≤ (bpG F a p s).2.2 then bpG F a p s else (nI a, nI (p + 1), F a (p + 1))
def bbG (F : Nat → Nat → Int32) : Nat → Int32 × Int32 × Int32 → Int32 × Int32 × Int32
  | 0, s => s
  | a + 1, s => bpG F a 99 (bbG F a s)
theorem bp_ind {F : Nat → Nat → Int32} {a : Nat} (s s' : Int32 × Int32 × Int32) (h3 : s.2.2 = s'.2.2) (hF : ¬ F a 1 ≤ s.2.2) : ∀ p, bpG F a (p + 1) s = bpG F a (p + 1) s'
  | 0 => by
    rw [bpG, bpG]
    show (if F a (0 + 1) ≤ s.2.2 then s else _) = if F a (0 + 1) ≤ s'.2.2 then s' else _
    rw [if_neg hF, if_neg (by rw [← h3]; exact hF)]
  | p + 1 => by
    rw [bpG, bp_ind s s' h3 hF p]
    exact (rfl : _ = bpG F a (p + 1 + 1) s')
theorem bb_ind {F : Nat → Nat → Int32} (s s' : Int32 × Int32 × Int32) (h3 : s.2.2 = s'.2.2) (hF : ¬ F 0 1 ≤ s.2.2) : ∀ a, bbG F (a + 1) s = bbG F (a + 1) s'
  | 0 => bp_ind s s' h3 hF 98
  | a + 1 => by
    rw [bbG, bb_ind s s' h3 hF a]
    exact (rfl : _ = bbG F (a + 1 + 1) s')
theorem INC_pos {c0 : Int32} {a p : Nat} (hp : p ≤ 99) : ¬ INC P c0 a p ≤ -1 := by
  obtain ⟨m, h1, h2⟩ := inc_ok (V := fun k => worthS P (Wst c0) k a) hp 6 (by decide)
  unfold INC
  rw [h2]
  have h0 : (0 : Int32) ≤ nI m := nI_pos' (by omega)
  grind
theorem bb_N {c0 : Int32} {N : Nat} (hN : 1 ≤ N) (x y : Int32) : bbG (INC P c0) N (x, y, -1) = bbG (INC P c0) N (0, 1, -1) := by
  have k := bb_ind (F := INC P c0) (x, y, -1) (0, 1, -1) rfl (INC_pos (by decide)) (N - 1)
  rw [show N - 1 + 1 = N by omega] at k
  exact k
theorem c_seekBest {c0 : Int32} {s : Int32 × Int32 × Int32} (hC : CST P W K T O h) (hP : wfP L N P) (hw : WatchP P c0 h) (hs : s = (h.1 [8, 0] 1, h.1 [8, 0] 2, -1)) : EvV X m_Mk_seekBest [vR [8, 0], vI (nI N)] h (fun h' => CST P W K T O h' ∧ OnC h h' ∧ (h'.1 [8, 0] 1, h'.1 [8, 0] 2, h'.1 [8, 0] 3) = bbG (INC P c0) N s) := by
  have b2 := hP.2.2.2.2.2.1
  apply e_Mk_seekBest
  apply g_Mk_seekBest_0
  have inn : ∀ (a : Nat), a < N → (∀ hh : Hp, CST P W K T O hh → OnC h hh → WatchP P c0 hh → (hh.1 [8, 0] 1, hh.1 [8, 0] 2, hh.1 [8, 0] 3) = bbG (INC P c0) (a + 1) s → Rn X m_Mk_seekBest 7 [some (vR [8, 0]), some (vI (nI N)), some (vI (nI (a + 1))), none] [] hh (fun v h' => v = none ∧ CST P W K T O h' ∧ OnC h h' ∧ (h'.1 [8, 0] 1, h'.1 [8, 0] 2, h'.1 [8, 0] 3) = bbG (INC P c0) N s)) → ∀ (n p : Nat) (hh : Hp), p + n = 99 → CST P W K T O hh → OnC h hh → WatchP P c0 hh → (hh.1 [8, 0] 1, hh.1 [8, 0] 2, hh.1 [8, 0] 3) = bpG (INC P c0) a p (bbG (INC P c0) a s) → Rn X m_Mk_seekBest 20 [some (vR [8, 0]), some (vI (nI N)), some (vI (nI a)), some (vI (nI (p + 1)))] [] hh (fun v h' => v = none ∧ CST P W K T O h' ∧ OnC h h' ∧ (h'.1 [8, 0] 1, h'.1 [8, 0] 2, h'.1 [8, 0] 3) = bbG (INC P c0) N s) := by
    intro a ha kk n
    induction n with
    | zero =>
      intro p hh hp hc ho hw hs
      have : p = 99 := by omega
      subst this
      refine g_Mk_seekBest_20 _ _ _ _ _ (cT (by decide) ?_)
      rw [nI_add1]
      exact kk hh hc ho hw hs
    | succ n ih =>
      intro p hh hp hc ho hw hs
      refine g_Mk_seekBest_20 _ _ _ _ _ (cF ?_ ?_)
      · rw [show (99 : Int32) = nI 99 from rfl, nI_ltI (by decide) (by omega)]; omega
      · rw [nI_add1]
        have e3 : hh.1 [8, 0] 3 = (bpG (INC P c0) a p (bbG (INC P c0) a s)).2.2 := by rw [← hs]
        refine callP (c_income hw (by omega) (by omega)) ⟨fun z => ?_, fun z => callP (c_income hw (by omega) (by omega)) ?_⟩
        · refine ih (p + 1) hh (by omega) hc ho hw ?_
          rw [bpG, if_pos (by rw [← e3]; exact z)]
          exact hs
        · refine ih (p + 1) _ (by omega) (hc.c8 ((CH.set0.tr CH.set0).tr CH.set0)) (ho.tr (((OnC.set rfl).tr (OnC.set rfl)).tr (OnC.set rfl))) (fun b hb k hk => ?_) ?_
          · rw [hsI_other (by simp), hsI_other (by simp), hsI_other (by simp)]; exact hw b hb k hk
          · rw [bpG, if_neg (by rw [← e3]; exact z)]
            simp [rd]
            rfl
  have lp : ∀ (n a : Nat) (hh : Hp), a + n = N → CST P W K T O hh → OnC h hh → WatchP P c0 hh → (hh.1 [8, 0] 1, hh.1 [8, 0] 2, hh.1 [8, 0] 3) = bbG (INC P c0) a s → Rn X m_Mk_seekBest 7 [some (vR [8, 0]), some (vI (nI N)), some (vI (nI a)), none] [] hh (fun v h' => v = none ∧ CST P W K T O h' ∧ OnC h h' ∧ (h'.1 [8, 0] 1, h'.1 [8, 0] 2, h'.1 [8, 0] 3) = bbG (INC P c0) N s) := by
    intro n
    induction n with
    | zero =>
      intro a hh ha hc ho hw hs
      have : a = N := by omega
      subst this
      exact g_Mk_seekBest_7 _ _ _ _ (cT (nI_leI (by omega) (by omega) |>.mpr (Nat.le_refl _)) ⟨rfl, hc, ho, hs⟩)
    | succ n ih =>
      intro a hh ha hc ho hw hs
      refine g_Mk_seekBest_7 _ _ _ _ (cF (fun z => absurd ((nI_leI (by omega) (by omega)).mp z) (by omega)) (cF (show ¬ (12 : Int32) ≤ nI a from by rw [show (12 : Int32) = nI 12 from rfl]; exact nI_ge (by omega) (by decide)) ?_))
      exact inn a (by omega) (fun h9 c9 o9 w9 s9 => ih (a + 1) h9 (by omega) c9 o9 w9 s9) 99 0 hh rfl hc ho hw hs
  refine lp N 0 _ (by omega) (hC.c8 CH.set0) (OnC.set rfl) (fun b hb k hk => by rw [hsI_other (by simp)]; exact hw b hb k hk) ?_
  simp [rd]
  rw [bbG, hs]
/-- the reference -/
def RefM (P : RW) (c0 : Int32) (h : Hp) : Prop := (∀ t, t < 60 → ∀ k, k < 6 → h.1 [23, 1] (6 * t + k) = (goN P (t + 1) (Wst c0)) 5 k - (goN P t (Wst c0)) 5 k) ∧ ∀ k, k < 6 → ∀ a, a < 12 → h.1 [24, 1] (12 * k + a) = firstG P (Wst c0) k a 60
theorem r_wetFrom {c0 : Int32} {k a : Nat} (hD : DST P W K T O h) (hF : WFS L N P W K T O) (hm : RefM P c0 h) (hk : k < 6) (ha : a < 12) : EvI X m_Rf_wetFrom [vR [1], vI (nI k), vI (nI a)] h (fun r h' => r = worthS P (Wst c0) k a ∧ h' = h) := by
  have hr := hF.2.2.2.2.2.1
  apply e_Rf_wetFrom
  apply g_Rf_wetFrom_0
  rw [show (12 : Int32) = nI 12 from rfl, show (6 : Int32) = nI 6 from rfl, pk_mul, nI_add, ci (k := 12 * k + a) (by omega), hm.2 k hk a ha, pk_mul]
  refine ⟨vp_in_nI (by omega) (by decide), callB (r_has hD.1 hF.1 hk h) (fun z => z1a ?_) (fun z => z0a ⟨_, rfl, ?_, rfl⟩)⟩
  · rw [show (4 : Int32) = nI 4 from rfl, nI_add, ci (k := 6 * k + 4) (by omega), hD.2.1 k hk]
    refine ⟨vp_in_nI (by omega) (by decide), fun z8 => ⟨_, rfl, ?_, rfl⟩, fun z8 => ?_⟩
    · unfold worthS; rw [if_pos (st_8 (fun y => by rw [y] at z8; exact absurd z8 (by decide)) 60)]
    · have h8 : P 8 k = 0 := by
        obtain ⟨s, hs, e⟩ := (hF.1.2.2.2.2.2.2 k hk).2.2.2.1
        rw [e] at z8 ⊢
        have : s = 0 ∨ s = 1 ∨ s = 2 := by omega
        rcases this with rfl | rfl | rfl
        · rfl
        · exact absurd (by decide) z8
        · exact absurd (by decide) z8
      rcases st_first hF.1 hr (c0 := c0) (a := a) hk h8 60 (by omega) with ⟨i1, i2⟩ | ⟨f, hf, i1, i2, i3⟩
      · rw [i1]
        refine ⟨fun y => absurd rfl y, fun _ => ⟨_, rfl, ?_, rfl⟩⟩
        unfold worthS; rw [if_pos i2]
      · rw [i1]
        refine ⟨fun _ => ?_, fun y => ?_⟩
        · rw [nI_add1]
          have lp : ∀ (n t : Nat), t + n = 60 → f + 1 ≤ t → Rn X m_Rf_wetFrom 52 [some (vR [1]), some (vI (nI k)), some (vI (nI a)), some (vI (nI f)), some (vI ((goN P t (Wst c0)) 5 k - (goN P (f + 1) (Wst c0)) 5 k)), some (vI (nI t))] [] h (fun v h' => ∃ r, v = some (vI r) ∧ r = worthS P (Wst c0) k a ∧ h' = h) := by
            intro n
            induction n with
            | zero =>
              intro t ht hft
              have : t = 60 := by omega
              subst this
              refine g_Rf_wetFrom_52 _ _ _ _ _ _ _ (cT (by decide) ⟨_, rfl, ?_, rfl⟩)
              unfold worthS; rw [if_neg i3, i2]
            | succ n ih =>
              intro t ht hft
              refine g_Rf_wetFrom_52 _ _ _ _ _ _ _ (cF (n60 (by omega)) ?_)
              rw [show (6 : Int32) = nI 6 from rfl, pk_mul, nI_add, ci (k := 6 * t + k) (by omega), nI_add1, hm.1 t (by omega) k hk]
              refine ⟨vp_in_nI (by omega) (by decide), ?_⟩
              have := ih (t + 1) (by omega) (by omega)
              rw [show (goN P t (Wst c0)) 5 k - (goN P (f + 1) (Wst c0)) 5 k + ((goN P (t + 1) (Wst c0)) 5 k - (goN P t (Wst c0)) 5 k) = (goN P (t + 1) (Wst c0)) 5 k - (goN P (f + 1) (Wst c0)) 5 k by grind]
              exact this
          have := lp (60 - (f + 1)) (f + 1) (by omega) (Nat.le_refl _)
          rw [show (goN P (f + 1) (Wst c0)) 5 k - (goN P (f + 1) (Wst c0)) 5 k = 0 by grind] at this
          exact this
        · have h0 : (0 : Int32) ≤ nI f := nI_pos' (by omega)
          rw [y] at h0; exact absurd h0 (by decide)
  · unfold worthS; rw [if_pos (st_3 hF.1 hk (Classical.not_not.mp z) 60)]
theorem r_sold {c0 : Int32} {a p : Nat} (hD : DST P W K T O h) (hF : WFS L N P W K T O) (hm : RefM P c0 h) (ha : a < 12) : EvI X m_Rf_sold [vR [1], vI (nI a), vI (nI p)] h (fun r h' => r = INC P c0 a p ∧ h' = h) := by
  apply e_Rf_sold
  apply g_Rf_sold_0
  have lp : ∀ (n k : Nat), k + n = 6 → Rn X m_Rf_sold 5 [some (vR [1]), some (vI (nI a)), some (vI (nI p)), some (vI (incG (fun k => worthS P (Wst c0) k a) (nI p) k)), some (vI (nI k))] [] h (fun v h' => ∃ r, v = some (vI r) ∧ r = INC P c0 a p ∧ h' = h) := by
    intro n
    induction n with
    | zero =>
      intro k hk
      have : k = 6 := by omega
      subst this
      exact g_Rf_sold_5 _ _ _ _ _ _ (cT e6 ⟨_, rfl, rfl, rfl⟩)
    | succ n ih =>
      intro k hk
      have hk6 : k < 6 := by omega
      have := ih (k + 1) (by omega)
      rw [incG] at this
      refine g_Rf_sold_5 _ _ _ _ _ _ (cF (n6 hk6) (callP (r_wetFrom hD hF hm hk6 ha) ?_))
      rw [nI_add1]
      exact ⟨fun z => by rw [if_pos z] at this; exact this, fun z => by rw [if_neg z] at this; exact this⟩
  exact lp 6 0 rfl
theorem r_goM {h1 : Hp} (hD : DST P W K T O h1) (hF : WFS L N P W K T O) (hs : ∀ k, k < 6 → h1.1 [22, 1] k = P 8 k) (c0 : Int32) : EvV X m_Rf_goWhole [vR [1], vI 0, vI 0] h1 (fun h' => DST P W K T O h' ∧ GWP P (Wst c0) 0 0 h1 h') := r_goWhole hD hD.1 hF.1 (Wsz hs) 0 0 c0
theorem op_seller (hI : Inv h) (a p : Int32) : PairI X m_Us_seller m_Rf_seller [vI a, vI p] h := by
  obtain ⟨L, N, P, W, K, T, O, hC, hD, hF⟩ := id hI
  have b2 := hF.1.2.2.2.2.2.1
  have b1 := hF.1.2.2.2.2.1
  have hn1 : h.1 [1] 1 - 1 = nI (N - 1) := by rw [hD.1.2.1, hF.1.2.1, show (1 : Int32) = nI 1 from rfl, pk_sub b1]
  have hc1 : h.1 [0, 0] 1 = nI N := by rw [hC.1.1 1 (by omega), hF.1.2.1]
  by_cases c1 : 0 ≤ a ∧ a ≤ nI (N - 1)
  · obtain ⟨j, hj, rfl⟩ := nI_rng (x := a) (n := N - 1) c1.1 c1.2 (by omega)
    by_cases c2 : 1 ≤ p ∧ p ≤ 99
    · obtain ⟨m, hm1, hm, rfl⟩ := nI_rng1 (x := p) (n := 99) c2.1 c2.2 (by decide)
      refine ⟨fun r h' => r = INC P (h.1 [4, 0] 0) j m ∧ CST P W K T O h' ∧ OnC h h', ?_, fun r h1 q => ?_⟩
      · apply e_Us_seller
        refine g_Us_seller_0 _ _ _ _ (cF (nI_pos (by omega)) ?_)
        rw [hc1]
        exact cT (nI_lt (by omega) (by omega)) (callB (s_isNotIn (nI m) 1 99 h) (fun z => absurd c2 z) (fun _ => z0a (callN (c_watch hC hF) (fun h8 q8 => callP (c_income q8.2.2 (by omega) hm) ⟨_, rfl, rfl, q8.1, q8.2.1⟩))))
      · obtain ⟨q1, q2, q3⟩ := q
        have hD1 := hD.on q3
        generalize h.1 [4, 0] 0 = c0 at q1
        refine ⟨fun r h' => r = INC P c0 j m ∧ DST P W K T O h' ∧ OnR h1 h', ?_, fun r' h2 q' => ⟨by rw [q1, q'.1], L, N, P, W, K, T, O, q2.on q'.2.2, q'.2.1, hF⟩⟩
        apply e_Rf_seller
        apply g_Rf_seller_0
        rw [show h1.1 [1] 1 - 1 = nI (N - 1) from by rw [q3.2 [1] rfl]; exact hn1]
        refine callB (s_in (nI j) 0 (nI (N - 1)) h1) (fun _ => z1b (callB (s_in (nI m) 1 99 h1) (fun _ => z1b (callN (r_sizes hD1.2.1) (fun h3 q3' => ?_))) (fun z => absurd c2 z))) (fun z => absurd c1 z)
        have hD3 := hD1.ch q3'.1 (by simp)
        refine callN (r_goM hD3 hF q3'.2 c0) (fun h7 q7 => callP (r_sold q7.1 hF ⟨q7.2.2.2.1, q7.2.2.2.2⟩ (by omega)) ⟨_, rfl, rfl, q7.1, (OnR.ch q3'.1).tr (OnR.ch q7.2.1)⟩)
    · refine pairSame (f := -3) hI ?_ ?_
      · apply e_Us_seller
        refine g_Us_seller_0 _ _ _ _ (cF (nI_pos (by omega)) ?_)
        rw [hc1]
        exact cT (nI_lt (by omega) (by omega)) (callB (s_isNotIn p 1 99 h) (fun _ => z1a ⟨_, rfl, rfl, rfl⟩) (fun z => absurd (Classical.not_not.mp z) c2))
      · apply e_Rf_seller
        apply g_Rf_seller_0
        rw [hn1]
        exact callB (s_in (nI j) 0 (nI (N - 1)) h) (fun _ => z1b (callB (s_in p 1 99 h) (fun z => absurd z c2) (fun _ => z0b ⟨_, rfl, rfl, rfl⟩))) (fun z => absurd c1 z)
  · refine pairSame (f := -2) hI ?_ ?_
    · apply e_Us_seller
      refine g_Us_seller_0 _ _ _ _ ⟨fun _ => ⟨_, rfl, rfl, rfl⟩, fun z => ?_⟩
      rw [hc1]
      refine ⟨fun z2 => absurd ⟨by grind, ?_⟩ c1, fun _ => ⟨_, rfl, rfl, rfl⟩⟩
      obtain ⟨j, hj, rfl⟩ := nI_of (x := a) (by grind)
      rw [nI_ltI hj (by omega)] at z2
      exact (nI_leI hj (by omega)).mpr (by omega)
    · apply e_Rf_seller
      apply g_Rf_seller_0
      rw [hn1]
      exact callB (s_in a 0 (nI (N - 1)) h) (fun z => absurd z c1) (fun _ => z0b ⟨_, rfl, rfl, rfl⟩)
theorem r_where {h1 : Hp} {c0 w : Int32} (hF : WFS L N P W K T O) (hm : RefM P c0 h) (hD : DST P W K T O h) (ho : OnR h1 h) : Rn X m_Rf_where 32 [some (vR [1]), some (vI w), some (vI 0), some (vI 1), some (vI (-1)), some (vI 0), none, none] [] h (fun v h' => ∃ r, v = some (vI r) ∧ r = (if w = 0 then (bbG (INC P c0) N (0, 1, -1)).1 else if w = 1 then (bbG (INC P c0) N (0, 1, -1)).2.1 else (bbG (INC P c0) N (0, 1, -1)).2.2) ∧ DST P W K T O h' ∧ OnR h1 h') := by
  have b2 := hF.1.2.2.2.2.2.1
  have hn : h.1 [1] 1 = nI N := by rw [hD.1.2.1, hF.1.2.1]
  have lp : ∀ (n a : Nat) (x y z : Int32), a + n = N → (x, y, z) = bbG (INC P c0) a (0, 1, -1) → Rn X m_Rf_where 32 [some (vR [1]), some (vI w), some (vI x), some (vI y), some (vI z), some (vI (nI a)), none, none] [] h (fun v h' => ∃ r, v = some (vI r) ∧ r = (if w = 0 then (bbG (INC P c0) N (0, 1, -1)).1 else if w = 1 then (bbG (INC P c0) N (0, 1, -1)).2.1 else (bbG (INC P c0) N (0, 1, -1)).2.2) ∧ DST P W K T O h' ∧ OnR h1 h') := by
    intro n
    induction n with
    | zero =>
      intro a x y z ha hs
      have : a = N := by omega
      subst this
      apply g_Rf_where_32
      rw [hn]
      refine cT (nI_leI (by omega) (by omega) |>.mpr (Nat.le_refl _)) ⟨fun w0 => ⟨fun w1 => ⟨_, rfl, ?_, hD, ho⟩, fun w1 => ⟨_, rfl, ?_, hD, ho⟩⟩, fun w0 => ⟨_, rfl, ?_, hD, ho⟩⟩
      · rw [if_neg w0, if_neg w1, ← hs]
      · rw [if_neg w0, if_pos w1, ← hs]
      · rw [if_pos w0, ← hs]
    | succ n ih =>
      intro a x y z ha hs
      have inn : ∀ (m p : Nat) (x y z : Int32), p + m = 99 → (x, y, z) = bpG (INC P c0) a p (bbG (INC P c0) a (0, 1, -1)) → Rn X m_Rf_where 44 [some (vR [1]), some (vI w), some (vI x), some (vI y), some (vI z), some (vI (nI a)), some (vI (nI (p + 1))), none] [] h (fun v h' => ∃ r, v = some (vI r) ∧ r = (if w = 0 then (bbG (INC P c0) N (0, 1, -1)).1 else if w = 1 then (bbG (INC P c0) N (0, 1, -1)).2.1 else (bbG (INC P c0) N (0, 1, -1)).2.2) ∧ DST P W K T O h' ∧ OnR h1 h') := by
        intro m
        induction m with
        | zero =>
          intro p x y z hp hs
          have : p = 99 := by omega
          subst this
          refine g_Rf_where_44 _ _ _ _ _ _ _ _ (cT (by decide) ?_)
          rw [nI_add1]
          exact ih (a + 1) x y z (by omega) hs
        | succ m ihm =>
          intro p x y z hp hs
          refine g_Rf_where_44 _ _ _ _ _ _ _ _ (cF (show ¬ (100 : Int32) ≤ nI (p + 1) from by rw [show (100 : Int32) = nI 100 from rfl]; exact nI_ge (by omega) (by decide)) (callP (r_sold hD hF hm (by omega)) ?_))
          rw [nI_add1]
          have e3 : z = (bpG (INC P c0) a p (bbG (INC P c0) a (0, 1, -1))).2.2 := by rw [← hs]
          refine ⟨fun q => ihm (p + 1) x y z (by omega) ?_, fun q => ihm (p + 1) _ _ _ (by omega) ?_⟩
          · rw [bpG, if_pos (by rw [← e3]; exact q)]; exact hs
          · rw [bpG, if_neg (by rw [← e3]; exact q)]
      apply g_Rf_where_32
      rw [hn]
      exact cF (fun z => absurd ((nI_leI (by omega) (by omega)).mp z) (by omega)) (inn 99 0 x y z rfl hs)
  exact lp N 0 0 1 (-1) (by omega) rfl
theorem op_where (hI : Inv h) (w : Int32) : PairI X m_Us_where m_Rf_where [vI w] h := by
  obtain ⟨L, N, P, W, K, T, O, hC, hD, hF⟩ := id hI
  have b1 := hF.1.2.2.2.2.1
  by_cases c1 : 0 ≤ w ∧ w ≤ 2
  · refine ⟨fun r h' => r = (if w = 0 then (bbG (INC P (h.1 [4, 0] 0)) N (0, 1, -1)).1 else if w = 1 then (bbG (INC P (h.1 [4, 0] 0)) N (0, 1, -1)).2.1 else (bbG (INC P (h.1 [4, 0] 0)) N (0, 1, -1)).2.2) ∧ CST P W K T O h' ∧ OnC h h', ?_, fun r h1 q => ?_⟩
    · apply e_Us_where
      refine g_Us_where_0 _ _ _ (callB (s_isNotIn w 0 2 h) (fun z => absurd c1 z) (fun _ => z0a (callN (c_watch hC hF) (fun h8 q8 => ?_))))
      rw [q8.1.1.1 1 (by omega), hF.1.2.1]
      refine callN (c_seekBest q8.1 hF.1 q8.2.2 rfl) (fun h12 q12 => ?_)
      have e := bb_N (P := P) (c0 := h.1 [4, 0] 0) b1 (h8.1 [8, 0] 1) (h8.1 [8, 0] 2)
      have e2 := q12.2.2
      rw [e] at e2
      have on := q8.2.1.tr q12.2.1
      refine ⟨fun w0 => ⟨fun w1 => ⟨_, rfl, ?_, q12.1, on⟩, fun w1 => ⟨_, rfl, ?_, q12.1, on⟩⟩, fun w0 => ⟨_, rfl, ?_, q12.1, on⟩⟩
      · rw [if_neg w0, if_neg w1, ← e2]
      · rw [if_neg w0, if_pos w1, ← e2]
      · rw [if_pos w0, ← e2]
    · obtain ⟨q1, q2, q3⟩ := q
      have hD1 := hD.on q3
      generalize h.1 [4, 0] 0 = c0 at q1
      refine ⟨fun r h' => r = (if w = 0 then (bbG (INC P c0) N (0, 1, -1)).1 else if w = 1 then (bbG (INC P c0) N (0, 1, -1)).2.1 else (bbG (INC P c0) N (0, 1, -1)).2.2) ∧ DST P W K T O h' ∧ OnR h1 h', ?_, fun r' h2 q' => ⟨by rw [q1, q'.1], L, N, P, W, K, T, O, q2.on q'.2.2, q'.2.1, hF⟩⟩
      apply e_Rf_where
      refine g_Rf_where_0 _ _ _ (callB (s_in w 0 2 h1) (fun _ => z1b (callN (r_sizes hD1.2.1) (fun h3 q3' => ?_))) (fun z => absurd c1 z))
      have hD3 := hD1.ch q3'.1 (by simp)
      exact callN (r_goM hD3 hF q3'.2 c0) (fun h7 q7 => r_where (h1 := h1) hF ⟨q7.2.2.2.1, q7.2.2.2.2⟩ q7.1 ((OnR.ch q3'.1).tr (OnR.ch q7.2.1)))
  · refine pairSame (f := -3) hI ?_ ?_
    · apply e_Us_where
      exact g_Us_where_0 _ _ _ (callB (s_isNotIn w 0 2 h) (fun _ => z1a ⟨_, rfl, rfl, rfl⟩) (fun z => absurd (Classical.not_not.mp z) c1))
    · apply e_Rf_where
      exact g_Rf_where_0 _ _ _ (callB (s_in w 0 2 h) (fun z => absurd z c1) (fun _ => z0b ⟨_, rfl, rfl, rfl⟩))
end MD2
