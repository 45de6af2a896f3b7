/-! rests -/
def szCG : Nat → Nat → Int32 → Int32
  | 0, _, a => a
  | i + 1, r, a => szCG i (r / 3) (a ||| iShl (nI (r % 3)) (2 * nI i))
def szC (n code : Nat) : Int32 := szCG n code 0
def fig (n code i : Nat) : Nat := code / 3 ^ (n - 1 - i) % 3
def alt (n code i s : Nat) : Nat := code - fig n code i * 3 ^ (n - 1 - i) + s * 3 ^ (n - 1 - i)
def upG (n code : Nat) : Nat → Int32
  | 0 => 0
  | i + 1 => upG n code i ||| iShl (nI (fig n code i)) (2 * nI i)
theorem F1 : ∀ n, n < 5 → ∀ code, code < 3 ^ n → ∀ r, r < n → iShr (szC n code) (2 * nI r) &&& 3 = nI (fig n code r) := by decide +kernel
theorem F2 : ∀ n, n < 5 → ∀ code, code < 3 ^ n → upG n code n = szC n code := by decide +kernel
theorem F3 : ∀ n, n < 5 → ∀ code, code < 3 ^ n → ∀ i, i < n → fig n code i * 3 ^ (n - 1 - i) ≤ code ∧ ∀ s, s < 3 → alt n code i s < 3 ^ n := by decide +kernel
theorem F4 : ∀ n, n < 5 → 1 ≤ 3 ^ n ∧ 3 ^ n ≤ 81 := by decide
theorem F5 : ∀ n, n < 5 → ∀ code, code < 3 ^ n → 0 ≤ szC n code := by decide +kernel
def selG (P : RW) (f : Nat → Int32) (r : Nat) : Nat → Int32
  | 0 => 0
  | m + 1 => if P 3 m ≠ 0 ∧ walkersG P m = r then f m else selG P f r m
theorem selG_at {P : RW} {f : Nat → Int32} {k : Nat} (hp : P 3 k ≠ 0) : ∀ m, k < m → selG P f (walkersG P k) m = f k
  | 0, h => absurd h (by omega)
  | m + 1, h => by
    rw [selG]
    by_cases e : k = m
    · subst e; rw [if_pos ⟨hp, rfl⟩]
    · have := walkersG_lt hp (n := m) (by omega)
      rw [if_neg (by omega), selG_at hp m (by omega)]
abbrev PQ (P : RW) (n code : Nat) : RW := szP P (bitsS P (szC n code))
def payF (P : RW) (c0 c p : Int32) (n code i : Nat) : Int32 := selG P (paidS (PQ P n code) (goN (PQ P n code) 60 (Wst c0)) c p) i 6
abbrev restP (F : Nat → Nat → Int32) (n code : Nat) : Prop := ∀ i, i < n → ∀ s, s < 3 → ¬ F (alt n code i s) i < F code i
def cD (F : Nat → Nat → Int32) (n : Nat) : Nat → Nat → Nat
  | 0, _ => 0
  | m + 1, j => cD F n m (j + 1) + (if restP F n j then 1 else 0)
def fD (F : Nat → Nat → Int32) (n : Nat) : Nat → Nat → Int32
  | 0, _ => -1
  | m + 1, j => if restP F n j then nI j else fD F n m (j + 1)
def fS (F : Nat → Nat → Int32) (n : Nat) : Nat → Nat → Int32
  | 0, _ => -1
  | m + 1, j => if restP F n j then szC n j else fS F n m (j + 1)
theorem fSD {F : Nat → Nat → Int32} {n : Nat} : ∀ m j, (fD F n m j = -1 ∧ fS F n m j = -1) ∨ ∃ q, j ≤ q ∧ q < j + m ∧ fD F n m j = nI q ∧ fS F n m j = szC n q
  | 0, j => Or.inl ⟨rfl, rfl⟩
  | m + 1, j => by
    by_cases z : restP F n j
    · refine Or.inr ⟨j, Nat.le_refl _, by omega, ?_, ?_⟩
      · rw [fD, if_pos z]
      · rw [fS, if_pos z]
    · rw [fD, fS, if_neg z, if_neg z]
      rcases fSD (F := F) (n := n) m (j + 1) with h | ⟨q, a, b, c⟩
      · exact Or.inl h
      · exact Or.inr ⟨q, by omega, by omega, c⟩
section RES
variable {X : XS} {h : Hp} {L N : Nat} {P W : RW} {K : Nat → RW} {T O : RW}
theorem r_power {n : Nat} (hn : n < 5) : EvI X m_Rf_power [vI (nI n)] h (fun r h' => r = nI (3 ^ n) ∧ h' = h) := by
  apply e_Rf_power
  have : n = 0 ∨ n = 1 ∨ n = 2 ∨ n = 3 ∨ n = 4 := by omega
  rcases this with rfl | rfl | rfl | rfl | rfl
  · exact g_Rf_power_0 _ _ _ (cT' (by decide) ⟨_, rfl, rfl, rfl⟩)
  · exact g_Rf_power_0 _ _ _ (cF' (by decide) (cT' (by decide) ⟨_, rfl, rfl, rfl⟩))
  · exact g_Rf_power_0 _ _ _ (cF' (by decide) (cF' (by decide) (cT' (by decide) ⟨_, rfl, rfl, rfl⟩)))
  · exact g_Rf_power_0 _ _ _ (cF' (by decide) (cF' (by decide) (cF' (by decide) (cT' (by decide) ⟨_, rfl, rfl, rfl⟩))))
  · exact g_Rf_power_0 _ _ _ (cF' (by decide) (cF' (by decide) (cF' (by decide) (cF' (by decide) ⟨_, rfl, rfl, rfl⟩))))
theorem ni_sub1 {n i : Nat} (hi : i < n) : nI n - 1 - nI i = nI (n - 1 - i) := by
  rw [show (1 : Int32) = nI 1 from rfl, pk_sub (by omega), pk_sub (by omega)]
theorem r_figure {n code i : Nat} (hn : n < 5) (hc : code < 81) (hi : i < n) : EvI X m_Rf_figure [vI (nI code), vI (nI i), vI (nI n)] h (fun r h' => r = nI (fig n code i) ∧ h' = h) := by
  apply e_Rf_figure
  apply g_Rf_figure_0
  rw [ni_sub1 hi]
  have f4 := F4 (n - 1 - i) (by omega)
  refine callP (r_power (by omega)) ⟨fun z => ?_, _, rfl, ?_, rfl⟩
  · have : (1 : Int32) ≤ nI (3 ^ (n - 1 - i)) := by rw [show (1 : Int32) = nI 1 from rfl, nI_leI (by decide) (by omega)]; exact f4.1
    rw [z] at this; exact absurd this (by decide)
  · unfold iR
    rw [pk_div (by omega) (by omega) (by omega), show (3 : Int32) = nI 3 from rfl, pk_rem (by
      have := Nat.div_le_self code (3 ^ (n - 1 - i)); omega) (by decide) (by decide)]
    rfl
theorem c_sizesOf {n code : Nat} (hn : n < 5) (hc : code < 81) : EvI X m_Tr_sizesOf [vI (nI code), vI (nI n)] h (fun r h' => r = szC n code ∧ h' = h) := by
  apply e_Tr_sizesOf
  apply g_Tr_sizesOf_0
  have lp : ∀ (i r : Nat) (a : Int32), i ≤ n → r < 81 → szCG i r a = szC n code → Rn X m_Tr_sizesOf 9 [some (vI (nI code)), some (vI (nI n)), some (vI a), some (vI (nI r)), some (vI (nI i - 1))] [] h (fun v h' => ∃ r, v = some (vI r) ∧ r = szC n code ∧ h' = h) := by
    intro i
    induction i with
    | zero =>
      intro r a hi hr e
      exact g_Tr_sizesOf_9 _ _ _ _ _ _ _ (cT (by decide) ⟨_, rfl, e, rfl⟩)
    | succ i ih =>
      intro r a hi hr e
      refine g_Tr_sizesOf_9 _ _ _ _ _ _ _ ?_
      rw [show nI (i + 1) - 1 = nI i from nI_pred _]
      refine cF (nI_pos (by omega)) ?_
      unfold iR
      rw [show (3 : Int32) = nI 3 from rfl, pk_rem (by omega) (by decide) (by decide), pk_div (by omega) (by decide) (by decide), show nI i + -1 = nI i - 1 by grind]
      exact ih (r / 3) _ (by omega) (by omega) e
  exact lp n code 0 (Nat.le_refl _) hc rfl
/-- the class's row of paid -/
def PaidIs (B : Nat → Int32) (F : Nat → Nat → Int32) (n m : Nat) : Prop := ∀ code, code < m → ∀ i, i < n → B (4 * code + i) = F code i
theorem c_paidIn {F : Nat → Nat → Int32} {n code i : Nat} (hn : n < 5) (hb : PaidIs (h.1 [2, 6, 0]) F n (3 ^ n)) (hc : code < 3 ^ n) (hi : i < n) : EvI X m_Tr_paidIn [vR [6, 0], vI (nI code), vI (nI i)] h (fun r h' => r = F code i ∧ h' = h) := by
  have f4 := F4 n hn
  apply e_Tr_paidIn
  apply g_Tr_paidIn_0
  rw [show (4 : Int32) = nI 4 from rfl, pk_mul, nI_add, ci (k := code * 4 + i) (by omega)]
  refine cF (nI_pos (by omega)) (cF (show ¬ (324 : Int32) ≤ nI (code * 4 + i) from by rw [show (324 : Int32) = nI 324 from rfl]; exact nI_ge (by omega) (by decide)) ⟨vp_in_nI (by omega) (by decide), _, rfl, ?_, rfl⟩)
  rw [show code * 4 + i = 4 * code + i by omega]; exact hb code hc i hi
theorem c_isRest {F : Nat → Nat → Int32} {n code : Nat} (hn : n < 5) (hb : PaidIs (h.1 [2, 6, 0]) F n (3 ^ n)) (hc : code < 3 ^ n) : EvI X m_Tr_isRest [vR [6, 0], vI (nI code), vI (nI n)] h (fun r h' => r = bI (restP F n code) ∧ h' = h) := by
  have f4 := F4 n hn
  have f3 := F3 n hn code hc
  apply e_Tr_isRest
  apply g_Tr_isRest_0
  have lp : ∀ (i : Nat), i ≤ n → (∀ j, i ≤ j → j < n → ∀ s, s < 3 → ¬ F (alt n code j s) j < F code j) → Rn X m_Tr_isRest 10 [some (vR [6, 0]), some (vI (nI code)), some (vI (nI n)), some (vI (nI (code / 3 ^ (n - i)))), some (vI (nI (3 ^ (n - i)))), some (vI (nI i - 1)), none, none] [] h (fun v h' => ∃ r, v = some (vI r) ∧ r = bI (restP F n code) ∧ h' = h) := by
    intro i
    induction i with
    | zero =>
      intro hi hj
      exact g_Tr_isRest_10 _ _ _ _ _ _ _ (cT (by decide) ⟨_, rfl, eqT (fun j hj' => hj j (by omega) hj'), rfl⟩)
    | succ i ih =>
      intro hi hj
      have e1 : n - (i + 1) = n - 1 - i := by omega
      have e2 : n - i = (n - 1 - i) + 1 := by omega
      have f4i := F4 (n - 1 - i) (by omega)
      have f3i := f3 i (by omega)
      have hd := Nat.div_le_self code (3 ^ (n - 1 - i))
      refine g_Tr_isRest_10 _ _ _ _ _ _ _ ?_
      rw [show nI (i + 1) - 1 = nI i from nI_pred _, e1]
      refine cF (nI_pos (by omega)) ?_
      have es : nI code - iR (nI (code / 3 ^ (n - 1 - i))) 3 * nI (3 ^ (n - 1 - i)) = nI (code - fig n code i * 3 ^ (n - 1 - i)) := by
        unfold iR
        rw [show (3 : Int32) = nI 3 from rfl, pk_rem (by omega) (by decide) (by decide), pk_mul, show code / 3 ^ (n - 1 - i) % 3 = fig n code i from rfl, pk_sub f3i.1]
      rw [es]
      have inn : ∀ (m s : Nat), s + m = 3 → (∀ t, t < s → ¬ F (alt n code i t) i < F code i) → Rn X m_Tr_isRest 28 [some (vR [6, 0]), some (vI (nI code)), some (vI (nI n)), some (vI (nI (code / 3 ^ (n - 1 - i)))), some (vI (nI (3 ^ (n - 1 - i)))), some (vI (nI i)), some (vI (nI (code - fig n code i * 3 ^ (n - 1 - i)))), some (vI (nI s))] [] h (fun v h' => ∃ r, v = some (vI r) ∧ r = bI (restP F n code) ∧ h' = h) := by
        intro m
        induction m with
        | zero =>
          intro s hs ht
          have : s = 3 := by omega
          subst this
          refine g_Tr_isRest_28 _ _ _ _ _ _ _ _ _ (cT (by decide) ?_)
          rw [show (3 : Int32) = nI 3 from rfl, pk_div (by omega) (by decide) (by decide), pk_mul, show nI i + -1 = nI i - 1 by grind]
          have := ih (by omega) (fun j hj1 hj2 s hs => by
            by_cases e : j = i
            · subst e; exact ht s hs
            · exact hj j (by omega) hj2 s hs)
          rw [e2, Nat.pow_succ, ← Nat.div_div_eq_div_mul] at this
          exact this
        | succ m ihm =>
          intro s hs ht
          refine g_Tr_isRest_28 _ _ _ _ _ _ _ _ _ (cF ?_ ?_)
          · rw [show (2 : Int32) = nI 2 from rfl, nI_ltI (by decide) (by omega)]; omega
          · rw [pk_mul, nI_add, nI_add1, show code - fig n code i * 3 ^ (n - 1 - i) + s * 3 ^ (n - 1 - i) = alt n code i s from rfl]
            refine callP (c_paidIn hn hb (f3i.2 s (by omega)) (by omega)) (callP (c_paidIn hn hb hc (by omega)) ⟨fun z => ihm (s + 1) (by omega) (fun t ht' => ?_), fun z => ⟨_, rfl, eqF (fun y => y i (by omega) s (by omega) (by grind)), rfl⟩⟩)
            by_cases e : t = s
            · subst e; grind
            · exact ht t (by omega)
      exact inn 3 0 rfl (fun t ht => by omega)
  have := lp n (Nat.le_refl _) (fun j hj1 hj2 => by omega)
  rw [Nat.sub_self, Nat.pow_zero, Nat.div_one] at this
  exact this
theorem CST.sc2 {h' : Hp} (s : CST P W K T O h) (c : CH [2, 6, 0] h h') : CST P W K T O h' := by
  obtain ⟨c1, c2, c3, c4, c5, c6, c7⟩ := s
  refine ⟨c1.ch c (by simp [Apart]), c2.ch c (by simp [Apart]), fun k hk => (c3 k hk).ch c (by simp [Apart]), ?_, ?_, ?_, ?_⟩
  · rw [c.2 _ (by simp) (by simp)]; exact c4
  · intro i hi; rw [c.2 _ (by simp) (by simp)]; exact c5 i hi
  · rw [c.2 _ (by simp) (by simp)]; exact c6
  · intro j hj i hi; rw [c.2 _ (by simp) (by simp)]; exact c7 j hj i hi
theorem c_note {P' Wf : RW} {n code : Nat} {c p : Int32} (hn : n < 5) (hw6 : walkersG P 6 = n) (hc : code < 3 ^ n) (hp3 : ∀ k, k < 6 → P' 3 k = P 3 k) (hp : PlanIs h [0, 6, 0] P') (hw : WalkIs h [1, 6, 0] Wf) : EvV X m_Tr_notePaid [vR [6, 0], vI (nI code), vI c, vI p] h (fun h' => CH [2, 6, 0] h h' ∧ (∀ k, k < 6 → P 3 k ≠ 0 → h'.1 [2, 6, 0] (4 * code + walkersG P k) = paidS P' Wf c p k) ∧ ∀ j, (j < 4 * code ∨ 4 * code + n ≤ j) → h'.1 [2, 6, 0] j = h.1 [2, 6, 0] j) := by
  have f4 := F4 n hn
  apply e_Tr_notePaid
  apply g_Tr_notePaid_0
  rw [show (4 : Int32) = nI 4 from rfl, pk_mul]
  have lp : ∀ (m k : Nat) (hh : Hp), k + m = 6 → CH [2, 6, 0] h hh → (∀ j, j < k → P 3 j ≠ 0 → hh.1 [2, 6, 0] (4 * code + walkersG P j) = paidS P' Wf c p j) → (∀ j, (j < 4 * code ∨ 4 * code + walkersG P k ≤ j) → hh.1 [2, 6, 0] j = h.1 [2, 6, 0] j) → Rn X m_Tr_notePaid 8 [some (vR [6, 0]), some (vI (nI code)), some (vI c), some (vI p), some (vI (nI (code * 4 + walkersG P k))), some (vI (nI k))] [] hh (fun v h' => v = none ∧ CH [2, 6, 0] h h' ∧ (∀ k, k < 6 → P 3 k ≠ 0 → h'.1 [2, 6, 0] (4 * code + walkersG P k) = paidS P' Wf c p k) ∧ ∀ j, (j < 4 * code ∨ 4 * code + n ≤ j) → h'.1 [2, 6, 0] j = h.1 [2, 6, 0] j) := by
    intro m
    induction m with
    | zero =>
      intro k hh hk hc1 h1 h2
      have : k = 6 := by omega
      subst this
      exact g_Tr_notePaid_8 _ _ _ _ _ _ _ (cT e6 ⟨rfl, hc1, h1, by rw [hw6] at h2; exact h2⟩)
    | succ m ih =>
      intro k hh hk hc1 h1 h2
      have hk6 : k < 6 := by omega
      have hp2 := hp.ch hc1 (by simp [Apart])
      have hw2 := hw.ch hc1 (by simp [Apart])
      have hws : walkersG P (k + 1) = walkersG P k + (if P 3 k ≠ 0 then 1 else 0) := rfl
      refine g_Tr_notePaid_8 _ _ _ _ _ _ _ (cF (n6 hk6) ⟨v6 hk6, ?_⟩)
      rw [ci (by omega), hp2.2.2.1 3 (by omega) (by omega) k hk6, hp3 k hk6, nI_add1, nI_add1]
      refine ⟨fun z => ?_, fun z => ?_⟩
      · rw [if_neg (fun y => y z)] at hws
        have := ih (k + 1) hh (by omega) hc1 (fun j hj hp => h1 j (by
          by_cases e : j = k
          · rw [e] at hp; exact absurd z hp
          · omega) hp) (by rw [hws]; exact h2)
        rw [hws] at this
        exact this
      · rw [if_pos z] at hws
        have lt := walkersG_lt z hk6
        have lt2 : walkersG P k < n := by omega
        have ib : code * 4 + walkersG P k < 324 := by omega
        rw [ci (k := code * 4 + walkersG P k) (by omega)]
        refine cF (nI_pos (by omega)) (cF (show ¬ (324 : Int32) ≤ nI (code * 4 + walkersG P k) from by rw [show (324 : Int32) = nI 324 from rfl]; exact nI_ge ib (by decide)) (callP (c_paidBy hp2 hw2 hk6 c p) ⟨vp_in_nI ib (by decide), ?_⟩))
        have := ih (k + 1) (hsI hh [2, 6, 0] (code * 4 + walkersG P k) (paidS P' Wf c p k)) (by omega) (hc1.tr CH.set0) (fun j hj hp => ?_) (fun j hj => ?_)
        · rw [hws] at this
          exact this
        · simp only [rd, true_and]
          by_cases e : j = k
          · subst e; rw [if_pos (by omega)]
          · have lj : walkersG P j < walkersG P k := walkersG_lt hp (by omega)
            rw [if_neg (by omega)]
            exact h1 j (by omega) hp
        · simp only [rd, true_and]
          rw [if_neg (by omega)]
          exact h2 j (by omega)
  exact lp 6 0 h rfl CH.rf (fun j hj => by omega) (fun j hj => rfl)
theorem bits_szC {n code : Nat} (hn : n < 5) (hw6 : walkersG P 6 = n) (hc : code < 3 ^ n) {k : Nat} (hk : k < 6) (hp : P 3 k ≠ 0) : bitsS P (szC n code) k = nI (fig n code (walkersG P k)) := by
  have := walkersG_lt hp hk
  exact F1 n hn code hc _ (by omega)
theorem PaidIs.mk {B : Nat → Int32} {c0 c p : Int32} {n : Nat} (hw6 : walkersG P 6 = n) {m : Nat} (hb : ∀ code, code < m → ∀ k, k < 6 → P 3 k ≠ 0 → B (4 * code + walkersG P k) = paidS (PQ P n code) (goN (PQ P n code) 60 (Wst c0)) c p k) : PaidIs B (payF P c0 c p n) n m := by
  intro code hc i hi
  obtain ⟨k, hk, hp, e⟩ := walkersG_ex (P := P) 6 i (by omega)
  rw [← e, hb code hc k hk hp]
  unfold payF
  rw [selG_at hp 6 hk]
theorem c_seek {c0 c p : Int32} {n : Nat} (hC : CST P W K T O h) (hF : WFS L N P W K T O) (hn : n < 5) (hw6 : walkersG P 6 = n) (h0 : h.1 [1, 6, 0] 0 = c0) : EvV X m_Tr_seekRests [vR [6, 0], vR [0, 0], vI c, vI p] h (fun h' => CST P W K T O h' ∧ OnC h h' ∧ h'.1 [6, 0] 3 = nI (cD (payF P c0 c p n) n (3 ^ n) 0) ∧ h'.1 [6, 0] 4 = fS (payF P c0 c p n) n (3 ^ n) 0) := by
  have f4 := F4 n hn
  apply e_Tr_seekRests
  refine g_Tr_seekRests_0 _ _ _ _ _ ipl0 (callP (c_walkers ipl0 hC.1) ?_)
  rw [hw6, show iMin 4 (nI n) = nI n from by
    have : n = 0 ∨ n = 1 ∨ n = 2 ∨ n = 3 ∨ n = 4 := by omega
    rcases this with rfl | rfl | rfl | rfl | rfl <;> decide]
  have lpC : ∀ (j m : Nat) (hh : Hp), j + m = 3 ^ n → CST P W K T O hh → OnC h hh → PaidIs (hh.1 [2, 6, 0]) (payF P c0 c p n) n (3 ^ n) → hh.1 [6, 0] 3 = nI (cD (payF P c0 c p n) n m j) → hh.1 [6, 0] 4 = fS (payF P c0 c p n) n m j → Rn X m_Tr_seekRests 87 [some (vR [6, 0]), some (vR [0, 0]), some (vI c), some (vI p), some (vI (nI n)), some (vI (nI (3 ^ n))), some (vI (nI j - 1))] [] hh (fun v h' => v = none ∧ CST P W K T O h' ∧ OnC h h' ∧ h'.1 [6, 0] 3 = nI (cD (payF P c0 c p n) n (3 ^ n) 0) ∧ h'.1 [6, 0] 4 = fS (payF P c0 c p n) n (3 ^ n) 0) := by
    intro j
    induction j with
    | zero =>
      intro m hh hj hc ho hb h3 h4
      have : m = 3 ^ n := by omega
      subst this
      exact g_Tr_seekRests_87 _ _ _ _ _ _ _ _ ipl0 (cT (by decide) ⟨rfl, hc, ho, h3, h4⟩)
    | succ j ih =>
      intro m hh hj hc ho hb h3 h4
      refine g_Tr_seekRests_87 _ _ _ _ _ _ _ _ ipl0 ?_
      rw [show nI (j + 1) - 1 = nI j from nI_pred _, show nI j + -1 = nI j - 1 by grind]
      refine cF (nI_pos (by omega)) (callB (c_isRest hn hb (by omega)) (fun z => z1a (callP (c_sizesOf hn (by omega)) ?_)) (fun z => z0a ?_))
      · refine ih (m + 1) _ (by omega) (hc.sc [6, 0] (CH.set0.tr CH.set0) (by simp)) (ho.tr ((OnC.set rfl).tr (OnC.set rfl))) ?_ ?_ ?_
        · rw [hsI_other (by simp), hsI_other (by simp)]; exact hb
        · rw [cD, if_pos z]
          simp [rd]; rw [h3, nI_add1]
        · rw [fS, if_pos z]
          simp [rd]
      · refine ih (m + 1) hh (by omega) hc ho hb ?_ ?_
        · rw [cD, if_neg z]; exact h3
        · rw [fS, if_neg z]; exact h4
  have lpB : ∀ (m code : Nat) (hh : Hp), code + m = 3 ^ n → CST P W K T O hh → OnC h hh → hh.1 [1, 6, 0] 0 = c0 → (∀ q, q < code → ∀ k, k < 6 → P 3 k ≠ 0 → hh.1 [2, 6, 0] (4 * q + walkersG P k) = paidS (PQ P n q) (goN (PQ P n q) 60 (Wst c0)) c p k) → Rn X m_Tr_seekRests 38 [some (vR [6, 0]), some (vR [0, 0]), some (vI c), some (vI p), some (vI (nI n)), some (vI (nI (3 ^ n))), some (vI (nI code))] [] hh (fun v h' => v = none ∧ CST P W K T O h' ∧ OnC h h' ∧ h'.1 [6, 0] 3 = nI (cD (payF P c0 c p n) n (3 ^ n) 0) ∧ h'.1 [6, 0] 4 = fS (payF P c0 c p n) n (3 ^ n) 0) := by
    intro m
    induction m with
    | zero =>
      intro code hh hm hc ho h0' hb
      have : code = 3 ^ n := by omega
      subst this
      refine g_Tr_seekRests_38 _ _ _ _ _ _ _ _ ipl0 (cT (nI_leI (by omega) (by omega) |>.mpr (Nat.le_refl _)) ?_)
      refine lpC (3 ^ n) 0 _ (by omega) (hc.sc [6, 0] (CH.set0.tr CH.set0) (by simp)) (ho.tr ((OnC.set rfl).tr (OnC.set rfl))) ?_ ?_ ?_
      · rw [hsI_other (by simp), hsI_other (by simp)]; exact PaidIs.mk hw6 hb
      · simp [rd]; rfl
      · simp [rd]; rfl
    | succ m ih =>
      intro code hh hm hc ho h0' hb
      have hc3 : code < 3 ^ n := by omega
      refine g_Tr_seekRests_38 _ _ _ _ _ _ _ _ ipl0 (cF (fun z => absurd ((nI_leI (by omega) (by omega)).mp z) (by omega)) (callP (c_sizesOf hn (by omega)) (callN (c_walkWith hc hF (szC n code)) (fun h8 q8 => ?_))))
      have e2 := q8.2.1
      rw [h0'] at e2
      refine callN (c_note (P := P) (P' := PQ P n code) (n := n) hn hw6 hc3 (fun k hk => szP_o (by decide)) q8.1 e2) (fun h12 q12 => ?_)
      rw [nI_add1]
      refine ih (code + 1) h12 (by omega) ((q8.cst hc).sc2 q12.1) ((ho.tr q8.on).tr (OnC.ch q12.1 rfl)) ?_ (fun q hq k hk hp => ?_)
      · rw [q12.1.2 _ (by simp) (by simp)]; exact q8.2.2.1.trans h0'
      · by_cases e : q = code
        · subst e; exact q12.2.1 k hk hp
        · have := walkersG_lt hp hk
          rw [q12.2.2 _ (by omega), q8.other (by simp) (by simp) (by simp) (by simp)]
          exact hb q (by omega) k hk hp
  have lpA : ∀ (m i : Nat) (hh : Hp), i + m = n → hh = h → Rn X m_Tr_seekRests 16 [some (vR [6, 0]), some (vR [0, 0]), some (vI c), some (vI p), some (vI (nI n)), some (vI (nI (3 ^ i))), some (vI (nI i))] [] hh (fun v h' => v = none ∧ CST P W K T O h' ∧ OnC h h' ∧ h'.1 [6, 0] 3 = nI (cD (payF P c0 c p n) n (3 ^ n) 0) ∧ h'.1 [6, 0] 4 = fS (payF P c0 c p n) n (3 ^ n) 0) := by
    intro m
    induction m with
    | zero =>
      intro i hh hi he
      have : i = n := by omega
      subst this
      subst he
      exact g_Tr_seekRests_16 _ _ _ _ _ _ _ _ ipl0 (cT (nI_leI (by omega) (by omega) |>.mpr (Nat.le_refl _)) (lpB (3 ^ i) 0 hh (by omega) hC OnC.rf h0 (fun q hq => by omega)))
    | succ m ih =>
      intro i hh hi he
      refine g_Tr_seekRests_16 _ _ _ _ _ _ _ _ ipl0 (cF (fun z => absurd ((nI_leI (by omega) (by omega)).mp z) (by omega)) ?_)
      rw [nI_add1, show (3 : Int32) = nI 3 from rfl, pk_mul, ← Nat.pow_succ]
      exact ih (i + 1) hh (by omega) he
  exact lpA n 0 h (by omega) rfl
end RES
