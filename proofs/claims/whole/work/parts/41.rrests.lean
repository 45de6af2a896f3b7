/-! rests, the reference -/
section RRE
variable {X : XS} {h : Hp} {L N : Nat} {P W : RW} {K : Nat → RW} {T O : RW}
theorem r_lay {h1 : Hp} {c0 c p : Int32} {n : Nat} (hF : WFS L N P W K T O) (hn : n < 5) (hw6 : walkersG P 6 = n) (hD : DST P W K T O h1) : EvV X m_Rf_layPaid [vR [1], vI (nI n), vI c, vI p] h1 (fun h' => DST P W K T O h' ∧ OnR h1 h' ∧ PaidIs (h'.1 [30, 1]) (payF P c0 c p n) n (3 ^ n)) := by
  have f4 := F4 n hn
  apply e_Rf_layPaid
  apply g_Rf_layPaid_0
  have lp : ∀ (m code : Nat) (hh : Hp), code + m = 3 ^ n → DST P W K T O hh → OnR h1 hh → (∀ q, q < code → ∀ k, k < 6 → P 3 k ≠ 0 → hh.1 [30, 1] (4 * q + walkersG P k) = paidS (PQ P n q) (goN (PQ P n q) 60 (Wst c0)) c p k) → Rn X m_Rf_layPaid 3 [some (vR [1]), some (vI (nI n)), some (vI c), some (vI p), some (vI (nI code)), none, none] [] hh (fun v h' => v = none ∧ DST P W K T O h' ∧ OnR h1 h' ∧ PaidIs (h'.1 [30, 1]) (payF P c0 c p n) n (3 ^ n)) := by
    intro m
    induction m with
    | zero =>
      intro code hh hm hd ho hb
      have : code = 3 ^ n := by omega
      subst this
      exact g_Rf_layPaid_3 _ _ _ _ _ _ (callP (r_power hn) (cT (nI_leI (by omega) (by omega) |>.mpr (Nat.le_refl _)) ⟨rfl, hd, ho, PaidIs.mk hw6 hb⟩))
    | succ m ih =>
      intro code hh hm hd ho hb
      have hc3 : code < 3 ^ n := by omega
      have lay : ∀ (m k : Nat) (h2 : Hp), k + m = 6 → DST P W K T O h2 → OnR h1 h2 → (∀ j, j < 6 → P 3 j ≠ 0 → h2.1 [29, 1] j = paidS (PQ P n code) (goN (PQ P n code) 60 (Wst c0)) c p j) → (∀ q, q < code → ∀ k, k < 6 → P 3 k ≠ 0 → h2.1 [30, 1] (4 * q + walkersG P k) = paidS (PQ P n q) (goN (PQ P n q) 60 (Wst c0)) c p k) → (∀ j, j < k → P 3 j ≠ 0 → h2.1 [30, 1] (4 * code + walkersG P j) = paidS (PQ P n code) (goN (PQ P n code) 60 (Wst c0)) c p j) → Rn X m_Rf_layPaid 73 [some (vR [1]), some (vI (nI n)), some (vI c), some (vI p), some (vI (nI code)), some (vI (nI (walkersG P k))), some (vI (nI k))] [] h2 (fun v h' => v = none ∧ DST P W K T O h' ∧ OnR h1 h' ∧ PaidIs (h'.1 [30, 1]) (payF P c0 c p n) n (3 ^ n)) := by
        intro m2
        induction m2 with
        | zero =>
          intro k h2 hk hd2 ho2 h29 hb2 hb3
          have : k = 6 := by omega
          subst this
          refine g_Rf_layPaid_73 _ _ _ _ _ _ _ _ (cT e6 ?_)
          rw [nI_add1]
          refine ih (code + 1) h2 (by omega) hd2 ho2 (fun q hq k hk hp => ?_)
          by_cases e : q = code
          · subst e; exact hb3 k hk hp
          · exact hb2 q (by omega) k hk hp
        | succ m2 ih2 =>
          intro k h2 hk hd2 ho2 h29 hb2 hb3
          have hk6 : k < 6 := by omega
          have hws : walkersG P (k + 1) = walkersG P k + (if P 3 k ≠ 0 then 1 else 0) := rfl
          refine g_Rf_layPaid_73 _ _ _ _ _ _ _ _ (cF (n6 hk6) ?_)
          rw [nI_add1]
          refine callB (r_has hd2.1 hF.1 hk6 h2) (fun z => z1a ?_) (fun z => z0a ?_)
          · rw [if_pos z] at hws
            have lt := walkersG_lt z hk6
            rw [nI_add1, show (4 : Int32) = nI 4 from rfl, pk_mul, nI_add, ci (k := k) (by omega), ci (k := 4 * code + walkersG P k) (by omega), h29 k hk6 z]
            have := ih2 (k + 1) (hsI h2 [30, 1] (4 * code + walkersG P k) (paidS (PQ P n code) (goN (PQ P n code) 60 (Wst c0)) c p k)) (by omega) (hd2.ch (ks := [30]) (CHr.set (by simp)) (by simp)) (ho2.tr (OnR.set rfl)) (fun j hj hp => by rw [hsI_other (by simp)]; exact h29 j hj hp) (fun q hq k' hk' hp => ?_) (fun j hj hp => ?_)
            · rw [hws] at this
              exact ⟨v6 hk6, vp_in_nI (by omega) (by decide), this⟩
            · have l2 := walkersG_lt hp hk'
              simp only [rd, true_and]
              rw [if_neg (by omega)]
              exact hb2 q hq k' hk' hp
            · simp only [rd, true_and]
              by_cases e : j = k
              · subst e; rw [if_pos rfl]
              · have lj : walkersG P j < walkersG P k := walkersG_lt hp (by omega)
                rw [if_neg (by omega)]
                exact hb3 j (by omega) hp
          · rw [if_neg z] at hws
            have := ih2 (k + 1) h2 (by omega) hd2 ho2 h29 hb2 (fun j hj hp => hb3 j (by
              by_cases e : j = k
              · rw [e] at hp; exact absurd hp z
              · omega) hp)
            rw [hws] at this
            exact this
      have fill : ∀ (m k : Nat) (h2 : Hp), k + m = 6 → CHr [22] hh h2 → (∀ j, j < k → P 3 j ≠ 0 → h2.1 [22, 1] j = nI (fig n code (walkersG P j))) → Rn X m_Rf_layPaid 18 [some (vR [1]), some (vI (nI n)), some (vI c), some (vI p), some (vI (nI code)), some (vI (nI (walkersG P k))), some (vI (nI k))] [] h2 (fun v h' => v = none ∧ DST P W K T O h' ∧ OnR h1 h' ∧ PaidIs (h'.1 [30, 1]) (payF P c0 c p n) n (3 ^ n)) := by
        intro m2
        induction m2 with
        | zero =>
          intro k h2 hk hc2 h22
          have : k = 6 := by omega
          subst this
          have hd2 := hd.ch hc2 (by simp)
          have hS : SzIs h2 (PQ P n code) := fun k hk hp => by
            rw [show PQ P n code 3 k = P 3 k from szP_o (by decide)] at hp
            rw [h22 k hk hp]
            show _ = szP P (bitsS P (szC n code)) 8 k
            rw [szP_8 hp, bits_szC hn hw6 hc3 hk hp]
          have hsz : wfP L N (PQ P n code) := wfP_sz hF.1 (fun k hk hp => ⟨fig n code (walkersG P k), by
            have := Nat.mod_lt (code / 3 ^ (n - 1 - walkersG P k)) (show 0 < 3 by decide)
            unfold fig; omega, bits_szC hn hw6 hc3 hk hp⟩)
          refine g_Rf_layPaid_18 _ _ _ _ _ _ _ _ (cT e6 (callN (r_goWhole hd2 hd2.1.sz hsz hS c p c0) (fun h3 q3 => ?_)))
          refine lay 6 0 h3 rfl q3.1 (ho.tr ((OnR.ch hc2).tr (OnR.ch q3.2.1))) (fun j hj hp => ?_) (fun q hq k hk hp => ?_) (fun j hj => by omega)
          · rw [q3.2.2.1 j hj, h22 j hj hp]
            unfold paidS
            rw [show PQ P n code 8 j = bitsS P (szC n code) j from szP_8 hp, bits_szC hn hw6 hc3 hj hp]
          · rw [q3.2.1.at (by decide), hc2.at (by decide)]
            exact hb q hq k hk hp
        | succ m2 ih2 =>
          intro k h2 hk hc2 h22
          have hk6 : k < 6 := by omega
          have hws : walkersG P (k + 1) = walkersG P k + (if P 3 k ≠ 0 then 1 else 0) := rfl
          have hd2 := hd.ch hc2 (by simp)
          refine g_Rf_layPaid_18 _ _ _ _ _ _ _ _ (cF (n6 hk6) ?_)
          rw [nI_add1]
          refine callB (r_has hd2.1 hF.1 hk6 h2) (fun z => z1a ?_) (fun z => z0a ?_)
          · rw [if_pos z] at hws
            have lt := walkersG_lt z hk6
            refine callP (r_figure hn (by omega) (by omega)) ⟨v6 hk6, ?_⟩
            rw [nI_add1, ci (by omega)]
            have := ih2 (k + 1) (hsI h2 [22, 1] k (nI (fig n code (walkersG P k)))) (by omega) (hc2.tr (CHr.set (by simp))) (fun j hj hp => ?_)
            · rw [hws] at this
              exact this
            · simp only [rd, true_and]
              by_cases e : j = k
              · subst e; rw [if_pos rfl]
              · rw [if_neg e]; exact h22 j (by omega) hp
          · rw [if_neg z] at hws
            have := ih2 (k + 1) h2 (by omega) hc2 (fun j hj hp => h22 j (by
              by_cases e : j = k
              · rw [e] at hp; exact absurd hp z
              · omega) hp)
            rw [hws] at this
            exact this
      refine g_Rf_layPaid_3 _ _ _ _ _ _ (callP (r_power hn) (cF (fun z => absurd ((nI_leI (by omega) (by omega)).mp z) (by omega)) ?_))
      exact fill 6 0 hh rfl CHr.rf (fun j hj => by omega)
  exact lp (3 ^ n) 0 h1 (by omega) hD OnR.rf (fun q hq => by omega)
theorem r_doesRest {F : Nat → Nat → Int32} {n code : Nat} (hn : n < 5) (hb : PaidIs (h.1 [30, 1]) F n (3 ^ n)) (hc : code < 3 ^ n) : EvI X m_Rf_doesRest [vR [1], vI (nI code), vI (nI n)] h (fun r h' => r = bI (restP F n code) ∧ h' = h) := by
  have f4 := F4 n hn
  have f3 := F3 n hn code hc
  apply e_Rf_doesRest
  apply g_Rf_doesRest_0
  have lp : ∀ (m i : Nat) (x : Int32), i + m = n → ((x = 1 ∧ ∀ j, j < i → ∀ s, s < 3 → ¬ F (alt n code j s) j < F code j) ∨ (x = 0 ∧ ¬ restP F n code)) → Rn X m_Rf_doesRest 5 [some (vR [1]), some (vI (nI code)), some (vI (nI n)), some (vI x), some (vI (nI i)), none, none] [] h (fun v h' => ∃ r, v = some (vI r) ∧ r = bI (restP F n code) ∧ h' = h) := by
    intro m
    induction m with
    | zero =>
      intro i x hi hx
      have : i = n := by omega
      subst this
      refine g_Rf_doesRest_5 _ _ _ _ _ _ (cT (nI_leI (by omega) (by omega) |>.mpr (Nat.le_refl _)) ?_)
      rcases hx with ⟨rfl, hx⟩ | ⟨rfl, hx⟩
      · exact ⟨Or.inr rfl, _, rfl, eqT hx, rfl⟩
      · exact ⟨Or.inl rfl, _, rfl, eqF hx, rfl⟩
    | succ m ih =>
      intro i x hi hx
      have f3i := f3 i (by omega)
      have f4i := F4 (n - 1 - i) (by omega)
      have inn : ∀ (m2 s : Nat) (x : Int32), s + m2 = 3 → ((x = 1 ∧ (∀ j, j < i → ∀ s, s < 3 → ¬ F (alt n code j s) j < F code j) ∧ ∀ t, t < s → ¬ F (alt n code i t) i < F code i) ∨ (x = 0 ∧ ¬ restP F n code)) → Rn X m_Rf_doesRest 35 [some (vR [1]), some (vI (nI code)), some (vI (nI n)), some (vI x), some (vI (nI i)), some (vI (nI (code - fig n code i * 3 ^ (n - 1 - i)))), some (vI (nI s))] [] h (fun v h' => ∃ r, v = some (vI r) ∧ r = bI (restP F n code) ∧ h' = h) := by
        intro m2
        induction m2 with
        | zero =>
          intro s x hs hx
          have : s = 3 := by omega
          subst this
          refine g_Rf_doesRest_35 _ _ _ _ _ _ _ _ (cT (by decide) ?_)
          rw [nI_add1]
          refine ih (i + 1) x (by omega) ?_
          rcases hx with ⟨a, b, d⟩ | hx
          · refine Or.inl ⟨a, fun j hj s hs => ?_⟩
            by_cases e : j = i
            · subst e; exact d s hs
            · exact b j (by omega) s hs
          · exact Or.inr hx
        | succ m2 ih2 =>
          intro s x hs hx
          refine g_Rf_doesRest_35 _ _ _ _ _ _ _ _ (cF ?_ ?_)
          · rw [show (3 : Int32) = nI 3 from rfl, nI_leI (by decide) (by omega)]; omega
          · rw [nI_add1, ni_sub1 (by omega)]
            rcases hx with ⟨rfl, b, d⟩ | ⟨rfl, hx⟩
            · refine z1a (callP (r_power (by omega)) ?_)
              have b81 := f3i.2 s (by omega)
              rw [pk_mul, nI_add, show code - fig n code i * 3 ^ (n - 1 - i) + s * 3 ^ (n - 1 - i) = alt n code i s from rfl, show (4 : Int32) = nI 4 from rfl, pk_mul, pk_mul, nI_add, nI_add, ci (k := 4 * alt n code i s + i) (by omega), ci (k := 4 * code + i) (by omega), hb _ b81 i (by omega), hb _ hc i (by omega)]
              refine ⟨vp_in_nI (by omega) (by decide), vp_in_nI (by omega) (by decide), fun z => ih2 (s + 1) 0 (by omega) (Or.inr ⟨rfl, fun y => y i (by omega) s (by omega) z⟩), fun z => ih2 (s + 1) 1 (by omega) (Or.inl ⟨rfl, b, fun t ht => ?_⟩)⟩
              by_cases e : t = s
              · subst e; exact z
              · exact d t (by omega)
            · exact z0a (ih2 (s + 1) 0 (by omega) (Or.inr ⟨rfl, hx⟩))
      refine g_Rf_doesRest_5 _ _ _ _ _ _ (cF (fun z => absurd ((nI_leI (by omega) (by omega)).mp z) (by omega)) (callP (r_figure hn (by omega) (by omega)) ?_))
      rw [ni_sub1 (by omega)]
      refine callP (r_power (by omega)) ?_
      rw [pk_mul, pk_sub f3i.1]
      refine inn 3 0 x rfl ?_
      rcases hx with ⟨a, b⟩ | hx
      · exact Or.inl ⟨a, b, fun t ht => by omega⟩
      · exact Or.inr hx
  exact lp n 0 1 (by omega) (Or.inl ⟨rfl, fun j hj => by omega⟩)
theorem r_restsLoop {F : Nat → Nat → Int32} {n : Nat} {c p w : Int32} (hn : n < 5) (hb : PaidIs (h.1 [30, 1]) F n (3 ^ n)) {Q : Option AV → Hp → Prop} (hq : ∀ r h', r = (if w = 0 then nI (cD F n (3 ^ n) 0) else fS F n (3 ^ n) 0) → h' = h → Q (some (vI r)) h') : ∀ (m j a : Nat) (f : Int32), j + m = 3 ^ n → a + cD F n m j = cD F n (3 ^ n) 0 → a ≤ j → ((a = 0 ∧ f = -1 ∧ fD F n (3 ^ n) 0 = fD F n m j) ∨ (a ≠ 0 ∧ f = fD F n (3 ^ n) 0 ∧ f ≠ -1)) → Rn X m_Rf_rests 55 [some (vR [1]), some (vI c), some (vI p), some (vI w), some (vI (nI n)), some (vI (nI a)), some (vI f), some (vI (nI j)), none] [] h Q := by
  have f4 := F4 n hn
  intro m
  induction m with
  | zero =>
    intro j a f hj ha hle hf
    have : j = 3 ^ n := by omega
    subst this
    have ff : f = fD F n (3 ^ n) 0 := by
      rcases hf with ⟨_, b, d⟩ | ⟨_, b, _⟩
      · rw [d, b]; rfl
      · exact b
    have ea : a = cD F n (3 ^ n) 0 := by rw [← ha]; rfl
    have k109 : (w = 0 ∨ f = -1) → Rn X m_Rf_rests 109 [some (vR [1]), some (vI c), some (vI p), some (vI w), some (vI (nI n)), some (vI (nI a)), some (vI f), some (vI (nI (3 ^ n))), none] [] h Q := by
      intro z
      refine g_Rf_rests_109 _ _ _ _ _ _ _ _ _ ⟨fun y => hq _ _ ?_ rfl, fun y => hq _ _ ?_ rfl⟩
      · have := z.resolve_left y
        rw [if_neg y]
        rcases fSD (F := F) (n := n) (3 ^ n) 0 with q | ⟨q, _, qb, qc, _⟩
        · exact q.2.symm
        · rw [ff, qc] at this
          have h0 : (0 : Int32) ≤ nI q := nI_pos' (by omega)
          rw [this] at h0
          exact absurd h0 (by decide)
      · rw [if_pos y, ea]
    refine g_Rf_rests_55 _ _ _ _ _ _ _ _ _ (callP (r_power hn) (cT (nI_leI (by omega) (by omega) |>.mpr (Nat.le_refl _)) ⟨fun z => k109 (Or.inl z), fun z => ⟨fun y => ?_, fun y => k109 (Or.inr y)⟩⟩))
    rcases fSD (F := F) (n := n) (3 ^ n) 0 with q | ⟨q, _, qb, qc, qd⟩
    · exact absurd (ff.trans q.1) y
    · rw [ff, qc]
      have up : ∀ (m i : Nat), i + m = n → Rn X m_Rf_rests 126 [some (vR [1]), some (vI c), some (vI p), some (vI w), some (vI (nI n)), some (vI (nI a)), some (vI (nI q)), some (vI (upG n q i)), some (vI (nI i))] [] h Q := by
        intro m
        induction m with
        | zero =>
          intro i hi
          have : i = n := by omega
          subst this
          refine g_Rf_rests_126 _ _ _ _ _ _ _ _ _ _ (cT (nI_leI (by omega) (by omega) |>.mpr (Nat.le_refl _)) (hq _ _ ?_ rfl))
          rw [if_neg z, qd, F2 i hn q (by omega)]
        | succ m ih =>
          intro i hi
          refine g_Rf_rests_126 _ _ _ _ _ _ _ _ _ _ (cF (fun z => absurd ((nI_leI (by omega) (by omega)).mp z) (by omega)) (callP (r_figure hn (by omega) (by omega)) ?_))
          rw [nI_add1]
          exact ih (i + 1) (by omega)
      exact up n 0 (by omega)
  | succ m ih =>
    intro j a f hj ha hle hf
    rw [cD] at ha
    refine g_Rf_rests_55 _ _ _ _ _ _ _ _ _ (callP (r_power hn) (cF (fun z => absurd ((nI_leI (by omega) (by omega)).mp z) (by omega)) ?_))
    rw [nI_add1, nI_add1]
    refine callB (r_doesRest hn hb (by omega)) (fun z => z1a ?_) (fun z => z0a ?_)
    · rw [if_pos z] at ha
      have hz : (nI a = 0) ↔ a = 0 := by
        refine ⟨fun y => ?_, fun y => by rw [y]; rfl⟩
        rcases Nat.eq_zero_or_pos a with q | q
        · exact q
        · have : (1 : Int32) ≤ nI a := by rw [show (1 : Int32) = nI 1 from rfl, nI_leI (by decide) (by omega)]; exact q
          rw [y] at this; exact absurd this (by decide)
      refine ⟨fun y => ih (j + 1) (a + 1) f (by omega) (by omega) (by omega) (Or.inr ?_), fun y => ih (j + 1) (a + 1) (nI j) (by omega) (by omega) (by omega) (Or.inr ?_)⟩
      · rcases hf with q | q
        · exact absurd (hz.mpr q.1) y
        · exact ⟨by omega, q.2⟩
      · rcases hf with q | q
        · refine ⟨by omega, ?_, ?_⟩
          · rw [q.2.2, fD, if_pos z]
          · intro t
            have h0 : (0 : Int32) ≤ nI j := nI_pos' (by omega)
            rw [t] at h0; exact absurd h0 (by decide)
        · exact absurd (hz.mp y) q.1
    · rw [if_neg z] at ha
      refine ih (j + 1) a f (by omega) (by omega) (by omega) ?_
      rcases hf with q | q
      · refine Or.inl ⟨q.1, q.2.1, ?_⟩
        rw [q.2.2, fD, if_neg z]
      · exact Or.inr q
theorem op_rests (hI : Inv h) (c p w : Int32) : PairI X m_Us_rests m_Rf_rests [vI c, vI p, vI w] h := by
  obtain ⟨L, N, P, W, K, T, O, hC, hD, hF⟩ := id hI
  have wl : walkersG P 6 ≤ 6 := walkersG_le 6
  by_cases c1 : costOK c p ∧ (0 ≤ w ∧ w ≤ 1)
  · by_cases c4 : walkersG P 6 ≤ 4
    · obtain ⟨n, hw6⟩ : ∃ n, walkersG P 6 = n := ⟨_, rfl⟩
      have hn : n < 5 := by omega
      have f4 := F4 n hn
      refine ⟨fun r h' => r = (if w = 0 then nI (cD (payF P (h.1 [1, 6, 0] 0) c p n) n (3 ^ n) 0) else fS (payF P (h.1 [1, 6, 0] 0) c p n) n (3 ^ n) 0) ∧ CST P W K T O h' ∧ OnC h h', ?_, fun r h1 q => ?_⟩
      · apply e_Us_rests
        refine g_Us_rests_0 _ _ _ _ _ (callB (c_costs c p) (fun z => absurd c1.1 z) (fun _ => z0b (callB (s_isNotIn w 0 1 h) (fun z => absurd c1.2 z) (fun _ => z0a (callP (c_walkers ipl0 hC.1) (cT ((le4 wl).mpr c4) ?_))))))
        refine callN (c_seek hC hF hn hw6 rfl) (fun h18 q => ⟨fun z => ⟨_, rfl, ?_, q.1, q.2.1⟩, fun z => ⟨_, rfl, ?_, q.1, q.2.1⟩⟩)
        · rw [if_neg z]; exact q.2.2.2
        · rw [if_pos z]; exact q.2.2.1
      · obtain ⟨q1, q2, q3⟩ := q
        have hD1 := hD.on q3
        generalize h.1 [1, 6, 0] 0 = c0 at q1
        refine ⟨fun r h' => r = (if w = 0 then nI (cD (payF P c0 c p n) n (3 ^ n) 0) else fS (payF P c0 c p n) n (3 ^ n) 0) ∧ DST P W K T O h' ∧ OnR h1 h', ?_, fun r' h2 q' => ⟨by rw [q1, q'.1], L, N, P, W, K, T, O, q2.on q'.2.2, q'.2.1, hF⟩⟩
        apply e_Rf_rests
        refine g_Rf_rests_0 _ _ _ _ _ (callB (r_prices c p) (fun _ => z1a (callB (s_in w 0 1 h1) (fun _ => z1b (callP (r_bits hD1.1 hF.1) (cT ((le4 wl).mpr c4) ?_))) (fun z => absurd c1.2 z))) (fun z => absurd c1.1 z))
        rw [hw6]
        refine callN (r_lay (c0 := c0) hF hn hw6 hD1) (fun h18 q18 => ?_)
        exact r_restsLoop hn q18.2.2 (fun r h' e1 e2 => ⟨_, rfl, e1, by rw [e2]; exact q18.1, by rw [e2]; exact q18.2.1⟩) (3 ^ n) 0 0 (-1) (by omega) (by omega) (by omega) (Or.inl ⟨rfl, rfl, rfl⟩)
    · refine pairSame (f := -4) hI ?_ ?_
      · apply e_Us_rests
        exact g_Us_rests_0 _ _ _ _ _ (callB (c_costs c p) (fun z => absurd c1.1 z) (fun _ => z0b (callB (s_isNotIn w 0 1 h) (fun z => absurd c1.2 z) (fun _ => z0a (callP (c_walkers ipl0 hC.1) (cF (fun z => c4 ((le4 wl).mp z)) ⟨_, rfl, rfl, rfl⟩))))))
      · apply e_Rf_rests
        exact g_Rf_rests_0 _ _ _ _ _ (callB (r_prices c p) (fun _ => z1a (callB (s_in w 0 1 h) (fun _ => z1b (callP (r_bits hD.1 hF.1) (cF (fun z => c4 ((le4 wl).mp z)) ⟨_, rfl, rfl, rfl⟩))) (fun z => absurd c1.2 z))) (fun z => absurd c1.1 z))
  · refine pairSame (f := -3) hI ?_ ?_
    · apply e_Us_rests
      exact g_Us_rests_0 _ _ _ _ _ (callB (c_costs c p) (fun _ => z1b ⟨_, rfl, rfl, rfl⟩) (fun y => z0b (callB (s_isNotIn w 0 1 h) (fun _ => z1a ⟨_, rfl, rfl, rfl⟩) (fun y2 => absurd ⟨Classical.not_not.mp y, Classical.not_not.mp y2⟩ c1))))
    · apply e_Rf_rests
      exact g_Rf_rests_0 _ _ _ _ _ (callB (r_prices c p) (fun y => z1a (callB (s_in w 0 1 h) (fun y2 => absurd ⟨y, y2⟩ c1) (fun _ => z0b ⟨_, rfl, rfl, rfl⟩))) (fun _ => z0a ⟨_, rfl, rfl, rfl⟩))
end RRE
