theorem ite_iff {α : Type} {p q : Prop} [Decidable p] [Decidable q] (h : p ↔ q) {a b c d : α} (h1 : a = c) (h2 : b = d) : (if p then a else b) = if q then c else d := by
  subst h1; subst h2
  by_cases z : p
  · rw [if_pos z, if_pos (h.mp z)]
  · rw [if_neg z, if_neg (fun y => z (h.mpr y))]
section RT3
variable {X : XS} {h : Hp} {L N : Nat} {W P : RW}
theorem ch18 {h : Hp} {i : Nat} {v : Int32} : CHr [18] h (hsI h [18, 1] i v) := CHr.set (by simp)
theorem now24 (hN : NowIs h W) : h.1 [18, 1] 24 = W 0 1 := by rw [hN 24 (by omega)]; rfl
theorem r_comeOne (hR : RefP h P) (hP : wfP L N P) (hN : NowIs h W) (hW : wfW L N P W) {k : Nat} (hk : k < 6) (hp : P 3 k ≠ 0) : EvV X m_Rf_comeOne [vR [1], vI (nI k)] h (NwPost h (stepB P k W)) := by
  apply e_Rf_comeOne
  have hw := hW k hk
  have e0 : h.1 [4, 1] (6 * k) = P 4 k := hR.2.2.2.2.1 k hk 0 (by omega) (by omega)
  have e1 : h.1 [4, 1] (6 * k + 1) = P 5 k := hR.2.2.2.2.1 k hk 1 (by omega) (by omega)
  have e2 : h.1 [4, 1] (6 * k + 2) = P 6 k := hR.2.2.2.2.1 k hk 2 (by omega) (by omega)
  apply g_Rf_comeOne_0
  rw [i6j k 1 1 rfl, ci (by omega), e1, hR.2.1]
  refine ⟨vp_in_nI (by omega) (by decide), ?_⟩
  have main : ∀ s0 : Int32, 4 * s0 + P 4 k = firstS P k → Rn X m_Rf_comeOne 25 [some (vR [1]), some (vI (nI k)), none] [vI s0, vI 4] h (fun v h' => v = none ∧ NwPost h (stepB P k W) h') := by
    intro s0 hs
    apply g_Rf_comeOne_25
    rw [i6j k 2 2 rfl, i60, ci (k := 6 * k) (by omega), ci (k := k) (by omega), ci (k := 6 * k + 2) (by omega), e0, e2, now24 hN, hN k (by omega), hs]
    have no : ¬ (P 3 k ≠ 0 ∧ ¬ W 0 1 < P 6 k ∧ W 3 k = -1 ∧ W 4 k = 0) → NwPost h (stepB P k W) h := by
      intro c
      rw [stepB, if_neg c]
      exact ⟨hN, CHr.rf⟩
    refine ⟨vp_in_nI (by omega) (by decide), vp_in_nI (by omega) (by decide), fun c1 => ⟨rfl, no (fun z => c1 ?_)⟩, fun c1 => ⟨vp_in_nI (by omega) (by decide), fun c2 => ⟨rfl, no (fun z => z.2.1 c2)⟩, fun c2 => ?_⟩⟩
    · rw [now_on hk z.2.2.2, z.2.2.1]; decide
    · have h34 : W 3 k = -1 ∧ W 4 k = 0 := by
        rcases hw.1 with z | z
        · rw [now_on hk z] at c1; exact ⟨by grind, z⟩
        · rw [now_out hk (by rw [z]; decide)] at c1; exact absurd c1 (by decide)
      have e : stepB P k W = comeS P k W := by rw [stepB, if_pos ⟨hp, c2, h34.1, h34.2⟩]
      rw [e]
      refine callP (r_whoAt hR hP hN hW (first_ok hP hk hp)) ⟨fun c3 => ⟨rfl, ?_⟩, fun c3 => ⟨vp_in_nI (by omega) (by decide), rfl, ?_⟩⟩
      · rw [comeS, if_neg c3]; exact ⟨hN, CHr.rf⟩
      · rw [comeS, if_pos c3]
        exact ⟨hN.put (now_u3 hk h34.2), ch18⟩
  refine ⟨fun c => main _ ?_, fun c => main _ ?_⟩
  · rw [firstS, if_neg c]
  · rw [firstS, if_pos c]
/-! pokes: the order of the pairs doesn't matter -/
abbrev PK (P W : RW) (j k : Nat) : Prop := W 3 j ≠ -1 ∧ W 3 k ≠ -1 ∧ pokingS P W j k
theorem pokeOne_eq {j k : Nat} (hjk : j ≠ k) (a b : Nat) : pokeOne P j k W a b = W a b + if PK P W j k ∧ ((a = 6 ∧ (b = j ∨ b = k)) ∨ (a = 0 ∧ b = 2)) then 1 else 0 := by
  unfold pokeOne
  by_cases c : PK P W j k
  · rw [if_pos c]
    unfold u2
    grind
  · rw [if_neg c, if_neg (fun z => c z.1)]
    grind
theorem pokeOne_3 (j k : Nat) : (pokeOne P j k W) 3 = W 3 := by
  funext b
  unfold pokeOne
  split
  · unfold u2; simp
  · rfl
theorem PK_3 {V : RW} (h3 : V 3 = W 3) (j k : Nat) : PK P V j k ↔ PK P W j k := by
  unfold PK pokingS placesA lanesA
  rw [h3]
theorem pokeOne_comm {j k a b : Nat} (h1 : j ≠ k) (h2 : a ≠ b) : pokeOne P a b (pokeOne P j k W) = pokeOne P j k (pokeOne P a b W) := by
  funext x y
  rw [pokeOne_eq (W := pokeOne P j k W) h2 x y, pokeOne_eq (W := W) h1 x y, pokeOne_eq (W := pokeOne P a b W) h1 x y, pokeOne_eq (W := W) h2 x y]
  have q1 := PK_3 (P := P) (V := pokeOne P j k W) (W := W) (pokeOne_3 j k) a b
  have q2 := PK_3 (P := P) (V := pokeOne P a b W) (W := W) (pokeOne_3 a b) j k
  have d1 : (if PK P (pokeOne P j k W) a b ∧ ((x = 6 ∧ (y = a ∨ y = b)) ∨ (x = 0 ∧ y = 2)) then (1 : Int32) else 0) = if PK P W a b ∧ ((x = 6 ∧ (y = a ∨ y = b)) ∨ (x = 0 ∧ y = 2)) then 1 else 0 := by
    exact ite_iff ⟨fun z => ⟨q1.mp z.1, z.2⟩, fun z => ⟨q1.mpr z.1, z.2⟩⟩ rfl rfl
  have d2 : (if PK P (pokeOne P a b W) j k ∧ ((x = 6 ∧ (y = j ∨ y = k)) ∨ (x = 0 ∧ y = 2)) then (1 : Int32) else 0) = if PK P W j k ∧ ((x = 6 ∧ (y = j ∨ y = k)) ∨ (x = 0 ∧ y = 2)) then 1 else 0 := by
    exact ite_iff ⟨fun z => ⟨q2.mp z.1, z.2⟩, fun z => ⟨q2.mpr z.1, z.2⟩⟩ rfl rfl
  rw [d1, d2, Int32.add_assoc, Int32.add_assoc]
  congr 1
  exact Int32.add_comm _ _
def pkL (P : RW) (l : List (Nat × Nat)) (W : RW) : RW := l.foldl (fun V q => pokeOne P q.1 q.2 V) W
def pairsC : List (Nat × Nat) := [(0, 1), (0, 2), (1, 2), (0, 3), (1, 3), (2, 3), (0, 4), (1, 4), (2, 4), (3, 4), (0, 5), (1, 5), (2, 5), (3, 5), (4, 5)]
def rIn (P : RW) (a : Nat) : Nat → RW → RW
  | 0, V => V
  | m + 1, V => pokeOne P a (a + 1 + m) (rIn P a m V)
def rOut (P : RW) : Nat → RW → RW
  | 0, W => W
  | n + 1, W => rIn P n (5 - n) (rOut P n W)
def pairsR : List (Nat × Nat) := [(0, 1), (0, 2), (0, 3), (0, 4), (0, 5), (1, 2), (1, 3), (1, 4), (1, 5), (2, 3), (2, 4), (2, 5), (3, 4), (3, 5), (4, 5)]
theorem pokeS_L : pokeS P W = pkL P pairsC W := by
  simp only [pokeS, pokeRow, itr, pkL, pairsC, List.foldl]
theorem rOut_L : rOut P 6 W = pkL P pairsR W := by
  simp only [rOut, rIn, pkL, pairsR, List.foldl]
  rfl
theorem pokes_same : rOut P 6 W = pokeS P W := by
  rw [pokeS_L, rOut_L]
  refine List.Perm.foldl_eq' (by decide) (fun x hx y hy z => ?_) W
  have ne : ∀ q ∈ pairsR, q.1 ≠ q.2 := by decide
  exact pokeOne_comm (ne x hx) (ne y hy)
theorem wf_rIn {a : Nat} : ∀ m, wfW L N P W → wfW L N P (rIn P a m W)
  | 0, h => h
  | m + 1, h => wf_pokeOne (wf_rIn m h)
theorem wf_rOut : ∀ n, wfW L N P W → wfW L N P (rOut P n W)
  | 0, h => h
  | n + 1, h => wf_rIn _ (wf_rOut n h)
theorem size_pos {s : Nat} (hs : s ≤ 2) : (¬ nI s ≤ 0 ↔ nI s ≠ 0) := by
  constructor
  · intro h z; rw [z] at h; exact h (by decide)
  · intro h z
    have h1 : 0 ≤ nI s := nI_pos' (by omega)
    exact h (by grind)
theorem sz_of (hP : wfP L N P) {k : Nat} (hk : k < 6) : ∃ s, s ≤ 2 ∧ P 8 k = nI s := (hP.2.2.2.2.2.2 k hk).2.2.2.1
theorem on_of (hW : wfW L N P W) {k : Nat} (hk : k < 6) (hon : W 3 k ≠ -1) : W 4 k = 0 ∧ P 3 k ≠ 0 ∧ ∃ a l, a < N ∧ l < L ∧ W 3 k = nI (4 * a + l) := by
  rcases (hW k hk).2 with z | z
  · exact absurd z hon
  · exact z
theorem places_eq (hP : wfP L N P) (hW : wfW L N P W) {j k : Nat} (hj : j < 6) (hk : k < 6) (h1 : W 3 j ≠ -1) (h2 : W 3 k ≠ -1) : (if W 3 k / 4 < W 3 j / 4 then W 3 j / 4 - W 3 k / 4 else W 3 k / 4 - W 3 j / 4) = placesA W j k ∧ (if iR (W 3 k) 4 < iR (W 3 j) 4 then iR (W 3 j) 4 - iR (W 3 k) 4 else iR (W 3 k) 4 - iR (W 3 j) 4) = lanesA W j k ∧ (placesA W j k = 0 ↔ W 3 j / 4 = W 3 k / 4) := by
  obtain ⟨-, -, a, l, ha, hl, e1⟩ := on_of hW hj h1
  obtain ⟨-, -, a', l', ha', hl', e2⟩ := on_of hW hk h2
  obtain ⟨p0, p1, l1, l2, n1, n2, -⟩ := hP
  have d1 := cell_div (a := a) (l := l) (by omega) (by omega)
  have d2 := cell_div (a := a') (l := l') (by omega) (by omega)
  unfold placesA lanesA
  rw [e1, e2, d1.1, d1.2, d2.1, d2.2]
  refine ⟨off_nat (by omega) (by omega), off_nat (by omega) (by omega), ?_⟩
  unfold iAbs
  constructor
  · intro z; split at z <;> grind
  · intro z; rw [z]; split <;> grind
theorem heights_eq (hP : wfP L N P) {j k : Nat} (hj : j < 6) (hk : k < 6) : (if P 7 k < P 7 j then P 7 j - P 7 k else P 7 k - P 7 j) = iAbs (P 7 j - P 7 k) := by
  obtain ⟨e, he, e1⟩ := (hP.2.2.2.2.2.2 j hj).2.2.2.2
  obtain ⟨e', he', e2⟩ := (hP.2.2.2.2.2.2 k hk).2.2.2.2
  rw [e1, e2]
  exact off_nat (by omega) (by omega)
theorem now_12 (hN : NowIs h W) {k : Nat} (hk : k < 6) : h.1 [18, 1] (12 + k) = W 6 k := by
  rw [hN (12 + k) (by omega)]; unfold nowOf
  rw [if_neg (by omega), if_neg (by omega), if_pos (by omega), show 12 + k - 12 = k by omega]
theorem now_25 (hN : NowIs h W) : h.1 [18, 1] 25 = W 0 2 := by rw [hN 25 (by omega)]; rfl
theorem r_poke (hR : RefP h P) (hP : wfP L N P) (hS : SzIs h P) (hN : NowIs h W) (hW : wfW L N P W) : EvV X m_Rf_poke [vR [1]] h (NwPost h (pokeS P W)) := by
  apply e_Rf_poke
  apply g_Rf_poke_0
  rw [← pokes_same]
  have outer : ∀ (n a : Nat) (hh : Hp) (V : RW), a + n = 6 → NowIs hh V → CHr [18] h hh → V = rOut P a W → Rn X m_Rf_poke 2 [some (vR [1]), some (vI (nI a)), none, none] [] hh (fun v h' => v = none ∧ NwPost h (rOut P 6 W) h') := by
    intro n
    induction n with
    | zero =>
      intro a hh V ha hV hc hv
      have : a = 6 := by omega
      subst this
      refine g_Rf_poke_2 _ _ _ (cT e6 ⟨rfl, ?_, hc⟩)
      rw [hv] at hV; exact hV
    | succ n ih =>
      intro a hh V ha hV hc hv
      have ha6 : a < 6 := by omega
      refine g_Rf_poke_2 _ _ _ (cF (n6 ha6) ?_)
      have inner : ∀ (m r : Nat) (h2 : Hp) (V2 : RW), r + m = 5 - a → NowIs h2 V2 → CHr [18] h h2 → V2 = rIn P a r V → Rn X m_Rf_poke 12 [some (vR [1]), some (vI (nI a)), some (vI (nI (a + 1 + r))), none] [] h2 (fun v h' => v = none ∧ NwPost h (rOut P 6 W) h') := by
        intro m
        induction m with
        | zero =>
          intro r h2 V2 hr hV2 hc2 hv2
          have : a + 1 + r = 6 := by omega
          rw [this]
          refine g_Rf_poke_12 _ _ _ _ (cT e6 ?_)
          rw [nI_add1]
          refine ih (a + 1) h2 V2 (by omega) hV2 hc2 ?_
          rw [hv2, hv, show r = 5 - a by omega]; rfl
        | succ m ihm =>
          intro r h2 V2 hr hV2 hc2 hv2
          have hb6 : a + 1 + r < 6 := by omega
          have hab : a ≠ a + 1 + r := by omega
          have hW2 : wfW L N P V2 := by rw [hv2, hv]; exact wf_rIn _ (wf_rOut _ hW)
          have hR2 := hR.ch hc2 (by decide) (by decide)
          have hS2 := hS.ch hc2 (by decide)
          generalize hb : a + 1 + r = b at hb6 hab
          refine g_Rf_poke_12 _ _ _ _ (cF (n6 hb6) ?_)
          rw [nI_add1]
          have nxt : ∀ (h3 : Hp) (V3 : RW), NowIs h3 V3 → CHr [18] h h3 → V3 = pokeOne P a b V2 → Rn X m_Rf_poke 12 [some (vR [1]), some (vI (nI a)), some (vI (nI (b + 1))), none] [] h3 (fun v h' => v = none ∧ NwPost h (rOut P 6 W) h') := by
            intro h3 V3 hV3 hc3 hv3
            have := ihm (r + 1) h3 V3 (by omega) hV3 hc3 (by rw [hv3, hv2, ← hb]; rfl)
            rw [show a + 1 + (r + 1) = b + 1 by omega] at this
            exact this
          have no : ¬ PK P V2 a b → Rn X m_Rf_poke 12 [some (vR [1]), some (vI (nI a)), some (vI (nI (b + 1))), none] [] h2 (fun v h' => v = none ∧ NwPost h (rOut P 6 W) h') := by
            intro c
            exact nxt h2 V2 hV2 hc2 (by rw [pokeOne, if_neg c])
          refine callB (r_isOn hR2 hP hV2 hW2 ha6) (fun c1 => z1a ?_) (fun c1 => z0a (no (fun z => c1 z.1)))
          refine callB (r_isOn hR2 hP hV2 hW2 hb6) (fun c2 => z1a ⟨v6 ha6, ?_⟩) (fun c2 => z0a (no (fun z => c2 z.2.1)))
          have sa := hS2 a ha6 (on_of hW2 ha6 c1).2.1
          have sb := hS2 b hb6 (on_of hW2 hb6 c2).2.1
          obtain ⟨sA, hsA, eA⟩ := sz_of hP ha6
          obtain ⟨sB, hsB, eB⟩ := sz_of hP hb6
          rw [ci (k := a) (by omega), ci (k := b) (by omega), sa, sb]
          refine ⟨fun c3 => no (fun z => absurd z.2.2.1 ?_), fun c3 => ⟨v6 hb6, fun c4 => no (fun z => absurd z.2.2.2.1 ?_), fun c4 => ⟨v6 ha6, v6 hb6, ?_⟩⟩⟩
          · rw [eA] at c3 ⊢; exact fun z => absurd c3 ((size_pos hsA).mpr z)
          · rw [eB] at c4 ⊢; exact fun z => absurd c4 ((size_pos hsB).mpr z)
          have na : P 8 a ≠ 0 := fun z => c3 (by rw [z]; decide)
          have nb : P 8 b ≠ 0 := fun z => c4 (by rw [z]; decide)
          have m82 : Rn X m_Rf_poke 82 [some (vR [1]), some (vI (nI a)), some (vI (nI b)), none] [vI (iMax (P 8 a) (P 8 b))] h2 (fun v h' => v = none ∧ NwPost h (rOut P 6 W) h') := by
            have ea : h2.1 [4, 1] (6 * a + 3) = P 7 a := hR2.2.2.2.2.1 a ha6 3 (by omega) (by omega)
            have eb : h2.1 [4, 1] (6 * b + 3) = P 7 b := hR2.2.2.2.2.1 b hb6 3 (by omega) (by omega)
            have pe := places_eq hP hW2 ha6 hb6 c1 c2
            apply g_Rf_poke_82
            rw [i6j a 3 3 rfl, i6j b 3 3 rfl, ci (k := 6 * a + 3) (by omega), ci (k := 6 * b + 3) (by omega), ea, eb]
            refine ⟨vp_in_nI (by omega) (by decide), vp_in_nI (by omega) (by decide), callP (s_off _ _ _) ?_⟩
            rw [heights_eq hP ha6 hb6, nI_add1]
            refine ⟨fun c5 => no (fun z => absurd z.2.2.2.2.1 (by grind)), fun c5 => callP (r_place hV2 hW2 ha6 c1) (callP (r_place hV2 hW2 hb6 c2) (callP (s_off _ _ _) ?_))⟩
            rw [pe.1]
            refine ⟨fun c6 => no (fun z => absurd z.2.2.2.2.2.1 (by grind)), fun c6 => callP (r_lane hV2 hW2 ha6 c1) (callP (r_lane hV2 hW2 hb6 c2) (callP (s_off _ _ _) ?_))⟩
            rw [pe.2.1]
            refine ⟨fun c7 => no (fun z => absurd z.2.2.2.2.2.2 (by grind)), fun c7 => ?_⟩
            rw [inj 12 a 12 rfl, inj 12 b 12 rfl, ci (k := 12 + a) (by omega), ci (k := 12 + b) (by omega)]
            refine ⟨vp_in_nI (by omega) (by decide), vp_in_nI (by omega) (by decide), vp_in_nI (by omega) (by decide), vp_in_nI (by omega) (by decide), ?_⟩
            have pk : PK P V2 a b := ⟨c1, c2, na, nb, by grind, by grind, by grind⟩
            rw [now_12 hV2 ha6]
            have s1 : NowIs (hsI h2 [18, 1] (12 + a) (V2 6 a + 1)) (u2 V2 6 a (V2 6 a + 1)) := hV2.put (now_row ha6 (Or.inr (Or.inl ⟨rfl, rfl⟩)))
            rw [now_12 s1 hb6]
            have s2 : NowIs (hsI (hsI h2 [18, 1] (12 + a) (V2 6 a + 1)) [18, 1] (12 + b) ((u2 V2 6 a (V2 6 a + 1)) 6 b + 1)) (u2 (u2 V2 6 a (V2 6 a + 1)) 6 b ((u2 V2 6 a (V2 6 a + 1)) 6 b + 1)) := s1.put (now_row hb6 (Or.inr (Or.inl ⟨rfl, rfl⟩)))
            rw [now_25 s2]
            refine nxt _ _ (s2.put now_pp) (((hc2.tr ch18).tr ch18).tr ch18) ?_
            rw [pokeOne, if_pos pk]
            rfl
          refine ⟨fun c5 => ⟨v6 hb6, ?_⟩, fun c5 => ⟨v6 ha6, ?_⟩⟩
          · rw [← iMax_r c5] at m82; exact m82
          · rw [← iMax_l c5] at m82; exact m82
      have := inner (5 - a) 0 hh V (by omega) hV hc rfl
      rw [nI_add1]
      exact this
  exact outer 6 0 h W rfl hN CHr.rf rfl
end RT3
