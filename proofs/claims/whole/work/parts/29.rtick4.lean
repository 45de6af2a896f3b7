section RT4
variable {X : XS} {h : Hp} {L N : Nat} {W P : RW}
theorem r_wetNow (hR : RefP h P) (hP : wfP L N P) (hS : SzIs h P) (hN : NowIs h W) (hW : wfW L N P W) {k : Nat} (hk : k < 6) (hon : W 3 k ≠ -1) {t : Nat} (ht : t < 60) (htk : W 0 1 = nI t) : EvI X m_Rf_wetNow [vR [1], vI (nI k)] h (fun r h' => r = (if dryS P (W 3 k) then 0 else gainS P W (rainOfS P (W 0 1)) k) ∧ h' = h) := by
  obtain ⟨h4, hp, a, l, ha, hl, hc⟩ := on_of hW hk hon
  obtain ⟨p0, p1, l1, l2, n1, n2, -⟩ := id hP
  have hd := cell_div (a := a) (l := l) (by omega) (by omega)
  have hrain : h.1 [5, 1] t = rainOfS P (W 0 1) := by
    rw [hR.2.2.2.2.2 t ht, htk, rainOfS, if_pos ⟨nI_pos' (by omega), nI_lt ht (by decide)⟩, ci (by omega)]
  have hdry : dryS P (W 3 k) ↔ P 2 (4 * a + l) ≠ 0 := by
    rw [hc]
    unfold dryS cellHas
    rw [hd.1, hd.2, p0, p1, ci (by omega)]
    refine ⟨fun z => z.2, fun z => ⟨⟨nI_pos' (by omega), nI_lt (b := 48) (by omega) (by decide), nI_lt hl (by omega), nI_lt ha (by omega)⟩, z⟩⟩
  obtain ⟨sK, hsK, eK⟩ := sz_of hP hk
  apply e_Rf_wetNow
  apply g_Rf_wetNow_0
  rw [now24 hN, htk, ci (k := t) (by omega), ci (k := k) (by omega), hN k (by omega), now_on hk h4, hc, show nI (4 * a + l) + 1 - 1 = nI (4 * a + l) by grind, hR.2.2.1 (4 * a + l) (by omega), hS k hk hp, hrain, ← htk]
  refine ⟨by rw [htk]; exact vp_in_nI ht (by decide), vp_in_nI (by omega) (by decide), ?_⟩
  have cx : (lg_cmp (if P 2 (4 * a + l) ≠ 0 then (1 : Int64) else 0) 1 = 0) ↔ dryS P (nI (4 * a + l)) := by
    rw [lg_cmp_eq, ← hc, hdry]
    constructor
    · intro z; split at z
      · assumption
      · exact absurd z (by decide)
    · intro z; rw [if_pos z]
  refine ⟨fun c => ⟨v6 hk, ?_⟩, fun c => ⟨_, rfl, by rw [if_pos (cx.mp c)], rfl⟩⟩
  rw [if_neg (fun z => c (cx.mpr z))]
  generalize rainOfS P (W 0 1) = amt
  refine ⟨fun c2 => ?_, fun c2 => ⟨v6 hk, ?_, _, rfl, ?_, rfl⟩⟩
  · rw [gainS, if_neg (by grind)]
    generalize hr0 : bareG P W k amt 6 0 amt = r0
    have lp : ∀ (n j : Nat) (s fl : Int32), j + n = 6 → ((fl = 0 ∧ bareG P W k amt n j s = r0) ∨ (fl = 1 ∧ r0 = 0)) → Rn X m_Rf_wetNow 63 [some (vR [1]), some (vI (nI k)), some (vI amt), some (vI s), some (vI fl), some (vI (nI j)), none] [] h (fun v h' => ∃ r, v = some (vI r) ∧ r = r0 ∧ h' = h) := by
      intro n
      induction n with
      | zero =>
        intro j s fl hj hs
        have : j = 6 := by omega
        subst this
        refine g_Rf_wetNow_63 _ _ _ _ _ _ _ (cT e6 ?_)
        rcases hs with ⟨rfl, hs⟩ | ⟨rfl, hs⟩
        · exact z0a ⟨_, rfl, hs, rfl⟩
        · exact z1a ⟨_, rfl, hs.symm, rfl⟩
      | succ n ih =>
        intro j s fl hj hs
        have hj6 : j < 6 := by omega
        refine g_Rf_wetNow_63 _ _ _ _ _ _ _ (cF (n6 hj6) ?_)
        rw [nI_add1, nI_eq (by omega) (by omega)]
        have skip : (j = k ∨ W 3 j = -1 ∨ P 8 j = 0 ∨ placesA W j k ≠ 0) → Rn X m_Rf_wetNow 63 [some (vR [1]), some (vI (nI k)), some (vI amt), some (vI s), some (vI fl), some (vI (nI (j + 1))), none] [] h (fun v h' => ∃ r, v = some (vI r) ∧ r = r0 ∧ h' = h) := by
          intro c
          refine ih (j + 1) s fl (by omega) ?_
          rcases hs with ⟨hf, hs⟩ | hs
          · simp only [bareG] at hs
            rw [if_pos c] at hs
            exact Or.inl ⟨hf, hs⟩
          · exact Or.inr hs
        refine ⟨fun c3 => skip (Or.inl c3), fun c3 => ?_⟩
        refine callB (r_isOn hR hP hN hW hj6) (fun c4 => z1a ⟨v6 hj6, ?_⟩) (fun c4 => z0a (skip (Or.inr (Or.inl (Classical.not_not.mp c4)))))
        obtain ⟨sJ, hsJ, eJ⟩ := sz_of hP hj6
        rw [ci (by omega), hS j hj6 (on_of hW hj6 c4).2.1]
        refine ⟨fun c5 => skip (Or.inr (Or.inr (Or.inl (Classical.byContradiction (fun z => absurd c5 (by rw [eJ] at z ⊢; exact (size_pos hsJ).mpr z)))))), fun c5 => ?_⟩
        have pe := places_eq hP hW hj6 hk c4 hon
        refine callP (r_place hN hW hj6 c4) (callP (r_place hN hW hk hon) ⟨fun c6 => skip (Or.inr (Or.inr (Or.inr (fun z => c6 (pe.2.2.mp z))))), fun c6 => callP (r_lane hN hW hj6 c4) (callP (r_lane hN hW hk hon) (callP (s_off _ _ _) ?_))⟩)
        rw [pe.2.1, hS j hj6 (on_of hW hj6 c4).2.1]
        have n0 : ¬ (j = k ∨ W 3 j = -1 ∨ P 8 j = 0 ∨ placesA W j k ≠ 0) := by
          rintro (z | z | z | z)
          · exact c3 z
          · exact c4 z
          · exact c5 (by rw [z]; decide)
          · exact z (pe.2.2.mpr c6)
        have m147 : ∀ f2 : Int32, ((f2 = 0 ∧ bareG P W k amt n (j + 1) (s + if lanesA W j k = P 8 j then amt / 2 else 0) = r0) ∨ (f2 = 1 ∧ r0 = 0)) → Rn X m_Rf_wetNow 147 [some (vR [1]), some (vI (nI k)), some (vI amt), some (vI s), some (vI fl), some (vI (nI j)), some (vI (lanesA W j k))] [vI f2] h (fun v h' => ∃ r, v = some (vI r) ∧ r = r0 ∧ h' = h) := by
          intro f2 hf2
          apply g_Rf_wetNow_147
          rw [ci (by omega), hS j hj6 (on_of hW hj6 c4).2.1, nI_add1]
          refine ⟨v6 hj6, fun c7 => ?_, fun c7 => ?_⟩
          · rw [if_neg c7] at hf2; exact ih (j + 1) _ f2 (by omega) hf2
          · rw [if_pos c7] at hf2; exact ih (j + 1) _ f2 (by omega) hf2
        rcases hs with ⟨rfl, hs⟩ | ⟨rfl, hs⟩
        · simp only [bareG] at hs
          rw [if_neg n0] at hs
          refine z0b ⟨v6 hj6, fun c7 => m147 0 (Or.inl ⟨rfl, ?_⟩), fun c7 => g_Rf_wetNow_142 _ _ _ _ _ _ _ _ (m147 1 (Or.inr ⟨rfl, ?_⟩))⟩
          · rw [if_neg (show ¬ lanesA W j k < P 8 j by grind)] at hs; exact hs
          · rw [if_pos (show lanesA W j k < P 8 j by grind)] at hs; exact hs.symm
        · exact z1b (g_Rf_wetNow_142 _ _ _ _ _ _ _ _ (m147 1 (Or.inr ⟨rfl, hs⟩)))
    exact lp 6 0 amt 0 rfl (Or.inl ⟨rfl, hr0⟩)
  · rw [eK, nI_add1]; exact nI_ne0 (by omega) (by omega)
  · rw [gainS, if_pos (by grind)]
/-! the whole tick -/
def GTPost (P W : RW) (t : Nat) (h : Hp) : Hp → Prop := fun h' => NowIs h' (tickG P W) ∧ CHr [18, 23, 24] h h' ∧ (∀ k, k < 6 → h'.1 [23, 1] (6 * t + k) = (tickG P W) 5 k - W 5 k) ∧ (∀ i, (i < 6 * t ∨ 6 * t + 6 ≤ i) → h'.1 [23, 1] i = h.1 [23, 1] i) ∧ ∀ k, k < 6 → ∀ a, a < 12 → h'.1 [24, 1] (12 * k + a) = if (tickG P W) 3 k ≠ -1 ∧ (tickG P W) 3 k / 4 = nI a ∧ h.1 [24, 1] (12 * k + a) = -1 then nI t else h.1 [24, 1] (12 * k + a)
theorem u2_other {r i a b : Nat} {v : Int32} (h : a ≠ r) : (u2 W r i v) a b = W a b := by unfold u2; rw [if_neg (fun z => h z.1)]
theorem itr_row {f : Nat → RW → RW} {r : Nat} (hf : ∀ k V, (f k V) r = V r) : ∀ (n : Nat) (V : RW), (itr f n V) r = V r
  | 0, _ => rfl
  | n + 1, V => by rw [itr_s, hf, itr_row hf n V]
theorem move_row {r k : Nat} (h3 : r ≠ 3) (h4 : r ≠ 4) (h7 : r ≠ 7) : (moveS P k W) r = W r := by
  funext b
  unfold moveS
  split
  · rw [u2_other h3, u2_other h4]
  · split
    · rw [u2_other h3]
    · split
      · rw [u2_other h3]
      · rw [u2_other h7]
theorem stepA_row {r k : Nat} (h3 : r ≠ 3) (h4 : r ≠ 4) (h7 : r ≠ 7) : (stepA P k W) r = W r := by
  unfold stepA; split
  · exact move_row h3 h4 h7
  · rfl
theorem stepB_row {r k : Nat} (h3 : r ≠ 3) : (stepB P k W) r = W r := by
  unfold stepB comeS; split
  · split
    · funext b; rw [u2_other h3]
    · rfl
  · rfl
theorem pokeOne_row {r j k : Nat} (h6 : r ≠ 6) (h0 : r ≠ 0) : (pokeOne P j k W) r = W r := by
  unfold pokeOne; split
  · funext b; rw [u2_other h0, u2_other h6, u2_other h6]
  · rfl
theorem pokeOne_01 {j k : Nat} : (pokeOne P j k W) 0 1 = W 0 1 := by
  unfold pokeOne; split
  · unfold u2; simp
  · rfl
theorem poke_row {r : Nat} (h6 : r ≠ 6) (h0 : r ≠ 0) : (pokeS P W) r = W r := itr_row (fun k V => itr_row (fun j V2 => pokeOne_row h6 h0) k V) 6 W
theorem poke_01 : (pokeS P W) 0 1 = W 0 1 := by
  have h1 : ∀ (n k : Nat) (V : RW), (itr (fun j => pokeOne P j k) n V) 0 1 = V 0 1 := by
    intro n k
    induction n with
    | zero => intro V; rfl
    | succ n ih => intro V; rw [itr_s, pokeOne_01, ih]
  have h2 : ∀ (n : Nat) (V : RW), (itr (pokeRow P) n V) 0 1 = V 0 1 := by
    intro n
    induction n with
    | zero => intro V; rfl
    | succ n ih => intro V; rw [itr_s]; show (itr (fun j => pokeOne P j n) n _) 0 1 = _; rw [h1, ih]
  exact h2 6 W
theorem rainOne_row {amt : Int32} {r k : Nat} (h5 : r ≠ 5) : (rainOne P amt k W) r = W r := by
  unfold rainOne; split
  · funext b; rw [u2_other h5]
  · rfl
theorem rainOne_5 {amt : Int32} {b k : Nat} (h : b ≠ k) : (rainOne P amt k W) 5 b = W 5 b := by
  unfold rainOne; split
  · unfold u2; rw [if_neg (fun z => h z.2)]
  · rfl
theorem now_6 (hN : NowIs h W) {k : Nat} (hk : k < 6) : h.1 [18, 1] (6 + k) = W 5 k := by
  rw [hN (6 + k) (by omega)]; unfold nowOf
  rw [if_neg (by omega), if_pos (by omega), show 6 + k - 6 = k by omega]
theorem bareG_3 {V : RW} (h3 : V 3 = W 3) (k : Nat) (amt : Int32) : ∀ (n j : Nat) (s : Int32), bareG P V k amt n j s = bareG P W k amt n j s
  | 0, _, _ => rfl
  | n + 1, j, s => by
    have e1 : placesA V j k = placesA W j k := by unfold placesA; rw [h3]
    have e2 : lanesA V j k = lanesA W j k := by unfold lanesA; rw [h3]
    simp only [bareG, h3, e1, e2, bareG_3 h3 k amt n]
end RT4
