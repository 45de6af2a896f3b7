section RT5
variable {X : XS} {h : Hp} {L N : Nat} {W P : RW}
theorem r_goTick (hR : RefP h P) (hP : wfP L N P) (hS : SzIs h P) (hN : NowIs h W) (hW : wfW L N P W) {t : Nat} (ht : t < 60) (htk : W 0 1 = nI t) : EvV X m_Rf_goTick [vR [1]] h (GTPost P W t h) := by
  apply e_Rf_goTick
  apply g_Rf_goTick_0
  rw [now24 hN, htk]
  -- the third loop
  have lpC : ∀ (VP : RW), wfW L N P VP → VP 0 1 = nI t → (∀ b, VP 5 b = W 5 b) → tickG P W = u2 (rainS P VP) 0 1 (rainS P VP 0 1 + 1) → ∀ (n k : Nat) (hh : Hp), k + n = 6 → NowIs hh (itr (rainOne P (rainOfS P (nI t))) k VP) → CHr [18, 23, 24] h hh →
      (∀ j, j < k → hh.1 [23, 1] (6 * t + j) = (tickG P W) 5 j - W 5 j) → (∀ i, (i < 6 * t ∨ 6 * t + 6 ≤ i) → hh.1 [23, 1] i = h.1 [23, 1] i) →
      (∀ j, j < 6 → ∀ a, a < 12 → hh.1 [24, 1] (12 * j + a) = if j < k ∧ VP 3 j ≠ -1 ∧ VP 3 j / 4 = nI a ∧ h.1 [24, 1] (12 * j + a) = -1 then nI t else h.1 [24, 1] (12 * j + a)) →
      Rn X m_Rf_goTick 71 [some (vR [1]), some (vI (nI t)), some (vI (nI k)), none] [] hh (fun v h' => v = none ∧ GTPost P W t h h') := by
    intro VP hVP hVt hV5 hVe n
    have row3 : ∀ m, (itr (rainOne P (rainOfS P (nI t))) m VP) 3 = VP 3 := fun m => itr_row (fun k V => rainOne_row (by decide)) m VP
    have row4 : ∀ m, (itr (rainOne P (rainOfS P (nI t))) m VP) 4 = VP 4 := fun m => itr_row (fun k V => rainOne_row (by decide)) m VP
    have row0 : ∀ m, (itr (rainOne P (rainOfS P (nI t))) m VP) 0 = VP 0 := fun m => itr_row (fun k V => rainOne_row (by decide)) m VP
    have row5 : ∀ m b, m ≤ b → (itr (rainOne P (rainOfS P (nI t))) m VP) 5 b = VP 5 b := by
      intro m
      induction m with
      | zero => intro b _; rfl
      | succ m ih => intro b hb; rw [itr_s, rainOne_5 (by omega), ih b (by omega)]
    have keep5 : ∀ m b, b < m → (itr (rainOne P (rainOfS P (nI t))) m VP) 5 b = (itr (rainOne P (rainOfS P (nI t))) (b + 1) VP) 5 b := by
      intro m
      induction m with
      | zero => intro b hb; omega
      | succ m ih =>
        intro b hb
        by_cases e : b = m
        · subst e; rfl
        · rw [itr_s, rainOne_5 e, ih b (by omega)]
    have tk3 : (tickG P W) 3 = VP 3 := by
      rw [hVe]; funext b; rw [u2_other (by decide)]
      show (itr (rainOne P (rainOfS P (VP 0 1))) 6 VP) 3 b = _
      rw [hVt, row3]
    have tk5 : ∀ b, (tickG P W) 5 b = (itr (rainOne P (rainOfS P (nI t))) 6 VP) 5 b := by
      intro b
      rw [hVe, u2_other (by decide)]
      show (itr (rainOne P (rainOfS P (VP 0 1))) 6 VP) 5 b = _
      rw [hVt]
    induction n with
    | zero =>
      intro k hh hk hN2 hc h23 h23b h24
      have : k = 6 := by omega
      subst this
      refine g_Rf_goTick_71 _ _ _ _ (cT e6 ⟨rfl, ?_, hc.tr (CHr.set (by simp)), ?_, ?_, ?_⟩)
      · rw [now24 hN2, row0, hVe]
        have e1 : rainS P VP = itr (rainOne P (rainOfS P (nI t))) 6 VP := by rw [rainS, hVt]
        rw [e1, row0]
        exact hN2.put now_tk
      · intro j hj
        rw [hsI_other (by simp)]
        exact h23 j hj
      · intro i hi
        rw [hsI_other (by simp)]
        exact h23b i hi
      · intro j hj a ha
        rw [hsI_other (by simp), h24 j hj a ha, tk3]
        exact ite_iff ⟨fun z => z.2, fun z => ⟨hj, z⟩⟩ rfl rfl
    | succ n ih =>
      intro k hh hk hN2 hc h23 h23b h24
      have hk6 : k < 6 := by omega
      have hR2 := hR.ch hc (by decide) (by decide)
      have hS2 := hS.ch hc (by decide)
      generalize hVk : itr (rainOne P (rainOfS P (nI t))) k VP = Vk at hN2
      have hVk3 : Vk 3 = VP 3 := by rw [← hVk, row3]
      have hVk4 : Vk 4 = VP 4 := by rw [← hVk, row4]
      have hVk0 : Vk 0 1 = nI t := by rw [← hVk, row0, hVt]
      have hVk5 : Vk 5 k = W 5 k := by rw [← hVk, row5 k k (Nat.le_refl _), hV5]
      have hWk : wfW L N P Vk := by
        intro j hj; rw [hVk3, hVk4]; exact hVP j hj
      -- the step with its gain
      have m94 : ∀ g : Int32, (rainOne P (rainOfS P (nI t)) k Vk) = u2 Vk 5 k (W 5 k + g) ∨ (g = 0 ∧ rainOne P (rainOfS P (nI t)) k Vk = Vk) → Rn X m_Rf_goTick 94 [some (vR [1]), some (vI (nI t)), some (vI (nI k)), none] [vI g] hh (fun v h' => v = none ∧ GTPost P W t h h') := by
        intro g hg
        have i23 : (6 : Int32) * nI t + nI k = nI (6 * t + k) := i6j t k _ rfl
        have i18 : (6 : Int32) + nI k = nI (6 + k) := inj 6 k 6 rfl
        have r5 : hh.1 [18, 1] (6 + k) = W 5 k := by rw [now_6 hN2 hk6, hVk5]
        apply g_Rf_goTick_94
        rw [i23, i18, ci (k := 6 * t + k) (by omega), ci (k := 6 + k) (by omega)]
        rw [hsI_other (by simp), r5]
        have hV' : NowIs (hsI (hsI hh [23, 1] (6 * t + k) g) [18, 1] (6 + k) (W 5 k + g)) (itr (rainOne P (rainOfS P (nI t))) (k + 1) VP) := by
          have b : NowIs (hsI hh [23, 1] (6 * t + k) g) Vk := by
            intro i hi; rw [hsI_other (by simp)]; exact hN2 i hi
          rw [itr_s, hVk]
          rcases hg with hg | ⟨rfl, hg⟩
          · rw [hg]; exact b.put (now_row hk6 (Or.inl ⟨rfl, rfl⟩))
          · rw [hg]
            refine b.put (fun j hj => ?_)
            by_cases e : j = 6 + k
            · subst e
              rw [if_pos rfl]
              unfold nowOf
              rw [if_neg (by omega), if_pos (by omega), show 6 + k - 6 = k by omega, hVk5]
              grind
            · rw [if_neg e]
        have val : (itr (rainOne P (rainOfS P (nI t))) (k + 1) VP) 5 k = W 5 k + g := by
          rw [itr_s, hVk]
          rcases hg with hg | ⟨rfl, hg⟩
          · rw [hg]; unfold u2; rw [if_pos ⟨rfl, rfl⟩]
          · rw [hg, hVk5]; grind
        have tk5k : (tickG P W) 5 k = W 5 k + g := by rw [tk5, keep5 6 k hk6, val]
        generalize hh2 : hsI (hsI hh [23, 1] (6 * t + k) g) [18, 1] (6 + k) (W 5 k + g) = h2 at hV'
        have c2 : CHr [18, 23, 24] hh h2 := by rw [← hh2]; exact (CHr.set (by simp)).tr (CHr.set (by simp))
        have hR3 := hR2.ch c2 (by decide) (by decide)
        have a23 : ∀ i, h2.1 [23, 1] i = if i = 6 * t + k then g else hh.1 [23, 1] i := by
          intro i
          rw [← hh2, hsI_other (by simp)]
          show (if [23, 1] = [23, 1] ∧ i = 6 * t + k then g else _) = _
          simp
        have a24 : h2.1 [24, 1] = hh.1 [24, 1] := by rw [← hh2, hsI_other (by simp), hsI_other (by simp)]
        have b23 : ∀ j, j < k + 1 → h2.1 [23, 1] (6 * t + j) = (tickG P W) 5 j - W 5 j := by
          intro j hj
          rw [a23]
          by_cases e : j = k
          · subst e; rw [if_pos rfl, tk5k]; grind
          · rw [if_neg (by omega)]; exact h23 j (by omega)
        have b23b : ∀ i, (i < 6 * t ∨ 6 * t + 6 ≤ i) → h2.1 [23, 1] i = h.1 [23, 1] i := by
          intro i hi
          rw [a23, if_neg (by omega)]; exact h23b i hi
        have hW' : wfW L N P (itr (rainOne P (rainOfS P (nI t))) (k + 1) VP) := by
          intro j hj; rw [row3, row4]; exact hVP j hj
        refine ⟨vp_in_nI (by omega) (by decide), vp_in_nI (by omega) (by decide), vp_in_nI (by omega) (by decide), ?_⟩
        rw [nI_add1]
        refine callB (r_isOn hR3 hP hV' hW' hk6) (fun c1 => z1a ?_) (fun c1 => z0a ?_)
        · have c1' : VP 3 k ≠ -1 := by rw [row3] at c1; exact c1
          obtain ⟨-, -, a, l, ha, hl, hc3⟩ := on_of hVP hk6 c1'
          have hb := hP.2.2.2.2.2.1
          have hb2 := hP.2.2.2.1
          have hd := cell_div (a := a) (l := l) (by omega) (by omega)
          refine callP (r_place hV' hW' hk6 c1) ?_
          rw [row3, hc3, hd.1, show (12 : Int32) * nI k + nI a = nI (12 * k + a) by rw [show (12 : Int32) = nI 12 from rfl, pk_mul, nI_add], ci (k := 12 * k + a) (by omega), a24]
          refine ⟨vp_in_nI (by omega) (by decide), fun c4 => ?_, fun c4 => ?_⟩
          · refine ih (k + 1) h2 (by omega) hV' (hc.tr c2) b23 b23b ?_
            intro j hj b hb3
            rw [a24, h24 j hj b hb3]
            refine ite_iff ⟨fun z => ⟨by omega, z.2⟩, fun z => ⟨?_, z.2⟩⟩ rfl rfl
            by_cases e : j = k
            · subst e
              exfalso
              rw [hc3, hd.1] at z
              have : a = b := (nI_eq (by omega) (by omega)).mp z.2.2.1
              subst this
              apply c4
              rw [h24 j hj a hb3, if_neg (fun y => absurd y.1 (by omega))]
              exact z.2.2.2
            · omega
          · refine callP (r_place hV' hW' hk6 c1) ?_
            rw [row3, hc3, hd.1, show (12 : Int32) * nI k + nI a = nI (12 * k + a) by rw [show (12 : Int32) = nI 12 from rfl, pk_mul, nI_add], ci (k := 12 * k + a) (by omega)]
            refine ⟨vp_in_nI (by omega) (by decide), ?_⟩
            refine ih (k + 1) _ (by omega) (fun i hi => by rw [hsI_other (by simp)]; exact hV' i hi) ((hc.tr c2).tr (CHr.set (by simp))) (fun j hj => by rw [hsI_other (by simp)]; exact b23 j hj) (fun i hi => by rw [hsI_other (by simp)]; exact b23b i hi) ?_
            intro j hj b hb3
            show (if [24, 1] = [24, 1] ∧ 12 * j + b = 12 * k + a then nI t else h2.1 [24, 1] (12 * j + b)) = _
            by_cases e : 12 * j + b = 12 * k + a
            · have ej : j = k := by omega
              have eb : b = a := by omega
              subst ej; subst eb
              rw [if_pos ⟨rfl, rfl⟩]
              have old := h24 j hj b hb3
              rw [if_neg (fun y => absurd y.1 (by omega))] at old
              rw [if_pos ⟨by omega, c1', by rw [hc3, hd.1], by rw [← old]; exact c4⟩]
            · rw [if_neg (fun z => e z.2), a24, h24 j hj b hb3]
              refine ite_iff ⟨fun z => ⟨by omega, z.2⟩, fun z => ⟨?_, z.2⟩⟩ rfl rfl
              by_cases e2 : j = k
              · subst e2
                exfalso
                rw [hc3, hd.1] at z
                have : a = b := (nI_eq (by omega) (by omega)).mp z.2.2.1
                exact e (by omega)
              · omega
        · have c1' : ¬ VP 3 k ≠ -1 := by rw [row3] at c1; exact c1
          refine ih (k + 1) h2 (by omega) hV' (hc.tr c2) b23 b23b ?_
          intro j hj b hb3
          rw [a24, h24 j hj b hb3]
          refine ite_iff ⟨fun z => ⟨by omega, z.2⟩, fun z => ⟨?_, z.2⟩⟩ rfl rfl
          by_cases e : j = k
          · subst e; exact absurd z.2.1 c1'
          · omega
      refine g_Rf_goTick_71 _ _ _ _ (cF (n6 hk6) (callB (r_isOn hR2 hP hN2 hWk hk6) (fun c1 => z1a ?_) (fun c1 => z0a ?_)))
      · refine callP (r_wetNow hR2 hP hS2 hN2 hWk hk6 c1 ht hVk0) (m94 _ ?_)
        rw [hVk0]
        by_cases cd : dryS P (Vk 3 k)
        · exact Or.inr ⟨by rw [if_pos cd], by rw [rainOne, if_neg (fun z => z.2 cd)]⟩
        · exact Or.inl (by rw [if_neg cd, rainOne, if_pos ⟨c1, cd⟩, hVk5])
      · exact m94 0 (Or.inr ⟨rfl, by rw [rainOne, if_neg (fun z => c1 z.1)]⟩)
  -- the second
  have lpB : ∀ (A : RW), A 0 1 = nI t → (∀ b, A 5 b = W 5 b) → wfW L N P A → (∀ VP, VP = pokeS P (itr (stepB P) 6 A) → tickG P W = u2 (rainS P VP) 0 1 (rainS P VP 0 1 + 1)) → ∀ (n k : Nat) (hh : Hp), k + n = 6 → NowIs hh (itr (stepB P) k A) → CHr [18] h hh → Rn X m_Rf_goTick 37 [some (vR [1]), some (vI (nI t)), some (vI (nI k)), none] [] hh (fun v h' => v = none ∧ GTPost P W t h h') := by
    intro A hA hA5 hAw hAe n
    have wfB : ∀ m, m ≤ 6 → wfW L N P (itr (stepB P) m A) := fun m hm => itr_ind (n := 6) (fun k x hk hx => wf_stepB hP hk hx) m hm A hAw
    induction n with
    | zero =>
      intro k hh hk hN2 hc
      have : k = 6 := by omega
      subst this
      have hR2 := hR.ch hc (by decide) (by decide)
      have hS2 := hS.ch hc (by decide)
      refine g_Rf_goTick_37 _ _ _ _ (cT e6 (callN (r_poke hR2 hP hS2 hN2 (wfB 6 (Nat.le_refl _))) (fun h3 q3 => ?_)))
      have h24' : h3.1 [24, 1] = h.1 [24, 1] := by rw [q3.2.at (by decide), hc.at (by decide)]
      have h23' : h3.1 [23, 1] = h.1 [23, 1] := by rw [q3.2.at (by decide), hc.at (by decide)]
      have hw6 := wf_poke (wfB 6 (Nat.le_refl _))
      have h01 : (pokeS P (itr (stepB P) 6 A)) 0 1 = nI t := by rw [poke_01, itr_row (fun k V => stepB_row (by decide)), hA]
      have h5 : ∀ b, (pokeS P (itr (stepB P) 6 A)) 5 b = W 5 b := by
        intro b
        rw [poke_row (by decide) (by decide), itr_row (fun k V => stepB_row (by decide)), hA5]
      have hq := q3.1
      generalize hVP : pokeS P (itr (stepB P) 6 A) = VP at hw6 h01 h5 hq
      exact lpC VP hw6 h01 h5 (hAe VP hVP.symm) 6 0 h3 rfl (by rw [itr_0]; exact hq) ((hc.tr q3.2).le (by simp)) (fun j hj => by omega) (fun i hi => by rw [h23']) (fun j hj a ha => by rw [h24', if_neg (fun z => absurd z.1 (by omega))])
    | succ n ih =>
      intro k hh hk hN2 hc
      have hk6 : k < 6 := by omega
      have hR2 := hR.ch hc (by decide) (by decide)
      refine g_Rf_goTick_37 _ _ _ _ (cF (n6 hk6) ?_)
      rw [nI_add1]
      refine callB (r_has hR2 hP hk6 hh) (fun c1 => z1a (callN (r_comeOne hR2 hP hN2 (wfB k (by omega)) hk6 c1) (fun h9 q9 => ?_))) (fun c1 => z0a ?_)
      · exact ih (k + 1) h9 (by omega) q9.1 (hc.tr q9.2)
      · refine ih (k + 1) hh (by omega) ?_ hc
        rw [itr_s, stepB, if_neg (fun z => c1 z.1)]
        exact hN2
  have lpA : ∀ (n k : Nat) (hh : Hp), k + n = 6 → NowIs hh (itr (stepA P) k W) → CHr [18] h hh → Rn X m_Rf_goTick 10 [some (vR [1]), some (vI (nI t)), some (vI (nI k)), none] [] hh (fun v h' => v = none ∧ GTPost P W t h h') := by
    have wfA : ∀ m, m ≤ 6 → wfW L N P (itr (stepA P) m W) := fun m hm => itr_ind (n := 6) (fun k x hk hx => wf_stepA hP hk hx) m hm W hW
    intro n
    induction n with
    | zero =>
      intro k hh hk hN2 hc
      have : k = 6 := by omega
      subst this
      refine g_Rf_goTick_10 _ _ _ _ (cT e6 ?_)
      refine lpB (itr (stepA P) 6 W) ?_ ?_ (wfA 6 (Nat.le_refl _)) ?_ 6 0 hh rfl (by rw [itr_0]; exact hN2) hc
      · rw [itr_row (fun k V => stepA_row (by decide) (by decide) (by decide)), htk]
      · intro b; rw [itr_row (fun k V => stepA_row (by decide) (by decide) (by decide))]
      · intro VP hVP; rw [hVP]; simp only [tickG]
    | succ n ih =>
      intro k hh hk hN2 hc
      have hk6 : k < 6 := by omega
      have hR2 := hR.ch hc (by decide) (by decide)
      refine g_Rf_goTick_10 _ _ _ _ (cF (n6 hk6) ?_)
      rw [nI_add1]
      refine callB (r_isOn hR2 hP hN2 (wfA k (by omega)) hk6) (fun c1 => z1a (callN (r_goOne hR2 hP hN2 (wfA k (by omega)) hk6 c1) (fun h9 q9 => ?_))) (fun c1 => z0a ?_)
      · refine ih (k + 1) h9 (by omega) ?_ (hc.tr q9.2)
        rw [itr_s, stepA, if_pos c1]
        exact q9.1
      · refine ih (k + 1) hh (by omega) ?_ hc
        rw [itr_s, stepA, if_neg c1]
        exact hN2
  exact lpA 6 0 h rfl (by rw [itr_0]; exact hN) CHr.rf
end RT5
