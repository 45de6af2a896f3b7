/-! the operations on the walk -/
def goN (P : RW) (n : Nat) (W : RW) : RW := itr (fun _ => tickS P) n W
theorem goN_s {P : RW} {n : Nat} {W : RW} : goN P (n + 1) W = tickS P (goN P n W) := rfl
section TK
variable {P W : RW} {L N : Nat}
theorem tick_01 : (tickG P W) 0 1 = W 0 1 + 1 := by
  have e : (rainS P (pokeS P (itr (stepB P) 6 (itr (stepA P) 6 W)))) 0 1 = W 0 1 := by
    have h1 := congrFun (itr_row (f := rainOne P (rainOfS P ((pokeS P (itr (stepB P) 6 (itr (stepA P) 6 W))) 0 1))) (r := 0) (fun k V => rainOne_row (by decide)) 6 (pokeS P (itr (stepB P) 6 (itr (stepA P) 6 W)))) 1
    show (itr (rainOne P (rainOfS P ((pokeS P (itr (stepB P) 6 (itr (stepA P) 6 W))) 0 1))) 6 (pokeS P (itr (stepB P) 6 (itr (stepA P) 6 W)))) 0 1 = W 0 1
    rw [h1, poke_01, congrFun (itr_row (r := 0) (fun k V => stepB_row (by decide)) 6 _) 1, congrFun (itr_row (r := 0) (fun k V => stepA_row (by decide) (by decide) (by decide)) 6 _) 1]
  unfold tickG
  generalize rainS P (pokeS P (itr (stepB P) 6 (itr (stepA P) 6 W))) = V at e
  show u2 V 0 1 (V 0 1 + 1) 0 1 = _
  rw [← e]
  unfold u2
  rw [if_pos ⟨rfl, rfl⟩]
theorem tick_00 : (tickG P W) 0 0 = W 0 0 := by
  have pk1 : ∀ (n k : Nat) (V : RW), (itr (fun j => pokeOne P j k) n V) 0 0 = V 0 0 := by
    intro n k
    induction n with
    | zero => intro V; rfl
    | succ n ih =>
      intro V; rw [itr_s]
      have : ∀ V2 : RW, (pokeOne P n k V2) 0 0 = V2 0 0 := by
        intro V2; unfold pokeOne; split
        · unfold u2; simp
        · rfl
      rw [this, ih]
  have pk2 : ∀ (n : Nat) (V : RW), (itr (pokeRow P) n V) 0 0 = V 0 0 := by
    intro n
    induction n with
    | zero => intro V; rfl
    | succ n ih => intro V; rw [itr_s]; show (itr (fun j => pokeOne P j n) n _) 0 0 = _; rw [pk1, ih]
  have e : (rainS P (pokeS P (itr (stepB P) 6 (itr (stepA P) 6 W)))) 0 0 = W 0 0 := by
    have h1 := congrFun (itr_row (f := rainOne P (rainOfS P ((pokeS P (itr (stepB P) 6 (itr (stepA P) 6 W))) 0 1))) (r := 0) (fun k V => rainOne_row (by decide)) 6 (pokeS P (itr (stepB P) 6 (itr (stepA P) 6 W)))) 0
    show (itr (rainOne P (rainOfS P ((pokeS P (itr (stepB P) 6 (itr (stepA P) 6 W))) 0 1))) 6 (pokeS P (itr (stepB P) 6 (itr (stepA P) 6 W)))) 0 0 = W 0 0
    rw [h1, show pokeS P (itr (stepB P) 6 (itr (stepA P) 6 W)) 0 0 = (itr (stepB P) 6 (itr (stepA P) 6 W)) 0 0 from pk2 6 _, congrFun (itr_row (r := 0) (fun k V => stepB_row (by decide)) 6 _) 0, congrFun (itr_row (r := 0) (fun k V => stepA_row (by decide) (by decide) (by decide)) 6 _) 0]
  unfold tickG
  generalize rainS P (pokeS P (itr (stepB P) 6 (itr (stepA P) 6 W))) = V at e
  show u2 V 0 1 (V 0 1 + 1) 0 0 = _
  rw [← e]
  unfold u2
  rw [if_neg (by simp)]
theorem tickS_00 : (tickS P W) 0 0 = W 0 0 := by
  unfold tickS; split
  · exact tick_00
  · rfl
theorem goN_00 : ∀ n, (goN P n W) 0 0 = W 0 0
  | 0 => rfl
  | n + 1 => by rw [goN_s, tickS_00, goN_00 n]
theorem lt60 {t : Nat} (ht : t ≤ 60) : (nI t < 60) ↔ t < 60 := by
  rw [show (60 : Int32) = nI 60 from rfl, nI_ltI (by omega) (by decide)]
theorem tk_tickS (h : tkOK W) : tkOK (tickS P W) := by
  obtain ⟨t, ht, e⟩ := h
  unfold tickS
  rw [e]
  split
  · rename_i c
    rw [lt60 ht] at c
    exact ⟨t + 1, by omega, by rw [tick_01, e, nI_add1]⟩
  · exact ⟨t, ht, e⟩
theorem wf_tickS (hP : wfP L N P) (h : wfW L N P W) : wfW L N P (tickS P W) := by
  unfold tickS
  split
  · exact wf_tickG hP h
  · exact h
theorem wf_goN (hP : wfP L N P) (h : wfW L N P W) (ht : tkOK W) : ∀ n, wfW L N P (goN P n W) ∧ tkOK (goN P n W)
  | 0 => ⟨h, ht⟩
  | n + 1 => by
    have := wf_goN hP h ht n
    rw [goN_s]
    exact ⟨wf_tickS hP this.1, tk_tickS this.2⟩
theorem tickS_stop (h : ¬ W 0 1 < 60) : tickS P W = W := by unfold tickS; rw [if_neg h]
theorem goN_stop {i : Nat} (h : ¬ (goN P i W) 0 1 < 60) : ∀ n, goN P (i + n) W = goN P i W
  | 0 => rfl
  | n + 1 => by
    rw [show i + (n + 1) = (i + n) + 1 from rfl, goN_s, goN_stop h n, tickS_stop h]
theorem goN_tk {t : Nat} (h : W 0 1 = nI t) : ∀ n, t + n ≤ 60 → (goN P n W) 0 1 = nI (t + n)
  | 0, _ => h
  | n + 1, hn => by
    have e := goN_tk h n (by omega)
    rw [goN_s]
    unfold tickS
    rw [e, if_pos ((lt60 (by omega)).mpr (by omega)), tick_01, e, nI_add1]; rfl
end TK
section OPW
variable {X : XS} {h : Hp} {L N : Nat} {P W : RW} {K : Nat → RW} {T O : RW}
theorem CST.wk {W' : RW} {h' : Hp} (s : CST P W K T O h) (hw : WalkIs h' [3, 0] W') (c : CH [3, 0] h h') : CST P W' K T O h' := by
  obtain ⟨c1, c2, c3, c4, c5, c6, c7⟩ := s
  refine ⟨c1.ch c (by simp [Apart]), hw, fun k hk => (c3 k hk).ch c (by simp [Apart]), ?_, ?_, ?_, ?_⟩
  · rw [c.2 _ (by simp) (by simp)]; exact c4
  · intro i hi; rw [c.2 _ (by simp) (by simp)]; exact c5 i hi
  · rw [c.2 _ (by simp) (by simp)]; exact c6
  · intro j hj i hi; rw [c.2 _ (by simp) (by simp)]; exact c7 j hj i hi
/-- scratch objects of the class -/
theorem CST.sc {h' : Hp} (s : CST P W K T O h) (w : List Nat) (c : CH w h h') (a : w = [4, 0] ∨ w = [1, 0] ∨ w = [0, 6, 0] ∨ w = [1, 6, 0] ∨ w = [6, 0] ∨ w = [8, 0]) : CST P W K T O h' := by
  obtain ⟨c1, c2, c3, c4, c5, c6, c7⟩ := s
  rcases a with rfl | rfl | rfl | rfl | rfl | rfl <;>
  (refine ⟨c1.ch c (by simp [Apart]), c2.ch c (by simp [Apart]), fun k hk => (c3 k hk).ch c (by simp [Apart]), ?_, ?_, ?_, ?_⟩
   · rw [c.2 _ (by simp) (by simp)]; exact c4
   · intro i hi; rw [c.2 _ (by simp) (by simp)]; exact c5 i hi
   · rw [c.2 _ (by simp) (by simp)]; exact c6
   · intro j hj i hi; rw [c.2 _ (by simp) (by simp)]; exact c7 j hj i hi)
theorem c_go (hC : CST P W K T O h) {n : Nat} (hn : n < 1000) : ∀ (m i : Nat) (hh : Hp), i + m = n → CST P (goN P i W) K T O hh → OnC h hh → Rn X m_Us_go 15 [some (vR [0]), some (vI (nI n)), some (vI (nI i))] [] hh (fun v h' => ∃ r, v = some (vI r) ∧ r = (goN P n W) 0 1 ∧ CST P (goN P n W) K T O h' ∧ OnC h h') := by
  intro m
  induction m with
  | zero =>
    intro i hh hi hc ho
    have : i = n := by omega
    subst this
    exact g_Us_go_15 _ _ _ _ (cT (nI_leI (by omega) (by omega) |>.mpr (Nat.le_refl _)) ⟨_, rfl, hc.2.1.1 1 (by omega), hc, ho⟩)
  | succ m ih =>
    intro i hh hi hc ho
    refine g_Us_go_15 _ _ _ _ (cF (fun z => absurd ((nI_leI (by omega) (by omega)).mp z) (by omega)) (callN (c_tick iwk3 ipl0 (by simp [Apart]) hc.2.1 hc.1) (fun h3 q3 => ?_)))
    rw [nI_add1]
    exact ih (i + 1) h3 (by omega) (hc.wk q3.1 q3.2) (ho.tr (OnC.ch q3.2 rfl))
theorem r_go (hP : wfP L N P) (hW : wfW L N P W) (ht : tkOK W) {n : Nat} (hn : n < 1000) : ∀ (m i : Nat) (hh : Hp), i + m = n → DST P (goN P i W) K T O hh → SzIs hh P → OnR h hh → Rn X m_Rf_go 19 [some (vR [1]), some (vI (nI n)), some (vI (nI i))] [] hh (fun v h' => ∃ r, v = some (vI r) ∧ r = (goN P n W) 0 1 ∧ DST P (goN P n W) K T O h' ∧ OnR h h') := by
  intro m
  induction m with
  | zero =>
    intro i hh hi hd hs ho
    have : i = n := by omega
    subst this
    exact g_Rf_go_19 _ _ _ _ (cT (nI_leI (by omega) (by omega) |>.mpr (Nat.le_refl _)) ⟨_, rfl, now24 hd.2.2.1, hd, ho⟩)
  | succ m ih =>
    intro i hh hi hd hs ho
    refine g_Rf_go_19 _ _ _ _ (cF (fun z => absurd ((nI_leI (by omega) (by omega)).mp z) (by omega)) ?_)
    have hwf := wf_goN hP hW ht i
    have hst := goN_stop (P := P) (W := W) (i := i)
    have hgs := goN_s (P := P) (W := W) (n := i)
    rw [now24 hd.2.2.1]
    obtain ⟨t, ht6, e⟩ := hwf.2
    rw [e, nI_add1]
    refine ⟨fun c => ⟨_, rfl, ?_, ?_, ho⟩, fun c => callN (r_goTick hd.1 hP hs hd.2.2.1 hwf.1 (t := t) ?_ e) (fun h3 q3 => ?_)⟩
    · rw [← e, show n = i + (m + 1) from hi.symm, hst (by rw [e]; grind)]
    · rw [show n = i + (m + 1) from hi.symm, hst (by rw [e]; grind)]; exact hd
    · have : nI t < 60 := by grind
      exact (lt60 ht6).mp this
    · refine ih (i + 1) h3 (by omega) ?_ (hs.ch q3.2.1 (by decide)) (ho.tr (OnR.ch q3.2.1))
      refine hd.walk q3.2.1 (by simp) ?_
      rw [hgs, tickS, if_pos (by rw [e]; grind)]
      exact q3.1
theorem Wsz {h : Hp} (z : ∀ k, k < 6 → h.1 [22, 1] k = P 8 k) : SzIs h P := fun k hk _ => z k hk
theorem op_go (hI : Inv h) (a : Int32) : PairI X m_Us_go m_Rf_go [vI a] h := by
  obtain ⟨L, N, P, W, K, T, O, hC, hD, hF⟩ := id hI
  by_cases c : 1 ≤ a ∧ a ≤ 60
  · obtain ⟨n, hn1, hn, rfl⟩ := nI_rng1 (x := a) (n := 60) c.1 c.2 (by decide)
    refine ⟨fun r h' => r = (goN P n W) 0 1 ∧ CST P (goN P n W) K T O h' ∧ OnC h h', ?_, fun r h1 q => ?_⟩
    · apply e_Us_go
      exact g_Us_go_0 _ _ _ (callB (s_isNotIn (nI n) 1 60 h) (fun z => absurd c z) (fun _ => z0a (c_go hC (by omega) n 0 h (by omega) hC OnC.rf)))
    · obtain ⟨q1, q2, q3⟩ := q
      have hD1 := hD.on q3
      refine ⟨fun r h' => r = (goN P n W) 0 1 ∧ DST P (goN P n W) K T O h' ∧ OnR h1 h', ?_, fun r' h2 q' => ⟨by rw [q1, q'.1], L, N, P, _, K, T, O, q2.on q'.2.2, q'.2.1, hF.1, (wf_goN hF.1 hF.2.1 hF.2.2.1 n).1, (wf_goN hF.1 hF.2.1 hF.2.2.1 n).2, hF.2.2.2⟩⟩
      apply e_Rf_go
      refine g_Rf_go_0 _ _ _ (callB (s_in (nI n) 1 60 h1) (fun _ => z1b (callN (r_sizes hD1.2.1) (fun h3 q3' => ?_))) (fun z => absurd c z))
      exact r_go (h := h1) hF.1 hF.2.1 hF.2.2.1 (by omega) n 0 h3 (by omega) (hD1.ch q3'.1 (by simp)) (Wsz q3'.2) (OnR.ch q3'.1)
  · refine pairSame (f := -3) hI ?_ ?_
    · apply e_Us_go
      exact g_Us_go_0 _ _ _ (callB (s_isNotIn a 1 60 h) (fun _ => z1a ⟨_, rfl, rfl, rfl⟩) (fun z => absurd c z))
    · apply e_Rf_go
      exact g_Rf_go_0 _ _ _ (callB (s_in a 1 60 h) (fun z => absurd z c) (fun _ => z0b ⟨_, rfl, rfl, rfl⟩))
theorem op_keep (hI : Inv h) (a : Int32) : PairI X m_Us_keep m_Rf_keep [vI a] h := by
  obtain ⟨L, N, P, W, K, T, O, hC, hD, hF⟩ := id hI
  by_cases c : 0 ≤ a ∧ a ≤ 1
  · obtain ⟨n, hn, rfl⟩ := nI_rng (x := a) (n := 1) c.1 c.2 (by decide)
    have hn2 : n < 2 := by omega
    refine ⟨fun r h' => r = W 0 1 ∧ CST P W (fun k => if k = n then u2 W 0 0 1 else K k) T O h' ∧ OnC h h', ?_, fun r h1 q => ?_⟩
    · apply e_Us_keep
      refine g_Us_keep_0 _ _ _ ⟨fun o h' => o = some [n, 5, 0] ∧ h' = h, ?_, fun o h3 q => ?_⟩
      · apply e_Us_keptAt
        refine g_Us_keptAt_0 _ _ _ (cF (by grind) (cF (by grind) ⟨vp_in_nI hn2 (by decide), _, rfl, ?_, rfl⟩))
        rw [ci (by omega)]
      · obtain ⟨rfl, rfl⟩ := q
        refine ⟨fun z => by simp at z, fun p5 z => ?_⟩
        simp only [Option.some.injEq] at z
        subst z
        refine ⟨iwkk hn2, callN (c_copyWk (iwkk hn2) iwk3 (by simp [Apart]) hC.2.1 (fun k hk => (hF.2.1 k hk).1)) (fun h8 q8 => ⟨_, rfl, ?_, ?_, ?_⟩)⟩
        · have c3 := hC.2.1.ch q8.2 (by simp [Apart])
          simp only [rd]
          rw [if_neg (by simp)]
          exact c3.1 1 (by omega)
        · have cc : CH [n, 5, 0] h3 (hsI h8 [n, 5, 0] 0 1) := q8.2.tr CH.set0
          obtain ⟨c1, c2, c3, c4, c5, c6, c7⟩ := hC
          refine ⟨c1.ch cc (by simp [Apart]), c2.ch cc (by simp [Apart]), fun k hk => ?_, ?_, ?_, ?_, ?_⟩
          · show WalkIs _ _ (if k = n then u2 W 0 0 1 else K k)
            by_cases e : k = n
            · subst e
              rw [if_pos rfl]
              have := q8.1.set0 (i := 0) (v := 1)
              have e2 : u2 (u2 W 0 0 (h3.1 [k, 5, 0] 0)) 0 0 1 = u2 W 0 0 1 := by
                funext a b; unfold u2; grind
              rw [e2] at this
              exact this
            · rw [if_neg e]
              exact (c3 k hk).ch cc (by simp [Apart]; omega)
          · rw [cc.2 _ (by simp) (by simp)]; exact c4
          · intro i hi; rw [cc.2 _ (by simp) (by simp)]; exact c5 i hi
          · rw [cc.2 _ (by simp) (by simp)]; exact c6
          · intro j hj i hi; rw [cc.2 _ (by simp) (by simp)]; exact c7 j hj i hi
        · exact (OnC.ch q8.2 rfl).tr (OnC.set rfl)
    · obtain ⟨q1, q2, q3⟩ := q
      have hD1 := hD.on q3
      refine ⟨fun r h' => r = W 0 1 ∧ DST P W (fun k => if k = n then u2 W 0 0 1 else K k) T O h' ∧ OnR h1 h', ?_, fun r' h2 q' => ⟨by rw [q1, q'.1], L, N, P, W, _, T, O, q2.on q'.2.2, q'.2.1, hF.1, hF.2.1, hF.2.2.1, ?_, hF.2.2.2.2⟩⟩
      · apply e_Rf_keep
        refine g_Rf_keep_0 _ _ _ (callB (s_in (nI n) 0 1 h1) (fun _ => z1b ?_) (fun z => absurd c z))
        rw [show (26 : Int32) = nI 26 from rfl, pk_mul, show (0 : Int32) = nI 0 from rfl]
        refine callN (r_copy (a := 18) (b := 20) (x := 0) (y := 26 * n) (na := 26) (nb := 52) (by decide) (by decide) (by decide) (by omega) (by omega) (by omega) (by omega)) (fun h8 q8 => ⟨vp_in_nI hn2 (by decide), _, rfl, ?_, ?_, ?_⟩)
        · simp only [rd]
          rw [if_neg (by simp), q8.1.at (by decide), now24 hD1.2.2.1]
        · rw [ci (by omega)]
          obtain ⟨d1, d2, d3, d4, d5, d6, d7, d8⟩ := hD1
          have cc : CHr [20, 21] h1 (hsI h8 [21, 1] n 1) := (q8.1.le (by simp)).tr (CHr.set (by simp))
          refine ⟨d1.ch cc (by decide) (by decide), ?_, ?_, fun k hk => ?_, ?_, ?_, ?_, ?_⟩
          · unfold Wk4; rw [cc.at (by decide)]; exact d2
          · unfold NowIs; rw [cc.at (by decide)]; exact d3
          · have e21 : h8.1 [21, 1] = h1.1 [21, 1] := q8.1.at (by decide)
            simp only [rd]
            by_cases e : k = n
            · subst e
              rw [if_pos ⟨trivial, rfl⟩, if_pos rfl]
              refine ⟨by simp [u2], fun _ i hi => ?_⟩
              rw [if_neg (by simp), q8.2.1 i hi, show 0 + i = i by omega, d3 i hi]
              unfold nowOf u2
              grind
            · rw [if_neg (fun z => e z.2), if_neg e, e21]
              refine ⟨(d4 k hk).1, fun z i hi => ?_⟩
              rw [if_neg (by simp), q8.2.2 _ (by omega)]
              exact (d4 k hk).2 z i hi
          · rw [cc.at1]; exact d5
          · rw [cc.at (by decide)]; exact d6
          · rw [cc.at1]; exact d7
          · rw [cc.at (by decide)]; exact d8
        · exact (OnR.ch q8.1).tr (OnR.set rfl)
      · intro k hk
        show (if k = n then u2 W 0 0 1 else K k) 0 0 ≠ 0 → wfW L N P (if k = n then u2 W 0 0 1 else K k) ∧ tkOK (if k = n then u2 W 0 0 1 else K k)
        by_cases e : k = n
        · rw [if_pos e]
          intro _
          refine ⟨wf_u2 hF.2.1 (by decide) (by decide), ?_⟩
          obtain ⟨t, ht, e⟩ := hF.2.2.1
          exact ⟨t, ht, by rw [← e]; simp [u2]⟩
        · rw [if_neg e]; exact hF.2.2.2.1 k hk
  · refine pairSame (f := -2) hI ?_ ?_
    · apply e_Us_keep
      refine g_Us_keep_0 _ _ _ ⟨fun o h' => o = none ∧ h' = h, ?_, fun o h3 q => ?_⟩
      · apply e_Us_keptAt
        refine g_Us_keptAt_0 _ _ _ ⟨fun _ => ⟨_, rfl, rfl, rfl⟩, fun c1 => ⟨fun _ => ⟨_, rfl, rfl, rfl⟩, fun c2 => absurd c (by grind)⟩⟩
      · obtain ⟨rfl, rfl⟩ := q
        exact ⟨fun _ => ⟨_, rfl, rfl, rfl⟩, fun p5 z => by simp at z⟩
    · apply e_Rf_keep
      exact g_Rf_keep_0 _ _ _ (callB (s_in a 0 1 h) (fun z => absurd z c) (fun _ => z0b ⟨_, rfl, rfl, rfl⟩))
theorem op_back (hI : Inv h) (a : Int32) : PairI X m_Us_back m_Rf_back [vI a] h := by
  obtain ⟨L, N, P, W, K, T, O, hC, hD, hF⟩ := id hI
  by_cases c : 0 ≤ a ∧ a ≤ 1
  · obtain ⟨n, hn, rfl⟩ := nI_rng (x := a) (n := 1) c.1 c.2 (by decide)
    have hn2 : n < 2 := by omega
    have ka : ∀ hh : Hp, EvR X m_Us_keptAt [vR [0], vI (nI n)] hh (fun o h' => o = some [n, 5, 0] ∧ h' = hh) := by
      intro hh
      apply e_Us_keptAt
      refine g_Us_keptAt_0 _ _ _ (cF (by grind) (cF (by grind) ⟨vp_in_nI hn2 (by decide), _, rfl, ?_, rfl⟩))
      rw [ci (by omega)]
    have h00 : h.1 [n, 5, 0] 0 = K n 0 0 := (hC.2.2.1 n hn2).1 0 (by omega)
    have h21 := (hD.2.2.2.1 n hn2).1
    by_cases kz : K n 0 0 = 0
    · refine pairSame (f := -4) hI ?_ ?_
      · apply e_Us_back
        refine g_Us_back_0 _ _ _ ⟨_, ka h, fun o h3 q => ?_⟩
        obtain ⟨rfl, rfl⟩ := q
        refine ⟨fun z => by simp at z, fun p5 z => ?_⟩
        simp only [Option.some.injEq] at z
        subst z
        rw [h00]
        exact ⟨iwkk hn2, fun z => absurd kz z, fun _ => ⟨_, rfl, rfl, rfl⟩⟩
      · apply e_Rf_back
        refine g_Rf_back_0 _ _ _ (callB (s_in (nI n) 0 1 h) (fun _ => z1b ⟨vp_in_nI hn2 (by decide), ?_⟩) (fun z => absurd c z))
        rw [ci (by omega), h21]
        exact ⟨fun z => absurd kz z, fun _ => ⟨_, rfl, rfl, rfl⟩⟩
    have kw := hF.2.2.2.1 n hn2 kz
    refine ⟨fun r h' => r = K n 0 1 ∧ CST P (u2 (K n) 0 0 (h.1 [3, 0] 0)) K T O h' ∧ OnC h h', ?_, fun r h1 q => ?_⟩
    · apply e_Us_back
      refine g_Us_back_0 _ _ _ ⟨_, ka h, fun o h3 q => ?_⟩
      obtain ⟨rfl, rfl⟩ := q
      refine ⟨fun z => by simp at z, fun p5 z => ?_⟩
      simp only [Option.some.injEq] at z
      subst z
      rw [h00]
      refine ⟨iwkk hn2, fun _ => callN (c_copyWk iwk3 (iwkk hn2) (by simp [Apart]) (hC.2.2.1 n hn2) (fun k hk => (kw.1 k hk).1)) (fun h8 q8 => ⟨_, rfl, ?_, hC.wk q8.1 q8.2, OnC.ch q8.2 rfl⟩), fun z => absurd z kz⟩
      rw [q8.1.1 1 (by omega)]; rfl
    · obtain ⟨q1, q2, q3⟩ := q
      have hD1 := hD.on q3
      have d4 := hD1.2.2.2.1 n hn2
      refine ⟨fun r h' => r = K n 0 1 ∧ DST P (u2 (K n) 0 0 (h.1 [3, 0] 0)) K T O h' ∧ OnR h1 h', ?_, fun r' h2 q' => ⟨by rw [q1, q'.1], L, N, P, _, K, T, O, q2.on q'.2.2, q'.2.1, hF.1, wf_u2 kw.1 (by decide) (by decide), ?_, hF.2.2.2⟩⟩
      · apply e_Rf_back
        refine g_Rf_back_0 _ _ _ (callB (s_in (nI n) 0 1 h1) (fun _ => z1b ⟨vp_in_nI hn2 (by decide), ?_⟩) (fun z => absurd c z))
        rw [ci (by omega), d4.1, show (26 : Int32) = nI 26 from rfl, pk_mul, show (0 : Int32) = nI 0 from rfl]
        refine ⟨fun _ => callN (r_copy (a := 20) (b := 18) (x := 26 * n) (y := 0) (na := 52) (nb := 26) (by decide) (by decide) (by decide) (by omega) (by omega) (by omega) (by omega)) (fun h8 q8 => ?_), fun z => absurd z kz⟩
        have hN : NowIs h8 (u2 (K n) 0 0 (h.1 [3, 0] 0)) := by
          intro i hi
          have := q8.2.1 i hi
          rw [show 0 + i = i by omega, d4.2 kz i hi] at this
          rw [this]
          unfold nowOf u2
          grind
        exact ⟨_, rfl, (now24 hN).trans rfl, hD1.walk q8.1 (by simp) hN, OnR.ch q8.1⟩
      · obtain ⟨t, ht, e⟩ := kw.2
        exact ⟨t, ht, by rw [← e]; simp [u2]⟩
  · refine pairSame (f := -2) hI ?_ ?_
    · apply e_Us_back
      refine g_Us_back_0 _ _ _ ⟨fun o h' => o = none ∧ h' = h, ?_, fun o h3 q => ?_⟩
      · apply e_Us_keptAt
        refine g_Us_keptAt_0 _ _ _ ⟨fun _ => ⟨_, rfl, rfl, rfl⟩, fun c1 => ⟨fun _ => ⟨_, rfl, rfl, rfl⟩, fun c2 => absurd c (by grind)⟩⟩
      · obtain ⟨rfl, rfl⟩ := q
        exact ⟨fun _ => ⟨_, rfl, rfl, rfl⟩, fun p5 z => by simp at z⟩
    · apply e_Rf_back
      exact g_Rf_back_0 _ _ _ (callB (s_in a 0 1 h) (fun z => absurd z c) (fun _ => z0b ⟨_, rfl, rfl, rfl⟩))
end OPW
