/-! done, count, write -/
def doneG (P W : RW) : Nat → Nat → Int32
  | 0, i => if overS P (goN P i W) then nI i else -1
  | n + 1, i => if overS P (goN P i W) then nI i else doneG P W n (i + 1)
section OP2
variable {X : XS} {h : Hp} {L N : Nat} {P W : RW} {K : Nat → RW} {T O : RW}
def Wst (c : Int32) : RW := u2 W00 0 0 c
theorem wf_Wst {c : Int32} : wfW L N P (Wst c) := by
  intro k hk
  unfold Wst u2 W00
  simp
theorem Wst_01 {c : Int32} : (Wst c) 0 1 = nI 0 := rfl
theorem tk_Wst {c : Int32} : tkOK (Wst c) := ⟨0, by omega, rfl⟩
theorem now_Wst {c : Int32} {i : Nat} : nowOf (Wst c) i = nowOf (fun a _ => if a = 3 then -1 else 0) i := by
  unfold nowOf Wst u2 W00
  grind
theorem c_done (hC : CST P W K T O h) {c : Int32} : ∀ (m i : Nat) (hh : Hp), i + m = 60 → WalkIs hh [4, 0] (goN P i (Wst c)) → CST P W K T O hh → OnC h hh → Rn X m_Us_done 9 [some (vR [0]), some (vI (nI i))] [] hh (fun v h' => ∃ r, v = some (vI r) ∧ r = doneG P (Wst c) m i ∧ CST P W K T O h' ∧ OnC h h') := by
  intro m
  induction m with
  | zero =>
    intro i hh hi hw hc ho
    have : i = 60 := by omega
    subst this
    refine g_Us_done_9 _ _ _ (cT (by decide) (callB (c_isOver iwk4 ipl0 hw hc.1) (fun z => z1a ⟨_, rfl, ?_, hc, ho⟩) (fun z => z0a ⟨_, rfl, ?_, hc, ho⟩)))
    · rw [doneG, if_pos z]; rfl
    · rw [doneG, if_neg z]
  | succ m ih =>
    intro i hh hi hw hc ho
    refine g_Us_done_9 _ _ _ (cF (n60 (by omega)) (callB (c_isOver iwk4 ipl0 hw hc.1) (fun z => z1a ⟨_, rfl, ?_, hc, ho⟩) (fun z => z0a ?_)))
    · rw [doneG, if_pos z]
    · refine callN (c_tick iwk4 ipl0 (by simp [Apart]) hw hc.1) (fun h3 q3 => ?_)
      rw [doneG, if_neg z, nI_add1]
      exact ih (i + 1) h3 (by omega) q3.1 (hc.sc [4, 0] q3.2 (by simp)) (ho.tr (OnC.ch q3.2 rfl))
/-- the reference's walk aside, its walk begun anew -/
def Aside (P W : RW) (h1 hh : Hp) : Prop := CHr [18, 19, 22, 23, 24, 29, 30] h1 hh ∧ (∀ i, i < 26 → hh.1 [19, 1] i = nowOf W i)
theorem Aside.go {h1 hh h3 : Hp} {ks : List Nat} (a : Aside P W h1 hh) (c : CHr ks hh h3) (hk : ∀ k ∈ ks, k ∈ [18, 22, 23, 24, 29, 30]) : Aside P W h1 h3 := by
  have n19 : 19 ∉ ks := fun z => by have := hk 19 z; simp at this
  refine ⟨a.1.tr (c.le (fun k z => ?_)), fun i hi => by rw [c.at n19]; exact a.2 i hi⟩
  have := hk k z
  simp at this ⊢
  omega
theorem r_back19 {hh : Hp} : EvV X m_Rf_copy [vR [19, 1], vI 0, vR [18, 1], vI 0] hh (fun h' => CHr [18] hh h' ∧ (∀ i, i < 26 → h'.1 [18, 1] (0 + i) = hh.1 [19, 1] (0 + i)) ∧ ∀ j, (j < 0 ∨ 0 + 26 ≤ j) → h'.1 [18, 1] j = hh.1 [18, 1] j) :=
  r_copy (X := X) (h := hh) (a := 19) (b := 18) (x := 0) (y := 0) (na := 26) (nb := 26) (by decide) (by decide) (by decide) (by omega) (by omega) (by omega) (by omega)
theorem r_aside {hh : Hp} : EvV X m_Rf_copy [vR [18, 1], vI 0, vR [19, 1], vI 0] hh (fun h' => CHr [19] hh h' ∧ (∀ i, i < 26 → h'.1 [19, 1] (0 + i) = hh.1 [18, 1] (0 + i)) ∧ ∀ j, (j < 0 ∨ 0 + 26 ≤ j) → h'.1 [19, 1] j = hh.1 [19, 1] j) :=
  r_copy (X := X) (h := hh) (a := 18) (b := 19) (x := 0) (y := 0) (na := 26) (nb := 26) (by decide) (by decide) (by decide) (by omega) (by omega) (by omega) (by omega)
theorem Aside.back {h1 hh h' : Hp} (hD : DST P W K T O h1) (a : Aside P W h1 hh) (q : CHr [18] hh h' ∧ (∀ i, i < 26 → h'.1 [18, 1] (0 + i) = hh.1 [19, 1] (0 + i)) ∧ ∀ j, (j < 0 ∨ 0 + 26 ≤ j) → h'.1 [18, 1] j = hh.1 [18, 1] j) : DST P W K T O h' ∧ CHr [18, 19, 22, 23, 24, 29, 30] h1 h' := by
  have c : CHr [18, 19, 22, 23, 24, 29, 30] h1 h' := a.1.tr (q.1.le (by simp))
  refine ⟨hD.walk c (by simp) (fun i hi => ?_), c⟩
  have := q.2.1 i hi
  rw [show 0 + i = i by omega] at this
  rw [this, a.2 i hi]
theorem Aside.mk {h1 h2 h3 : Hp} {ks : List Nat} (hD : DST P W K T O h1) (c : CHr ks h1 h2) (hk : ∀ k ∈ ks, k ∈ [19, 22, 23, 24, 29, 30]) (q : CHr [19] h2 h3 ∧ (∀ i, i < 26 → h3.1 [19, 1] (0 + i) = h2.1 [18, 1] (0 + i)) ∧ ∀ j, (j < 0 ∨ 0 + 26 ≤ j) → h3.1 [19, 1] j = h2.1 [19, 1] j) : Aside P W h1 h3 := by
  have n18 : 18 ∉ ks := fun z => by have := hk 18 z; simp at this
  refine ⟨(c.le (fun k z => ?_)).tr (q.1.le (by simp)), fun i hi => ?_⟩
  · have := hk k z
    simp at this ⊢
    omega
  · have := q.2.1 i hi
    rw [show 0 + i = i by omega] at this
    rw [this, c.at n18, hD.2.2.1 i hi]
theorem r_done47 {h1 : Hp} (hD : DST P W K T O h1) (hP : wfP L N P) {c : Int32} {i : Nat} (hi : i ≤ 60) {hh : Hp} (ha : Aside P W h1 hh) (hn : NowIs hh (goN P i (Wst c))) {n : Nat} (hd : doneG P (Wst c) n i = if overS P (goN P i (Wst c)) then nI i else -1) : Rn X m_Rf_done 47 [some (vR [1]), none] [] hh (fun v h' => ∃ r, v = some (vI r) ∧ r = doneG P (Wst c) n i ∧ DST P W K T O h' ∧ OnR h1 h') := by
  have hw := wf_goN hP (wf_Wst (c := c) (L := L) (N := N) (P := P)) tk_Wst i
  have hR := hD.1.ch ha.1 (by decide) (by decide)
  have tk : (goN P i (Wst c)) 0 1 = nI i := by
    have := goN_tk (P := P) (Wst_01 (c := c)) i (by omega)
    rw [this, Nat.zero_add]
  have fin : ∀ x : Int32, x = doneG P (Wst c) n i → Rn X m_Rf_done 65 [some (vR [1]), none] [vI x] hh (fun v h' => ∃ r, v = some (vI r) ∧ r = doneG P (Wst c) n i ∧ DST P W K T O h' ∧ OnR h1 h') := by
    intro x hx
    refine g_Rf_done_65 _ _ _ (callN r_back19 (fun h' q => ⟨_, rfl, hx, (ha.back hD q).1, OnR.ch (ha.back hD q).2⟩))
  refine g_Rf_done_47 _ _ (callB (r_areThrough hR hP hn hw.1) (fun z => z1a (fin _ ?_)) (fun z => z0a (fin _ ?_)))
  · rw [hd, if_pos z, now24 hn, tk]
  · rw [hd, if_neg z]
theorem r_done {h1 : Hp} (hD : DST P W K T O h1) (hP : wfP L N P) {c : Int32} : ∀ (m i : Nat) (hh : Hp), i + m = 60 → NowIs hh (goN P i (Wst c)) → Aside P W h1 hh → SzIs hh P → Rn X m_Rf_done 21 [some (vR [1]), none] [] hh (fun v h' => ∃ r, v = some (vI r) ∧ r = doneG P (Wst c) m i ∧ DST P W K T O h' ∧ OnR h1 h') := by
  intro m
  induction m with
  | zero =>
    intro i hh hi hn ha hs
    have : i = 60 := by omega
    subst this
    have tk : (goN P 60 (Wst c)) 0 1 = nI 60 := goN_tk (P := P) (Wst_01 (c := c)) 60 (by omega)
    refine g_Rf_done_21 _ _ ?_
    rw [now24 hn, tk]
    exact cT (by decide) (r_done47 hD hP (by omega) ha hn (n := 0) rfl)
  | succ m ih =>
    intro i hh hi hn ha hs
    have hw := wf_goN hP (wf_Wst (c := c) (L := L) (N := N) (P := P)) tk_Wst i
    have hR := hD.1.ch ha.1 (by decide) (by decide)
    have tk : (goN P i (Wst c)) 0 1 = nI i := by
      have := goN_tk (P := P) (Wst_01 (c := c)) i (by omega)
      rw [this, Nat.zero_add]
    refine g_Rf_done_21 _ _ ?_
    rw [now24 hn, tk]
    refine cF (n60 (by omega)) (callB (r_areThrough hR hP hn hw.1) (fun z => z1b ?_) (fun z => z0b ?_))
    · exact r_done47 hD hP (by omega) ha hn (n := m + 1) (by rw [doneG, if_pos z, if_pos z])
    · refine callN (r_goTick hR hP hs hn hw.1 (t := i) (by omega) tk) (fun h3 q3 => ?_)
      rw [doneG, if_neg z]
      refine ih (i + 1) h3 (by omega) ?_ (ha.go q3.2.1 (by simp)) (hs.ch q3.2.1 (by decide))
      rw [goN_s, tickS, if_pos (by rw [tk]; exact (lt60 (by omega)).mpr (by omega))]
      exact q3.1
theorem op_done (hI : Inv h) : PairI X m_Us_done m_Rf_done [] h := by
  obtain ⟨L, N, P, W, K, T, O, hC, hD, hF⟩ := id hI
  refine ⟨fun r h' => r = doneG P (Wst (h.1 [4, 0] 0)) 60 0 ∧ CST P W K T O h' ∧ OnC h h', ?_, fun r h1 q => ?_⟩
  · apply e_Us_done
    refine g_Us_done_0 _ _ (callN (c_clear iwk4) (fun h3 q3 => ?_))
    exact c_done (h := h) hC 60 0 h3 rfl q3.1 (hC.sc [4, 0] q3.2 (by simp)) (OnC.ch q3.2 rfl)
  · obtain ⟨q1, q2, q3⟩ := q
    have hD1 := hD.on q3
    refine ⟨fun r h' => r = doneG P (Wst (h.1 [4, 0] 0)) 60 0 ∧ DST P W K T O h' ∧ OnR h1 h', ?_, fun r' h2 q' => ⟨by rw [q1, q'.1], L, N, P, W, K, T, O, q2.on q'.2.2, q'.2.1, hF⟩⟩
    apply e_Rf_done
    refine g_Rf_done_0 _ _ (callN (r_sizes hD1.2.1) (fun h3 q3' => callN r_aside (fun h7 q7 => callN r_begin (fun h11 q11 => ?_))))
    have ha : Aside P W h1 h7 := Aside.mk hD1 q3'.1 (by simp) q7
    refine r_done hD1 hF.1 60 0 h11 rfl ?_ (ha.go q11.1 (by simp)) (((Wsz q3'.2).ch q7.1 (by decide)).ch q11.1 (by decide))
    intro i hi
    rw [q11.2 i hi]
    exact now_Wst.symm
theorem op_count (hI : Inv h) (a : Int32) : PairI X m_Us_count m_Rf_count [vI a] h := by
  obtain ⟨L, N, P, W, K, T, O, hC, hD, hF⟩ := id hI
  refine pairSame (f := if a = 0 then P 0 0 else if a = 1 then P 0 1 else if a = 2 then nI (walkersG P 6) else if a = 3 then nI (onG W 6) else if a = 4 then W 0 1 else if a = 5 then T 0 0 else if a = 6 then O 0 0 else if a = 7 then W 0 2 else -3) hI ?_ ?_
  · apply e_Us_count
    refine g_Us_count_0 _ _ _ ⟨fun c => ⟨_, rfl, ?_, rfl⟩, fun c => ⟨_, rfl, ?_, rfl⟩, fun c => ⟨_, rfl, ?_, rfl⟩, fun c => callP (c_walkers ipl0 hC.1) ⟨_, rfl, ?_, rfl⟩, fun c => callP (c_onStreet iwk3 hC.2.1) ⟨_, rfl, ?_, rfl⟩, fun c => ⟨_, rfl, ?_, rfl⟩, fun c => ⟨_, rfl, ?_, rfl⟩, fun c => ⟨_, rfl, ?_, rfl⟩, fun c => ⟨_, rfl, ?_, rfl⟩⟩
    · have e : ∀ j : Int32, (¬ (j.toInt < 0 ∨ 7 < j.toInt)) → a ≠ j := fun j y z => y (z ▸ c)
      rw [if_neg (e 0 (by decide)), if_neg (e 1 (by decide)), if_neg (e 2 (by decide)), if_neg (e 3 (by decide)), if_neg (e 4 (by decide)), if_neg (e 5 (by decide)), if_neg (e 6 (by decide)), if_neg (e 7 (by decide))]
    · subst c; exact hC.1.1 0 (by omega)
    · subst c; exact hC.1.1 1 (by omega)
    · subst c; rfl
    · subst c; rfl
    · subst c; exact hC.2.1.1 1 (by omega)
    · subst c; exact hC.2.2.2.1
    · subst c; exact hC.2.2.2.2.2.1
    · subst c; exact hC.2.1.1 2 (by omega)
  · apply e_Rf_count
    apply g_Rf_count_0
    have lp : ∀ (n i : Nat), i + n = 6 → Rn X m_Rf_count 4 [some (vR [1]), some (vI a), some (vI (nI (onG W i))), some (vI (nI i))] [] h (fun v h' => ∃ r, v = some (vI r) ∧ (r = if a = 0 then P 0 0 else if a = 1 then P 0 1 else if a = 2 then nI (walkersG P 6) else if a = 3 then nI (onG W 6) else if a = 4 then W 0 1 else if a = 5 then T 0 0 else if a = 6 then O 0 0 else if a = 7 then W 0 2 else -3) ∧ h' = h) := by
      intro n
      induction n with
      | zero =>
        intro i hi
        have : i = 6 := by omega
        subst this
        refine g_Rf_count_4 _ _ _ _ _ (cT e6 ⟨fun c => ⟨_, rfl, ?_, rfl⟩, fun c => ⟨_, rfl, ?_, rfl⟩, fun c => ⟨_, rfl, ?_, rfl⟩, fun c => callP (r_bits hD.1 hF.1) ⟨_, rfl, ?_, rfl⟩, fun c => ⟨_, rfl, ?_, rfl⟩, fun c => ⟨_, rfl, ?_, rfl⟩, fun c => ⟨_, rfl, ?_, rfl⟩, fun c => ⟨_, rfl, ?_, rfl⟩, fun c => ⟨_, rfl, ?_, rfl⟩⟩)
        · have e : ∀ j : Int32, (¬ (j.toInt < 0 ∨ 7 < j.toInt)) → a ≠ j := fun j y z => y (z ▸ c)
          rw [if_neg (e 0 (by decide)), if_neg (e 1 (by decide)), if_neg (e 2 (by decide)), if_neg (e 3 (by decide)), if_neg (e 4 (by decide)), if_neg (e 5 (by decide)), if_neg (e 6 (by decide)), if_neg (e 7 (by decide))]
        · subst c; exact hD.1.1
        · subst c; exact hD.1.2.1
        · subst c; rfl
        · subst c; rfl
        · subst c; exact now24 hD.2.2.1
        · subst c; exact hD.2.2.2.2.1
        · subst c; exact hD.2.2.2.2.2.2.1
        · subst c; exact (hD.2.2.1 25 (by omega)).trans rfl
      | succ n ih =>
        intro i hi
        have hi6 : i < 6 := by omega
        have := ih (i + 1) (by omega)
        rw [show onG W (i + 1) = onG W i + (if W 3 i ≠ -1 then 1 else 0) from rfl] at this
        refine g_Rf_count_4 _ _ _ _ _ (cF (n6 hi6) ?_)
        rw [nI_add1]
        refine callB (r_isOn hD.1 hF.1 hD.2.2.1 hF.2.1 hi6) (fun c => z1a ?_) (fun c => z0a ?_)
        · rw [if_pos c] at this
          rw [nI_add1]; exact this
        · rw [if_neg c] at this
          rw [show (0 : Int32) = nI 0 from rfl, nI_add]; exact this
    exact lp 6 0 rfl
end OP2
