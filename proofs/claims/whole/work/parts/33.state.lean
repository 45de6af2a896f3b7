/-! the state that both hold, and the operations on it -/
def CST (P W : RW) (K : Nat → RW) (T O : RW) (h : Hp) : Prop := PlanIs h [0, 0] P ∧ WalkIs h [3, 0] W ∧ (∀ k, k < 2 → WalkIs h [k, 5, 0] (K k)) ∧ h.1 [2, 0] 2 = T 0 0 ∧ (∀ i, i < 200 → h.1 [0, 2, 0] i = T 1 i) ∧ h.1 [7, 0] 0 = O 0 0 ∧ ∀ j, j < 3 → ∀ i, i < 8 → h.1 [1 + j, 7, 0] i = O (1 + j) i
def DST (P W : RW) (K : Nat → RW) (T O : RW) (h : Hp) : Prop := RefP h P ∧ Wk4 h P ∧ NowIs h W ∧ (∀ k, k < 2 → h.1 [21, 1] k = K k 0 0 ∧ (K k 0 0 ≠ 0 → ∀ i, i < 26 → h.1 [20, 1] (26 * k + i) = nowOf (K k) i)) ∧ h.1 [1] 6 = T 0 0 ∧ (∀ i, i < 200 → h.1 [7, 1] i = T 1 i) ∧ h.1 [1] 25 = O 0 0 ∧ ∀ j, j < 3 → ∀ i, i < 8 → h.1 [26, 1] (3 * i + j) = O (1 + j) i
def tkOK (W : RW) : Prop := ∃ t, t ≤ 60 ∧ W 0 1 = nI t
def WFS (L N : Nat) (P W : RW) (K : Nat → RW) (T O : RW) : Prop := wfP L N P ∧ wfW L N P W ∧ tkOK W ∧ (∀ k, k < 2 → K k 0 0 ≠ 0 → wfW L N P (K k) ∧ tkOK (K k)) ∧ (∀ c, c < 48 → P 2 c = 0 ∨ P 2 c = 1) ∧ (∀ t, t < 60 → ∃ r, r ≤ 99 ∧ P 10 t = nI r) ∧ (∃ n, n ≤ 200 ∧ T 0 0 = nI n) ∧ ∃ n, n ≤ 8 ∧ O 0 0 = nI n ∧ ∀ i, i < n → (∃ a, a < 20 ∧ O 1 i = nI a) ∧ (∃ s, s ≤ 3 ∧ O 2 i = nI s) ∧ ∃ e, e ≤ 9 ∧ O 3 i = nI e
def Inv (h : Hp) : Prop := ∃ L N P W K T O, CST P W K T O h ∧ DST P W K T O h ∧ WFS L N P W K T O
/-- only objects of the class have changed -/
def OnC (h h' : Hp) : Prop := h'.2 = h.2 ∧ ∀ q : List Nat, q.getLast? = some 1 → h'.1 q = h.1 q
def OnR (h h' : Hp) : Prop := ∀ q : List Nat, q.getLast? = some 0 → h'.1 q = h.1 q
theorem OnC.rf {h : Hp} : OnC h h := ⟨rfl, fun _ _ => rfl⟩
theorem OnC.tr {a b c : Hp} (h1 : OnC a b) (h2 : OnC b c) : OnC a c := ⟨h2.1.trans h1.1, fun q x => (h2.2 q x).trans (h1.2 q x)⟩
theorem OnC.set {h : Hp} {p : List Nat} {i : Nat} {v : Int32} (hp : p.getLast? = some 0) : OnC h (hsI h p i v) := ⟨rfl, fun q hq => hsI_other (fun z => by rw [z, hp] at hq; simp at hq)⟩
theorem OnC.ch {w : List Nat} {h h' : Hp} (c : CH w h h') (hw : w.getLast? = some 0) : OnC h h' := ⟨c.1, fun q hq => c.2 q (fun z => by rw [z, hw] at hq; simp at hq) (fun k z => by
  rw [z, List.getLast?_cons, hw] at hq; simp at hq)⟩
theorem OnR.rf {h : Hp} : OnR h h := fun _ _ => rfl
theorem OnR.tr {a b c : Hp} (h1 : OnR a b) (h2 : OnR b c) : OnR a c := fun q x => (h2 q x).trans (h1 q x)
theorem OnR.set {h : Hp} {p : List Nat} {i : Nat} {v : Int32} (hp : p.getLast? = some 1) : OnR h (hsI h p i v) := fun q hq => hsI_other (fun z => by rw [z, hp] at hq; simp at hq)
theorem OnR.setL {h : Hp} {p : List Nat} {i : Nat} {v : Int64} : OnR h (hsL h p i v) := fun q hq => rfl
theorem OnR.ch {ks : List Nat} {h h' : Hp} (c : CHr ks h h') : OnR h h' := fun q hq => c.2 q (fun k _ z => by rw [z] at hq; simp at hq)
theorem CST.on {P W : RW} {K : Nat → RW} {T O : RW} {h h' : Hp} (s : CST P W K T O h) (c : OnR h h') : CST P W K T O h' := by
  have e : ∀ q : List Nat, q.getLast? = some 0 → h'.1 q = h.1 q := c
  obtain ⟨⟨p1, p2, p3, p4⟩, w, k, t1, t2, o1, o2⟩ := s
  refine ⟨⟨?_, ?_, ?_, ?_⟩, ⟨?_, ?_⟩, ?_, ?_, ?_, ?_, ?_⟩
  · rw [e _ (by rfl)]; exact p1
  · rw [e _ (by rfl)]; exact p2
  · intro k a b; rw [e _ (by simp)]; exact p3 k a b
  · rw [e _ (by rfl)]; exact p4
  · rw [e _ (by rfl)]; exact w.1
  · intro k a b; rw [e _ (by simp)]; exact w.2 k a b
  · intro j hj
    refine ⟨?_, ?_⟩
    · rw [e _ (by simp)]; exact (k j hj).1
    · intro a b c; rw [e _ (by simp)]; exact (k j hj).2 a b c
  · rw [e _ (by rfl)]; exact t1
  · rw [e _ (by rfl)]; exact t2
  · rw [e _ (by rfl)]; exact o1
  · intro j hj; rw [e _ (by simp)]; exact o2 j hj
theorem DST.on {P W : RW} {K : Nat → RW} {T O : RW} {h h' : Hp} (s : DST P W K T O h) (c : OnC h h') : DST P W K T O h' := by
  have e : ∀ q : List Nat, q.getLast? = some 1 → h'.1 q = h.1 q := c.2
  unfold DST RefP Wk4 NowIs
  rw [e [1] rfl, e [4, 1] rfl, e [5, 1] rfl, e [7, 1] rfl, e [18, 1] rfl, e [20, 1] rfl, e [21, 1] rfl, e [26, 1] rfl, c.1]
  exact s
/-- what a change of the reference's scratch leaves -/
theorem DST.of {P W : RW} {K : Nat → RW} {T O : RW} {h h' : Hp} (s : DST P W K T O h) (f : ∀ j, j = 0 ∨ j = 1 ∨ j = 3 ∨ j = 6 ∨ j = 25 → h'.1 [1] j = h.1 [1] j) (l : h'.2 [1] 2 = h.2 [1] 2) (a : ∀ k, k = 4 ∨ k = 5 ∨ k = 7 ∨ k = 18 ∨ k = 20 ∨ k = 21 ∨ k = 26 → h'.1 [k, 1] = h.1 [k, 1]) : DST P W K T O h' := by
  unfold DST RefP Wk4 NowIs
  rw [f 0 (by simp), f 1 (by simp), f 3 (by simp), f 6 (by simp), f 25 (by simp), l, a 4 (by simp), a 5 (by simp), a 7 (by simp), a 18 (by simp), a 20 (by simp), a 21 (by simp), a 26 (by simp)]
  exact s
theorem DST.ch {P W : RW} {K : Nat → RW} {T O : RW} {ks : List Nat} {h h' : Hp} (s : DST P W K T O h) (c : CHr ks h h') (n : ∀ k, k = 4 ∨ k = 5 ∨ k = 7 ∨ k = 18 ∨ k = 20 ∨ k = 21 ∨ k = 26 → k ∉ ks) : DST P W K T O h' :=
  s.of (fun j _ => by rw [c.at1]) (by rw [c.1]) (fun k hk => c.at (n k hk))
/-- the reference's walk has gone on -/
theorem DST.walk {P W W' : RW} {K : Nat → RW} {T O : RW} {ks : List Nat} {h h' : Hp} (s : DST P W K T O h) (c : CHr ks h h') (n : ∀ k, k = 4 ∨ k = 5 ∨ k = 7 ∨ k = 20 ∨ k = 21 ∨ k = 26 → k ∉ ks) (hN : NowIs h' W') : DST P W' K T O h' := by
  obtain ⟨a1, a2, a3, a4⟩ := s
  refine ⟨a1.ch c (n 4 (by simp)) (n 5 (by simp)), ?_, hN, ?_⟩
  · unfold Wk4; rw [c.at (n 4 (by simp))]; exact a2
  · rw [c.at1, c.at (n 7 (by simp)), c.at (n 20 (by simp)), c.at (n 21 (by simp)), c.at (n 26 (by simp))]
    exact a4
/-- a change of the text or of the stop -/
theorem DST.io {P W : RW} {K : Nat → RW} {T O T' O' : RW} {h h' : Hp} (s : DST P W K T O h) (f : ∀ j, j = 0 ∨ j = 1 ∨ j = 3 → h'.1 [1] j = h.1 [1] j) (l : h'.2 [1] 2 = h.2 [1] 2) (a : ∀ k, k = 4 ∨ k = 5 ∨ k = 18 ∨ k = 20 ∨ k = 21 → h'.1 [k, 1] = h.1 [k, 1]) (t1 : h'.1 [1] 6 = T' 0 0) (t2 : ∀ i, i < 200 → h'.1 [7, 1] i = T' 1 i) (o1 : h'.1 [1] 25 = O' 0 0) (o2 : ∀ j, j < 3 → ∀ i, i < 8 → h'.1 [26, 1] (3 * i + j) = O' (1 + j) i) : DST P W K T' O' h' := by
  obtain ⟨d1, d2, d3, d4, -⟩ := s
  refine ⟨?_, ?_, ?_, ?_, t1, t2, o1, o2⟩
  · unfold RefP; rw [f 0 (by simp), f 1 (by simp), f 3 (by simp), l, a 4 (by simp), a 5 (by simp)]; exact d1
  · unfold Wk4; rw [a 4 (by simp)]; exact d2
  · unfold NowIs; rw [a 18 (by simp)]; exact d3
  · rw [a 20 (by simp), a 21 (by simp)]; exact d4
theorem CST.io {P W : RW} {K : Nat → RW} {T O T' O' : RW} {h h' : Hp} (s : CST P W K T O h) (w : List Nat) (c : CH w h h') (a0 : Apart w [0, 0]) (a1 : Apart w [3, 0]) (a2 : ∀ k, k < 2 → Apart w [k, 5, 0]) (t1 : h'.1 [2, 0] 2 = T' 0 0) (t2 : ∀ i, i < 200 → h'.1 [0, 2, 0] i = T' 1 i) (o1 : h'.1 [7, 0] 0 = O' 0 0) (o2 : ∀ j, j < 3 → ∀ i, i < 8 → h'.1 [1 + j, 7, 0] i = O' (1 + j) i) : CST P W K T' O' h' := by
  obtain ⟨c1, c2, c3, -⟩ := s
  exact ⟨c1.ch c a0, c2.ch c a1, fun k hk => (c3 k hk).ch c (a2 k hk), t1, t2, o1, o2⟩
theorem ipl0 : IsPl [0, 0] := ⟨by decide, by decide, by decide, by decide, by decide, by decide, by decide, by decide, by decide, by decide⟩
theorem ipl1 : IsPl [1, 0] := ⟨by decide, by decide, by decide, by decide, by decide, by decide, by decide, by decide, by decide, by decide⟩
theorem ipl6 : IsPl [0, 6, 0] := ⟨by decide, by decide, by decide, by decide, by decide, by decide, by decide, by decide, by decide, by decide⟩
theorem iwk3 : IsWk [3, 0] := by unfold IsWk; decide
theorem iwk4 : IsWk [4, 0] := by unfold IsWk; decide
theorem iwk6 : IsWk [1, 6, 0] := by unfold IsWk; decide
theorem iwkk {k : Nat} (hk : k < 2) : IsWk [k, 5, 0] := by
  have : k = 0 ∨ k = 1 := by omega
  rcases this with rfl | rfl <;> unfold IsWk <;> decide
section OPS
variable {X : XS} {h : Hp} {L N : Nat} {P W : RW} {K : Nat → RW} {T O : RW}
/-- what a pair of calls must do -/
def PairI (X : XS) (M M' : MD) (av : List AV) (h : Hp) : Prop := ∃ Q1, EvI X M (vR [0] :: av) h Q1 ∧ ∀ (r : Int32) (h1 : Hp), Q1 r h1 → ∃ Q2, EvI X M' (vR [1] :: av) h1 Q2 ∧ ∀ (r' : Int32) (h2 : Hp), Q2 r' h2 → r = r' ∧ Inv h2
theorem pairSame {M M' : MD} {av : List AV} {f : Int32} (hI : Inv h) (h1 : EvI X M (vR [0] :: av) h (fun r h' => r = f ∧ h' = h)) (h2 : EvI X M' (vR [1] :: av) h (fun r h' => r = f ∧ h' = h)) : PairI X M M' av h :=
  ⟨_, h1, fun r h1 q => ⟨fun r h' => r = f ∧ h' = h, by rw [q.2]; exact h2, fun r' h2 q' => ⟨by rw [q.1, q'.1], by rw [q'.2]; exact hI⟩⟩⟩
theorem c_empty (e : h.1 [2, 0] 2 = T 0 0) : EvI X m_Tx_empty [vR [2, 0]] h (fun r h' => r = T 0 0 ∧ h' = hsI h [2, 0] 2 0) := by
  apply e_Tx_empty
  exact g_Tx_empty_0 _ _ ⟨_, rfl, e, rfl⟩
theorem op_erase (hI : Inv h) : PairI X m_Us_erase m_Rf_erase [] h := by
  obtain ⟨L, N, P, W, K, T, O, hC, hD, hF⟩ := hI
  have hC1 : CST P W K (u2 T 0 0 0) O (hsI h [2, 0] 2 0) := by
    refine hC.io [2, 0] CH.set0 (by simp [Apart]) (by simp [Apart]) (fun k hk => by simp [Apart]) (by simp [rd, u2]) ?_ ?_ ?_
    · intro i hi; simp [rd, u2]; exact hC.2.2.2.2.1 i hi
    · simp [rd]; exact hC.2.2.2.2.2.1
    · intro j hj i hi; simp [rd]; exact hC.2.2.2.2.2.2 j hj i hi
  have hD1 := hD.on (h' := hsI h [2, 0] 2 0) (OnC.set rfl)
  refine ⟨fun r h' => r = T 0 0 ∧ h' = hsI h [2, 0] 2 0, ?_, fun r h1 q => ?_⟩
  · apply e_Us_erase
    exact g_Us_erase_0 _ _ ⟨_, c_empty hC.2.2.2.1, fun r h1 q => ⟨_, rfl, q.1, q.2⟩⟩
  obtain ⟨rfl, rfl⟩ := q
  refine ⟨fun r h' => r = T 0 0 ∧ h' = hsI (hsI h [2, 0] 2 0) [1] 6 0, ?_, fun r h1 q => ?_⟩
  · apply e_Rf_erase
    exact g_Rf_erase_0 _ _ ⟨_, rfl, hD1.2.2.2.2.1, rfl⟩
  obtain ⟨rfl, rfl⟩ := q
  refine ⟨rfl, L, N, P, W, K, u2 T 0 0 0, O, hC1.on (OnR.set rfl), ?_, ?_⟩
  · refine hD1.io (fun j hj => by simp [rd]; omega) rfl (fun k hk => hsI_other (by simp)) (by simp [rd, u2]) ?_ ?_ ?_
    · intro i hi; simp [rd, u2]; exact hD.2.2.2.2.2.1 i hi
    · simp [rd]; exact hD.2.2.2.2.2.2.1
    · intro j hj i hi; simp [rd]; exact hD.2.2.2.2.2.2.2 j hj i hi
  · obtain ⟨f1, f2, f3, f4, f5, f6, f7, f8⟩ := hF
    exact ⟨f1, f2, f3, f4, f5, f6, ⟨0, by omega, rfl⟩, f8⟩
theorem op_bus (hI : Inv h) : PairI X m_Us_bus m_Rf_bus [] h := by
  obtain ⟨L, N, P, W, K, T, O, hC, hD, hF⟩ := hI
  have hC1 : CST P W K T (u2 O 0 0 0) (hsI h [7, 0] 0 0) := by
    refine hC.io [7, 0] CH.set0 (by simp [Apart]) (by simp [Apart]) (fun k hk => by simp [Apart]) ?_ ?_ (by simp [rd, u2]) ?_
    · simp [rd]; exact hC.2.2.2.1
    · simp [rd]; exact hC.2.2.2.2.1
    · intro j hj i hi; simp [rd, u2]; exact hC.2.2.2.2.2.2 j hj i hi
  have hD1 := hD.on (h' := hsI h [7, 0] 0 0) (OnC.set rfl)
  refine ⟨fun r h' => r = O 0 0 ∧ h' = hsI h [7, 0] 0 0, ?_, fun r h1 q => ?_⟩
  · apply e_Us_bus
    exact g_Us_bus_0 _ _ ⟨_, rfl, hC.2.2.2.2.2.1, rfl⟩
  obtain ⟨rfl, rfl⟩ := q
  refine ⟨fun r h' => r = O 0 0 ∧ h' = hsI (hsI h [7, 0] 0 0) [1] 25 0, ?_, fun r h1 q => ?_⟩
  · apply e_Rf_bus
    exact g_Rf_bus_0 _ _ ⟨_, rfl, hD1.2.2.2.2.2.2.1, rfl⟩
  obtain ⟨rfl, rfl⟩ := q
  refine ⟨rfl, L, N, P, W, K, T, u2 O 0 0 0, hC1.on (OnR.set rfl), ?_, ?_⟩
  · refine hD1.io (fun j hj => by simp [rd]; omega) rfl (fun k hk => hsI_other (by simp)) ?_ ?_ (by simp [rd, u2]) ?_
    · simp [rd]; exact hD.2.2.2.2.1
    · intro i hi; simp [rd]; exact hD.2.2.2.2.2.1 i hi
    · intro j hj i hi; simp [rd, u2]; exact hD.2.2.2.2.2.2.2 j hj i hi
  · obtain ⟨f1, f2, f3, f4, f5, f6, f7, f8⟩ := hF
    exact ⟨f1, f2, f3, f4, f5, f6, f7, 0, by omega, rfl, fun i hi => by omega⟩
theorem cellHas_iff (hP : wfP L N P) (c : Int32) : cellHas P c ↔ (0 ≤ c ∧ c ≤ nI (4 * N - 1)) ∧ iR c 4 < P 0 0 := by
  obtain ⟨p0, p1, l1, l2, n1, n2, -⟩ := hP
  unfold cellHas
  rw [p1]
  refine ⟨fun ⟨a1, a2, a3, a4⟩ => ⟨⟨a1, ?_⟩, a3⟩, fun ⟨⟨a1, a2⟩, a3⟩ => ⟨a1, ?_, a3, ?_⟩⟩
  · obtain ⟨j, hj, rfl⟩ := nI_of (x := c) (by grind)
    rw [show (48 : Int32) = nI 48 from rfl, nI_ltI hj (by decide)] at a2
    rw [show (4 : Int32) = nI 4 from rfl, pk_div hj (by decide) (by decide), nI_ltI (by omega) (by omega)] at a4
    exact (nI_leI hj (by omega)).mpr (by omega)
  · have h48 : nI (4 * N - 1) < nI 48 := nI_lt (by omega) (by decide)
    rw [show nI 48 = (48 : Int32) from rfl] at h48
    grind
  · obtain ⟨j, hj, rfl⟩ := nI_of (x := c) (by grind)
    rw [nI_leI hj (by omega)] at a2
    rw [show (4 : Int32) = nI 4 from rfl, pk_div hj (by decide) (by decide)]
    exact nI_lt (by omega) (by omega)
theorem op_cell (hI : Inv h) (c a : Int32) : PairI X m_Us_cell m_Rf_cell [vI c, vI a] h := by
  obtain ⟨L, N, P, W, K, T, O, hC, hD, hF⟩ := id hI
  refine pairSame (f := if cellHas P c then (if a = 0 then bI (dryS P c) else if a = 1 then whoS W c else -3) else -2) hI ?_ ?_
  · apply e_Us_cell
    refine g_Us_cell_0 _ _ _ _ (callB (s_hasCell ipl0 hC.1 c) (fun c1 => z1b ⟨fun c2 => ⟨fun c3 => ⟨_, rfl, ?_, rfl⟩, fun c3 => callP (c_who iwk3 hC.2.1 c) ⟨_, rfl, ?_, rfl⟩⟩, fun c2 => callB (s_isDry ipl0 hC.1 c) (fun c3 => z1a ⟨_, rfl, ?_, rfl⟩) (fun c3 => z0a ⟨_, rfl, ?_, rfl⟩)⟩) (fun c1 => z0b ⟨_, rfl, ?_, rfl⟩))
    · rw [if_pos c1, if_neg c2, if_neg c3]
    · rw [if_pos c1, if_neg c2, if_pos c3]
    · rw [if_pos c1, if_pos c2, bI_t c3]
    · rw [if_pos c1, if_pos c2, bI_f c3]
    · rw [if_neg c1]
  · have hp := hF.1
    obtain ⟨p0, p1, l1, l2, n1, n2, -⟩ := id hp
    apply e_Rf_cell
    apply g_Rf_cell_0
    have hR := hD.1
    rw [show (4 : Int32) * h.1 [1] 1 - 1 = nI (4 * N - 1) from by
      rw [hR.2.1, p1, show (4 : Int32) = nI 4 from rfl, show (1 : Int32) = nI 1 from rfl, pk_mul, pk_sub (by omega)]]
    have ci' := cellHas_iff hp c
    refine callB (s_in c 0 (nI (4 * N - 1)) h) (fun c1 => z1a ?_) (fun c1 => z0a ⟨_, rfl, ?_, rfl⟩)
    · rw [hR.1]
      refine ⟨fun c2 => ?_, fun c2 => ⟨_, rfl, ?_, rfl⟩⟩
      · have hc : cellHas P c := ci'.mpr ⟨c1, c2⟩
        obtain ⟨j, hj, e⟩ := nI_of (x := c) (by grind)
        have hj48 : j < 48 := by
          have := hc.2.1
          rw [e, show (48 : Int32) = nI 48 from rfl, nI_ltI hj (by decide)] at this
          exact this
        rw [if_pos hc]
        refine ⟨fun c3 => ⟨fun c4 => ⟨_, rfl, ?_, rfl⟩, fun c4 => callP (r_whoAt hR hp hD.2.2.1 hF.2.1 ?_) ⟨_, rfl, ?_, rfl⟩⟩, fun c3 => ⟨_, rfl, ?_, rfl⟩⟩
        · rw [if_neg c3, if_neg c4]
        · refine ⟨j / 4, j % 4, ?_, ?_, ?_⟩
          · have := hc.2.2.2
            rw [e, p1, show (4 : Int32) = nI 4 from rfl, pk_div hj (by decide) (by decide), nI_ltI (by omega) (by omega)] at this
            exact this
          · have := hc.2.2.1
            unfold iR at this
            rw [e, p0, show (4 : Int32) = nI 4 from rfl, pk_rem hj (by decide) (by decide), nI_ltI (by omega) (by omega)] at this
            exact this
          · rw [e]; congr 1; omega
        · rw [if_neg c3, if_pos c4]
        · rw [if_pos c3, e, hR.2.2.1 j hj48]
          have hcd : dryS P (nI j) ↔ P 2 j ≠ 0 := by
            unfold dryS
            rw [ci hj, ← e]
            exact ⟨fun z => z.2, fun z => ⟨hc, z⟩⟩
          by_cases z : P 2 j = 0
          · rw [if_neg (fun y => y z), bI_f (fun y => hcd.mp y z)]; rfl
          · rw [if_pos z, bI_t (hcd.mpr z)]; rfl
      · rw [if_neg (fun z => c2 (ci'.mp z).2)]
    · rw [if_neg (fun z => c1 (ci'.mp z).1)]
theorem op_walker (hI : Inv h) (c a : Int32) : PairI X m_Us_walker m_Rf_walker [vI c, vI a] h := by
  obtain ⟨L, N, P, W, K, T, O, hC, hD, hF⟩ := id hI
  have bb : ∀ {z : Int32}, z = 0 ∨ z = 1 → z = bI (z ≠ 0) := fun {z} y => by rcases y with y | y <;> rw [y] <;> rfl
  refine pairSame (f := if (0 ≤ c ∧ c < 6 ∧ P 3 c.toNatClampNeg ≠ 0) then (if a = 0 then W 3 c.toNatClampNeg else if a = 1 then W 5 c.toNatClampNeg else if a = 2 then W 6 c.toNatClampNeg else if a = 3 then W 7 c.toNatClampNeg else if a = 4 then W 4 c.toNatClampNeg else -3) else -2) hI ?_ ?_
  · apply e_Us_walker
    refine g_Us_walker_0 _ _ _ _ (callB (c_hasWalker ipl0 hC.1 c) (fun c1 => z1b ?_) (fun c1 => z0b ⟨_, rfl, by rw [if_neg c1], rfl⟩))
    rw [if_pos c1]
    obtain ⟨j, hj, e⟩ := nI_of (x := c) (by grind)
    subst e
    have hj6 : j < 6 := by
      rw [show (6 : Int32) = nI 6 from rfl, nI_ltI hj (by decide)] at c1
      exact c1.2.1
    rw [ci hj]
    have hw := hC.2.1.2
    refine ⟨fun c2 => ⟨_, rfl, ?_, rfl⟩, fun c2 => ⟨v6 hj6, _, rfl, ?_, rfl⟩, fun c2 => ⟨v6 hj6, _, rfl, ?_, rfl⟩, fun c2 => ⟨v6 hj6, _, rfl, ?_, rfl⟩, fun c2 => ⟨v6 hj6, _, rfl, ?_, rfl⟩, fun c2 => ⟨v6 hj6, fun c3 => ⟨_, rfl, ?_, rfl⟩, fun c3 => ⟨_, rfl, ?_, rfl⟩⟩⟩
    · have e0 : a ≠ 0 := fun z => by rw [z] at c2; revert c2; decide
      have e1 : a ≠ 1 := fun z => by rw [z] at c2; revert c2; decide
      have e2 : a ≠ 2 := fun z => by rw [z] at c2; revert c2; decide
      have e3 : a ≠ 3 := fun z => by rw [z] at c2; revert c2; decide
      have e4 : a ≠ 4 := fun z => by rw [z] at c2; revert c2; decide
      rw [if_neg e0, if_neg e1, if_neg e2, if_neg e3, if_neg e4]
    · subst c2; exact hw 3 (by omega) (by omega) j hj6
    · subst c2; exact hw 5 (by omega) (by omega) j hj6
    · subst c2; exact hw 6 (by omega) (by omega) j hj6
    · subst c2; exact hw 7 (by omega) (by omega) j hj6
    · subst c2; rw [hw 4 (by omega) (by omega) j hj6] at c3; exact c3.symm
    · subst c2; rw [hw 4 (by omega) (by omega) j hj6] at c3
      rcases (hF.2.1 j hj6).1 with z | z
      · exact absurd z c3
      · exact z.symm
  · apply e_Rf_walker
    refine g_Rf_walker_0 _ _ _ _ (callB (r_isWalker hD.1 hF.1 c) (fun c1 => z1b ?_) (fun c1 => z0b ⟨_, rfl, by rw [if_neg c1], rfl⟩))
    rw [if_pos c1]
    obtain ⟨j, hj, e⟩ := nI_of (x := c) (by grind)
    subst e
    have hj6 : j < 6 := by
      rw [show (6 : Int32) = nI 6 from rfl, nI_ltI hj (by decide)] at c1
      exact c1.2.1
    have hn := hD.2.2.1
    rw [show (6 : Int32) = nI 6 from rfl, show (12 : Int32) = nI 12 from rfl, show (18 : Int32) = nI 18 from rfl, nI_add, nI_add, nI_add, ci hj, ci (show 6 + j < 2 ^ 31 by omega), ci (show 12 + j < 2 ^ 31 by omega), ci (show 18 + j < 2 ^ 31 by omega), hn j (by omega), hn (6 + j) (by omega), hn (12 + j) (by omega), hn (18 + j) (by omega)]
    have hw := hF.2.1 j hj6
    have ht := thru_iff hF.1 hF.2.1 hj6
    refine ⟨fun c2 => ⟨_, rfl, ?_, rfl⟩, fun c2 => ⟨vp_in_nI (by omega) (by decide), fun c3 => ⟨_, rfl, ?_, rfl⟩, fun c3 => ⟨vp_in_nI (by omega) (by decide), _, rfl, ?_, rfl⟩⟩, fun c2 => ⟨vp_in_nI (by omega) (by decide), _, rfl, ?_, rfl⟩, fun c2 => ⟨vp_in_nI (by omega) (by decide), _, rfl, ?_, rfl⟩, fun c2 => ⟨vp_in_nI (by omega) (by decide), _, rfl, ?_, rfl⟩, fun c2 => ⟨vp_in_nI (by omega) (by decide), fun c3 => ⟨_, rfl, ?_, rfl⟩, fun c3 => ⟨_, rfl, ?_, rfl⟩⟩⟩
    · have e0 : a ≠ 0 := fun z => by rw [z] at c2; revert c2; decide
      have e1 : a ≠ 1 := fun z => by rw [z] at c2; revert c2; decide
      have e2 : a ≠ 2 := fun z => by rw [z] at c2; revert c2; decide
      have e3 : a ≠ 3 := fun z => by rw [z] at c2; revert c2; decide
      have e4 : a ≠ 4 := fun z => by rw [z] at c2; revert c2; decide
      rw [if_neg e0, if_neg e1, if_neg e2, if_neg e3, if_neg e4]
    · subst c2
      show -1 = W 3 j
      rcases hw.2 with z | ⟨z4, _, zo⟩
      · exact z.symm
      · have b1 := hF.1.2.2.2.1
        have b2 := hF.1.2.2.2.2.2.1
        have := on_ne b1 b2 zo
        rw [now_on hj6 z4] at c3
        obtain ⟨a, l, ha, hl, e⟩ := zo
        rw [e, nI_add1] at c3
        exact absurd c3 (nI_nle (by omega) (by omega))
    · subst c2
      show nowOf W j - 1 = W 3 j
      rcases hw.1 with z | z
      · rw [now_on hj6 z]; grind
      · rw [now_out hj6 (by rw [z]; decide)] at c3; exact absurd (by decide) c3
    · subst c2
      show nowOf W (6 + j) = W 5 j
      unfold nowOf
      rw [if_neg (by omega), if_pos (by omega)]; congr 1; omega
    · subst c2
      show nowOf W (12 + j) = W 6 j
      unfold nowOf
      rw [if_neg (by omega), if_neg (by omega), if_pos (by omega)]; congr 1; omega
    · subst c2
      show nowOf W (18 + j) = W 7 j
      unfold nowOf
      rw [if_neg (by omega), if_neg (by omega), if_neg (by omega), if_pos (by omega)]; congr 1; omega
    · subst c2
      show 0 = W 4 j
      rcases hw.1 with z | z
      · exact z.symm
      · have := ht.mpr (by rw [z]; decide)
        exact absurd c3 (by grind)
    · subst c2
      show 1 = W 4 j
      rcases hw.1 with z | z
      · exact absurd z (ht.mp (by grind))
      · exact z.symm
end OPS
