/-! fault -/
section OPF
variable {X : XS} {h : Hp} {L N n : Nat} {P W : RW} {K : Nat → RW} {T O : RW}
theorem TxI.on {h h' : Hp} (p : TxI h h') : OnC h h' := ⟨p.1, fun q hq => p.2.1 q (fun z => by rw [z] at hq; simp at hq) (fun z => by rw [z] at hq; simp at hq) (fun z => by rw [z] at hq; simp at hq) (fun k z => by rw [z] at hq; simp at hq)⟩
theorem RdP.on {J I : Nat → Prop} {h h' : Hp} (p : RdP J I h h') : OnR h h' := fun q hq => p.2.1 q (fun z => by rw [z] at hq; simp at hq) (fun z => by rw [z] at hq; simp at hq)
theorem CST.ti {h' : Hp} (s : CST P W K T O h) (p : TxI h h') : CST P W K T O h' := by
  have e : ∀ q, q ≠ [2, 0] → q ≠ [1, 2, 0] → q ≠ [1, 0] → (∀ k, q ≠ [k, 1, 0]) → h'.1 q = h.1 q := p.2.1
  obtain ⟨⟨p1, p2, p3, p4⟩, w, k, t1, t2, o1, o2⟩ := s
  refine ⟨⟨?_, ?_, ?_, ?_⟩, ⟨?_, ?_⟩, ?_, ?_, ?_, ?_, ?_⟩
  · rw [e _ (by simp) (by simp) (by simp) (by simp)]; exact p1
  · rw [e _ (by simp) (by simp) (by simp) (by simp)]; exact p2
  · intro k a b; rw [e _ (by simp) (by simp) (by simp) (by simp)]; exact p3 k a b
  · rw [e _ (by simp) (by simp) (by simp) (by simp)]; exact p4
  · rw [e _ (by simp) (by simp) (by simp) (by simp)]; exact w.1
  · intro k a b; rw [e _ (by simp) (by simp) (by simp) (by simp)]; exact w.2 k a b
  · intro j hj
    refine ⟨?_, ?_⟩
    · rw [e _ (by simp) (by simp) (by simp) (by simp)]; exact (k j hj).1
    · intro a b c; rw [e _ (by simp) (by simp) (by simp) (by simp)]; exact (k j hj).2 a b c
  · rw [p.2.2 2 (by omega) (by omega) (by omega) (by omega)]; exact t1
  · rw [e _ (by simp) (by simp) (by simp) (by simp)]; exact t2
  · rw [e _ (by simp) (by simp) (by simp) (by simp)]; exact o1
  · intro j hj; rw [e _ (by simp) (by simp) (by simp) (by simp)]; exact o2 j hj
theorem DST.rd {h' : Hp} (s : DST P W K T O h) (p : RdP J8 I64 h h') : DST P W K T O h' := by
  refine s.of (fun j hj => p.2.2.1 j (fun z => ?_)) (p.1 [1] 2 (by simp)) (fun k hk => p.2.1 [k, 1] (by simp) (by simp; omega))
  rcases z with ((z | z | z | z | z) | z | z) | z <;> omega
theorem WFS.pl (hF : WFS L N P W K T O) : PWF P := ⟨L, N, hF.1, hF.2.2.2.2.1, hF.2.2.2.2.2.1⟩
theorem PWF.b2 (hw : PWF P) : ∀ k, k < 48 → P 2 k = 0 ∨ P 2 k = 1 := by
  obtain ⟨_, _, _, a, _⟩ := hw
  exact a
theorem PWF.b3 (hw : PWF P) : ∀ k, k < 6 → P 3 k = 0 ∨ P 3 k = 1 := by
  obtain ⟨_, _, a, _, _⟩ := hw
  exact fun k hk => (a.2.2.2.2.2.2 k hk).1
/-- the draft is laid and the text read, both ways -/
theorem c_read (hC : CST P W K T O h) (hw : PWF P) (hn : n ≤ 200) (e0 : T 0 0 = nI n) {Q : Int32 → Hp → Prop} (k : ∀ r h', IntoP n (T 1) P (rdG n (T 1) P 8 0) h r h' → Q r h') : ∃ Q4, EvV X m_Pl_copyFrom [vR [1, 0], vR [0, 0]] h Q4 ∧ ∀ h3, Q4 h3 → ∃ Q8, EvI X m_Tx_readInto [vR [2, 0], vR [1, 0]] h3 Q8 ∧ ∀ (r : Int32) (h7 : Hp), Q8 r h7 → Q r h7 := by
  refine callN (c_copyPl ipl1 ipl0 (by simp [Apart]) hC.1 hw.b2 hw.b3) (fun h3 q3 => ?_)
  have hT : TxtC n (T 1) h := ⟨hn, by rw [hC.2.2.2.1, e0], fun j hj => hC.2.2.2.2.1 j hj⟩
  refine callQ (c_readInto (hT.td q3.2.td) q3.1 hw) (fun r h7 q7 => k r h7 ⟨q3.2.td.ti.tr q7.1, q7.2⟩)
theorem r_read (hD : DST P W K T O h) (hn : n ≤ 200) (e0 : T 0 0 = nI n) : EvI X m_Rf_isRead [vR [1]] h (ReadP n (T 1) P (rdG n (T 1) P 8 0) h) := by
  have hT : TxtR n (T 1) h := ⟨hn, by rw [hD.2.2.2.2.1, e0], fun j hj => hD.2.2.2.2.2.1 j hj⟩
  exact r_isRead hT hD.1.1 hD.1.2.1
theorem op_fault (hI : Inv h) : PairI X m_Us_fault m_Rf_fault [] h := by
  obtain ⟨L, N, P, W, K, T, O, hC, hD, hF⟩ := id hI
  obtain ⟨n, hn, e0⟩ := hF.2.2.2.2.2.2.1
  have hw := hF.pl
  refine ⟨IntoP n (T 1) P (rdG n (T 1) P 8 0) h, ?_, fun r h1 q => ?_⟩
  · apply e_Us_fault
    exact g_Us_fault_0 _ _ (c_read hC hw hn e0 (fun r h' q => ⟨_, rfl, q⟩))
  have hD1 := hD.on q.1.on
  have hC1 := hC.ti q.1
  refine ⟨fun r' h2 => r = r' ∧ DST P W K T O h2 ∧ OnR h1 h2, ?_, fun r' h2 q' => ⟨q'.1, L, N, P, W, K, T, O, hC1.on q'.2.2, q'.2.1, hF⟩⟩
  apply e_Rf_fault
  refine g_Rf_fault_0 _ _ (callQ (r_read hD1 hn e0) (fun r' h2 q' => ?_))
  obtain ⟨p2, q2⟩ := q'
  obtain ⟨-, q1⟩ := q
  rcases q2 with ⟨f, f1, rfl, f3⟩ | ⟨f1, rfl, -⟩
  · refine z0a ⟨_, rfl, ?_, hD1.rd p2, p2.on⟩
    rcases q1 with ⟨g, g1, g2, g3⟩ | ⟨g1, -⟩
    · rw [f1, Option.some.injEq] at g1
      rw [g3, f3, g1]
    · rw [f1] at g1; simp at g1
  · refine z1a ⟨_, rfl, ?_, hD1.rd p2, p2.on⟩
    rcases q1 with ⟨g, g1, g2, g3⟩ | ⟨g1, g2, -⟩
    · rw [f1] at g1; simp at g1
    · exact g2
end OPF
