/-! shower, both sides -/
section OPS3
variable {X : XS} {h : Hp} {L N n : Nat} {P W : RW} {K : Nat → RW} {T O : RW}
/-- the reference's lines done, and what follows -/
theorem r_lines (hD : DST P W K T O h) (hw : PWF P) {m : Nat} (hm : m ≤ 8) (hr : RowI n (T 1) P m h) (h14 : h.1 [1] 14 = nI m) {c : Int32} : ∀ (f i : Nat) (hh : Hp), i + f = m → RefP hh (plG n (T 1) P i) → Wk4 hh (plG n (T 1) P i) → DLs h hh → Rn X m_Rf_shower 12 [some (vR [1]), some (vI (nI i))] [] hh (fun v h' => ∃ r, v = some (vI r) ∧ r = nI m ∧ DST (plG n (T 1) P m) (Wst c) (KZ 1 (KZ 0 K)) (u2 T 0 0 0) O h' ∧ OnR h h') := by
  intro f
  induction f with
  | zero =>
    intro i hh hi hR hz hd
    have : i = m := by omega
    subst this
    have x14 : hh.1 [1] 14 = nI i := by rw [hd.2.1 14 (by omega) (by omega) (by omega)]; exact h14
    refine g_Rf_shower_12 _ _ _ (cT (by rw [x14]; exact nI_leI (by omega) (by omega) |>.mpr (Nat.le_refl _)) (callN r_begin (fun h3 q3 => ⟨_, rfl, ?_, ?_, ?_⟩)))
    · simp only [rd, List.cons.injEq, reduceCtorEq, and_false, false_and, if_false]
      rw [q3.1.at1]; simp only [rd, true_and]; rw [if_neg (by omega)]; exact x14
    · have d4 := hD.2.2.2
      have e1 : ∀ j, j ≠ 6 → h3.1 [1] j = hh.1 [1] j := fun j hj => by
        rw [q3.1.at1]; simp only [rd, true_and]; rw [if_neg hj]
      have ek : ∀ k, k ≠ 18 → h3.1 [k, 1] = hh.1 [k, 1] := fun k hk => by
        rw [q3.1.at (by simp; exact hk), hsI_other (by simp)]
      have fk : ∀ k, k ≠ 18 → k ≠ 21 → (hsI (hsI h3 [21, 1] 0 0) [21, 1] 1 0).1 [k, 1] = hh.1 [k, 1] := fun k h1 h2 => by
        rw [hsI_other (by simp; exact h2), hsI_other (by simp; exact h2), ek k h1]
      have f1 : ∀ j, j ≠ 6 → (hsI (hsI h3 [21, 1] 0 0) [21, 1] 1 0).1 [1] j = hh.1 [1] j := fun j hj => by
        rw [hsI_other (by simp), hsI_other (by simp), e1 j hj]
      have f2 : (hsI (hsI h3 [21, 1] 0 0) [21, 1] 1 0).2 = hh.2 := by
        show h3.2 = _; rw [q3.1.1]; rfl
      refine ⟨?_, ?_, ?_, fun k hk => ⟨?_, fun z => absurd (KZ_0 hk) z⟩, ?_, ?_, ?_, ?_⟩
      · unfold RefP
        rw [f1 0 (by omega), f1 1 (by omega), f1 3 (by omega), f2, fk 4 (by omega) (by omega), fk 5 (by omega) (by omega)]
        exact hR
      · unfold Wk4; rw [fk 4 (by omega) (by omega)]; exact hz
      · intro j hj
        rw [hsI_other (by simp), hsI_other (by simp), q3.2 j hj]; exact now_Wst.symm
      · rw [KZ_0 hk]
        have : k = 0 ∨ k = 1 := by omega
        rcases this with rfl | rfl <;> simp [rd]
      · rw [hsI_other (by simp), hsI_other (by simp), q3.1.at1]
        simp [rd, u2]
      · intro j hj
        rw [fk 7 (by omega) (by omega), hd.1 _ (by simp) (by simp) (by simp), d4.2.2.1 j hj]
        simp [u2]
      · rw [f1 25 (by omega), hd.2.1 25 (by omega) (by omega) (by omega)]; exact d4.2.2.2.1
      · rw [fk 26 (by omega) (by omega), hd.1 _ (by simp) (by simp) (by simp)]; exact d4.2.2.2.2
    · exact ((hd.on.tr (OnR.set rfl)).tr (OnR.ch q3.1)).tr ((OnR.set rfl).tr (OnR.set rfl))
  | succ f ih =>
    intro i hh hi hR hz hd
    have x14 : hh.1 [1] 14 = nI m := by rw [hd.2.1 14 (by omega) (by omega) (by omega)]; exact h14
    have x15 : hh.1 [15, 1] = h.1 [15, 1] := hd.1 _ (by simp) (by simp) (by simp)
    obtain ⟨g, r1, r2⟩ := hr i (by omega)
    refine g_Rf_shower_12 _ _ _ (cF (by rw [x14, nI_leI (by omega) (by omega)]; omega) ?_)
    rw [show (8 : Int32) = nI 8 from rfl, pk_mul, nI_add1]
    refine callN (r_doLine hR hz (plG_wf hw i (fun j hj => (hr j (by omega)).1)) (by omega) g (by rw [x15]; exact r1) (fun t ht => by rw [x15]; exact r2 t ht)) (fun h3 q3 => ?_)
    exact ih (i + 1) h3 (by omega) q3.1 q3.2.1 (hd.tr q3.2.2)
theorem op_shower (hI : Inv h) : PairI X m_Us_shower m_Rf_shower [] h := by
  obtain ⟨L, N, P, W, K, T, O, hC, hD, hF⟩ := id hI
  obtain ⟨n, hn, e0⟩ := hF.2.2.2.2.2.2.1
  have hw := hF.pl
  cases hg : (rdG n (T 1) P 8 0).1 with
  | some f =>
    refine ⟨fun r h1 => r = -4 ∧ TxI h h1, ?_, fun r h1 q => ?_⟩
    · apply e_Us_shower
      refine g_Us_shower_0 _ _ (c_read hC hw hn e0 (fun r h' q => ?_))
      obtain ⟨q0, q1⟩ := q
      rcases q1 with ⟨g, g1, g2, g3⟩ | ⟨g1, -⟩
      · rw [g3]
        exact ⟨fun z => absurd z (fun z => by have y := nI_pos' (n := g) (by omega); rw [z] at y; exact absurd y (by decide)), fun _ => ⟨_, rfl, rfl, q0⟩⟩
      · rw [hg] at g1; simp at g1
    · obtain ⟨q1, q2⟩ := q
      have hD1 := hD.on q2.on
      have hC1 := hC.ti q2
      refine ⟨fun r' h2 => r' = -4 ∧ DST P W K T O h2 ∧ OnR h1 h2, ?_, fun r' h2 q' => ⟨by rw [q1, q'.1], L, N, P, W, K, T, O, hC1.on q'.2.2, q'.2.1, hF⟩⟩
      apply e_Rf_shower
      refine g_Rf_shower_0 _ _ (callQ (r_read hD1 hn e0) (fun r' h2 q' => ?_))
      obtain ⟨p2, q2'⟩ := q'
      rcases q2' with ⟨f', f1, rfl, f3⟩ | ⟨f1, -⟩
      · exact z0b ⟨_, rfl, rfl, hD1.rd p2, p2.on⟩
      · rw [hg] at f1; simp at f1
  | none =>
    have hm : rdG n (T 1) P 8 0 = (none, (rdG n (T 1) P 8 0).2) := Prod.ext hg rfl
    obtain ⟨-, m8, gk⟩ := rdG_ok 8 0 _ hm
    generalize hM : (rdG n (T 1) P 8 0).2 = M at hm m8 gk
    have hwM : PWF (plG n (T 1) P M) := plG_wf hw M (fun j hj => gk j (by omega) hj)
    refine ⟨fun r h1 => r = nI M ∧ ∃ c, CST (plG n (T 1) P M) (Wst c) (KZ 1 (KZ 0 K)) (u2 T 0 0 0) O h1 ∧ OnC h h1, ?_, fun r h1 q => ?_⟩
    · apply e_Us_shower
      refine g_Us_shower_0 _ _ (c_read hC hw hn e0 (fun r h' q => ?_))
      obtain ⟨q0, q1⟩ := q
      rcases q1 with ⟨g, g1, -⟩ | ⟨-, rfl, g3, g4⟩
      · rw [hg] at g1; simp at g1
      · rw [hM] at g3 g4
        exact ⟨fun _ => c_rest (hC.ti q0) g4 hwM g3 (fun h2 c a b => ⟨_, rfl, rfl, c, a, q0.on.tr b⟩), fun z => absurd rfl z⟩
    · obtain ⟨q1, c, q2, q3⟩ := q
      have hD1 := hD.on q3
      refine ⟨fun r' h2 => r' = nI M ∧ DST (plG n (T 1) P M) (Wst c) (KZ 1 (KZ 0 K)) (u2 T 0 0 0) O h2 ∧ OnR h1 h2, ?_, fun r' h2 q' => ?_⟩
      · apply e_Rf_shower
        refine g_Rf_shower_0 _ _ (callQ (r_read hD1 hn e0) (fun r' h2 q' => ?_))
        obtain ⟨p2, q2'⟩ := q'
        rcases q2' with ⟨f', f1, -⟩ | ⟨-, rfl, f3, f4, f5⟩
        · rw [hg] at f1; simp at f1
        · rw [hM] at f3 f4 f5
          have hD2 := hD1.rd p2
          refine z1b ?_
          have hloop := r_lines (X := X) hD2 hw f3 f5 f4 (c := c) M 0 h2 (by omega) hD2.1 hD2.2.1 ⟨fun _ _ _ _ => rfl, fun _ _ _ _ => rfl, fun _ _ _ => rfl⟩
          exact hloop.mono (fun v h' q => by
            obtain ⟨r, a, b, c', d⟩ := q
            exact ⟨r, a, b, c', p2.on.tr d⟩)
      · obtain ⟨LM, NM, wM, b2, b10⟩ := id hwM
        refine ⟨by rw [q1, q'.1], LM, NM, _, _, _, _, _, q2.on q'.2.2, q'.2.1, wM, wf_Wst, tk_Wst, fun k hk z => absurd (KZ_0 hk) z, b2, b10, ⟨0, by omega, by simp [u2]; rfl⟩, hF.2.2.2.2.2.2.2⟩
end OPS3
