/-! write -/
def byteS (s : Int64) (i : Nat) : Int32 := ((lShr s (8 * nI i)) &&& 255).toInt32
def wrS (T : RW) (s : Int64) (n0 i : Nat) : RW := fun a b => if a = 0 ∧ b = 0 then nI (n0 + i) else if a = 1 ∧ n0 ≤ b ∧ b < n0 + i then byteS s (b - n0) else T a b
section WR
variable {X : XS} {h : Hp} {L N : Nat} {P W : RW} {K : Nat → RW} {T O : RW}
theorem wrS_at {s : Int64} {n0 i : Nat} : (wrS T s n0 i) 0 0 = nI (n0 + i) := by unfold wrS; rw [if_pos ⟨rfl, rfl⟩]
theorem wrS_0 {s : Int64} {n0 : Nat} (e : T 0 0 = nI n0) : wrS T s n0 0 = T := by
  funext a b; unfold wrS
  by_cases z : a = 0 ∧ b = 0
  · rw [if_pos z, z.1, z.2, e]; rfl
  · rw [if_neg z, if_neg (by omega)]
theorem wrS_s {s : Int64} {n0 i j : Nat} : (if j = n0 + i then byteS s i else (wrS T s n0 i) 1 j) = (wrS T s n0 (i + 1)) 1 j := by
  unfold wrS
  simp only [show ¬ ((1 : Nat) = 0 ∧ j = 0) from by omega, if_false, true_and]
  by_cases z : j = n0 + i
  · subst z
    rw [if_pos rfl, if_pos (by omega), show n0 + i - n0 = i by omega]
  · rw [if_neg z]
    by_cases y : n0 ≤ j ∧ j < n0 + i
    · rw [if_pos y, if_pos (by omega)]
    · rw [if_neg y, if_neg (by omega)]
theorem c_append (hC : CST P W K T O h) {s : Int64} {n0 n : Nat} (e0 : T 0 0 = nI n0) (hn : n0 + n ≤ 200) : ∀ (m i : Nat) (hh : Hp), i + m = n → CST P W K (wrS T s n0 i) O hh → OnC h hh → Rn X m_Tx_append 17 [some (vR [2, 0]), some (vL s), none, some (vI (nI n)), some (vI (nI i))] [] hh (fun v h' => ∃ r, v = some (vI r) ∧ r = 1 ∧ CST P W K (wrS T s n0 n) O h' ∧ OnC h h') := by
  intro m
  induction m with
  | zero =>
    intro i hh hi hc ho
    have : i = n := by omega
    subst this
    exact g_Tx_append_17 _ _ _ _ _ (cT (nI_leI (by omega) (by omega) |>.mpr (Nat.le_refl _)) ⟨_, rfl, rfl, hc, ho⟩)
  | succ m ih =>
    intro i hh hi hc ho
    refine g_Tx_append_17 _ _ _ _ _ (cF (fun z => absurd ((nI_leI (by omega) (by omega)).mp z) (by omega)) ?_)
    have e1 : hh.1 [2, 0] 2 = nI (n0 + i) := by rw [hc.2.2.2.1, wrS_at]
    simp only [rd]
    rw [if_neg (by simp), e1, nI_add1, nI_add1, ci (by omega)]
    refine cF (show ¬ (200 : Int32) ≤ nI (n0 + i) from by rw [show (200 : Int32) = nI 200 from rfl]; exact nI_ge (by omega) (by decide)) ⟨vp_in_nI (by omega) (by decide), ?_⟩
    have b1 : ((lShr s (8 * nI i)) &&& 255).toInt32 = byteS s i := rfl
    rw [b1]
    have hc1 : CST P W K (wrS T s n0 i) O (hsI hh [0, 2, 0] (n0 + i) (byteS s i)) → True := fun _ => trivial
    refine ih (i + 1) _ (by omega) ?_ (ho.tr ((OnC.set rfl).tr (OnC.set rfl)))
    have cc : CH [2, 0] hh (hsI (hsI hh [0, 2, 0] (n0 + i) (byteS s i)) [2, 0] 2 (nI (n0 + i + 1))) := CH.set.tr CH.set0
    refine hc.io [2, 0] cc (by simp [Apart]) (by simp [Apart]) (fun k hk => by simp [Apart]) ?_ ?_ ?_ ?_
    · rw [wrS_at]; simp [rd]; rfl
    · intro j hj
      rw [← wrS_s]
      simp only [rd, List.cons.injEq, true_and, show (0 = 2) = False from by simp, false_and, if_false]
      rw [hc.2.2.2.2.1 j hj]
    · rw [cc.2 _ (by simp) (by simp)]; exact hc.2.2.2.2.2.1
    · intro j hj i hi; rw [cc.2 _ (by simp) (by simp)]; exact hc.2.2.2.2.2.2 j hj i hi
theorem r_write {h1 : Hp} (hD : DST P W K T O h1) {s : Int64} {n0 n : Nat} (e0 : T 0 0 = nI n0) (hn : n0 + n ≤ 200) : ∀ (m i : Nat) (hh : Hp), i + m = n → CHr [7] h1 hh → (∀ j, j < 200 → hh.1 [7, 1] j = (wrS T s n0 i) 1 j) → Rn X m_Rf_write 31 [some (vR [1]), some (vL s), none, some (vI (nI n)), some (vI (nI i))] [] hh (fun v h' => ∃ r, v = some (vI r) ∧ r = nI (n0 + n) ∧ DST P W K (wrS T s n0 n) O h' ∧ OnR h1 h') := by
  intro m
  induction m with
  | zero =>
    intro i hh hi hc ht
    have : i = n := by omega
    subst this
    refine g_Rf_write_31 _ _ _ _ _ (cT (nI_leI (by omega) (by omega) |>.mpr (Nat.le_refl _)) ⟨_, rfl, ?_, ?_, (OnR.ch hc).tr (OnR.set rfl)⟩)
    · simp [rd]; rw [hc.at1, hD.2.2.2.2.1, e0, nI_add]
    · refine hD.io (fun j hj => ?_) ?_ (fun k hk => ?_) ?_ ?_ ?_ ?_
      · simp only [rd, true_and]; rw [if_neg (by omega), hc.at1]
      · show hh.2 [1] 2 = _; rw [hc.1]
      · rw [hsI_other (by simp), hc.at (by simp; omega)]
      · simp only [rd, true_and, if_true]; rw [hc.at1, hD.2.2.2.2.1, e0, nI_add, wrS_at]
      · intro j hj; rw [hsI_other (by simp)]; exact ht j hj
      · simp only [rd, true_and]; rw [if_neg (by omega), hc.at1]; exact hD.2.2.2.2.2.2.1
      · intro j hj i hi; rw [hsI_other (by simp), hc.at (by decide)]; exact hD.2.2.2.2.2.2.2 j hj i hi
  | succ m ih =>
    intro i hh hi hc ht
    refine g_Rf_write_31 _ _ _ _ _ (cF (fun z => absurd ((nI_leI (by omega) (by omega)).mp z) (by omega)) ?_)
    have e1 : hh.1 [1] 6 + nI i = nI (n0 + i) := by rw [hc.at1, hD.2.2.2.2.1, e0, nI_add]
    rw [e1, nI_add1, ci (by omega)]
    have b1 : ((lShr s (8 * nI i)) &&& 255).toInt32 = byteS s i := rfl
    rw [b1]
    refine ⟨vp_in_nI (by omega) (by decide), ih (i + 1) _ (by omega) (hc.tr (CHr.set (by simp))) (fun j hj => ?_)⟩
    rw [← wrS_s]
    simp only [rd, true_and]
    rw [ht j hj]
theorem op_write (hI : Inv h) (s : Int64) (a : Int32) : PairI X m_Us_write m_Rf_write [vL s, vI a] h := by
  obtain ⟨L, N, P, W, K, T, O, hC, hD, hF⟩ := id hI
  obtain ⟨n0, hn0, e0⟩ := hF.2.2.2.2.2.2.1
  by_cases c : 1 ≤ a ∧ a ≤ 8
  · obtain ⟨n, hn1, hn, rfl⟩ := nI_rng1 (x := a) (n := 8) c.1 c.2 (by decide)
    have le : ((h.1 [2, 0] 2) + nI n ≤ 200) ↔ n0 + n ≤ 200 := by
      rw [hC.2.2.2.1, e0, nI_add, show (200 : Int32) = nI 200 from rfl, nI_leI (by omega) (by decide)]
    by_cases z : n0 + n ≤ 200
    · refine ⟨fun r h' => r = nI (n0 + n) ∧ CST P W K (wrS T s n0 n) O h' ∧ OnC h h', ?_, fun r h1 q => ?_⟩
      · apply e_Us_write
        refine g_Us_write_0 _ _ _ _ (callB (s_isNotIn (nI n) 1 8 h) (fun y => absurd c y) (fun _ => z0a (callQ (Q0 := fun r h' => r = 1 ∧ CST P W K (wrS T s n0 n) O h' ∧ OnC h h') ?_ (fun r h' q => ?_))))
        · apply e_Tx_append
          refine g_Tx_append_0 _ _ _ _ (cT (le.mpr z) (c_append (h := h) hC e0 z n 0 h (by omega) (by rw [wrS_0 e0]; exact hC) OnC.rf))
        · rw [q.1]
          refine z1a ⟨_, rfl, ?_, q.2⟩
          rw [q.2.1.2.2.2.1, wrS_at]
      · obtain ⟨q1, q2, q3⟩ := q
        have hD1 := hD.on q3
        refine ⟨fun r h' => r = nI (n0 + n) ∧ DST P W K (wrS T s n0 n) O h' ∧ OnR h1 h', ?_, fun r' h2 q' => ⟨by rw [q1, q'.1], L, N, P, W, K, _, O, q2.on q'.2.2, q'.2.1, hF.1, hF.2.1, hF.2.2.1, hF.2.2.2.1, hF.2.2.2.2.1, hF.2.2.2.2.2.1, ⟨n0 + n, z, wrS_at⟩, hF.2.2.2.2.2.2.2⟩⟩
        apply e_Rf_write
        refine g_Rf_write_0 _ _ _ _ (callB (s_in (nI n) 1 8 h1) (fun _ => z1b (cT ?_ ?_)) (fun y => absurd c y))
        · rw [hD1.2.2.2.2.1, e0, nI_add, show (200 : Int32) = nI 200 from rfl, nI_leI (by omega) (by decide)]; exact z
        · exact r_write (h1 := h1) hD1 e0 z n 0 h1 (by omega) CHr.rf (by rw [wrS_0 e0]; exact hD1.2.2.2.2.2.1)
    · refine pairSame (f := -5) hI ?_ ?_
      · apply e_Us_write
        refine g_Us_write_0 _ _ _ _ (callB (s_isNotIn (nI n) 1 8 h) (fun y => absurd c y) (fun _ => z0a (callP (f := 0) ?_ (z0a ⟨_, rfl, rfl, rfl⟩))))
        apply e_Tx_append
        exact g_Tx_append_0 _ _ _ _ (cF (fun y => z (le.mp y)) ⟨_, rfl, rfl, rfl⟩)
      · apply e_Rf_write
        refine g_Rf_write_0 _ _ _ _ (callB (s_in (nI n) 1 8 h) (fun _ => z1b (cF ?_ ⟨_, rfl, rfl, rfl⟩)) (fun y => absurd c y))
        rw [hD.2.2.2.2.1, e0, nI_add, show (200 : Int32) = nI 200 from rfl, nI_leI (by omega) (by decide)]; exact z
  · refine pairSame (f := -3) hI ?_ ?_
    · apply e_Us_write
      exact g_Us_write_0 _ _ _ _ (callB (s_isNotIn a 1 8 h) (fun _ => z1a ⟨_, rfl, rfl, rfl⟩) (fun z => absurd c z))
    · apply e_Rf_write
      exact g_Rf_write_0 _ _ _ _ (callB (s_in a 1 8 h) (fun z => absurd z c) (fun _ => z0b ⟨_, rfl, rfl, rfl⟩))
end WR
