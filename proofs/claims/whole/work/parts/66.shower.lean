/-! shower -/
section OPS2
variable {X : XS} {h : Hp} {L N n : Nat} {P W : RW} {K : Nat → RW} {T O : RW}
theorem rdG_ok {T1 : Nat → Int32} : ∀ m k K', rdG n T1 P m k = (none, K') → k ≤ K' ∧ K' ≤ k + m ∧ ∀ j, k ≤ j → j < K' → gOK n T1 P j
  | 0, k, K', e => by rw [rdG] at e; simp at e
  | m + 1, k, K', e => by
    by_cases g : gOK n T1 P k
    · by_cases c : tkK n T1 (lnE n T1 (posG n T1 k)) = 0
      · rw [rdG_end g c] at e
        simp only [Prod.mk.injEq, true_and] at e
        subst e
        refine ⟨by omega, by omega, fun j h1 h2 => ?_⟩
        have : j = k := by omega
        subst this; exact g
      · by_cases s : sepP n T1 (lnE n T1 (posG n T1 k)) ∧ m ≠ 0
        · rw [rdG_go g s.1 s.2] at e
          obtain ⟨a, b, d⟩ := rdG_ok m (k + 1) K' e
          refine ⟨by omega, by omega, fun j h1 h2 => ?_⟩
          by_cases z : j = k
          · subst z; exact g
          · exact d j (by omega) h2
        · rw [rdG_bad g c s] at e; simp at e
    · rw [rdG_no g] at e; simp at e
theorem CST.pn {P' : RW} {h' : Hp} (s : CST P W K T O h) (q : PlPost [0, 0] h P' h') : CST P' W K T O h' := by
  obtain ⟨hq, c⟩ := q
  obtain ⟨c1, c2, c3, c4, c5, c6, c7⟩ := s
  refine ⟨hq, c2.ch c (by simp [Apart]), fun k hk => (c3 k hk).ch c (by simp [Apart]), ?_, ?_, ?_, ?_⟩
  · rw [c.2 _ (by simp) (by simp)]; exact c4
  · intro i hi; rw [c.2 _ (by simp) (by simp)]; exact c5 i hi
  · rw [c.2 _ (by simp) (by simp)]; exact c6
  · intro j hj i hi; rw [c.2 _ (by simp) (by simp)]; exact c7 j hj i hi
/-- nothing is kept at n -/
def KZ (n : Nat) (K : Nat → RW) : Nat → RW := fun k => if k = n then u2 (K k) 0 0 0 else K k
theorem CST.kz (s : CST P W K T O h) (hn : n < 2) : CST P W (KZ n K) T O (hsI h [n, 5, 0] 0 0) := by
  have cc : CH [n, 5, 0] h (hsI h [n, 5, 0] 0 0) := CH.set0
  obtain ⟨c1, c2, c3, c4, c5, c6, c7⟩ := s
  refine ⟨c1.ch cc (by simp [Apart]), c2.ch cc (by simp [Apart]), fun k hk => ?_, ?_, ?_, ?_, ?_⟩
  · unfold KZ
    by_cases e : k = n
    · subst e
      rw [if_pos rfl]; exact (c3 k hk).set0
    · rw [if_neg e]
      exact (c3 k hk).ch cc (by simp [Apart]; omega)
  · rw [cc.2 _ (by simp) (by simp)]; exact c4
  · intro i hi; rw [cc.2 _ (by simp) (by simp)]; exact c5 i hi
  · rw [cc.2 _ (by simp) (by simp)]; exact c6
  · intro j hj i hi; rw [cc.2 _ (by simp) (by simp)]; exact c7 j hj i hi
theorem KZ_0 {k : Nat} (hk : k < 2) : (KZ 1 (KZ 0 K)) k 0 0 = 0 := by
  have : k = 0 ∨ k = 1 := by omega
  rcases this with rfl | rfl <;> simp [KZ, u2]
theorem CST.e0 (s : CST P W K T O h) : CST P W K (u2 T 0 0 0) O (hsI h [2, 0] 2 0) := by
  refine s.io [2, 0] CH.set0 (by simp [Apart]) (by simp [Apart]) (fun k hk => by simp [Apart]) (by simp [rd, u2]) ?_ ?_ ?_
  · intro i hi; simp [rd, u2]; exact s.2.2.2.2.1 i hi
  · simp [rd]; exact s.2.2.2.2.2.1
  · intro j hj i hi; simp [rd]; exact s.2.2.2.2.2.2 j hj i hi
/-- the class's shower behind a text without a fault -/
theorem c_rest {P' : RW} {r0 : Int32} (hC : CST P W K T O h) (hP : PlanIs h [1, 0] P') (hw : PWF P') (h3 : h.1 [2, 0] 3 = r0) {Q : Option AV → Hp → Prop} (k : ∀ h' c, CST P' (Wst c) (KZ 1 (KZ 0 K)) (u2 T 0 0 0) O h' → OnC h h' → Q (some (vI r0)) h') : ∃ Q13, EvV X m_Pl_copyFrom [vR [0, 0], vR [1, 0]] h Q13 ∧ ∀ h12, Q13 h12 → ∃ Q17, EvV X m_Wk_clear [vR [3, 0]] h12 Q17 ∧ ∀ h16, Q17 h16 → Rn X m_Us_shower 49 [some (vR [0]), some (vI 0), none] [] h16 Q := by
  refine callN (c_copyPl ipl0 ipl1 (by simp [Apart]) hP hw.b2 hw.b3) (fun h4 q4 => callN (c_clear iwk3) (fun h5 q5 => ?_))
  have hC5 : CST P' (Wst (h4.1 [3, 0] 0)) K T O h5 := (hC.pn q4).wk q5.1 q5.2
  have o5 : OnC h h5 := (OnC.ch q4.2 rfl).tr (OnC.ch q5.2 rfl)
  have x3 : h5.1 [2, 0] 3 = r0 := by
    rw [q5.2.2 _ (by simp) (by simp), q4.2.2 _ (by simp) (by simp)]; exact h3
  have ka : ∀ (hh : Hp) (n : Nat), n < 2 → EvR X m_Us_keptAt [vR [0], vI (nI n)] hh (fun o h' => o = some [n, 5, 0] ∧ h' = hh) := by
    intro hh n hn
    apply e_Us_keptAt
    refine g_Us_keptAt_0 _ _ _ (cF (nI_pos (by omega)) (cF (show ¬ (2 : Int32) ≤ nI n from nI_ge hn (by decide)) ⟨vp_in_nI hn (by decide), _, rfl, ?_, rfl⟩))
    rw [ci (by omega)]
  refine g_Us_shower_49 _ _ _ (cF (by decide) ⟨_, ka h5 0 (by omega), fun o h6 q6 => ?_⟩)
  obtain ⟨rfl, rfl⟩ := q6
  refine ⟨fun z => by simp at z, fun p z => ?_⟩
  simp only [Option.some.injEq] at z
  subst z
  refine ⟨iwkk (by omega), ?_⟩
  have hC6 := hC5.kz (n := 0) (by omega)
  have o6 : OnC h (hsI h6 [0, 5, 0] 0 0) := o5.tr (OnC.set rfl)
  have y3 : (hsI h6 [0, 5, 0] 0 0).1 [2, 0] 3 = r0 := by rw [hsI_other (by simp)]; exact x3
  generalize hsI h6 [0, 5, 0] 0 0 = h7 at hC6 o6 y3 ⊢
  refine g_Us_shower_49 _ _ _ (cF (by decide) ⟨_, ka h7 1 (by omega), fun o h8 q8 => ?_⟩)
  obtain ⟨rfl, rfl⟩ := q8
  refine ⟨fun z => by simp at z, fun p z => ?_⟩
  simp only [Option.some.injEq] at z
  subst z
  refine ⟨iwkk (by omega), ?_⟩
  have hC8 := hC6.kz (n := 1) (by omega)
  have o8 : OnC h (hsI h8 [1, 5, 0] 0 0) := o6.tr (OnC.set rfl)
  have z3 : (hsI h8 [1, 5, 0] 0 0).1 [2, 0] 3 = r0 := by rw [hsI_other (by simp)]; exact y3
  generalize hsI h8 [1, 5, 0] 0 0 = h9 at hC8 o8 z3 ⊢
  refine g_Us_shower_49 _ _ _ (cT (by decide) (callQ (c_empty hC8.2.2.2.1) (fun r h10 q10 => ?_)))
  obtain ⟨-, rfl⟩ := q10
  have e3 : (hsI h9 [2, 0] 2 0).1 [2, 0] 3 = r0 := by simp [rd]; exact z3
  rw [e3]
  exact k _ _ hC8.e0 (o8.tr (OnC.set rfl))
/-- one line done by the reference -/
theorem r_doLine {T1 : Nat → Int32} {i w : Nat} (hR : RefP h P) (hz : Wk4 h P) (hw : PWF P) (h8 : w + 8 ≤ 64) (ok : lnOK n T1 i (P 0 0) (P 0 1)) (k0 : h.1 [15, 1] w = nI (wK n T1 i)) (kv : ∀ t, t < cntG (wK n T1 i) → h.1 [15, 1] (w + 1 + t) = vNu n T1 (tkE n T1 i) t) : EvV X m_Rf_doLine [vR [1], vI (nI w)] h (DLp (lnS n T1 i P) h) := by
  obtain ⟨L, N, ⟨w0, w1, l1, l2, n1, n2, wk⟩, -, -⟩ := hw
  obtain ⟨h5, ok⟩ := ok
  unfold lnS
  unfold lnB at ok
  generalize wK n T1 i = kd at h5 ok k0 kv ⊢
  generalize tkE n T1 i = p at ok kv ⊢
  have ov : ∀ k a m, k < cntG kd → (bdG kd (P 0 0) (P 0 1) (vNu n T1 p 0) k).1 = nI a → (bdG kd (P 0 0) (P 0 1) (vNu n T1 p 0) k).2 = nI m → m < 2 ^ 31 → a < 2 ^ 31 → ∃ j : Nat, a ≤ j ∧ j ≤ m ∧ vNu n T1 p k = nI j := fun k a m hk e1 e2 hm ha => ok_rng (ok k hk) e1 e2 hm ha
  have hk5 : kd = 0 ∨ kd = 1 ∨ kd = 2 ∨ kd = 3 ∨ kd = 4 := by omega
  rcases hk5 with rfl | rfl | rfl | rfl | rfl
  · have e0 : h.1 [15, 1] (w + 1) = vNu n T1 p 0 := kv 0 (by decide)
    have e1 : h.1 [15, 1] (w + 2) = vNu n T1 p 1 := kv 1 (by decide)
    have q := r_line0 (X := X) hR hz h8 k0
    rw [e0, e1] at q
    exact q
  · obtain ⟨a, a1, a2, ea⟩ := ov 0 0 (N - 1) (by decide) rfl (by show P 0 1 - 1 = _; rw [w1]; exact pk_sub n1) (by omega) (by omega)
    obtain ⟨b, b1, b2, eb⟩ := ov 1 0 (L - 1) (by decide) rfl (by show P 0 0 - 1 = _; rw [w0]; exact pk_sub l1) (by omega) (by omega)
    have e0 : h.1 [15, 1] (w + 1) = nI a := (kv 0 (by decide)).trans ea
    have e1 : h.1 [15, 1] (w + 2) = nI b := (kv 1 (by decide)).trans eb
    rw [doS1, ea, eb, ci (by omega), ci (by omega)]
    exact r_line1 hR hz h8 k0 e0 e1 (by omega)
  · obtain ⟨a, a1, a2, ea⟩ := ov 0 0 5 (by decide) rfl rfl (by omega) (by omega)
    have e0 : h.1 [15, 1] (w + 1) = nI a := (kv 0 (by decide)).trans ea
    have q := r_line2 (X := X) hR hz h8 k0 e0 (by omega)
    have e : welcomeS a (fun j => h.1 [15, 1] (w + 2 + j)) P = doS 2 (vNu n T1 p) P := by
      rw [doS2, ea, ci (by omega)]
      funext x y
      unfold welcomeS
      by_cases z : y = a ∧ 4 ≤ x ∧ x ≤ 9
      · have ez := kv (x - 4 + 1) (by show x - 4 + 1 < 7; omega)
        rw [show w + 1 + (x - 4 + 1) = w + 2 + (x - 4) by omega] at ez
        rw [if_neg (by omega), if_pos z, if_neg (by omega), if_pos z]
        exact ez
      · rw [if_neg z, if_neg z]
    rw [e] at q
    exact q
  · obtain ⟨a, a1, a2, ea⟩ := ov 0 0 5 (by decide) rfl rfl (by omega) (by omega)
    have e0 : h.1 [15, 1] (w + 1) = nI a := (kv 0 (by decide)).trans ea
    rw [doS3, ea, ci (by omega)]
    exact r_line3 hR hz h8 k0 e0 (by omega)
  · obtain ⟨a, a1, a2, ea⟩ := ov 0 0 59 (by decide) rfl rfl (by omega) (by omega)
    obtain ⟨b, b1, b2, eb⟩ := ov 1 a 59 (by decide) ea rfl (by omega) (by omega)
    have e0 : h.1 [15, 1] (w + 1) = nI a := (kv 0 (by decide)).trans ea
    have e1 : h.1 [15, 1] (w + 2) = nI b := (kv 1 (by decide)).trans eb
    have e2 : h.1 [15, 1] (w + 3) = vNu n T1 p 2 := kv 2 (by decide)
    have q := r_line4 (X := X) hR hz h8 k0 e0 e1 (by omega) (by omega)
    rw [e2] at q
    rw [doS4, ea, eb, ci (by omega), ci (by omega)]
    exact q
theorem DLs.tr {a b c : Hp} (h1 : DLs a b) (h2 : DLs b c) : DLs a c := ⟨fun q x y z => (h2.1 q x y z).trans (h1.1 q x y z), fun j x y z => (h2.2.1 j x y z).trans (h1.2.1 j x y z), fun q j x => (h2.2.2 q j x).trans (h1.2.2 q j x)⟩
theorem DLs.on {h h' : Hp} (p : DLs h h') : OnR h h' := fun q hq => p.1 q (fun z => by rw [z] at hq; simp at hq) (fun z => by rw [z] at hq; simp at hq) (fun z => by rw [z] at hq; simp at hq)
end OPS2
