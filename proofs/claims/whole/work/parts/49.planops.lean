/-! what a line does on a plan: the class -/
def layS (l n : Int32) (P : RW) : RW := fun a b => if a = 0 ∧ b = 0 then l else if a = 0 ∧ b = 1 then n else if a = 2 then 0 else if a = 3 then 0 else P a b
def coverS (c : Nat) (P : RW) : RW := u2 P 2 c 1
def forgetS (k : Nat) (P : RW) : RW := u2 P 3 k 0
def pourS (a b : Nat) (v : Int32) (P : RW) : RW := fun x t => if x = 10 ∧ a ≤ t ∧ t ≤ b then v else P x t
def welcomeS (k : Nat) (f : Nat → Int32) (P : RW) : RW := fun a b => if b = k ∧ a = 3 then 1 else if b = k ∧ 4 ≤ a ∧ a ≤ 9 then f (a - 4) else P a b
section PLO
variable {X : XS} {h : Hp} {p : List Nat} {P : RW}
theorem c_lay (hp : IsPl p) (hP : PlanIs h p P) (l n : Int32) : EvV X m_Pl_lay [vR p, vI l, vI n] h (PlPost p h (layS l n P)) := by
  have ne4 : ∀ k : Nat, (p = k :: p) = False := fun k => by simp
  apply e_Pl_lay
  apply g_Pl_lay_0 _ _ _ _ _ hp
  have lpB : ∀ (m i : Nat) (hh : Hp), i + m = 6 → CH p h hh → (∀ j, j < 2 → hh.1 p j = layS l n P 0 j) → (∀ j, j < 48 → hh.1 (2 :: p) j = 0) → (∀ j, j < i → hh.1 (3 :: p) j = 0) → (∀ k, 4 ≤ k → hh.1 (k :: p) = h.1 (k :: p)) → Rn X m_Pl_lay 33 [some (vR p), some (vI l), some (vI n), some (vI (nI i))] [] hh (fun v h' => v = none ∧ PlPost p h (layS l n P) h') := by
    intro m
    induction m with
    | zero =>
      intro i hh hi hc h0 h2 h3 hk
      have : i = 6 := by omega
      subst this
      refine g_Pl_lay_33 _ _ _ _ _ _ hp (cT e6 ⟨rfl, ⟨h0, fun j hj => ?_, fun k a b j hj => ?_, fun j hj => ?_⟩, hc⟩)
      · rw [h2 j hj]; rfl
      · by_cases e : k = 3
        · subst e; rw [h3 j hj]; rfl
        · rw [hk k (by omega), hP.2.2.1 k a b j hj]; unfold layS; grind
      · rw [hk 10 (by omega), hP.2.2.2 j hj]; rfl
    | succ m ih =>
      intro i hh hi hc h0 h2 h3 hk
      have hi6 : i < 6 := by omega
      refine g_Pl_lay_33 _ _ _ _ _ _ hp (cF (n6 hi6) ⟨v6 hi6, ?_⟩)
      rw [nI_add1, ci (by omega)]
      refine ih (i + 1) _ (by omega) (hc.tr CH.set) (fun j hj => ?_) (fun j hj => ?_) (fun j hj => ?_) (fun k hk' => ?_)
      · simp only [rd, ne4, false_and, if_false]; exact h0 j hj
      · simp only [rd, List.cons.injEq, and_true]; rw [if_neg (by omega)]; exact h2 j hj
      · have e := h3 j
        simp only [rd, true_and]; grind
      · rw [hsI_other (by simp; omega)]; exact hk k hk'
  have lpA : ∀ (m i : Nat) (hh : Hp), i + m = 48 → CH p h hh → (∀ j, j < 2 → hh.1 p j = layS l n P 0 j) → (∀ j, j < i → hh.1 (2 :: p) j = 0) → (∀ k, 3 ≤ k → hh.1 (k :: p) = h.1 (k :: p)) → Rn X m_Pl_lay 12 [some (vR p), some (vI l), some (vI n), some (vI (nI i))] [] hh (fun v h' => v = none ∧ PlPost p h (layS l n P) h') := by
    intro m
    induction m with
    | zero =>
      intro i hh hi hc h0 h2 hk
      have : i = 48 := by omega
      subst this
      exact g_Pl_lay_12 _ _ _ _ _ _ hp (cT (by decide) (lpB 6 0 hh rfl hc h0 h2 (fun j hj => by omega) (fun k hk' => hk k (by omega))))
    | succ m ih =>
      intro i hh hi hc h0 h2 hk
      have hi6 : i < 48 := by omega
      refine g_Pl_lay_12 _ _ _ _ _ _ hp (cF (n48 hi6) ⟨vp_in_nI hi6 (by decide), ?_⟩)
      rw [nI_add1, ci (by omega)]
      refine ih (i + 1) _ (by omega) (hc.tr CH.set) (fun j hj => ?_) (fun j hj => ?_) (fun k hk' => ?_)
      · simp only [rd, ne4, false_and, if_false]; exact h0 j hj
      · have e := h2 j
        simp only [rd, true_and]; grind
      · rw [hsI_other (by simp; omega)]; exact hk k hk'
  refine lpA 48 0 _ rfl (CH.set0.tr CH.set0) (fun j hj => ?_) (fun j hj => by omega) (fun k hk' => ?_)
  · have : j = 0 ∨ j = 1 := by omega
    rcases this with rfl | rfl <;> simp [rd, layS]
  · rw [hsI_other (by simp), hsI_other (by simp)]
theorem PlanIs.set {k i : Nat} {v : Int32} (hP : PlanIs h p P) (hk : 2 ≤ k) : PlanIs (hsI h (k :: p) i v) p (u2 P k i v) := by
  obtain ⟨p1, p2, p3, p4⟩ := hP
  refine ⟨fun j hj => ?_, fun j hj => ?_, fun a h1 h2 j hj => ?_, fun j hj => ?_⟩
  · rw [hsI_other (fun z => cons_ne_self' z.symm), p1 j hj]
    unfold u2; rw [if_neg (by omega)]
  · simp only [rd, List.cons.injEq, and_true]
    unfold u2; rw [p2 j hj]
  · simp only [rd, List.cons.injEq, and_true]
    unfold u2; rw [p3 a h1 h2 j hj]
  · simp only [rd, List.cons.injEq, and_true]
    unfold u2; rw [p4 j hj]
theorem c_cover (hp : IsPl p) (hP : PlanIs h p P) {c : Nat} (hc : c < 48) (hh : cellHas P (nI c)) : EvV X m_Pl_cover [vR p, vI (nI c)] h (PlPost p h (coverS c P)) := by
  apply e_Pl_cover
  refine g_Pl_cover_0 _ _ _ _ hp (callB (s_hasCell hp hP (nI c)) (fun _ => z1a ⟨vp_in_nI hc (by decide), rfl, ?_, CH.set⟩) (fun z => absurd hh z))
  rw [ci (by omega)]
  exact hP.set (by omega)
theorem c_forget (hp : IsPl p) (hP : PlanIs h p P) (hb : ∀ k, k < 6 → P 3 k = 0 ∨ P 3 k = 1) {k : Nat} (hk : k < 6) : EvV X m_Pl_forget [vR p, vI (nI k)] h (fun h' => (∀ a b, ¬ (a = 3 ∧ b = k) → forgetS k P a b = P a b) ∧ PlanIs h' p (forgetS k P) ∧ CH p h h') := by
  have hf : ∀ a b, ¬ (a = 3 ∧ b = k) → forgetS k P a b = P a b := fun a b z => by unfold forgetS u2; rw [if_neg z]
  apply e_Pl_forget
  refine g_Pl_forget_0 _ _ _ _ hp (callB (c_hasWalker hp hP (nI k)) (fun _ => z1a ⟨v6 hk, rfl, hf, ?_, CH.set⟩) (fun z => z0a ⟨rfl, hf, ?_, CH.rf⟩))
  · rw [ci (by omega)]
    exact hP.set (by omega)
  · have z3 : P 3 k = 0 := by
      rcases hb k hk with y | y
      · exact y
      · exact absurd ⟨nI_pos' (by omega), by rw [show (6 : Int32) = nI 6 from rfl]; exact nI_lt hk (by decide), by rw [ci (by omega), y]; decide⟩ z
    have e : forgetS k P = P := by
      funext a b
      by_cases y : a = 3 ∧ b = k
      · rw [y.1, y.2, z3]; unfold forgetS u2; simp
      · exact hf a b y
    rw [e]; exact hP
end PLO
