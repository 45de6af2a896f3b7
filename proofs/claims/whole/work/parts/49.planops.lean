/-! what a line does on a plan: the class -/
def layS (l n : Int32) (P : RW) : RW := fun a b => if a = 0 ∧ b = 0 then l else if a = 0 ∧ b = 1 then n else if a = 2 then 0 else if a = 3 then 0 else P a b
def coverS (c : Nat) (P : RW) : RW := u2 P 2 c 1
def forgetS (k : Nat) (P : RW) : RW := u2 P 3 k 0
def pourS (a b : Nat) (v : Int32) (P : RW) : RW := fun x t => if x = 10 ∧ a ≤ t ∧ t ≤ b then v else P x t
def welcomeS (k : Nat) (f : Nat → Int32) (P : RW) : RW := fun a b => if b = k ∧ a = 3 then 1 else if b = k ∧ 4 ≤ a ∧ a ≤ 9 then f (a - 4) else P a b
section PLO
variable {X : XS} {h : Hp} {p : List Nat} {P : RW}
theorem c_lay (hp : IsPl p) (hP : PlanIs h p P) (l n : Int32) : EvV X m_Pl_lay [vR p, vI l, vI n] h (PlPost p h (layS l n P)) := by
  have ne4 : ∀ k : Nat, (p = k :: p) = False := fun k => by simp
  apply e_Pl_lay
  apply g_Pl_lay_0 _ _ _ _ _ hp
  have lpB : ∀ (m i : Nat) (hh : Hp), i + m = 6 → CH p h hh → (∀ j, j < 2 → hh.1 p j = layS l n P 0 j) → (∀ j, j < 48 → hh.1 (2 :: p) j = 0) → (∀ j, j < i → hh.1 (3 :: p) j = 0) → (∀ k, 4 ≤ k → hh.1 (k :: p) = h.1 (k :: p)) → Rn X m_Pl_lay 33 [some (vR p), some (vI l), some (vI n), some (vI (nI i))] [] hh (fun v h' => v = none ∧ PlPost p h (layS l n P) h') := by
    intro m
    induction m with
    | zero =>
      intro i hh hi hc h0 h2 h3 hk
      have : i = 6 := by omega
      subst this
      refine g_Pl_lay_33 _ _ _ _ _ _ hp (cT e6 ⟨rfl, ⟨h0, fun j hj => ?_, fun k a b j hj => ?_, fun j hj => ?_⟩, hc⟩)
      · rw [h2 j hj]; rfl
      · by_cases e : k = 3
        · subst e; rw [h3 j hj]; rfl
        · rw [hk k (by omega), hP.2.2.1 k a b j hj]; unfold layS; grind
      · rw [hk 10 (by omega), hP.2.2.2 j hj]; rfl
    | succ m ih =>
      intro i hh hi hc h0 h2 h3 hk
      have hi6 : i < 6 := by omega
      refine g_Pl_lay_33 _ _ _ _ _ _ hp (cF (n6 hi6) ⟨v6 hi6, ?_⟩)
      rw [nI_add1, ci (by omega)]
      refine ih (i + 1) _ (by omega) (hc.tr CH.set) (fun j hj => ?_) (fun j hj => ?_) (fun j hj => ?_) (fun k hk' => ?_)
      · simp only [rd, ne4, false_and, if_false]; exact h0 j hj
      · simp only [rd, List.cons.injEq, and_true]; rw [if_neg (by omega)]; exact h2 j hj
      · have e := h3 j
        simp only [rd, true_and]; grind
      · rw [hsI_other (by simp; omega)]; exact hk k hk'
  have lpA : ∀ (m i : Nat) (hh : Hp), i + m = 48 → CH p h hh → (∀ j, j < 2 → hh.1 p j = layS l n P 0 j) → (∀ j, j < i → hh.1 (2 :: p) j = 0) → (∀ k, 3 ≤ k → hh.1 (k :: p) = h.1 (k :: p)) → Rn X m_Pl_lay 12 [some (vR p), some (vI l), some (vI n), some (vI (nI i))] [] hh (fun v h' => v = none ∧ PlPost p h (layS l n P) h') := by
    intro m
    induction m with
    | zero =>
      intro i hh hi hc h0 h2 hk
      have : i = 48 := by omega
      subst this
      exact g_Pl_lay_12 _ _ _ _ _ _ hp (cT (by decide) (lpB 6 0 hh rfl hc h0 h2 (fun j hj => by omega) (fun k hk' => hk k (by omega))))
    | succ m ih =>
      intro i hh hi hc h0 h2 hk
      have hi6 : i < 48 := by omega
      refine g_Pl_lay_12 _ _ _ _ _ _ hp (cF (n48 hi6) ⟨vp_in_nI hi6 (by decide), ?_⟩)
      rw [nI_add1, ci (by omega)]
      refine ih (i + 1) _ (by omega) (hc.tr CH.set) (fun j hj => ?_) (fun j hj => ?_) (fun k hk' => ?_)
      · simp only [rd, ne4, false_and, if_false]; exact h0 j hj
      · have e := h2 j
        simp only [rd, true_and]; grind
      · rw [hsI_other (by simp; omega)]; exact hk k hk'
  refine lpA 48 0 _ rfl (CH.set0.tr CH.set0) (fun j hj => ?_) (fun j hj => by omega) (fun k hk' => ?_)
  · have : j = 0 ∨ j = 1 := by omega
    rcases this with rfl | rfl <;> simp [rd, layS]
  · rw [hsI_other (by simp), hsI_other (by simp)]
theorem PlanIs.set {k i : Nat} {v : Int32} (hP : PlanIs h p P) (hk : 2 ≤ k) : PlanIs (hsI h (k :: p) i v) p (u2 P k i v) := by
  obtain ⟨p1, p2, p3, p4⟩ := hP
  refine ⟨fun j hj => ?_, fun j hj => ?_, fun a h1 h2 j hj => ?_, fun j hj => ?_⟩
  · rw [hsI_other (fun z => cons_ne_self' z.symm), p1 j hj]
    unfold u2; rw [if_neg (by omega)]
  · simp only [rd, List.cons.injEq, and_true]
    unfold u2; rw [p2 j hj]
  · simp only [rd, List.cons.injEq, and_true]
    unfold u2; rw [p3 a h1 h2 j hj]
  · simp only [rd, List.cons.injEq, and_true]
    unfold u2; rw [p4 j hj]
theorem c_cover (hp : IsPl p) (hP : PlanIs h p P) {c : Nat} (hc : c < 48) (hh : cellHas P (nI c)) : EvV X m_Pl_cover [vR p, vI (nI c)] h (PlPost p h (coverS c P)) := by
  apply e_Pl_cover
  refine g_Pl_cover_0 _ _ _ _ hp (callB (s_hasCell hp hP (nI c)) (fun _ => z1a ⟨vp_in_nI hc (by decide), rfl, ?_, CH.set⟩) (fun z => absurd hh z))
  rw [ci (by omega)]
  exact hP.set (by omega)
theorem c_forget (hp : IsPl p) (hP : PlanIs h p P) (hb : ∀ k, k < 6 → P 3 k = 0 ∨ P 3 k = 1) {k : Nat} (hk : k < 6) : EvV X m_Pl_forget [vR p, vI (nI k)] h (fun h' => (∀ a b, ¬ (a = 3 ∧ b = k) → forgetS k P a b = P a b) ∧ PlanIs h' p (forgetS k P) ∧ CH p h h') := by
  have hf : ∀ a b, ¬ (a = 3 ∧ b = k) → forgetS k P a b = P a b := fun a b z => by unfold forgetS u2; rw [if_neg z]
  apply e_Pl_forget
  refine g_Pl_forget_0 _ _ _ _ hp (callB (c_hasWalker hp hP (nI k)) (fun _ => z1a ⟨v6 hk, rfl, hf, ?_, CH.set⟩) (fun z => z0a ⟨rfl, hf, ?_, CH.rf⟩))
  · rw [ci (by omega)]
    exact hP.set (by omega)
  · have z3 : P 3 k = 0 := by
      rcases hb k hk with y | y
      · exact y
      · exact absurd ⟨nI_pos' (by omega), by rw [show (6 : Int32) = nI 6 from rfl]; exact nI_lt hk (by decide), by rw [ci (by omega), y]; decide⟩ z
    have e : forgetS k P = P := by
      funext a b
      by_cases y : a = 3 ∧ b = k
      · rw [y.1, y.2, z3]; unfold forgetS u2; simp
      · exact hf a b y
    rw [e]; exact hP
theorem c_pourPl (hp : IsPl p) (hP : PlanIs h p P) {a b : Nat} (hb : b < 60) (ha : a < 60) (v : Int32) : EvV X m_Pl_pour [vR p, vI (nI a), vI (nI b), vI v] h (PlPost p h (pourS a b v P)) := by
  apply e_Pl_pour
  apply g_Pl_pour_0 _ _ _ _ _ _ hp
  rw [show iMax 0 (nI a) = nI a from by
    have h0 : (0 : Int32) ≤ nI a := nI_pos' (by omega)
    unfold iMax; grind]
  have fin : ∀ (t : Nat) (hh : Hp), b < t → PlanIs hh p (fun x y => if x = 10 ∧ a ≤ y ∧ y < t ∧ y ≤ b then v else P x y) → CH p h hh → PlPost p h (pourS a b v P) hh := by
    intro t hh ht hq hc
    have e : (fun x y => if x = 10 ∧ a ≤ y ∧ y < t ∧ y ≤ b then v else P x y) = pourS a b v P := by
      funext x y; unfold pourS
      by_cases z : x = 10 ∧ a ≤ y ∧ y ≤ b
      · rw [if_pos z, if_pos ⟨z.1, z.2.1, by omega, z.2.2⟩]
      · rw [if_neg z, if_neg (fun w => z ⟨w.1, w.2.1, w.2.2.2⟩)]
    rw [e] at hq
    exact ⟨hq, hc⟩
  have lp : ∀ (m t : Nat) (hh : Hp), t + m = 60 → a ≤ t → PlanIs hh p (fun x y => if x = 10 ∧ a ≤ y ∧ y < t ∧ y ≤ b then v else P x y) → CH p h hh → Rn X m_Pl_pour 7 [some (vR p), some (vI (nI a)), some (vI (nI b)), some (vI v), some (vI (nI t))] [] hh (fun w h' => w = none ∧ PlPost p h (pourS a b v P) h') := by
    intro m
    induction m with
    | zero =>
      intro t hh ht hat hq hc
      have : t = 60 := by omega
      subst this
      exact g_Pl_pour_7 _ _ _ _ _ _ _ hp (cT (nI_lt (by omega) (by omega)) ⟨rfl, fin 60 hh (by omega) hq hc⟩)
    | succ m ih =>
      intro t hh ht hat hq hc
      refine g_Pl_pour_7 _ _ _ _ _ _ _ hp ⟨fun c => ⟨rfl, fin t hh ((nI_ltI (by omega) (by omega)).mp c) hq hc⟩, fun c => cF (n60 (by omega)) ⟨vp_in_nI (by omega) (by decide), ?_⟩⟩
      rw [nI_add1, ci (k := t) (by omega)]
      rw [nI_ltI (by omega) (by omega)] at c
      refine ih (t + 1) _ (by omega) (by omega) ?_ (hc.tr CH.set)
      have q := hq.set (k := 10) (i := t) (v := v) (by omega)
      have e : u2 (fun x y => if x = 10 ∧ a ≤ y ∧ y < t ∧ y ≤ b then v else P x y) 10 t v = (fun x y => if x = 10 ∧ a ≤ y ∧ y < t + 1 ∧ y ≤ b then v else P x y) := by
        funext x y; unfold u2
        by_cases z : x = 10 ∧ y = t
        · rw [if_pos z, if_pos ⟨z.1, by omega, by omega, by omega⟩]
        · rw [if_neg z]
          show (if x = 10 ∧ a ≤ y ∧ y < t ∧ y ≤ b then v else P x y) = if x = 10 ∧ a ≤ y ∧ y < t + 1 ∧ y ≤ b then v else P x y
          by_cases w : x = 10 ∧ a ≤ y ∧ y < t ∧ y ≤ b
          · rw [if_pos w, if_pos ⟨w.1, w.2.1, by omega, w.2.2.2⟩]
          · rw [if_neg w, if_neg (fun u => w ⟨u.1, u.2.1, by omega, u.2.2.2⟩)]
      rw [e] at q
      exact q
  refine lp (60 - a) a h (by omega) (Nat.le_refl _) ?_ CH.rf
  have e : (fun x y => if x = 10 ∧ a ≤ y ∧ y < a ∧ y ≤ b then v else P x y) = P := by
    funext x y; rw [if_neg (by omega)]
  rw [e]; exact hP
theorem w7 (j : Nat) (h : j < 7) : vp_in (nI j) 7 := vp_in_nI h (by decide)
theorem c_welcome (hp : IsPl p) (hne : ∀ k, ([1, 2, 0] : List Nat) ≠ k :: p) (hP : PlanIs h p P) {F : Nat → Int32} {k : Nat} (hk : k < 6) (h0 : F 0 = nI k) (hF : ∀ j, j < 7 → h.1 [1, 2, 0] j = F j) : EvV X m_Pl_welcome [vR p, vR [1, 2, 0]] h (PlPost p h (welcomeS k (fun j => F (j + 1)) P)) := by
  have ne : ∀ k, (([1, 2, 0] : List Nat) = k :: p) = False := fun k => eq_false (hne k)
  apply e_Pl_welcome
  refine g_Pl_welcome_0 _ _ 7 _ _ hp (by decide) (cF (by decide) ⟨w7 0 (by decide), ?_⟩)
  simp only [rd, ne, false_and, if_false]
  rw [hF 0 (by omega), hF 1 (by omega), hF 2 (by omega), hF 3 (by omega), hF 4 (by omega), hF 5 (by omega), hF 6 (by omega), h0, ci (by omega)]
  refine cF (nI_pos (by omega)) ⟨w7 0 (by decide), cT (by rw [show (6 : Int32) = nI 6 from rfl]; exact nI_lt hk (by decide)) ⟨w7 0 (by decide), v6 hk, w7 1 (by decide), v6 hk, w7 2 (by decide), v6 hk, w7 3 (by decide), v6 hk, w7 4 (by decide), v6 hk, w7 5 (by decide), v6 hk, w7 6 (by decide), v6 hk, trivial, ?_, (((((CH.set.tr CH.set).tr CH.set).tr CH.set).tr CH.set).tr CH.set).tr CH.set⟩⟩
  have q := ((((((hP.set (k := 3) (i := k) (v := 1) (by omega)).set (k := 4) (i := k) (v := F 1) (by omega)).set (k := 5) (i := k) (v := F 2) (by omega)).set (k := 6) (i := k) (v := F 3) (by omega)).set (k := 7) (i := k) (v := F 4) (by omega)).set (k := 8) (i := k) (v := F 5) (by omega)).set (k := 9) (i := k) (v := F 6) (by omega)
  have e : u2 (u2 (u2 (u2 (u2 (u2 (u2 P 3 k 1) 4 k (F 1)) 5 k (F 2)) 6 k (F 3)) 7 k (F 4)) 8 k (F 5)) 9 k (F 6) = welcomeS k (fun j => F (j + 1)) P := by
    funext a b
    unfold u2 welcomeS
    by_cases y : b = k
    · subst y
      by_cases z : 3 ≤ a ∧ a ≤ 9
      · have : a = 3 ∨ a = 4 ∨ a = 5 ∨ a = 6 ∨ a = 7 ∨ a = 8 ∨ a = 9 := by omega
        rcases this with rfl | rfl | rfl | rfl | rfl | rfl | rfl <;> simp
      · rw [if_neg (by omega), if_neg (by omega), if_neg (by omega), if_neg (by omega), if_neg (by omega), if_neg (by omega), if_neg (by omega), if_neg (by omega), if_neg (by omega)]
    · simp [y]
  rw [e] at q
  exact q
end PLO
