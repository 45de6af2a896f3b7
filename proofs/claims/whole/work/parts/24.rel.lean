/-! what the heap holds: plans and walks as functions of field and place -/
abbrev RW : Type := Nat → Nat → Int32
def u2 (W : RW) (k i : Nat) (v : Int32) : RW := fun a b => if a = k ∧ b = i then v else W a b
def PlanIs (h : Hp) (p : List Nat) (P : RW) : Prop := (∀ i, i < 2 → h.1 p i = P 0 i) ∧ (∀ i, i < 48 → h.1 (2 :: p) i = P 2 i) ∧ (∀ k, 3 ≤ k → k < 10 → ∀ i, i < 6 → h.1 (k :: p) i = P k i) ∧ ∀ i, i < 60 → h.1 (10 :: p) i = P 10 i
def WalkIs (h : Hp) (w : List Nat) (W : RW) : Prop := (∀ i, i < 3 → h.1 w i = W 0 i) ∧ ∀ k, 3 ≤ k → k < 8 → ∀ i, i < 6 → h.1 (k :: w) i = W k i
/-- only the object w and its arrays have changed, and no long -/
def CH (w : List Nat) (h h' : Hp) : Prop := h'.2 = h.2 ∧ ∀ q, q ≠ w → (∀ k, q ≠ k :: w) → h'.1 q = h.1 q
def Apart (w p : List Nat) : Prop := p ≠ w ∧ (∀ k, p ≠ k :: w) ∧ ∀ k, w ≠ k :: p
theorem CH.rf {w : List Nat} {h : Hp} : CH w h h := ⟨rfl, fun _ _ _ => rfl⟩
theorem CH.tr {w : List Nat} {a b c : Hp} (h1 : CH w a b) (h2 : CH w b c) : CH w a c := ⟨h2.1.trans h1.1, fun q x y => (h2.2 q x y).trans (h1.2 q x y)⟩
theorem CH.set {w : List Nat} {h : Hp} {k i : Nat} {v : Int32} : CH w h (hsI h (k :: w) i v) := ⟨rfl, fun q _ hq => hsI_other (hq k)⟩
theorem CH.set0 {w : List Nat} {h : Hp} {i : Nat} {v : Int32} : CH w h (hsI h w i v) := ⟨rfl, fun q hq _ => hsI_other hq⟩
theorem PlanIs.ch {h h' : Hp} {p w : List Nat} {P : RW} (hP : PlanIs h p P) (c : CH w h h') (ap : Apart w p) : PlanIs h' p P := by
  obtain ⟨a1, a2, a3⟩ := ap
  have e0 : h'.1 p = h.1 p := c.2 p a1 a2
  have ek : ∀ k, h'.1 (k :: p) = h.1 (k :: p) := fun k => c.2 _ (fun z => a3 k z.symm) (fun j z => by
    rw [List.cons.injEq] at z; exact a1 z.2)
  obtain ⟨p1, p2, p3, p4⟩ := hP
  exact ⟨fun i hi => by rw [e0]; exact p1 i hi, fun i hi => by rw [ek]; exact p2 i hi, fun k h1 h2 i hi => by rw [ek]; exact p3 k h1 h2 i hi, fun i hi => by rw [ek]; exact p4 i hi⟩
theorem WalkIs.ch {h h' : Hp} {p w : List Nat} {P : RW} (hP : WalkIs h p P) (c : CH w h h') (ap : Apart w p) : WalkIs h' p P := by
  obtain ⟨a1, a2, a3⟩ := ap
  have e0 : h'.1 p = h.1 p := c.2 p a1 a2
  have ek : ∀ k, h'.1 (k :: p) = h.1 (k :: p) := fun k => c.2 _ (fun z => a3 k z.symm) (fun j z => by
    rw [List.cons.injEq] at z; exact a1 z.2)
  exact ⟨fun i hi => by rw [e0]; exact hP.1 i hi, fun k h1 h2 i hi => by rw [ek]; exact hP.2 k h1 h2 i hi⟩
theorem cons_ne_self' {k : Nat} {w : List Nat} : k :: w ≠ w := by
  intro z
  have := congrArg List.length z
  simp at this
theorem WalkIs.set {h : Hp} {w : List Nat} {W : RW} {k i : Nat} {v : Int32} (hW : WalkIs h w W) (hk : 3 ≤ k) : WalkIs (hsI h (k :: w) i v) w (u2 W k i v) := by
  refine ⟨fun j hj => ?_, fun a h1 h2 j hj => ?_⟩
  · rw [hsI_other (fun z => cons_ne_self' z.symm)]
    unfold u2
    rw [if_neg (by omega)]
    exact hW.1 j hj
  · show (if a :: w = k :: w ∧ j = i then v else h.1 (a :: w) j) = if a = k ∧ j = i then v else W a j
    rw [hW.2 a h1 h2 j hj]
    by_cases e : a = k
    · subst e; simp
    · simp [e]
theorem WalkIs.set0 {h : Hp} {w : List Nat} {W : RW} {i : Nat} {v : Int32} (hW : WalkIs h w W) : WalkIs (hsI h w i v) w (u2 W 0 i v) := by
  refine ⟨fun j hj => ?_, fun a h1 h2 j hj => ?_⟩
  · show (if w = w ∧ j = i then v else h.1 w j) = if 0 = 0 ∧ j = i then v else W 0 j
    rw [hW.1 j hj]; simp
  · rw [hsI_other cons_ne_self']
    unfold u2
    rw [if_neg (by omega)]
    exact hW.2 a h1 h2 j hj
/-- places of six -/
theorem n6 {k : Nat} (h : k < 6) : ¬ (6 : Int32) ≤ nI k := by rw [show (6 : Int32) = nI 6 from rfl]; exact nI_ge h (by decide)
theorem e6 : (6 : Int32) ≤ nI 6 := by decide
theorem ci {k : Nat} (h : k < 2 ^ 31) : (nI k).toNatClampNeg = k := nI_clamp h
theorem v6 {k : Nat} (h : k < 6) : vp_in (nI k) 6 := vp_in_nI h (by decide)
theorem itr_lt {k : Nat} (h : k < 6) : k < 2 ^ 31 := by omega
def itr {α : Type} (f : Nat → α → α) : Nat → α → α
  | 0, x => x
  | n + 1, x => f n (itr f n x)
theorem itr_s {α : Type} {f : Nat → α → α} {n : Nat} {x : α} : itr f (n + 1) x = f n (itr f n x) := rfl
theorem itr_0 {α : Type} {f : Nat → α → α} {x : α} : itr f 0 x = x := rfl
