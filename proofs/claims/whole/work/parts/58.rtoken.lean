/-! the reference's token: words as numbers -/
def hN (d : Nat → Nat) : Nat → Nat
  | 0 => 0
  | m + 1 => 27 * hN d m + d m
theorem hN_lt {d : Nat → Nat} : ∀ m, (∀ j, j < m → d j ≤ 26) → hN d m < 27 ^ m
  | 0, _ => by rw [hN]; omega
  | m + 1, hd => by
    have h1 := hN_lt m (fun j hj => hd j (by omega))
    have h2 := hd m (by omega)
    rw [hN, Nat.pow_succ]; omega
theorem hN_pos {d : Nat → Nat} {m : Nat} (hm : 0 < m) (hd : ∀ j, j < m → 1 ≤ d j) : 0 < hN d m := by
  cases m with
  | zero => omega
  | succ m =>
    have := hd m (by omega)
    rw [hN]; omega
theorem hN_inj {d e : Nat → Nat} : ∀ m k, (∀ j, j < m → 1 ≤ d j ∧ d j ≤ 26) → (∀ j, j < k → 1 ≤ e j ∧ e j ≤ 26) → hN d m = hN e k → m = k ∧ ∀ j, j < m → d j = e j
  | 0, 0, _, _, _ => ⟨rfl, fun j hj => by omega⟩
  | 0, k + 1, _, he, h => by
    have := hN_pos (d := e) (m := k + 1) (by omega) (fun j hj => (he j hj).1)
    rw [← h, hN] at this; omega
  | m + 1, 0, hd, _, h => by
    have := hN_pos (d := d) (m := m + 1) (by omega) (fun j hj => (hd j hj).1)
    rw [h, hN] at this; omega
  | m + 1, k + 1, hd, he, h => by
    rw [hN, hN] at h
    have h1 := hd m (by omega)
    have h2 := he k (by omega)
    have hq : hN d m = hN e k := by omega
    have hr : d m = e k := by omega
    obtain ⟨hm, ht⟩ := hN_inj m k (fun j hj => hd j (by omega)) (fun j hj => he j (by omega)) hq
    subst hm
    refine ⟨rfl, fun j hj => ?_⟩
    by_cases z : j = m
    · subst z; exact hr
    · exact ht j (by omega)
def hS (T : Nat → Int32) (f : Nat) : Nat → Int64
  | 0 => 0
  | m + 1 => if m < 9 then 27 * hS T f m + (T (f + m)).toInt64 - 96 else -4
def dgT (T : Nat → Int32) (f j : Nat) : Nat := (T (f + j)).toNatClampNeg - 96
theorem kind1 {b : Int32} : kindS b = 1 ↔ 97 ≤ b ∧ b ≤ 122 := by
  unfold kindS
  constructor
  · intro h
    split at h
    · assumption
    · split at h
      · exact absurd h (by decide)
      · exact absurd h (by decide)
  · intro h; rw [if_pos h]
theorem kind2 {b : Int32} : kindS b = 2 ↔ 48 ≤ b ∧ b ≤ 57 := by
  unfold kindS
  constructor
  · intro h
    split at h
    · exact absurd h (by decide)
    · split at h
      · assumption
      · exact absurd h (by decide)
  · intro h; rw [if_neg (by grind), if_pos h]
theorem kind123 (b : Int32) : kindS b = 1 ∨ kindS b = 2 ∨ kindS b = 3 := by
  unfold kindS
  split
  · exact Or.inl rfl
  · split
    · exact Or.inr (Or.inl rfl)
    · exact Or.inr (Or.inr rfl)
theorem letter {b : Int32} (h : kindS b = 1) : ∃ c : Nat, 97 ≤ c ∧ c ≤ 122 ∧ b = nI c := by
  obtain ⟨h1, h2⟩ := kind1.mp h
  obtain ⟨j, hj, e⟩ := nI_of (x := b) (by grind)
  subst e
  exact ⟨j, (nI_leI (a := 97) (by omega) hj).mp h1, (nI_leI (b := 122) hj (by omega)).mp h2, rfl⟩
theorem dg_rng {T : Nat → Int32} {f m : Nat} (hl : ∀ j, j < m → kindS (T (f + j)) = 1) : ∀ j, j < m → 1 ≤ dgT T f j ∧ dgT T f j ≤ 26 := by
  intro j hj
  obtain ⟨c, c1, c2, e⟩ := letter (hl j hj)
  unfold dgT
  rw [e, ci (by omega)]; omega
theorem hS_eq {T : Nat → Int32} {f : Nat} : ∀ m, m ≤ 9 → (∀ j, j < m → kindS (T (f + j)) = 1) → hS T f m = lN (hN (dgT T f) m)
  | 0, _, _ => rfl
  | m + 1, hm, hl => by
    have ih := hS_eq m (by omega) (fun j hj => hl j (by omega))
    obtain ⟨c, c1, c2, e⟩ := letter (hl m (by omega))
    have ed : dgT T f m = c - 96 := by unfold dgT; rw [e, ci (by omega)]
    rw [hS, if_pos (by omega), ih, e, nI_l (by omega), show (27 : Int64) = lN 27 from rfl, show (96 : Int64) = lN 96 from rfl, lN_mul, lN_add, lN_sub (by omega), hN, ed]
    congr 1; omega
theorem hS_big {T : Nat → Int32} {f m : Nat} (h : 9 < m) : hS T f m = -4 := by
  cases m with
  | zero => omega
  | succ m => rw [hS, if_neg (by omega)]
theorem lN_I {a : Nat} (h : a < 2 ^ 63) : (lN a).toInt = a := lg_ofNat_toInt h
theorem lN_inj {a b : Nat} (ha : a < 2 ^ 63) (hb : b < 2 ^ 63) (h : lN a = lN b) : a = b := by
  have := congrArg Int64.toInt h
  rw [lN_I ha, lN_I hb] at this; omega
theorem lN_nneg {a : Nat} (ha : a < 2 ^ 63) : lN a ≠ -1 ∧ lN a ≠ -2 ∧ lN a ≠ -3 := by
  refine ⟨fun h => ?_, fun h => ?_, fun h => ?_⟩
  · have e := congrArg Int64.toInt h
    rw [lN_I ha, show (-1 : Int64).toInt = -1 from by decide] at e; omega
  · have e := congrArg Int64.toInt h
    rw [lN_I ha, show (-2 : Int64).toInt = -2 from by decide] at e; omega
  · have e := congrArg Int64.toInt h
    rw [lN_I ha, show (-3 : Int64).toInt = -3 from by decide] at e; omega
/-- the words as numbers -/
def wC (k : Nat) : Int64 := [283616147, 26854558, 330800670, 149099, 355280].getD k 0
theorem wC_eq : ∀ k, k < 5 → wC k = lN (hN (fun j => (sCh k j).toNatClampNeg - 96) (sLen.getD k 0)) ∧ hN (fun j => (sCh k j).toNatClampNeg - 96) (sLen.getD k 0) < 7625597484987 ∧ ∀ j, j < sLen.getD k 0 → 97 ≤ (sCh k j).toNatClampNeg ∧ (sCh k j).toNatClampNeg ≤ 122 ∧ nI (sCh k j).toNatClampNeg = sCh k j := by decide +kernel
theorem wC_ne : ∀ k, k < 5 → wC k ≠ -1 ∧ wC k ≠ -2 ∧ wC k ≠ -3 ∧ wC k ≠ -4 := by decide +kernel
theorem hN_9 {T : Nat → Int32} {f m : Nat} (h9 : m ≤ 9) (hl : ∀ j, j < m → kindS (T (f + j)) = 1) : hN (dgT T f) m < 7625597484987 := by
  have h1 := hN_lt m (fun j hj => (dg_rng hl j hj).2)
  have h2 : (27 : Nat) ^ m ≤ 27 ^ 9 := Nat.pow_le_pow_right (by decide) h9
  have h3 : (27 : Nat) ^ 9 = 7625597484987 := by decide +kernel
  rw [h3] at h2
  exact Nat.lt_of_lt_of_le h1 h2
theorem lt63 {a : Nat} (h : a < 7625597484987) : a < 2 ^ 63 := by omega
theorem hS_wordA {T : Nat → Int32} {f m k : Nat} (hk : k < 5) (hl : ∀ j, j < m → kindS (T (f + j)) = 1) (h9 : m ≤ 9) (h : lN (hN (dgT T f) m) = lN (hN (fun j => (sCh k j).toNatClampNeg - 96) (sLen.getD k 0))) : m = sLen.getD k 0 ∧ ∀ j, j < sLen.getD k 0 → T (f + j) = sCh k j := by
  have w3 := (wC_eq k hk).2.2
  have hi := lN_inj (lt63 (hN_9 h9 hl)) (lt63 (wC_eq k hk).2.1) h
  have hr : ∀ j, j < sLen.getD k 0 → 1 ≤ (sCh k j).toNatClampNeg - 96 ∧ (sCh k j).toNatClampNeg - 96 ≤ 26 := fun j hj => by
    have := w3 j hj
    omega
  obtain ⟨e, q⟩ := hN_inj m (sLen.getD k 0) (dg_rng hl) hr hi
  refine ⟨e, fun j hj => ?_⟩
  have q1 : (T (f + j)).toNatClampNeg - 96 = (sCh k j).toNatClampNeg - 96 := q j (by omega)
  obtain ⟨c, c1, c2, ec⟩ := letter (hl j (by omega))
  rw [ec, ci (by omega)] at q1
  obtain ⟨x1, x2, x3⟩ := w3 j hj
  rw [ec, ← x3, show c = (sCh k j).toNatClampNeg by omega]
theorem hS_wordB {T : Nat → Int32} {f k : Nat} (q : ∀ j, j < sLen.getD k 0 → T (f + j) = sCh k j) : ∀ m', m' ≤ sLen.getD k 0 → hN (dgT T f) m' = hN (fun j => (sCh k j).toNatClampNeg - 96) m' := by
  intro m'
  induction m' with
  | zero => intro _; rw [hN, hN]
  | succ m' ih =>
    intro hm
    rw [hN, hN, ih (by omega)]
    have : dgT T f m' = (sCh k m').toNatClampNeg - 96 := by unfold dgT; rw [q m' (by omega)]
    rw [this]
theorem hS_word {T : Nat → Int32} {f m k : Nat} (hk : k < 5) (hl : ∀ j, j < m → kindS (T (f + j)) = 1) : hS T f m = wC k ↔ m = sLen.getD k 0 ∧ ∀ j, j < sLen.getD k 0 → T (f + j) = sCh k j := by
  by_cases h9 : m ≤ 9
  · rw [hS_eq m h9 hl, (wC_eq k hk).1]
    refine ⟨fun h => hS_wordA hk hl h9 h, fun z => ?_⟩
    rw [z.1, hS_wordB z.2 _ (Nat.le_refl _)]
  · rw [hS_big (by omega)]
    have sl := sLen_le k hk
    exact ⟨fun h => absurd h.symm (wC_ne k hk).2.2.2, fun h => by omega⟩
