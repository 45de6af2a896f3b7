/-! a stop: the rain's spec -/
def kk (O : RW) (i : Nat) : Nat := 8 * (O 3 i).toNatClampNeg + i
abbrev ovS (O : RW) (i x : Nat) : Prop := iAbs (O 1 i - nI x) < O 2 i
def topG (S : Nat → Bool) (f : Nat → Nat) : Nat → Option Nat
  | 0 => none
  | m + 1 => match topG S f m with
    | none => if S m then some m else none
    | some b => if S m && decide (f b < f m) then some m else some b
def toI : Option Nat → Int32
  | none => -1
  | some i => nI i
theorem top_some {S : Nat → Bool} {f : Nat → Nat} : ∀ n i, topG S f n = some i → i < n ∧ S i = true ∧ ∀ j, j < n → S j = true → f j ≤ f i
  | 0, i, h => by simp [topG] at h
  | n + 1, i, h => by
    rw [topG] at h
    cases e : topG S f n with
    | none =>
      rw [e] at h
      simp only at h
      have hn : ∀ j, j < n → S j = true → False := by
        intro j hj hs
        have := top_none' n e j hj
        rw [hs] at this; exact absurd this (by decide)
      by_cases z : S n = true
      · rw [if_pos z] at h
        simp only [Option.some.injEq] at h
        subst h
        refine ⟨by omega, z, fun j hj hs => ?_⟩
        by_cases y : j = n
        · subst y; omega
        · exact absurd (hn j (by omega) hs) id
      · rw [if_neg z] at h; simp at h
    | some b =>
      rw [e] at h
      simp only at h
      obtain ⟨b1, b2, b3⟩ := top_some n b e
      by_cases z : (S n && decide (f b < f n)) = true
      · rw [if_pos z] at h
        simp only [Option.some.injEq] at h
        subst h
        simp only [Bool.and_eq_true, decide_eq_true_eq] at z
        refine ⟨by omega, z.1, fun j hj hs => ?_⟩
        by_cases y : j = n
        · subst y; omega
        · have := b3 j (by omega) hs; omega
      · rw [if_neg z] at h
        simp only [Option.some.injEq] at h
        subst h
        simp only [Bool.and_eq_true, decide_eq_true_eq, not_and] at z
        refine ⟨by omega, b2, fun j hj hs => ?_⟩
        by_cases y : j = n
        · subst y; have := z hs; omega
        · exact b3 j (by omega) hs
where top_none' {S : Nat → Bool} {f : Nat → Nat} : ∀ n, topG S f n = none → ∀ j, j < n → S j = false
  | 0, _, j, hj => absurd hj (by omega)
  | n + 1, h, j, hj => by
    rw [topG] at h
    cases e : topG S f n with
    | none =>
      rw [e] at h
      simp only at h
      by_cases z : S n = true
      · rw [if_pos z] at h; simp at h
      · by_cases y : j = n
        · subst y; exact Bool.eq_false_iff.mpr z
        · exact top_none' n e j (by omega)
    | some b =>
      rw [e] at h
      simp only at h
      split at h <;> simp at h
theorem top_none {S : Nat → Bool} {f : Nat → Nat} {n : Nat} (h : topG S f n = none) : ∀ j, j < n → S j = false := top_some.top_none' n h
theorem top_congr {S S' : Nat → Bool} {f : Nat → Nat} : ∀ n, (∀ j, j < n → S j = S' j) → topG S f n = topG S' f n
  | 0, _ => rfl
  | n + 1, h => by
    rw [topG, topG, top_congr n (fun j hj => h j (by omega)), h n (by omega)]
def cntB (S : Nat → Bool) : Nat → Nat
  | 0 => 0
  | m + 1 => cntB S m + (if S m then 1 else 0)
theorem cntB_le {S : Nat → Bool} : ∀ n, cntB S n ≤ n
  | 0 => Nat.le_refl _
  | n + 1 => by have := cntB_le (S := S) n; rw [cntB]; split <;> omega
theorem cntB_0 {S : Nat → Bool} : ∀ n, cntB S n = 0 → ∀ j, j < n → S j = false
  | 0, _, j, hj => absurd hj (by omega)
  | n + 1, h, j, hj => by
    rw [cntB] at h
    by_cases y : j = n
    · subst y
      cases e : S j with
      | false => rfl
      | true => rw [e] at h; simp at h
    · exact cntB_0 n (by omega) j (by omega)
theorem cntB_all {S : Nat → Bool} : ∀ n, (∀ j, j < n → S j = false) → cntB S n = 0
  | 0, _ => rfl
  | n + 1, h => by rw [cntB, cntB_all n (fun j hj => h j (by omega)), h n (by omega)]; rfl
theorem cntB_full {S : Nat → Bool} : ∀ n, (∀ j, j < n → S j = true) → cntB S n = n
  | 0, _ => rfl
  | n + 1, h => by rw [cntB, cntB_full n (fun j hj => h j (by omega)), h n (by omega)]; rfl
theorem cntB_same {S S' : Nat → Bool} : ∀ n, (∀ j, j < n → S j = S' j) → cntB S n = cntB S' n
  | 0, _ => rfl
  | n + 1, h => by rw [cntB, cntB, cntB_same n (fun j hj => h j (by omega)), h n (by omega)]
theorem cntB_1 {S S' : Nat → Bool} {i : Nat} (hs : S i = true) (hs' : S' i = false) : ∀ n, i < n → (∀ j, j < n → j ≠ i → S j = S' j) → cntB S n = cntB S' n + 1
  | 0, h, _ => absurd h (by omega)
  | n + 1, h, he => by
    rw [cntB, cntB]
    by_cases y : i = n
    · subst y
      rw [cntB_same i (fun j hj => he j (by omega) (by omega)), hs, hs']; rfl
    · rw [cntB_1 hs hs' n (by omega) (fun j hj hn => he j (by omega) hn), he n (by omega) (fun z => y z.symm)]; omega
/-- water falls at x, below the bound b -/
def dropS (O : RW) (n x : Nat) (amt : Int32) (b : Nat) (R : RW) : RW := match topG (fun i => decide (ovS O i x) && decide (kk O i < b)) (kk O) n with
  | none => u2 R 1 x (R 1 x + amt)
  | some i => u2 R 0 i (R 0 i + amt)
def dropX (O : RW) (n : Nat) (x amt : Int32) (b : Nat) (R : RW) : RW := if 0 ≤ x ∧ x < 20 then dropS O n x.toNatClampNeg amt b R else R
def flowS (O : RW) (n i : Nat) (R : RW) : RW := dropX O n (O 1 i + O 2 i) (R 0 i / 2) (kk O i) (dropX O n (O 1 i - O 2 i) (R 0 i - R 0 i / 2) (kk O i) R)
def keyG (O : RW) (v : Nat) : Nat → Option Nat
  | 0 => none
  | m + 1 => if kk O m = v then some m else keyG O v m
def rainV (O : RW) (n : Nat) : Nat → RW → RW
  | 0, R => R
  | v + 1, R => match keyG O v n with
    | none => rainV O n v R
    | some i => rainV O n v (flowS O n i R)
def R00 : RW := fun _ _ => 0
def skyS (O : RW) (n : Nat) : RW := itr (fun x R => dropS O n x 1024 80 R) 20 R00
def allS (O : RW) (n : Nat) : RW := rainV O n 80 (skyS O n)
def rowOK (O : RW) (n : Nat) : Prop := n ≤ 8 ∧ O 0 0 = nI n ∧ ∀ i, i < n → (∃ a, a < 20 ∧ O 1 i = nI a) ∧ (∃ s, s ≤ 3 ∧ O 2 i = nI s) ∧ ∃ e, e ≤ 9 ∧ O 3 i = nI e
section RAI
variable {O : RW} {n : Nat}
theorem kk_lt (hO : rowOK O n) {i : Nat} (hi : i < n) : kk O i < 80 := by
  obtain ⟨e, he, ee⟩ := (hO.2.2 i hi).2.2
  unfold kk
  rw [ee, ci (by omega)]
  have := hO.1
  omega
theorem kk_inj (hO : rowOK O n) {i j : Nat} (hi : i < n) (hj : j < n) (h : kk O i = kk O j) : i = j := by
  have := hO.1
  unfold kk at h
  omega
theorem kk_lower (hO : rowOK O n) {i j : Nat} (hi : i < n) (hj : j < n) : (O 3 i < O 3 j ∨ (O 3 i = O 3 j ∧ i < j)) ↔ kk O i < kk O j := by
  obtain ⟨e, he, ee⟩ := (hO.2.2 i hi).2.2
  obtain ⟨d, hd, ed⟩ := (hO.2.2 j hj).2.2
  have := hO.1
  unfold kk
  rw [ee, ed, ci (by omega), ci (by omega), nI_ltI (by omega) (by omega), nI_eq (by omega) (by omega)]
  omega
theorem keyG_some {v : Nat} : ∀ n i, keyG O v n = some i → i < n ∧ kk O i = v
  | 0, i, h => by simp [keyG] at h
  | n + 1, i, h => by
    rw [keyG] at h
    by_cases z : kk O n = v
    · rw [if_pos z] at h
      simp only [Option.some.injEq] at h
      subst h; exact ⟨by omega, z⟩
    · rw [if_neg z] at h
      have := keyG_some n i h
      exact ⟨by omega, this.2⟩
theorem keyG_none {v : Nat} : ∀ n, keyG O v n = none → ∀ i, i < n → kk O i ≠ v
  | 0, _, i, hi => absurd hi (by omega)
  | n + 1, h, i, hi => by
    rw [keyG] at h
    by_cases z : kk O n = v
    · rw [if_pos z] at h; simp at h
    · rw [if_neg z] at h
      by_cases y : i = n
      · subst y; exact z
      · exact keyG_none n h i (by omega)
theorem rain_skip {R : RW} : ∀ v w, w ≤ v → (∀ i, i < n → w ≤ kk O i → kk O i < v → flowS O n i R = R) → rainV O n v R = rainV O n w R
  | 0, w, hw, _ => by rw [show w = 0 by omega]
  | v + 1, w, hw, h => by
    by_cases e : w = v + 1
    · rw [e]
    · have ih := rain_skip v w (by omega) (fun i hi a b => h i hi a (by omega))
      rw [rainV]
      cases z : keyG O v n with
      | none => exact ih
      | some i =>
        have := keyG_some n i z
        simp only
        rw [h i this.1 (by omega) (by omega)]
        exact ih
theorem rain_at (hO : rowOK O n) {R : RW} {i : Nat} (hi : i < n) : rainV O n (kk O i + 1) R = rainV O n (kk O i) (flowS O n i R) := by
  rw [rainV]
  cases z : keyG O (kk O i) n with
  | none => exact absurd rfl (keyG_none n z i hi)
  | some j =>
    have := keyG_some n j z
    have e := kk_inj hO this.1 hi this.2
    subst e
    rfl
/-- umbrellas of no size hold no water -/
def noW (O : RW) (n : Nat) (R : RW) : Prop := ∀ i, i < n → O 2 i = 0 → R 0 i = 0
theorem ov_pos {i x : Nat} (hO : rowOK O n) (hi : i < n) (hx : x < 20) (h : ovS O i x) : O 2 i ≠ 0 := by
  intro z
  obtain ⟨a, ha, ea⟩ := (hO.2.2 i hi).1
  unfold ovS at h
  rw [z, ea] at h
  have h1 := nI_pos' (n := a) (by omega)
  have h2 := nI_pos' (n := x) (by omega)
  have h3 : nI a < nI 100 := nI_lt (by omega) (by decide)
  have h4 : nI x < nI 100 := nI_lt (by omega) (by decide)
  rw [show nI 100 = (100 : Int32) from rfl] at h3 h4
  unfold iAbs at h
  grind
theorem noW_drop (hO : rowOK O n) {x b : Nat} (hx : x < 20) {amt : Int32} {R : RW} (h : noW O n R) : noW O n (dropS O n x amt b R) := by
  intro i hi hz
  unfold dropS
  cases e : topG (fun i => decide (ovS O i x) && decide (kk O i < b)) (kk O) n with
  | none => simp only; unfold u2; rw [if_neg (by omega)]; exact h i hi hz
  | some j =>
    obtain ⟨t1, t2, -⟩ := top_some n j e
    simp only [Bool.and_eq_true, decide_eq_true_eq] at t2
    have := ov_pos hO t1 hx t2.1
    simp only; unfold u2
    rw [if_neg (show ¬ ((0 : Nat) = 0 ∧ i = j) from fun z => this (z.2 ▸ hz))]; exact h i hi hz
theorem x_rng {x : Int32} (h : 0 ≤ x ∧ x < 20) : ∃ a, a < 20 ∧ x = nI a := by
  obtain ⟨j, hj, rfl⟩ := nI_of (x := x) (by grind)
  rw [show (20 : Int32) = nI 20 from rfl, nI_ltI hj (by decide)] at h
  exact ⟨j, h.2, rfl⟩
theorem noW_dropX (hO : rowOK O n) {x amt : Int32} {b : Nat} {R : RW} (h : noW O n R) : noW O n (dropX O n x amt b R) := by
  unfold dropX
  split
  · rename_i c
    obtain ⟨a, ha, rfl⟩ := x_rng c
    rw [ci (by omega)]
    exact noW_drop hO ha h
  · exact h
theorem noW_run (hO : rowOK O n) {i : Nat} {R : RW} (h : noW O n R) : noW O n (flowS O n i R) := noW_dropX hO (noW_dropX hO h)
theorem drop_0 {x b : Nat} {R : RW} : dropS O n x 0 b R = R := by
  unfold dropS
  cases e : topG (fun i => decide (ovS O i x) && decide (kk O i < b)) (kk O) n with
  | none => simp only; funext p q; unfold u2; split
            · rename_i c; rw [c.1, c.2]; grind
            · rfl
  | some j => simp only; funext p q; unfold u2; split
              · rename_i c; rw [c.1, c.2]; grind
              · rfl
theorem dropX_0 {x : Int32} {b : Nat} {R : RW} : dropX O n x 0 b R = R := by
  unfold dropX; split
  · exact drop_0
  · rfl
theorem run_0 {i : Nat} {R : RW} (hi : i < n) (h : noW O n R) (hz : O 2 i = 0) : flowS O n i R = R := by
  unfold flowS
  rw [h i hi hz, show (0 : Int32) / 2 = 0 from by decide, show (0 : Int32) - 0 = 0 from by decide, dropX_0, dropX_0]
end RAI
