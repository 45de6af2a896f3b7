/-! a line leaves a plan that is well -/
def PWF (P : RW) : Prop := ∃ L N, wfP L N P ∧ (∀ c, c < 48 → P 2 c = 0 ∨ P 2 c = 1) ∧ ∀ t, t < 60 → ∃ r, r ≤ 99 ∧ P 10 t = nI r
theorem doS0 {v : Nat → Int32} {P : RW} : doS 0 v P = layS (v 0) (v 1) P := rfl
theorem doS1 {v : Nat → Int32} {P : RW} : doS 1 v P = coverS (4 * (v 0).toNatClampNeg + (v 1).toNatClampNeg) P := rfl
theorem doS2 {v : Nat → Int32} {P : RW} : doS 2 v P = welcomeS (v 0).toNatClampNeg (fun j => v (j + 1)) P := rfl
theorem doS3 {v : Nat → Int32} {P : RW} : doS 3 v P = forgetS (v 0).toNatClampNeg P := rfl
theorem doS4 {v : Nat → Int32} {P : RW} : doS 4 v P = pourS (v 0).toNatClampNeg (v 1).toNatClampNeg (v 2) P := rfl
section PWE
variable {n : Nat} {T : Nat → Int32} {P : RW} {i : Nat}
theorem lnS_wf (hw : PWF P) (ho : lnOK n T i (P 0 0) (P 0 1)) : PWF (lnS n T i P) := by
  obtain ⟨L, N, ⟨w0, w1, l1, l2, n1, n2, wk⟩, w2, w10⟩ := hw
  obtain ⟨h5, ok⟩ := ho
  unfold lnS
  unfold lnB at ok
  generalize wK n T i = kd at h5 ok ⊢
  generalize tkE n T i = p at ok ⊢
  have ov : ∀ k a m, k < cntG kd → (bdG kd (P 0 0) (P 0 1) (vNu n T p 0) k).1 = nI a → (bdG kd (P 0 0) (P 0 1) (vNu n T p 0) k).2 = nI m → m < 2 ^ 31 → a < 2 ^ 31 → ∃ j : Nat, a ≤ j ∧ j ≤ m ∧ vNu n T p k = nI j := fun k a m hk e1 e2 hm ha => ok_rng (ok k hk) e1 e2 hm ha
  have hk5 : kd = 0 ∨ kd = 1 ∨ kd = 2 ∨ kd = 3 ∨ kd = 4 := by omega
  rcases hk5 with rfl | rfl | rfl | rfl | rfl
  · obtain ⟨a, a1, a2, ea⟩ := ov 0 1 4 (by decide) rfl rfl (by omega) (by omega)
    obtain ⟨b, b1, b2, eb⟩ := ov 1 1 12 (by decide) rfl rfl (by omega) (by omega)
    refine ⟨a, b, ⟨?_, ?_, a1, a2, b1, b2, fun k hk => ?_⟩, fun c hc => ?_, fun t ht => ?_⟩
    · simp [doS, layS, ea]
    · simp [doS, layS, eb]
    · obtain ⟨x1, x2, x3, x4, x5⟩ := wk k hk
      have e : ∀ j, 4 ≤ j → doS 0 (vNu n T p) P j k = P j k := fun j hj => by
        rw [doS0]; unfold layS
        rw [if_neg (by omega), if_neg (by omega), if_neg (by omega), if_neg (by omega)]
      have e3 : doS 0 (vNu n T p) P 3 k = 0 := by simp [doS, layS]
      rw [e 9 (by omega), e 8 (by omega), e 7 (by omega), e3]
      exact ⟨Or.inl rfl, fun z => absurd rfl z, x3, x4, x5⟩
    · exact Or.inl (by simp [doS, layS])
    · have e : doS 0 (vNu n T p) P 10 t = P 10 t := by simp [doS, layS]
      rw [e]; exact w10 t ht
  · refine ⟨L, N, ⟨?_, ?_, l1, l2, n1, n2, fun k hk => ?_⟩, fun c hc => ?_, fun t ht => ?_⟩
    · simp [doS, coverS, u2]; exact w0
    · simp [doS, coverS, u2]; exact w1
    · have e : ∀ j, 3 ≤ j → doS 1 (vNu n T p) P j k = P j k := fun j hj => by
        rw [doS1]; unfold coverS u2
        rw [if_neg (by omega)]
      rw [e 9 (by omega), e 8 (by omega), e 7 (by omega), e 4 (by omega), e 3 (by omega)]
      exact wk k hk
    · rw [doS1]; unfold coverS u2
      by_cases z : c = 4 * (vNu n T p 0).toNatClampNeg + (vNu n T p 1).toNatClampNeg
      · rw [if_pos ⟨rfl, z⟩]; exact Or.inr rfl
      · rw [if_neg (fun y => z y.2)]; exact w2 c hc
    · have e : doS 1 (vNu n T p) P 10 t = P 10 t := by simp [doS, coverS, u2]
      rw [e]; exact w10 t ht
  · obtain ⟨a, a1, a2, ea⟩ := ov 0 0 5 (by decide) rfl rfl (by omega) (by omega)
    obtain ⟨b, b1, b2, eb⟩ := ov 1 0 (L - 1) (by decide) rfl (by show P 0 0 - 1 = _; rw [w0]; exact pk_sub l1) (by omega) (by omega)
    obtain ⟨e, e1, e2, ee⟩ := ov 4 1 9 (by decide) rfl rfl (by omega) (by omega)
    obtain ⟨s, s1, s2, es⟩ := ov 5 0 2 (by decide) rfl rfl (by omega) (by omega)
    obtain ⟨r, r1, r2, er⟩ := ov 6 0 2 (by decide) rfl rfl (by omega) (by omega)
    refine ⟨L, N, ⟨?_, ?_, l1, l2, n1, n2, fun k hk => ?_⟩, fun c hc => ?_, fun t ht => ?_⟩
    · simp [doS, welcomeS]; exact w0
    · simp [doS, welcomeS]; exact w1
    · by_cases z : k = (vNu n T p 0).toNatClampNeg
      · have e3 : doS 2 (vNu n T p) P 3 k = 1 := by rw [doS2]; unfold welcomeS; rw [if_pos ⟨z, rfl⟩]
        have ej : ∀ j, 4 ≤ j → j ≤ 9 → doS 2 (vNu n T p) P j k = vNu n T p (j - 4 + 1) := fun j h1 h2 => by
          rw [doS2]; unfold welcomeS
          rw [if_neg (by omega), if_pos ⟨z, h1, h2⟩]
        rw [e3, ej 4 (by omega) (by omega), ej 9 (by omega) (by omega), ej 8 (by omega) (by omega), ej 7 (by omega) (by omega)]
        refine ⟨Or.inr rfl, fun _ => ⟨b, by omega, eb⟩, ?_, ⟨s, s2, es⟩, ⟨e, e2, ee⟩⟩
        have : r = 0 ∨ r = 1 ∨ r = 2 := by omega
        rcases this with rfl | rfl | rfl
        · exact Or.inl er
        · exact Or.inr (Or.inl er)
        · exact Or.inr (Or.inr er)
      · have e : ∀ j, doS 2 (vNu n T p) P j k = P j k := fun j => by
          rw [doS2]; unfold welcomeS
          rw [if_neg (fun y => z y.1), if_neg (fun y => z y.1)]
        rw [e, e, e, e, e]; exact wk k hk
    · have e : doS 2 (vNu n T p) P 2 c = P 2 c := by simp [doS, welcomeS]
      rw [e]; exact w2 c hc
    · have e : doS 2 (vNu n T p) P 10 t = P 10 t := by simp [doS, welcomeS]
      rw [e]; exact w10 t ht
  · refine ⟨L, N, ⟨?_, ?_, l1, l2, n1, n2, fun k hk => ?_⟩, fun c hc => ?_, fun t ht => ?_⟩
    · simp [doS, forgetS, u2]; exact w0
    · simp [doS, forgetS, u2]; exact w1
    · have e : ∀ j, j ≠ 3 → doS 3 (vNu n T p) P j k = P j k := fun j hj => by
        rw [doS3]; unfold forgetS u2
        rw [if_neg (fun y => hj y.1)]
      rw [e 9 (by omega), e 8 (by omega), e 7 (by omega), e 4 (by omega)]
      obtain ⟨x1, x2, x3, x4, x5⟩ := wk k hk
      by_cases z : k = (vNu n T p 0).toNatClampNeg
      · have e3 : doS 3 (vNu n T p) P 3 k = 0 := by rw [doS3]; unfold forgetS u2; rw [if_pos ⟨rfl, z⟩]
        rw [e3]; exact ⟨Or.inl rfl, fun y => absurd rfl y, x3, x4, x5⟩
      · have e3 : doS 3 (vNu n T p) P 3 k = P 3 k := by rw [doS3]; unfold forgetS u2; rw [if_neg (fun y => z y.2)]
        rw [e3]; exact ⟨x1, x2, x3, x4, x5⟩
    · have e : doS 3 (vNu n T p) P 2 c = P 2 c := by simp [doS, forgetS, u2]
      rw [e]; exact w2 c hc
    · have e : doS 3 (vNu n T p) P 10 t = P 10 t := by simp [doS, forgetS, u2]
      rw [e]; exact w10 t ht
  · obtain ⟨r, r1, r2, er⟩ := ov 2 0 99 (by decide) rfl rfl (by omega) (by omega)
    refine ⟨L, N, ⟨?_, ?_, l1, l2, n1, n2, fun k hk => ?_⟩, fun c hc => ?_, fun t ht => ?_⟩
    · simp [doS, pourS]; exact w0
    · simp [doS, pourS]; exact w1
    · have e : ∀ j, j < 10 → doS 4 (vNu n T p) P j k = P j k := fun j hj => by
        rw [doS4]; unfold pourS
        exact if_neg (by omega)
      rw [e 9 (by omega), e 8 (by omega), e 7 (by omega), e 4 (by omega), e 3 (by omega)]
      exact wk k hk
    · have e : doS 4 (vNu n T p) P 2 c = P 2 c := by simp [doS, pourS]
      rw [e]; exact w2 c hc
    · by_cases z : (vNu n T p 0).toNatClampNeg ≤ t ∧ t ≤ (vNu n T p 1).toNatClampNeg
      · have e : doS 4 (vNu n T p) P 10 t = vNu n T p 2 := by
          rw [doS4]; unfold pourS
          exact if_pos ⟨rfl, z⟩
        rw [e]; exact ⟨r, r2, er⟩
      · have e : doS 4 (vNu n T p) P 10 t = P 10 t := by
          rw [doS4]; unfold pourS
          exact if_neg (fun y => z y.2)
        rw [e]; exact w10 t ht
theorem lnE_le (h : i ≤ n) : lnE n T i ≤ n := itE_le _ _ (tk_le h).2.2
theorem numsF_le {b : Nat → Int32 × Int32} : ∀ c k p, p ≤ n → numsF n T b c k p ≤ n
  | 0, k, p, h => h
  | c + 1, k, p, h => by
    have t := tk_le (T := T) h
    rw [numsF]
    split
    · exact numsF_le c (k + 1) _ t.2.2
    · omega
theorem lnF_le {l m : Int32} (h : i ≤ n) : lnF n T i l m ≤ n := by
  have t := tk_le (T := T) h
  unfold lnF
  split
  · exact numsF_le _ _ _ t.2.2
  · omega
end PWE
