/-! the reference's nextToken -/
section RTO
variable {X : XS} {h : Hp} {n : Nat} {T : Nat → Int32}
def TxtR (n : Nat) (T : Nat → Int32) (h : Hp) : Prop := n ≤ 200 ∧ h.1 [1] 6 = nI n ∧ ∀ j, j < 200 → h.1 [7, 1] j = T j
/-- what the reference's reading changes: J of its own fields, I of its row of numbers -/
def RdP (J I : Nat → Prop) (h h' : Hp) : Prop := (∀ q j, ¬ (q = [1] ∧ j = 10) → h'.2 q j = h.2 q j) ∧ (∀ q, q ≠ [1] → q ≠ [15, 1] → h'.1 q = h.1 q) ∧ (∀ j, ¬ J j → h'.1 [1] j = h.1 [1] j) ∧ ∀ j, ¬ I j → h'.1 [15, 1] j = h.1 [15, 1] j
theorem RdP.rf {J I : Nat → Prop} {h : Hp} : RdP J I h h := ⟨fun _ _ _ => rfl, fun _ _ _ => rfl, fun _ _ => rfl, fun _ _ => rfl⟩
theorem RdP.tr {J I : Nat → Prop} {a b c : Hp} (h1 : RdP J I a b) (h2 : RdP J I b c) : RdP J I a c := ⟨fun q j x => (h2.1 q j x).trans (h1.1 q j x), fun q x y => (h2.2.1 q x y).trans (h1.2.1 q x y), fun j x => (h2.2.2.1 j x).trans (h1.2.2.1 j x), fun j x => (h2.2.2.2 j x).trans (h1.2.2.2 j x)⟩
theorem RdP.le {J I J' I' : Nat → Prop} {a b : Hp} (h : RdP J I a b) (hj : ∀ j, J j → J' j) (hi : ∀ j, I j → I' j) : RdP J' I' a b := ⟨h.1, h.2.1, fun j x => h.2.2.1 j (fun y => x (hj j y)), fun j x => h.2.2.2 j (fun y => x (hi j y))⟩
theorem RdP.setJ {J I : Nat → Prop} {h : Hp} {j : Nat} {v : Int32} (hj : J j) : RdP J I h (hsI h [1] j v) := ⟨fun _ _ _ => rfl, fun q x _ => hsI_other x, fun i x => by simp only [rd, true_and]; rw [if_neg (fun z : i = j => x (by rw [z]; exact hj))], fun i _ => by rw [hsI_other (by simp)]⟩
theorem RdP.setL {J I : Nat → Prop} {h : Hp} {v : Int64} : RdP J I h (hsL h [1] 10 v) := ⟨fun q j x => by show (if q = [1] ∧ j = 10 then v else h.2 q j) = h.2 q j; rw [if_neg x], fun _ _ _ => rfl, fun _ _ => rfl, fun _ _ => rfl⟩
theorem RdP.setI {J I : Nat → Prop} {h : Hp} {j : Nat} {v : Int32} (hj : I j) : RdP J I h (hsI h [15, 1] j v) := ⟨fun _ _ _ => rfl, fun q _ x => hsI_other x, fun i _ => by rw [hsI_other (by simp)], fun i x => by simp only [rd, true_and]; rw [if_neg (fun z : i = j => x (by rw [z]; exact hj))]⟩
theorem TxtR.rd {J I : Nat → Prop} {h h' : Hp} (t : TxtR n T h) (p : RdP J I h h') (h6 : ¬ J 6) : TxtR n T h' := ⟨t.1, by rw [p.2.2.1 6 h6]; exact t.2.1, fun j hj => by rw [p.2.1 _ (by simp) (by simp)]; exact t.2.2 j hj⟩
abbrev J4 : Nat → Prop := fun j => j = 8 ∨ j = 9 ∨ j = 11 ∨ j = 12
abbrev I0 : Nat → Prop := fun _ => False
theorem TxtR.r4 {h h' : Hp} (t : TxtR n T h) (p : RdP J4 I0 h h') : TxtR n T h' := t.rd p (by decide)
def TokT (n : Nat) (T : Nat → Int32) (i : Nat) (t : Int64) : Prop := (t = -1 ↔ tkD n T i) ∧ (t = -2 ↔ tkK n T i = 0) ∧ (t = -3 ↔ (tkK n T i = 3 ∧ T (tkF n T i) = 59)) ∧ ∀ k, k < 5 → (t = wC k ↔ wP n T i k)
def TkR (n : Nat) (T : Nat → Int32) (i : Nat) (h h' : Hp) : Prop := RdP J4 I0 h h' ∧ h'.1 [1] 8 = nI (tkE n T i) ∧ h'.1 [1] 9 = nI (tkF n T i) ∧ (tkD n T i → h'.1 [1] 12 = tkN n T i) ∧ TokT n T i (h'.2 [1] 10)
theorem rdL {h : Hp} {p q : List Nat} {i j : Nat} {v : Int64} : (hsL h p i v).2 q j = if q = p ∧ j = i then v else h.2 q j := rfl
theorem rdL1 {h : Hp} {p : List Nat} {i : Nat} {v : Int64} : (hsL h p i v).1 = h.1 := rfl
theorem rdI2 {h : Hp} {p : List Nat} {i : Nat} {v : Int32} : (hsI h p i v).2 = h.2 := rfl
theorem tokL {i m : Nat} (hk : tkK n T i = 1) (hm : tkE n T i = tkF n T i + m) (hl : ∀ j, j < m → kindS (T (tkF n T i + j)) = 1) : TokT n T i (hS T (tkF n T i) m) := by
  have nd : ¬ tkD n T i := fun z => by have := z.1; rw [hk] at this; exact absurd this (by decide)
  have nn : hS T (tkF n T i) m ≠ -1 ∧ hS T (tkF n T i) m ≠ -2 ∧ hS T (tkF n T i) m ≠ -3 := by
    by_cases h9 : m ≤ 9
    · rw [hS_eq m h9 hl]
      exact lN_nneg (lt63 (hN_9 h9 hl))
    · rw [hS_big (by omega)]; decide
  refine ⟨⟨fun z => absurd z nn.1, fun z => absurd z nd⟩, ⟨fun z => absurd z nn.2.1, fun z => ?_⟩, ⟨fun z => absurd z nn.2.2, fun z => ?_⟩, fun k hk' => ?_⟩
  · rw [hk] at z; exact absurd z (by decide)
  · rw [hk] at z; exact absurd z.1 (by decide)
  · rw [hS_word hk' hl]
    unfold wP wordP
    rw [hm, Nat.add_sub_cancel_left]
    exact ⟨fun z => ⟨hk, z.1, z.2⟩, fun z => z.2⟩
theorem nw {i k : Nat} (h : tkK n T i ≠ 1) : ¬ wP n T i k := fun z => h z.1
theorem tok_1 {i : Nat} (h : tkD n T i) : TokT n T i (-1) := by
  have e := h.1
  refine ⟨⟨fun _ => h, fun _ => rfl⟩, ⟨fun z => absurd z (by decide), fun z => ?_⟩, ⟨fun z => absurd z (by decide), fun z => ?_⟩, fun k hk => ⟨fun z => absurd z.symm (wC_ne k hk).1, fun z => absurd z (nw (by rw [e]; decide))⟩⟩
  · rw [e] at z; exact absurd z (by decide)
  · rw [e] at z; exact absurd z.1 (by decide)
theorem tok_2 {i : Nat} (e : tkK n T i = 0) : TokT n T i (-2) := by
  refine ⟨⟨fun z => absurd z (by decide), fun z => ?_⟩, ⟨fun _ => e, fun _ => rfl⟩, ⟨fun z => absurd z (by decide), fun z => ?_⟩, fun k hk => ⟨fun z => absurd z.symm (wC_ne k hk).2.1, fun z => absurd z (nw (by rw [e]; decide))⟩⟩
  · have := z.1; rw [e] at this; exact absurd this (by decide)
  · rw [e] at z; exact absurd z.1 (by decide)
theorem tok_3 {i : Nat} (e : tkK n T i = 3) (e2 : T (tkF n T i) = 59) : TokT n T i (-3) := by
  refine ⟨⟨fun z => absurd z (by decide), fun z => ?_⟩, ⟨fun z => absurd z (by decide), fun z => ?_⟩, ⟨fun _ => ⟨e, e2⟩, fun _ => rfl⟩, fun k hk => ⟨fun z => absurd z.symm (wC_ne k hk).2.2.1, fun z => absurd z (nw (by rw [e]; decide))⟩⟩
  · have := z.1; rw [e] at this; exact absurd this (by decide)
  · rw [e] at z; exact absurd z (by decide)
theorem tok_4 {i : Nat} (h1 : ¬ tkD n T i) (h2 : tkK n T i ≠ 0) (h3 : ¬ (tkK n T i = 3 ∧ T (tkF n T i) = 59)) (h4 : tkK n T i ≠ 1) : TokT n T i (-4) :=
  ⟨⟨fun z => absurd z (by decide), fun z => absurd z h1⟩, ⟨fun z => absurd z (by decide), fun z => absurd z h2⟩, ⟨fun z => absurd z (by decide), fun z => absurd z h3⟩, fun k hk => ⟨fun z => absurd z.symm (wC_ne k hk).2.2.2, fun z => absurd z (nw h4)⟩⟩
theorem r_nextToken (hT : TxtR n T h) {i : Nat} (hi : i ≤ n) (h8 : h.1 [1] 8 = nI i) : EvV X m_Rf_nextToken [vR [1]] h (TkR n T i h) := by
  have n2 := hT.1
  have sk := skip_le (n := n) (T := T) (n - i) i (by omega)
  have fle : tkF n T i ≤ n := sk.2
  apply e_Rf_nextToken
  -- letters
  have finL : ∀ (t : Nat) (hh : Hp), tkF n T i ≤ t → t ≤ n → (∀ j, j < t - tkF n T i → kindS (T (tkF n T i + j)) = 1) → RdP J4 I0 h hh → hh.1 [1] 8 = nI t → hh.1 [1] 9 = nI (tkF n T i) → hh.2 [1] 10 = hS T (tkF n T i) (t - tkF n T i) → tkE n T i = t → tkK n T i = 1 → Rn X m_Rf_nextToken 191 [some (vR [1])] [] hh (fun v h' => v = none ∧ TkR n T i h h') := by
    intro t hh hft htn hl hp e8 e9 e10 he hk
    apply g_Rf_nextToken_191
    rw [e8, e9, pk_sub hft, show (9 : Int32) = nI 9 from rfl]
    have nd : ¬ tkD n T i := fun z => by have := z.1; rw [hk] at this; exact absurd this (by decide)
    have tk := tokL (m := t - tkF n T i) hk (by omega) hl
    refine ⟨fun c => ⟨rfl, hp.tr RdP.setL, ?_, e9, fun z => absurd z nd, ?_⟩, fun c => ⟨rfl, hp.tr RdP.setL, ?_, e9, fun z => absurd z nd, ?_⟩⟩
    · rw [rdL1, he]; exact e8
    · rw [rdL, if_pos ⟨rfl, rfl⟩, e10]; exact tk
    · rw [rdL1, he]; exact e8
    · rw [nI_leI (by omega) (by decide)] at c
      rw [rdL, if_pos ⟨rfl, rfl⟩]
      rw [hS_big (by omega)] at tk; exact tk
  have lpL : ∀ (f t : Nat) (hh : Hp), t + f = n → tkF n T i ≤ t → (∀ j, j < t - tkF n T i → kindS (T (tkF n T i + j)) = 1) → RdP J4 I0 h hh → hh.1 [1] 8 = nI t → hh.1 [1] 9 = nI (tkF n T i) → hh.2 [1] 10 = hS T (tkF n T i) (t - tkF n T i) → tkE n T i = extG n T 1 f t → tkK n T i = 1 → Rn X m_Rf_nextToken 101 [some (vR [1])] [] hh (fun v h' => v = none ∧ TkR n T i h h') := by
    intro f
    induction f with
    | zero =>
      intro t hh ht hft hl hp e8 e9 e10 he hk
      apply g_Rf_nextToken_101
      rw [(hT.r4 hp).2.1, e8]
      exact cT ((nI_leI (by omega) (by omega)).mpr (by omega)) (finL t hh hft (by omega) hl hp e8 e9 e10 he hk)
    | succ f ih =>
      intro t hh ht hft hl hp e8 e9 e10 he hk
      rw [extG] at he
      apply g_Rf_nextToken_101
      rw [(hT.r4 hp).2.1, e8, ci (k := t) (by omega), (hT.r4 hp).2.2 t (by omega)]
      refine cF (fun z => absurd ((nI_leI (by omega) (by omega)).mp z) (by omega)) ⟨vp_in_nI (by omega) (by decide), callB (s_in (T t) 97 122 hh) (fun c => z1a ?_) (fun c => z0a ?_)⟩
      · have ck := kind1.mpr c
        rw [if_pos ⟨by omega, ck⟩] at he
        rw [e8, e9, pk_sub hft, ci (k := t) (by omega), (hT.r4 hp).2.2 t (by omega), rdL1, rdL1, e8, nI_add1, show (9 : Int32) = nI 9 from rfl]
        have hl' : ∀ j, j < t + 1 - tkF n T i → kindS (T (tkF n T i + j)) = 1 := by
          intro j hj
          by_cases z : tkF n T i + j = t
          · rw [z]; exact ck
          · exact hl j (by omega)
        have es : t + 1 - tkF n T i = (t - tkF n T i) + 1 := by omega
        have ft : tkF n T i + (t - tkF n T i) = t := by omega
        have hpp : ∀ v : Int64, RdP J4 I0 h (hsI (hsL hh [1] 10 v) [1] 8 (nI (t + 1))) := fun v => (hp.tr RdP.setL).tr (RdP.setJ (Or.inl rfl))
        refine ⟨fun c9 => ?_, fun c9 => ⟨vp_in_nI (by omega) (by decide), ?_⟩⟩
        · rw [nI_leI (by decide) (by omega)] at c9
          refine ih (t + 1) _ (by omega) (by omega) hl' (hpp _) (by simp [rd]) ?_ ?_ he hk
          · simp [rd, rdL1]; exact e9
          · rw [rdI2, rdL, if_pos ⟨rfl, rfl⟩, hS_big (by omega)]
        · rw [nI_leI (by decide) (by omega)] at c9
          refine ih (t + 1) _ (by omega) (by omega) hl' (hpp _) (by simp [rd]) ?_ ?_ he hk
          · simp [rd, rdL1]; exact e9
          · rw [rdI2, rdL, if_pos ⟨rfl, rfl⟩, e10, es, hS, if_pos (by omega), ft]
      · rw [if_neg (fun z => c (kind1.mp z.2))] at he
        exact finL t hh hft (by omega) hl hp e8 e9 e10 he hk
  -- digits
  have finD : ∀ (t : Nat) (hh : Hp), tkF n T i ≤ t → t ≤ n → RdP J4 I0 h hh → hh.1 [1] 8 = nI t → hh.1 [1] 9 = nI (tkF n T i) → hh.1 [1] 11 = nI (t - tkF n T i) → hh.1 [1] 12 = numG T (tkF n T i) (min 2 (t - tkF n T i)) → tkE n T i = t → tkK n T i = 2 → Rn X m_Rf_nextToken 333 [some (vR [1])] [] hh (fun v h' => v = none ∧ TkR n T i h h') := by
    intro t hh hft htn hp e8 e9 e11 e12 he hk
    apply g_Rf_nextToken_333
    rw [e11, show (2 : Int32) = nI 2 from rfl]
    refine ⟨fun c => ?_, fun c => ?_⟩
    · rw [nI_leI (by omega) (by decide)] at c
      have d : tkD n T i := ⟨hk, by omega⟩
      refine ⟨rfl, hp.tr RdP.setL, ?_, e9, fun _ => ?_, ?_⟩
      · rw [rdL1, he]; exact e8
      · rw [rdL1, e12]
        unfold tkN
        rw [he, Nat.min_eq_right c]
      · rw [rdL, if_pos ⟨rfl, rfl⟩]; exact tok_1 d
    · rw [nI_leI (by omega) (by decide)] at c
      have d : ¬ tkD n T i := fun z => by have := z.2; omega
      refine ⟨rfl, hp.tr RdP.setL, ?_, e9, fun z => absurd z d, ?_⟩
      · rw [rdL1, he]; exact e8
      · rw [rdL, if_pos ⟨rfl, rfl⟩]
        exact tok_4 d (by rw [hk]; decide) (fun z => by have := z.1; rw [hk] at this; exact absurd this (by decide)) (by rw [hk]; decide)
  have lpD : ∀ (f t : Nat) (hh : Hp), t + f = n → tkF n T i ≤ t → RdP J4 I0 h hh → hh.1 [1] 8 = nI t → hh.1 [1] 9 = nI (tkF n T i) → hh.1 [1] 11 = nI (t - tkF n T i) → hh.1 [1] 12 = numG T (tkF n T i) (min 2 (t - tkF n T i)) → tkE n T i = extG n T 2 f t → tkK n T i = 2 → Rn X m_Rf_nextToken 241 [some (vR [1])] [] hh (fun v h' => v = none ∧ TkR n T i h h') := by
    intro f
    induction f with
    | zero =>
      intro t hh ht hft hp e8 e9 e11 e12 he hk
      apply g_Rf_nextToken_241
      rw [(hT.r4 hp).2.1, e8]
      exact cT ((nI_leI (by omega) (by omega)).mpr (by omega)) (finD t hh hft (by omega) hp e8 e9 e11 e12 he hk)
    | succ f ih =>
      intro t hh ht hft hp e8 e9 e11 e12 he hk
      rw [extG] at he
      apply g_Rf_nextToken_241
      rw [(hT.r4 hp).2.1, e8, ci (k := t) (by omega), (hT.r4 hp).2.2 t (by omega)]
      refine cF (fun z => absurd ((nI_leI (by omega) (by omega)).mp z) (by omega)) ⟨vp_in_nI (by omega) (by decide), callB (s_in (T t) 48 57 hh) (fun c => z1a ?_) (fun c => z0a ?_)⟩
      · have ck := kind2.mpr c
        rw [if_pos ⟨by omega, ck⟩] at he
        have r8 : ∀ v w : Int32, (hsI (hsI hh [1] 12 v) [1] 11 w).1 [1] 8 = nI t := fun v w => by simp [rd]; exact e8
        have r11 : ∀ v : Int32, (hsI hh [1] 12 v).1 [1] 11 = nI (t - tkF n T i) := fun v => by simp [rd]; exact e11
        rw [r8, r8, r11, r11, e8, e11, e12, ci (k := t) (by omega), (hT.r4 hp).2.2 t (by omega), nI_add1, nI_add1, show (2 : Int32) = nI 2 from rfl]
        have hpp : ∀ v : Int32, RdP J4 I0 h (hsI (hsI (hsI hh [1] 12 v) [1] 11 (nI (t - tkF n T i + 1))) [1] 8 (nI (t + 1))) := fun v => ((hp.tr (RdP.setJ (by decide))).tr (RdP.setJ (by decide))).tr (RdP.setJ (by decide))
        have es : t + 1 - tkF n T i = (t - tkF n T i) + 1 := by omega
        have ft : tkF n T i + (t - tkF n T i) = t := by omega
        refine ⟨fun c9 => ?_, fun c9 => ⟨vp_in_nI (by omega) (by decide), ?_⟩⟩
        · rw [nI_leI (by decide) (by omega)] at c9
          refine ih (t + 1) _ (by omega) (by omega) (hpp _) (by simp [rd]) ?_ ?_ ?_ he hk
          · simp [rd]; exact e9
          · simp [rd]; rw [es]
          · simp [rd]; rw [Nat.min_eq_left c9, Nat.min_eq_left (by omega)]
        · rw [nI_leI (by decide) (by omega)] at c9
          refine ih (t + 1) _ (by omega) (by omega) (hpp _) (by simp [rd]) ?_ ?_ ?_ he hk
          · simp [rd]; exact e9
          · simp [rd]; rw [es]
          · have e2 : min 2 (t + 1 - tkF n T i) = (t - tkF n T i) + 1 := by omega
            have e3 : min 2 (t - tkF n T i) = t - tkF n T i := by omega
            simp only [rd, true_and]
            rw [if_neg (by decide), if_neg (by decide), if_pos trivial, e2, e3, numG, ft]
      · rw [if_neg (fun z => c (kind2.mp z.2))] at he
        exact finD t hh hft (by omega) hp e8 e9 e11 e12 he hk
  -- behind the blanks
  have k38 : ∀ hh : Hp, RdP J4 I0 h hh → hh.1 [1] 8 = nI (tkF n T i) → Rn X m_Rf_nextToken 38 [some (vR [1])] [] hh (fun v h' => v = none ∧ TkR n T i h h') := by
    intro hh hp e8
    apply g_Rf_nextToken_38
    rw [e8]
    have hp3 : RdP J4 I0 h (hsI (hsI (hsI hh [1] 9 (nI (tkF n T i))) [1] 11 0) [1] 12 0) := ((hp.tr (RdP.setJ (by decide))).tr (RdP.setJ (by decide))).tr (RdP.setJ (by decide))
    have r8 : (hsI (hsI (hsI hh [1] 9 (nI (tkF n T i))) [1] 11 0) [1] 12 0).1 [1] 8 = nI (tkF n T i) := by simp [rd]; exact e8
    have r9 : (hsI (hsI (hsI hh [1] 9 (nI (tkF n T i))) [1] 11 0) [1] 12 0).1 [1] 9 = nI (tkF n T i) := by simp [rd]
    have r11 : (hsI (hsI (hsI hh [1] 9 (nI (tkF n T i))) [1] 11 0) [1] 12 0).1 [1] 11 = 0 := by simp [rd]
    have r12 : (hsI (hsI (hsI hh [1] 9 (nI (tkF n T i))) [1] 11 0) [1] 12 0).1 [1] 12 = 0 := by simp [rd]
    generalize hsI (hsI (hsI hh [1] 9 (nI (tkF n T i))) [1] 11 0) [1] 12 0 = H3 at hp3 r8 r9 r11 r12 ⊢
    rw [r8, (hT.r4 hp3).2.1, ci (k := tkF n T i) (by omega)]
    refine ⟨fun c => ?_, fun c => ?_⟩
    · have hf : tkF n T i < n := by
        rcases Nat.lt_or_ge (tkF n T i) n with z | z
        · exact z
        · exact absurd (by rw [show tkF n T i = n by omega]) c
      have hk : tkK n T i = kindS (T (tkF n T i)) := by unfold tkK; rw [if_pos hf]
      rw [(hT.r4 hp3).2.2 _ (by omega)]
      have ex : ∀ k, tkK n T i = k → k ≠ 3 → tkE n T i = extG n T k (n - tkF n T i) (tkF n T i) := by
        intro k e1 e3
        unfold tkE
        rw [if_pos hf, e1, if_neg e3, show n - tkF n T i = (n - (tkF n T i + 1)) + 1 by omega, extG, if_pos ⟨hf, by rw [← hk]; exact e1⟩]
      refine ⟨vp_in_nI (by omega) (by decide), callB (s_in (T (tkF n T i)) 97 122 H3) (fun c1 => z1a ?_) (fun c1 => z0a ?_)⟩
      · have k1 := kind1.mpr c1
        refine lpL (n - tkF n T i) (tkF n T i) _ (by omega) (Nat.le_refl _) (fun j hj => by omega) (hp3.tr RdP.setL) r8 r9 ?_ (ex 1 (by rw [hk, k1]) (by decide)) (by rw [hk, k1])
        rw [rdL, if_pos ⟨rfl, rfl⟩, Nat.sub_self]; rfl
      · rw [r8, ci (k := tkF n T i) (by omega), (hT.r4 hp3).2.2 _ (by omega)]
        refine ⟨vp_in_nI (by omega) (by decide), callB (s_in (T (tkF n T i)) 48 57 H3) (fun c2 => z1a ?_) (fun c2 => z0a ?_)⟩
        · have k2 := kind2.mpr c2
          refine lpD (n - tkF n T i) (tkF n T i) _ (by omega) (Nat.le_refl _) hp3 r8 r9 ?_ ?_ (ex 2 (by rw [hk, k2]) (by decide)) (by rw [hk, k2])
          · rw [r11, Nat.sub_self]; rfl
          · rw [r12, Nat.sub_self]; rfl
        · have k3 : tkK n T i = 3 := by
            rw [hk]
            rcases kind123 (T (tkF n T i)) with z | z | z
            · exact absurd (kind1.mp z) c1
            · exact absurd (kind2.mp z) c2
            · exact z
          have nd : ¬ tkD n T i := fun z => by have := z.1; rw [k3] at this; exact absurd this (by decide)
          have te : tkE n T i = tkF n T i + 1 := by unfold tkE; rw [if_pos hf, if_pos k3]
          rw [r8, ci (k := tkF n T i) (by omega), (hT.r4 hp3).2.2 _ (by omega), rdL1, rdL1, r8, nI_add1]
          refine ⟨vp_in_nI (by omega) (by decide), fun c3 => ⟨rfl, (hp3.tr RdP.setL).tr (RdP.setJ (by decide)), ?_, ?_, fun z => absurd z nd, ?_⟩, fun c3 => ⟨rfl, (hp3.tr RdP.setL).tr (RdP.setJ (by decide)), ?_, ?_, fun z => absurd z nd, ?_⟩⟩
          · simp [rd]; rw [te]
          · simp [rd, rdL1]; exact r9
          · rw [rdI2, rdL, if_pos ⟨rfl, rfl⟩]
            exact tok_4 nd (by rw [k3]; decide) (fun z => c3 z.2) (by rw [k3]; decide)
          · simp [rd]; rw [te]
          · simp [rd, rdL1]; exact r9
          · rw [rdI2, rdL, if_pos ⟨rfl, rfl⟩]
            exact tok_3 k3 c3
    · have hf : ¬ tkF n T i < n := fun z => absurd ((nI_eq (by omega) (by omega)).mp c) (by omega)
      have k0 : tkK n T i = 0 := by unfold tkK; rw [if_neg hf]
      have te : tkE n T i = tkF n T i := by unfold tkE; rw [if_neg hf]
      have nd : ¬ tkD n T i := fun z => by have := z.1; rw [k0] at this; exact absurd this (by decide)
      refine ⟨rfl, hp3.tr RdP.setL, ?_, r9, fun z => absurd z nd, ?_⟩
      · rw [rdL1, te]; exact r8
      · rw [rdL, if_pos ⟨rfl, rfl⟩]; exact tok_2 k0
  have lp : ∀ (f t : Nat) (hh : Hp), t + f = n → RdP J4 I0 h hh → hh.1 [1] 8 = nI t → tkF n T i = skipG n T f t → Rn X m_Rf_nextToken 0 [some (vR [1])] [] hh (fun v h' => v = none ∧ TkR n T i h h') := by
    intro f
    induction f with
    | zero =>
      intro t hh ht hp e8 he
      have : t = n := by omega
      subst this
      apply g_Rf_nextToken_0
      rw [(hT.r4 hp).2.1, e8]
      exact cT ((nI_leI (by omega) (by omega)).mpr (Nat.le_refl _)) (k38 hh hp (by rw [e8, he]; rfl))
    | succ f ih =>
      intro t hh ht hp e8 he
      rw [skipG] at he
      apply g_Rf_nextToken_0
      rw [(hT.r4 hp).2.1, e8, ci (k := t) (by omega), (hT.r4 hp).2.2 t (by omega), nI_add1]
      refine cF (fun z => absurd ((nI_leI (by omega) (by omega)).mp z) (by omega)) ⟨vp_in_nI (by omega) (by decide), fun c => k38 hh hp ?_, fun c => ih (t + 1) _ (by omega) (hp.tr (RdP.setJ (by decide))) (by simp [rd]) ?_⟩
      · rw [if_neg (fun z => c z.2)] at he; rw [e8, he]
      · rw [if_pos ⟨by omega, c⟩] at he; exact he
  exact lp (n - i) i h (by omega) RdP.rf h8 rfl
end RTO
