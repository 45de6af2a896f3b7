/-! the reference's numbers of a line -/
section RNU
variable {X : XS} {h0 h : Hp} {n : Nat} {T : Nat → Int32} {b : Nat → Int32 × Int32}
abbrev J5 : Nat → Prop := fun j => j = 8 ∨ j = 9 ∨ j = 11 ∨ j = 12 ∨ j = 13
abbrev J7 : Nat → Prop := fun j => J5 j ∨ j = 16 ∨ j = 17
abbrev IW (w : Nat) : Nat → Prop := fun x => w < x ∧ x < w + 8
theorem RdP.j5 {I : Nat → Prop} {a b : Hp} (p : RdP J4 I0 a b) : RdP J5 I a b := p.le (fun j hj => by unfold J4 at hj; unfold J5; omega) (fun j hj => hj.elim)
theorem TxtR.r5 {I : Nat → Prop} {h h' : Hp} (t : TxtR n T h) (p : RdP J5 I h h') : TxtR n T h' := t.rd p (by decide)
theorem lgE {x y : Int64} : lg_cmp x y = 0 ↔ x = y := lg_cmp_eq x y
theorem r_fails : EvI X m_Rf_fails [vR [1]] h (fun r h' => r = 0 ∧ h' = hsI h [1] 13 (h.1 [1] 9)) := by
  apply e_Rf_fails
  exact g_Rf_fails_0 _ _ ⟨_, rfl, rfl, rfl⟩
theorem r_isNumber (hT : TxtR n T h) {i w : Nat} (hi : i ≤ n) (h8 : h.1 [1] 8 = nI i) (hw : w < 64) (lo hi' : Int32) : EvI X m_Rf_isNumber [vR [1], vI (nI w), vI lo, vI hi'] h (fun r h' => (r = 1 ∧ okN n T (lo, hi') i ∧ RdP J5 (fun x => x = w) h h' ∧ h'.1 [1] 8 = nI (tkE n T i) ∧ h'.1 [15, 1] w = tkN n T i) ∨ (r = 0 ∧ ¬ okN n T (lo, hi') i ∧ RdP J5 (fun x => x = w) h h' ∧ h'.1 [1] 13 = nI (tkF n T i))) := by
  apply e_Rf_isNumber
  have k27 : ∀ hh, TkR n T i h hh → ¬ okN n T (lo, hi') i → Rn X m_Rf_isNumber 27 [some (vR [1]), some (vI (nI w)), some (vI lo), some (vI hi')] [] hh (fun v h' => ∃ r, v = some (vI r) ∧ ((r = 1 ∧ okN n T (lo, hi') i ∧ RdP J5 (fun x => x = w) h h' ∧ h'.1 [1] 8 = nI (tkE n T i) ∧ h'.1 [15, 1] w = tkN n T i) ∨ (r = 0 ∧ ¬ okN n T (lo, hi') i ∧ RdP J5 (fun x => x = w) h h' ∧ h'.1 [1] 13 = nI (tkF n T i)))) := by
    intro hh q no
    refine g_Rf_isNumber_27 _ _ _ _ _ (callQ r_fails (fun r h' q' => ?_))
    obtain ⟨rfl, rfl⟩ := q'
    refine ⟨Or.inl rfl, _, rfl, Or.inr ⟨rfl, no, q.1.j5.tr (RdP.setJ (by decide)), ?_⟩⟩
    simp only [rd, true_and]
    rw [if_pos trivial]; exact q.2.2.1
  refine g_Rf_isNumber_0 _ _ _ _ _ (callN (r_nextToken hT hi h8) (fun h3 q => ?_))
  refine ⟨fun c => k27 h3 q (fun z => c (lgE.mpr (q.2.2.2.2.1.mpr z.1))), fun c => ?_⟩
  have d := q.2.2.2.2.1.mp (lgE.mp c)
  rw [q.2.2.2.1 d, ci (k := w) (by omega)]
  refine callB (s_in (tkN n T i) lo hi' h3) (fun c1 => z1b ⟨vp_in_nI hw (by decide), _, rfl, Or.inl ⟨rfl, ⟨d, c1⟩, q.1.j5.tr (RdP.setI rfl), ?_, ?_⟩⟩) (fun c1 => z0b (k27 h3 q (fun z => c1 z.2)))
  · rw [hsI_other (by simp)]; exact q.2.1
  · simp [rd]; exact q.2.2.2.1 d
/-- behind j numbers of the row at w that can stand there -/
def RSt (n : Nat) (T : Nat → Int32) (b : Nat → Int32 × Int32) (p w j : Nat) (h0 h : Hp) : Prop := RdP J5 (IW w) h0 h ∧ h.1 [1] 8 = nI (itE n T j p) ∧ (∀ k, k < j → h.1 [15, 1] (w + 1 + k) = vNu n T p k) ∧ ∀ k, k < j → okN n T (b k) (itE n T k p)
def LnR (n : Nat) (T : Nat → Int32) (b : Nat → Int32 × Int32) (c p w : Nat) (h0 : Hp) (r : Int32) (h' : Hp) : Prop := (r = 1 ∧ RSt n T b p w c h0 h') ∨ (r = 0 ∧ ¬ okL n T b c p ∧ h'.1 [1] 13 = nI (numsF n T b c 0 p) ∧ RdP J5 (IW w) h0 h')
theorem r_step (hT : TxtR n T h0) {p j c w : Nat} (s : RSt n T b p w j h0 h) (hp : p ≤ n) (hj : j < c) (hc : c ≤ 7) (hw : w + 8 ≤ 64) {x lo hi : Int32} (hx : x = nI (w + 1 + j)) (hb : b j = (lo, hi)) {K0 K1 : Hp → Prop} (k0 : ∀ h', LnR n T b c p w h0 0 h' → K0 h') (k1 : ∀ h', RSt n T b p w (j + 1) h0 h' → K1 h') : ∃ Q', EvI X m_Rf_isNumber [vR [1], vI x, vI lo, vI hi] h Q' ∧ ∀ (r : Int32) (h' : Hp), Q' r h' → (r = 0 → K0 h') ∧ (¬ r = 0 → K1 h') := by
  obtain ⟨s1, s2, s3, s4⟩ := s
  subst hx
  refine ⟨_, r_isNumber (hT.r5 s1) (itE_le j p hp) s2 (show w + 1 + j < 64 by omega) lo hi, fun r h' q => ?_⟩
  have lf : ∀ {hh : Hp}, RdP J5 (fun x => x = w + 1 + j) h hh → RdP J5 (IW w) h hh := fun y => y.le (fun _ z => z) (fun x z => by unfold IW; omega)
  rcases q with ⟨rfl, q1, q2, q3, q4⟩ | ⟨rfl, q1, q2, q3⟩
  · refine z1a (k1 h' ⟨s1.tr (lf q2), by rw [q3, itE_s], fun k hk => ?_, fun k hk => ?_⟩)
    · by_cases z : k = j
      · subst z; exact q4
      · rw [q2.2.2.2 (w + 1 + k) (by omega)]; exact s3 k (by omega)
    · by_cases z : k = j
      · subst z; rw [hb]; exact q1
      · exact s4 k (by omega)
  · refine z0a (k0 h' (Or.inr ⟨rfl, fun y => ?_, ?_, s1.tr (lf q2)⟩))
    · have := y j hj
      rw [hb] at this; exact q1 this
    · rw [q3, numsF_at j c 0 p hj (fun k hk => by rw [Nat.zero_add]; exact s4 k hk) (by rw [Nat.zero_add, hb]; exact q1)]
theorem r_step' (hT : TxtR n T h0) {p j c w : Nat} (s : RSt n T b p w j h0 h) (hp : p ≤ n) (hj : j < c) (hc : c ≤ 7) (hw : w + 8 ≤ 64) {x lo hi : Int32} (hx : x = nI (w + 1 + j)) (hb : b j = (lo, hi)) {K0 K1 : Hp → Prop} (k0 : ∀ h', LnR n T b c p w h0 0 h' → K0 h') (k1 : ∀ h', RSt n T b p w (j + 1) h0 h' → K1 h') : ∃ Q', EvI X m_Rf_isNumber [vR [1], vI x, vI lo, vI hi] h Q' ∧ ∀ (r : Int32) (h' : Hp), Q' r h' → (¬ r = 0 → K1 h') ∧ (r = 0 → K0 h') := by
  obtain ⟨Q', a, k⟩ := r_step (X := X) hT s hp hj hc hw hx hb k0 k1
  exact ⟨Q', a, fun r h' q => ⟨(k r h' q).2, (k r h' q).1⟩⟩
theorem RSt.ini {p w : Nat} (h8 : h.1 [1] 8 = nI p) : RSt n T b p w 0 h h := ⟨RdP.rf, h8, fun k hk => by omega, fun k hk => by omega⟩
theorem r_isWalkerLine (hT : TxtR n T h) {p w : Nat} (hp : p ≤ n) (h8 : h.1 [1] 8 = nI p) (hw : w + 8 ≤ 64) (m v : Int32) : EvI X m_Rf_isWalkerLine [vR [1], vI (nI w)] h (LnR n T (bdG 2 (h.1 [1] 16) m v) 7 p w h) := by
  apply e_Rf_isWalkerLine
  refine g_Rf_isWalkerLine_0 _ _ _ (r_step hT (RSt.ini h8) hp (show 0 < 7 by omega) (by omega) hw (nI_add w 1) rfl (fun h' q => ⟨_, rfl, q⟩) (fun h1 s1 => ?_))
  rw [s1.1.2.2.1 16 (by decide)]
  refine r_step hT s1 hp (show 1 < 7 by omega) (by omega) hw (nI_add w 2) rfl (fun h' q => ⟨_, rfl, q⟩) (fun h2 s2 => r_step hT s2 hp (show 2 < 7 by omega) (by omega) hw (nI_add w 3) rfl (fun h' q => ⟨_, rfl, q⟩) (fun h3 s3 => r_step hT s3 hp (show 3 < 7 by omega) (by omega) hw (nI_add w 4) rfl (fun h' q => ⟨_, rfl, q⟩) (fun h4 s4 => r_step hT s4 hp (show 4 < 7 by omega) (by omega) hw (nI_add w 5) rfl (fun h' q => ⟨_, rfl, q⟩) (fun h5 s5 => r_step hT s5 hp (show 5 < 7 by omega) (by omega) hw (nI_add w 6) rfl (fun h' q => ⟨_, rfl, q⟩) (fun h6 s6 => r_step hT s6 hp (show 6 < 7 by omega) (by omega) hw (nI_add w 7) rfl (fun h' q => ⟨_, rfl, q⟩) (fun h7 s7 => ⟨_, rfl, Or.inl ⟨rfl, s7⟩⟩))))))
theorem r_isRain (hT : TxtR n T h) {p w : Nat} (hp : p ≤ n) (h8 : h.1 [1] 8 = nI p) (hw : w + 8 ≤ 64) (l m : Int32) : EvI X m_Rf_isRain [vR [1], vI (nI w)] h (LnR n T (bdG 4 l m (vNu n T p 0)) 3 p w h) := by
  apply e_Rf_isRain
  refine g_Rf_isRain_0 _ _ _ (r_step hT (RSt.ini h8) hp (show 0 < 3 by omega) (by omega) hw (nI_add w 1) rfl (fun h' q => ⟨_, rfl, q⟩) (fun h1 s1 => ?_))
  have e := s1.2.2.1 0 (by omega)
  rw [nI_add1 w, ci (k := w + 1) (by omega), e]
  refine ⟨vp_in_nI (by omega) (by decide), r_step hT s1 hp (show 1 < 3 by omega) (by omega) hw (nI_add w 2) rfl (fun h' q => ⟨_, rfl, q⟩) (fun h2 s2 => r_step hT s2 hp (show 2 < 3 by omega) (by omega) hw (nI_add w 3) rfl (fun h' q => ⟨_, rfl, q⟩) (fun h3 s3 => ⟨_, rfl, Or.inl ⟨rfl, s3⟩⟩))⟩
/-- a street's numbers: they are the lanes and places of what comes behind -/
def StR (n : Nat) (T : Nat → Int32) (b : Nat → Int32 × Int32) (p w : Nat) (h0 : Hp) (r : Int32) (h' : Hp) : Prop := (r = 1 ∧ okL n T b 2 p ∧ h'.1 [1] 8 = nI (itE n T 2 p) ∧ (∀ k, k < 2 → h'.1 [15, 1] (w + 1 + k) = vNu n T p k) ∧ h'.1 [1] 16 = vNu n T p 0 ∧ h'.1 [1] 17 = vNu n T p 1 ∧ RdP J7 (IW w) h0 h') ∨ (r = 0 ∧ ¬ okL n T b 2 p ∧ h'.1 [1] 13 = nI (numsF n T b 2 0 p) ∧ RdP J5 (IW w) h0 h')
theorem r_isStreet (hT : TxtR n T h) {p w : Nat} (hp : p ≤ n) (h8 : h.1 [1] 8 = nI p) (hw : w + 8 ≤ 64) (l m v : Int32) : EvI X m_Rf_isStreet [vR [1], vI (nI w)] h (StR n T (bdG 0 l m v) p w h) := by
  have no : ∀ h', LnR n T (bdG 0 l m v) 2 p w h 0 h' → StR n T (bdG 0 l m v) p w h 0 h' := by
    intro h' q
    rcases q with ⟨q1, q2⟩ | q
    · exact absurd q1 (by decide)
    · exact Or.inr q
  apply e_Rf_isStreet
  refine g_Rf_isStreet_0 _ _ _ (r_step hT (RSt.ini h8) hp (show 0 < 2 by omega) (by omega) hw (nI_add w 1) rfl (fun h' q => ⟨_, rfl, no h' q⟩) (fun h1 s1 => r_step' hT s1 hp (show 1 < 2 by omega) (by omega) hw (nI_add w 2) rfl (fun h' q => ⟨_, rfl, no h' q⟩) (fun h2 s2 => ?_)))
  have e0 := s2.2.2.1 0 (by omega)
  have e1 := s2.2.2.1 1 (by omega)
  rw [nI_add1 w, show (2 : Int32) = nI 2 from rfl, nI_add, ci (k := w + 1) (by omega), ci (k := w + 2) (by omega), hsI_other (show ([15, 1] : List Nat) ≠ [1] by simp), e0, e1]
  refine ⟨vp_in_nI (by omega) (by decide), vp_in_nI (by omega) (by decide), _, rfl, Or.inl ⟨rfl, s2.2.2.2, ?_, fun k hk => ?_, ?_, ?_, ((s2.1.le (J' := J7) (fun j z => Or.inl z) (fun _ z => z)).tr (RdP.setJ (j := 16) (Or.inr (Or.inl rfl)))).tr (RdP.setJ (j := 17) (Or.inr (Or.inr rfl)))⟩⟩
  · simp [rd]; exact s2.2.1
  · rw [hsI_other (by simp), hsI_other (by simp)]; exact s2.2.2.1 k hk
  · simp [rd]
  · simp [rd]
end RNU
