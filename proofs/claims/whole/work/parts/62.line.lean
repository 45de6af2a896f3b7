/-! a whole line, both sides -/
section LIN
variable {X : XS} {h : Hp} {n : Nat} {T : Nat → Int32} {P : RW} {L N : Nat} {i : Nat}
theorem wK_0 (h : wP n T i 0) : wK n T i = 0 := by unfold wK; rw [if_pos h]
theorem wK_1 (h0 : ¬ wP n T i 0) (h : wP n T i 1) : wK n T i = 1 := by unfold wK; rw [if_neg h0, if_pos h]
theorem wK_2 (h0 : ¬ wP n T i 0) (h1 : ¬ wP n T i 1) (h : wP n T i 2) : wK n T i = 2 := by unfold wK; rw [if_neg h0, if_neg h1, if_pos h]
theorem wK_3 (h0 : ¬ wP n T i 0) (h1 : ¬ wP n T i 1) (h2 : ¬ wP n T i 2) (h : wP n T i 3) : wK n T i = 3 := by unfold wK; rw [if_neg h0, if_neg h1, if_neg h2, if_pos h]
theorem wK_4 (h0 : ¬ wP n T i 0) (h1 : ¬ wP n T i 1) (h2 : ¬ wP n T i 2) (h3 : ¬ wP n T i 3) (h : wP n T i 4) : wK n T i = 4 := by unfold wK; rw [if_neg h0, if_neg h1, if_neg h2, if_neg h3, if_pos h]
theorem wK_5 (h0 : ¬ wP n T i 0) (h1 : ¬ wP n T i 1) (h2 : ¬ wP n T i 2) (h3 : ¬ wP n T i 3) (h : ¬ wP n T i 4) : wK n T i = 5 := by unfold wK; rw [if_neg h0, if_neg h1, if_neg h2, if_neg h3, if_neg h]
def LineC (n : Nat) (T : Nat → Int32) (i : Nat) (P : RW) (h0 : Hp) (r : Int32) (h' : Hp) : Prop := (r = 1 ∧ lnOK n T i (P 0 0) (P 0 1) ∧ h'.1 [2, 0] 5 = nI (lnE n T i) ∧ PlanIs h' [1, 0] (lnS n T i P) ∧ TxD h0 h') ∨ (r = 0 ∧ ¬ lnOK n T i (P 0 0) (P 0 1) ∧ h'.1 [2, 0] 4 = nI (lnF n T i (P 0 0) (P 0 1)) ∧ TxD h0 h')
theorem LnP.line {h3 h' : Hp} {r : Int32} {kd : Nat} (hk : wK n T i = kd) (h5 : kd < 5) (q : LnP n T (bdG kd (P 0 0) (P 0 1) (vNu n T (tkE n T i) 0)) (cntG kd) (tkE n T i) (doS kd (vNu n T (tkE n T i)) P) h3 r h') (t : TxD h h3) : (r = 0 ∨ r = 1) ∧ LineC n T i P h r h' := by
  subst hk
  rcases q with ⟨q1, q2, q3, q4, q5⟩ | ⟨q1, q2, q3, q4⟩
  · exact ⟨Or.inr q1, Or.inl ⟨q1, ⟨h5, q2⟩, q3, q4, t.tr q5⟩⟩
  · refine ⟨Or.inl q1, Or.inr ⟨q1, fun z => q2 z.2, ?_, t.tr q4⟩⟩
    unfold lnF
    rw [if_pos h5]; exact q3
theorem c_readLine (hT : TxtC n T h) (hP : PlanIs h [1, 0] P) (hw : wfP L N P) (hi : i ≤ n) (h5 : h.1 [2, 0] 5 = nI i) : EvI X m_Tx_readLine [vR [2, 0], vR [1, 0]] h (LineC n T i P h) := by
  obtain ⟨l1, l2, l3⟩ := tk_le (n := n) (T := T) hi
  apply e_Tx_readLine
  refine g_Tx_readLine_0 _ _ _ ipl1 (callN (c_readToken hT hi h5) (fun h3 q3 => ?_))
  obtain ⟨p3, f4, f5, f6⟩ := q3
  have hT3 := hT.p p3
  have hP3 := hP.tn p3.tn
  have t3 := p3.tn.td
  refine callB (c_isWord hT3 (show 0 < 5 by decide) l2 l3 f4 f5 f6) (fun c0 => z1a ?_) (fun c0 => z0a ?_)
  · exact callQ (c_readStreet hT3 hP3 l3 f5 (P 0 0) (P 0 1) (vNu n T (tkE n T i) 0)) (fun r h' q => by
      obtain ⟨a, b⟩ := LnP.line (wK_0 c0) (by decide) q t3
      exact ⟨a, _, rfl, b⟩)
  refine callB (c_isWord hT3 (show 1 < 5 by decide) l2 l3 f4 f5 f6) (fun c1 => z1a ?_) (fun c1 => z0a ?_)
  · exact callQ (c_readAwning hT3 hP3 hw l3 f5 (vNu n T (tkE n T i) 0)) (fun r h' q => by
      obtain ⟨a, b⟩ := LnP.line (wK_1 c0 c1) (by decide) q t3
      exact ⟨a, _, rfl, b⟩)
  refine callB (c_isWord hT3 (show 2 < 5 by decide) l2 l3 f4 f5 f6) (fun c2 => z1a ?_) (fun c2 => z0a ?_)
  · exact callQ (c_readWalker hT3 hP3 l3 f5 (P 0 1) (vNu n T (tkE n T i) 0)) (fun r h' q => by
      obtain ⟨a, b⟩ := LnP.line (wK_2 c0 c1 c2) (by decide) q t3
      exact ⟨a, _, rfl, b⟩)
  refine callB (c_isWord hT3 (show 3 < 5 by decide) l2 l3 f4 f5 f6) (fun c3' => z1a ?_) (fun c3' => z0a ?_)
  · exact callQ (c_readGone hT3 hP3 (fun k hk => (hw.2.2.2.2.2.2 k hk).1) l3 f5 (P 0 0) (P 0 1) (vNu n T (tkE n T i) 0)) (fun r h' q => by
      obtain ⟨a, b⟩ := LnP.line (wK_3 c0 c1 c2 c3') (by decide) q t3
      exact ⟨a, _, rfl, b⟩)
  refine callB (c_isWord hT3 (show 4 < 5 by decide) l2 l3 f4 f5 f6) (fun c4 => z1a ?_) (fun c4 => z0a ⟨_, rfl, Or.inr ⟨rfl, ?_, ?_, t3⟩⟩)
  · exact callQ (c_readRain hT3 hP3 l3 f5 (P 0 0) (P 0 1)) (fun r h' q => by
      obtain ⟨a, b⟩ := LnP.line (wK_4 c0 c1 c2 c3' c4) (by decide) q t3
      rcases a with rfl | rfl
      · exact z0a ⟨_, rfl, b⟩
      · exact z1a ⟨_, rfl, b⟩)
  · intro z
    have := z.1
    rw [wK_5 c0 c1 c2 c3' c4] at this; omega
  · unfold lnF
    rw [wK_5 c0 c1 c2 c3' c4, if_neg (by omega)]; exact f4
abbrev IX (w : Nat) : Nat → Prop := fun x => w ≤ x ∧ x < w + 8
def LineR (n : Nat) (T : Nat → Int32) (i : Nat) (P : RW) (w : Nat) (h0 : Hp) (r : Int32) (h' : Hp) : Prop := (r = 1 ∧ lnOK n T i (P 0 0) (P 0 1) ∧ h'.1 [1] 8 = nI (lnE n T i) ∧ h'.1 [1] 16 = lnS n T i P 0 0 ∧ h'.1 [1] 17 = lnS n T i P 0 1 ∧ h'.1 [15, 1] w = nI (wK n T i) ∧ (∀ k, k < cntG (wK n T i) → h'.1 [15, 1] (w + 1 + k) = vNu n T (tkE n T i) k) ∧ RdP J7 (IX w) h0 h') ∨ (r = 0 ∧ ¬ lnOK n T i (P 0 0) (P 0 1) ∧ h'.1 [1] 13 = nI (lnF n T i (P 0 0) (P 0 1)) ∧ RdP J7 (IX w) h0 h')
theorem doS_lanes : ∀ (kd : Nat) (v : Nat → Int32) (P : RW), kd ≠ 0 → doS kd v P 0 0 = P 0 0 ∧ doS kd v P 0 1 = P 0 1
  | 0, _, _, h => absurd rfl h
  | 1, v, P, _ => by simp [doS, coverS, u2]
  | 2, v, P, _ => by simp [doS, welcomeS]
  | 3, v, P, _ => by simp [doS, forgetS, u2]
  | _ + 4, v, P, _ => by simp [doS, pourS]
theorem RdP.j7 {w : Nat} {a b : Hp} (p : RdP J5 (IW w) a b) : RdP J7 (IX w) a b := p.le (fun j hj => Or.inl hj) (fun x hx => ⟨by have := hx.1; omega, hx.2⟩)
/-- what stands when the word of a line has been read and its kind noted -/
def LnH (n : Nat) (T : Nat → Int32) (i : Nat) (P : RW) (w kd : Nat) (h0 H : Hp) : Prop := RdP J7 (IX w) h0 H ∧ H.1 [1] 8 = nI (tkE n T i) ∧ H.1 [1] 16 = P 0 0 ∧ H.1 [1] 17 = P 0 1 ∧ H.1 [15, 1] w = nI kd
theorem LnR.line {H h' : Hp} {r : Int32} {kd w : Nat} (hk : wK n T i = kd) (h5 : kd < 5) (h0 : kd ≠ 0) (hH : LnH n T i P w kd h H) (q : LnR n T (bdG kd (P 0 0) (P 0 1) (vNu n T (tkE n T i) 0)) (cntG kd) (tkE n T i) w H r h') : (r = 0 ∨ r = 1) ∧ LineR n T i P w h r h' := by
  subst hk
  obtain ⟨a1, a2, a3, a4, a5⟩ := hH
  have dl := doS_lanes (wK n T i) (vNu n T (tkE n T i)) P h0
  rcases q with ⟨q1, s1, s2, s3, s4⟩ | ⟨q1, q2, q3, q4⟩
  · refine ⟨Or.inr q1, Or.inl ⟨q1, ⟨h5, s4⟩, s2, ?_, ?_, ?_, s3, a1.tr s1.j7⟩⟩
    · rw [s1.2.2.1 16 (by decide), a3]; exact dl.1.symm
    · rw [s1.2.2.1 17 (by decide), a4]; exact dl.2.symm
    · rw [s1.2.2.2 w (by unfold IW; omega)]; exact a5
  · refine ⟨Or.inl q1, Or.inr ⟨q1, fun z => q2 z.2, ?_, a1.tr q4.j7⟩⟩
    unfold lnF
    rw [if_pos h5]; exact q3
theorem StR.line {H h' : Hp} {r : Int32} {w : Nat} (hk : wK n T i = 0) (hH : LnH n T i P w 0 h H) (q : StR n T (bdG 0 (P 0 0) (P 0 1) (vNu n T (tkE n T i) 0)) (tkE n T i) w H r h') : (r = 0 ∨ r = 1) ∧ LineR n T i P w h r h' := by
  obtain ⟨a1, a2, a3, a4, a5⟩ := hH
  have okB : lnOK n T i (P 0 0) (P 0 1) ↔ okL n T (bdG 0 (P 0 0) (P 0 1) (vNu n T (tkE n T i) 0)) 2 (tkE n T i) := by
    unfold lnOK lnB; rw [hk]
    exact ⟨fun z => z.2, fun z => ⟨by omega, z⟩⟩
  rcases q with ⟨q1, q2, q3, q4, q5, q6, q7⟩ | ⟨q1, q2, q3, q4⟩
  · refine ⟨Or.inr q1, Or.inl ⟨q1, okB.mpr q2, ?_, ?_, ?_, ?_, ?_, a1.tr (q7.le (fun _ z => z) (fun x hx => ⟨by have := hx.1; omega, hx.2⟩))⟩⟩
    · unfold lnE; rw [hk]; exact q3
    · unfold lnS; rw [hk, q5]; simp [doS, layS]
    · unfold lnS; rw [hk, q6]; simp [doS, layS]
    · rw [hk, q7.2.2.2 w (by unfold IW; omega)]; exact a5
    · rw [hk]; exact q4
  · refine ⟨Or.inl q1, Or.inr ⟨q1, fun z => q2 (okB.mp z), ?_, a1.tr q4.j7⟩⟩
    unfold lnF lnB
    rw [hk, if_pos (by omega)]; exact q3
theorem r_isLine (hT : TxtR n T h) {w : Nat} (hw : w + 8 ≤ 64) (hi : i ≤ n) (h8 : h.1 [1] 8 = nI i) (h16 : h.1 [1] 16 = P 0 0) (h17 : h.1 [1] 17 = P 0 1) : EvI X m_Rf_isLine [vR [1], vI (nI w)] h (LineR n T i P w h) := by
  obtain ⟨l1, l2, l3⟩ := tk_le (n := n) (T := T) hi
  apply e_Rf_isLine
  refine g_Rf_isLine_0 _ _ _ (callN (r_nextToken hT hi h8) (fun h3 q3 => ?_))
  obtain ⟨p3, f8, f9, -, tk⟩ := q3
  have p7 : RdP J7 (IX w) h h3 := p3.le (fun j hj => Or.inl (by unfold J4 at hj; unfold J5; omega)) (fun _ z => z.elim)
  have wd := tk.2.2.2
  have k85 : ∀ s0, (wK n T i < 5 ∧ s0 = nI (wK n T i)) ∨ (wK n T i = 5 ∧ s0 = -1) → Rn X m_Rf_isLine 85 [some (vR [1]), some (vI (nI w))] [vI s0, vI (nI w), vR [15, 1]] h3 (fun v h' => ∃ r, v = some (vI r) ∧ LineR n T i P w h r h') := by
    intro s0 hs
    have hs' : ∀ k, k < 5 → s0 = nI k → wK n T i = k := by
      intro k hk e
      rcases hs with ⟨z1, z2⟩ | ⟨z1, z2⟩
      · exact (nI_eq (by omega) (by omega)).mp (z2.symm.trans e)
      · have : nI k = -1 := e.symm.trans z2
        exact absurd this (nI_nm (by omega))
    apply g_Rf_isLine_85
    rw [ci (k := w) (by omega)]
    have hH : ∀ k, s0 = nI k → LnH n T i P w k h (hsI h3 [15, 1] w s0) := by
      intro k e
      refine ⟨p7.tr (RdP.setI ⟨Nat.le_refl _, by omega⟩), ?_, ?_, ?_, ?_⟩
      · rw [hsI_other (by simp)]; exact f8
      · rw [hsI_other (by simp), p3.2.2.1 16 (by decide)]; exact h16
      · rw [hsI_other (by simp), p3.2.2.1 17 (by decide)]; exact h17
      · simp [rd, e]
    have hp : RdP J7 (IX w) h (hsI h3 [15, 1] w s0) := p7.tr (RdP.setI ⟨Nat.le_refl _, by omega⟩)
    have hT3 : TxtR n T (hsI h3 [15, 1] w s0) := hT.rd hp (by decide)
    have e9 : (hsI h3 [15, 1] w s0).1 [1] 9 = nI (tkF n T i) := by rw [hsI_other (by simp)]; exact f9
    have es : (hsI h3 [15, 1] w s0).1 [15, 1] w = s0 := by simp [rd]
    generalize hsI h3 [15, 1] w s0 = H at hH hp hT3 e9 es ⊢
    rw [es]
    refine ⟨vp_in_nI (by omega) (by decide), vp_in_nI (by omega) (by decide), fun c => ?_, fun c => ?_, fun c => ?_, fun c => ?_, fun c => ?_, fun c => ?_⟩
    · have h5 : wK n T i = 5 := by
        rcases hs with ⟨z1, z2⟩ | ⟨z1, z2⟩
        · rw [z2, nI_toInt (by omega)] at c; omega
        · exact z1
      refine callQ r_fails (fun r h' q => ?_)
      obtain ⟨rfl, rfl⟩ := q
      refine ⟨Or.inl rfl, _, rfl, Or.inr ⟨rfl, fun z => ?_, ?_, hp.tr (RdP.setJ (by decide))⟩⟩
      · have := z.1; omega
      · simp only [rd, true_and]
        rw [if_pos trivial, e9]
        unfold lnF
        rw [if_neg (by omega)]
    · have hk := hs' 0 (by omega) c
      have hh := hH 0 c
      refine callQ (r_isStreet hT3 l3 hh.2.1 hw (P 0 0) (P 0 1) (vNu n T (tkE n T i) 0)) (fun r h' q => ?_)
      obtain ⟨a, b⟩ := StR.line hk hh q
      exact ⟨a, _, rfl, b⟩
    · have hk := hs' 1 (by omega) c
      have hh := hH 1 c
      have no : ∀ h', LnR n T (bdG 1 (P 0 0) (P 0 1) (vNu n T (tkE n T i) 0)) 2 (tkE n T i) w H 0 h' → LineR n T i P w h 0 h' := fun h' q => (LnR.line hk (by decide) (by decide) hh q).2
      rw [hh.2.2.2.1]
      refine r_step hT3 (RSt.ini hh.2.1) l3 (show 0 < 2 by omega) (by omega) hw (nI_add w 1) rfl (fun h' q => ⟨_, rfl, no h' q⟩) (fun h1 s1 => ?_)
      rw [s1.1.2.2.1 16 (by decide), hh.2.2.1]
      exact r_step hT3 s1 l3 (show 1 < 2 by omega) (by omega) hw (nI_add w 2) rfl (fun h' q => ⟨_, rfl, no h' q⟩) (fun h2 s2 => ⟨_, rfl, (LnR.line hk (by decide) (by decide) hh (Or.inl ⟨rfl, s2⟩)).2⟩)
    · have hk := hs' 2 (by omega) c
      have hh := hH 2 c
      refine callQ (r_isWalkerLine hT3 l3 hh.2.1 hw (P 0 1) (vNu n T (tkE n T i) 0)) (fun r h' q => ?_)
      rw [hh.2.2.1] at q
      obtain ⟨a, b⟩ := LnR.line hk (by decide) (by decide) hh q
      exact ⟨a, _, rfl, b⟩
    · have hk := hs' 3 (by omega) c
      have hh := hH 3 c
      rw [nI_add1 w]
      refine callQ (r_isNumber hT3 l3 hh.2.1 (show w + 1 < 64 by omega) 0 5) (fun r h' q => ?_)
      have q' : LnR n T (bdG 3 (P 0 0) (P 0 1) (vNu n T (tkE n T i) 0)) 1 (tkE n T i) w H r h' := by
        have le : ∀ {a b : Hp}, RdP J5 (fun x => x = w + 1) a b → RdP J5 (IW w) a b := fun y => y.le (fun _ z => z) (fun x z => by unfold IW; omega)
        rcases q with ⟨q0, q1, q2, q3, q4⟩ | ⟨q0, q1, q2, q3⟩
        · refine Or.inl ⟨q0, le q2, q3, fun k hk' => ?_, fun k hk' => ?_⟩
          · have : k = 0 := by omega
            subst this; exact q4
          · have : k = 0 := by omega
            subst this; exact q1
        · refine Or.inr ⟨q0, fun z => q1 (z 0 (by omega)), ?_, le q2⟩
          rw [q3]
          exact congrArg nI (numsF_at (b := bdG 3 (P 0 0) (P 0 1) (vNu n T (tkE n T i) 0)) 0 1 0 (tkE n T i) (by omega) (fun k hk' => by omega) q1).symm
      obtain ⟨a, b⟩ := LnR.line hk (by decide) (by decide) hh q'
      exact ⟨a, _, rfl, b⟩
    · have hk := hs' 4 (by omega) c
      have hh := hH 4 c
      refine callQ (r_isRain hT3 l3 hh.2.1 hw (P 0 0) (P 0 1)) (fun r h' q => ?_)
      obtain ⟨a, b⟩ := LnR.line hk (by decide) (by decide) hh q
      exact ⟨a, _, rfl, b⟩
  have nw : ∀ k, k < 5 → ¬ lg_cmp (h3.2 [1] 10) (wC k) = 0 → ¬ wP n T i k := fun k hk c z => c (lgE.mpr ((wd k hk).mpr z))
  have yw : ∀ k, k < 5 → lg_cmp (h3.2 [1] 10) (wC k) = 0 → wP n T i k := fun k hk c => (wd k hk).mp (lgE.mp c)
  refine ⟨fun c0 => ⟨fun c1 => ⟨fun c2 => ⟨fun c3' => ⟨fun c4 => k85 _ (Or.inr ⟨wK_5 (nw 0 (by omega) c0) (nw 1 (by omega) c1) (nw 2 (by omega) c2) (nw 3 (by omega) c3') (nw 4 (by omega) c4), rfl⟩), fun c4 => k85 _ (Or.inl ?_)⟩, fun c3' => k85 _ (Or.inl ?_)⟩, fun c2 => k85 _ (Or.inl ?_)⟩, fun c1 => k85 _ (Or.inl ?_)⟩, fun c0 => k85 _ (Or.inl ?_)⟩
  · rw [wK_4 (nw 0 (by omega) c0) (nw 1 (by omega) c1) (nw 2 (by omega) c2) (nw 3 (by omega) c3') (yw 4 (by omega) c4)]
    exact ⟨by omega, rfl⟩
  · rw [wK_3 (nw 0 (by omega) c0) (nw 1 (by omega) c1) (nw 2 (by omega) c2) (yw 3 (by omega) c3')]
    exact ⟨by omega, rfl⟩
  · rw [wK_2 (nw 0 (by omega) c0) (nw 1 (by omega) c1) (yw 2 (by omega) c2)]
    exact ⟨by omega, rfl⟩
  · rw [wK_1 (nw 0 (by omega) c0) (yw 1 (by omega) c1)]
    exact ⟨by omega, rfl⟩
  · rw [wK_0 (yw 0 (by omega) c0)]
    exact ⟨by omega, rfl⟩
end LIN
