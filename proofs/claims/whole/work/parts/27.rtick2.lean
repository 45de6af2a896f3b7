theorem i60 (k : Nat) : (6 : Int32) * nI k = nI (6 * k) := by rw [show (6 : Int32) = nI 6 from rfl, pk_mul]
theorem i6j (k j : Nat) (c : Int32) (h : c = nI j) : (6 : Int32) * nI k + c = nI (6 * k + j) := by rw [h, i60, nI_add]
theorem inj (j k : Nat) (c : Int32) (h : c = nI j) : c + nI k = nI (j + k) := by rw [h, nI_add]
section RT2
variable {X : XS} {h : Hp} {L N : Nat} {W P : RW}
/-- the walk as the reference has it, and what else of the heap -/
def NwPost (h : Hp) (W' : RW) : Hp → Prop := fun h' => NowIs h' W' ∧ CHr [18] h h'
theorem r_goOne (hR : RefP h P) (hP : wfP L N P) (hN : NowIs h W) (hW : wfW L N P W) {k : Nat} (hk : k < 6) (hon : W 3 k ≠ -1) : EvV X m_Rf_goOne [vR [1], vI (nI k)] h (NwPost h (moveS P k W)) := by
  apply e_Rf_goOne
  have hw := hW k hk
  obtain ⟨h4, hp, a, l, ha, hl, hc⟩ : W 4 k = 0 ∧ P 3 k ≠ 0 ∧ ∃ a l, a < N ∧ l < L ∧ W 3 k = nI (4 * a + l) := by
    rcases hw.2 with z | z
    · exact absurd z hon
    · exact z
  obtain ⟨p0, p1, l1, l2, n1, n2, -⟩ := id hP
  have hd := cell_div (a := a) (l := l) (by omega) (by omega)
  have e1 : h.1 [4, 1] (6 * k + 1) = P 5 k := hR.2.2.2.2.1 k hk 1 (by omega) (by omega)
  have e5 : h.1 [4, 1] (6 * k + 5) = P 9 k := hR.2.2.2.2.1 k hk 5 (by omega) (by omega)
  have hN1 : (1 : Int32) ≤ nI N := nI_le n1 (by omega)
  have hL1 : (1 : Int32) ≤ nI L := nI_le l1 (by omega)
  apply g_Rf_goOne_0
  rw [i6j k 1 1 rfl, i6j k 5 5 rfl, ci (by omega), ci (by omega), e1, e5]
  refine ⟨vp_in_nI (by omega) (by decide), vp_in_nI (by omega) (by decide), callP (r_place hN hW hk hon) ?_⟩
  have w18 : (18 : Int32) + nI k = nI (18 + k) := inj 18 k 18 rfl
  have nw7 : h.1 [18, 1] (18 + k) = W 7 k := by
    rw [hN (18 + k) (by omega)]; unfold nowOf
    rw [if_neg (by omega), if_neg (by omega), if_neg (by omega), if_pos (by omega), show 18 + k - 18 = k by omega]
  have waited : NowIs (hsI h [18, 1] (18 + k) (W 7 k + 1)) (u2 W 7 k (W 7 k + 1)) := hN.put (now_row hk (Or.inr (Or.inr ⟨rfl, rfl⟩)))
  have ch : ∀ (i : Nat) (v : Int32), CHr [18] h (hsI h [18, 1] i v) := fun i v => CHr.set (by simp)
  have main : ∀ s0 : Int32, W 3 k / 4 + s0 = aheadS P W k → Rn X m_Rf_goOne 38 [some (vR [1]), some (vI (nI k)), some (vI (P 5 k)), some (vI (P 9 k)), none, none] [vI s0, vI (W 3 k / 4)] h (fun v h' => v = none ∧ NwPost h (moveS P k W) h') := by
    intro s0 hs
    apply g_Rf_goOne_38
    rw [hs, hR.2.1, p1]
    refine callB (s_in _ _ _ _) (fun c => z1b ?_) (fun c => z0b ⟨vp_in_nI (by omega) (by decide), rfl, ?_⟩)
    · have c' : ¬ (aheadS P W k < 0 ∨ ¬ aheadS P W k < P 0 1) := by rw [p1]; grind
      rcases ahead_ok hP ha hl hc with z | ⟨b, hb, eb, -⟩
      · exact absurd z c'
      have e : moveS P k W = if whoS W (4 * aheadS P W k + iR (W 3 k) 4) = -1 then u2 W 3 k (4 * aheadS P W k + iR (W 3 k) 4)
          else if besideS P k (iR (W 3 k) 4) ≠ -1 ∧ whoS W (4 * (W 3 k / 4) + besideS P k (iR (W 3 k) 4)) = -1 then u2 W 3 k (4 * (W 3 k / 4) + besideS P k (iR (W 3 k) 4))
          else u2 W 7 k (W 7 k + 1) := by rw [moveS, if_neg c']
      have ho : onOK L N (4 * aheadS P W k + iR (W 3 k) 4) := ⟨b, l, hb, hl, by rw [eb, hc, hd.2, show (4 : Int32) = nI 4 from rfl, pk_mul, nI_add]⟩
      refine callP (r_lane hN hW hk hon) (callP (r_whoAt hR hP hN hW ho) ⟨fun c3 => callP (r_lane hN hW hk hon) ?_, fun c3 => callP (r_lane hN hW hk hon) ⟨vp_in_nI (by omega) (by decide), rfl, ?_⟩⟩)
      · rw [if_neg c3] at e
        have m133 : ∀ d : Int32, (P 9 k ≠ 0 → besideS P k (iR (W 3 k) 4) = if 0 ≤ iR (W 3 k) 4 + d ∧ iR (W 3 k) 4 + d < P 0 0 then iR (W 3 k) 4 + d else -1) → Rn X m_Rf_goOne 133 [some (vR [1]), some (vI (nI k)), some (vI (P 5 k)), some (vI (P 9 k)), some (vI (aheadS P W k)), none] [vI d, vI (iR (W 3 k) 4)] h (fun v h' => v = none ∧ NwPost h (moveS P k W) h') := by
          intro d hdd
          apply g_Rf_goOne_133
          rw [w18, ci (by omega), nw7, hR.1, p0]
          have r9 := (hP.2.2.2.2.2.2 k hk).2.2.1
          refine ⟨fun c4 => ⟨vp_in_nI (by omega) (by decide), vp_in_nI (by omega) (by decide), rfl, ?_⟩, fun c4 => ?_⟩
          · have r0 : P 9 k = 0 := by
              rcases r9 with z | z | z
              · exact z
              · rw [z] at c4; exact absurd c4 (by decide)
              · rw [z] at c4; exact absurd c4 (by decide)
            have bn : besideS P k (iR (W 3 k) 4) = -1 := by
              unfold besideS
              rw [if_pos (by rw [r0]; decide)]
            rw [e, if_neg (fun z => z.1 bn)]
            exact ⟨waited, ch _ _⟩
          · have r0 : P 9 k ≠ 0 := fun z => c4 (by rw [z]; decide)
            have hb2 := hdd r0
            have hlane : iR (W 3 k) 4 = nI l := by rw [hc, hd.2]
            refine callB (s_in _ _ _ _) (fun c5 => z1a ?_) (fun c5 => z0a ⟨vp_in_nI (by omega) (by decide), vp_in_nI (by omega) (by decide), rfl, ?_⟩)
            · rw [p0, if_pos (by grind)] at hb2
              have hne : besideS P k (iR (W 3 k) 4) ≠ -1 := by rw [hb2]; grind
              obtain ⟨m, hm, em⟩ := beside_ok hP hl (by rw [← hlane]; exact hne)
              rw [← hlane, hb2] at em
              have ho2 : onOK L N (4 * (W 3 k / 4) + (iR (W 3 k) 4 + d)) := ⟨a, m, ha, hm, by rw [em, hc, hd.1, show (4 : Int32) = nI 4 from rfl, pk_mul, nI_add]⟩
              refine callP (r_place hN hW hk hon) (callP (r_whoAt hR hP hN hW ho2) ⟨fun c6 => ⟨vp_in_nI (by omega) (by decide), vp_in_nI (by omega) (by decide), rfl, ?_⟩, fun c6 => callP (r_place hN hW hk hon) ⟨vp_in_nI (by omega) (by decide), rfl, ?_⟩⟩)
              · rw [nw7, e, if_neg (fun z => c6 (by rw [← hb2]; exact z.2))]
                exact ⟨waited, ch _ _⟩
              · rw [ci (by omega), e, if_pos ⟨hne, by rw [hb2]; exact c6⟩, hb2]
                exact ⟨hN.put (now_u3 hk h4), ch _ _⟩
            · rw [p0, if_neg (by grind)] at hb2
              rw [nw7, e, if_neg (fun z => z.1 hb2)]
              exact ⟨waited, ch _ _⟩
        have bs : ∀ x : Int32, x = (if ((P 9 k = 1) ↔ (P 5 k = 0)) then iR (W 3 k) 4 - 1 else iR (W 3 k) 4 + 1) → (P 9 k ≠ 0 → besideS P k (iR (W 3 k) 4) = if 0 ≤ x ∧ x < P 0 0 then x else -1) := by
          intro x hx r0
          have r9 := (hP.2.2.2.2.2.2 k hk).2.2.1
          unfold besideS
          rw [if_neg (by grind), ← hx]
        have m125 : ∀ y z : Int32, (z = y ↔ ((P 9 k = 1) ↔ (P 5 k = 0))) → Rn X m_Rf_goOne 125 [some (vR [1]), some (vI (nI k)), some (vI (P 5 k)), some (vI (P 9 k)), some (vI (aheadS P W k)), none] [vI y, vI z, vI (iR (W 3 k) 4)] h (fun v h' => v = none ∧ NwPost h (moveS P k W) h') := by
          intro y z hyz
          apply g_Rf_goOne_125
          refine ⟨fun c7 => m133 _ (bs _ ?_), fun c7 => m133 _ (bs _ ?_)⟩
          · rw [if_neg (fun q => c7 (hyz.mpr q))]
          · rw [if_pos (hyz.mp c7)]; grind
        refine ⟨fun c7 => ?_, fun c7 => ?_⟩ <;> apply g_Rf_goOne_116 <;> exact ⟨fun c8 => m125 _ _ (by simp [c7, c8]), fun c8 => m125 _ _ (by simp [c7, c8])⟩
      · rw [e, if_pos c3]
        rw [ci (by omega)]
        exact ⟨hN.put (now_u3 hk h4), ch _ _⟩
    · have c' : aheadS P W k < 0 ∨ ¬ aheadS P W k < P 0 1 := by rw [p1]; grind
      rw [moveS, if_pos c', ci (by omega)]
      exact ⟨hN.put (now_thru hk), ch _ _⟩
  refine ⟨fun c => main _ ?_, fun c => main _ ?_⟩
  · rw [aheadS, if_neg c]; grind
  · rw [aheadS, if_pos c]
end RT2
