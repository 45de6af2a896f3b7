/-! a tick of the reference's street -/
def nowOf (W : RW) (i : Nat) : Int32 := if i < 6 then (if W 4 i ≠ 0 then -1 else W 3 i + 1) else if i < 12 then W 5 (i - 6) else if i < 18 then W 6 (i - 12) else if i < 24 then W 7 (i - 18) else if i = 24 then W 0 1 else W 0 2
def NowIs (h : Hp) (W : RW) : Prop := ∀ i, i < 26 → h.1 [18, 1] i = nowOf W i
def RefP (h : Hp) (P : RW) : Prop := h.1 [1] 0 = P 0 0 ∧ h.1 [1] 1 = P 0 1 ∧ (∀ c, c < 48 → (lShr (h.2 [1] 2) (nI c) &&& 1 = if P 2 c ≠ 0 then (1 : Int64) else 0)) ∧ (∀ k, k < 6 → iShr (h.1 [1] 3) (nI k) &&& 1 = P 3 k) ∧ (∀ k, k < 6 → ∀ j, j < 6 → j ≠ 4 → h.1 [4, 1] (6 * k + j) = P (4 + j) k) ∧ ∀ t, t < 60 → h.1 [5, 1] t = P 10 t
def SzIs (h : Hp) (P : RW) : Prop := ∀ k, k < 6 → P 3 k ≠ 0 → h.1 [22, 1] k = P 8 k
/-- only these arrays of the reference have changed -/
def CHr (ks : List Nat) (h h' : Hp) : Prop := h'.2 = h.2 ∧ ∀ q, (∀ k ∈ ks, q ≠ [k, 1]) → h'.1 q = h.1 q
theorem CHr.rf {ks : List Nat} {h : Hp} : CHr ks h h := ⟨rfl, fun _ _ => rfl⟩
theorem CHr.tr {ks : List Nat} {a b c : Hp} (h1 : CHr ks a b) (h2 : CHr ks b c) : CHr ks a c := ⟨h2.1.trans h1.1, fun q x => (h2.2 q x).trans (h1.2 q x)⟩
theorem CHr.set {ks : List Nat} {h : Hp} {k i : Nat} {v : Int32} (hk : k ∈ ks) : CHr ks h (hsI h [k, 1] i v) := ⟨rfl, fun q hq => hsI_other (hq k hk)⟩
theorem CHr.le {ks ks' : List Nat} {h h' : Hp} (c : CHr ks h h') (hl : ∀ k ∈ ks, k ∈ ks') : CHr ks' h h' := ⟨c.1, fun q hq => c.2 q (fun k hk => hq k (hl k hk))⟩
theorem CHr.at {ks : List Nat} {h h' : Hp} (c : CHr ks h h') {k : Nat} (hk : k ∉ ks) : h'.1 [k, 1] = h.1 [k, 1] := c.2 _ (fun j hj z => by
  rw [List.cons.injEq] at z; exact hk (z.1 ▸ hj))
theorem CHr.at1 {ks : List Nat} {h h' : Hp} (c : CHr ks h h') : h'.1 [1] = h.1 [1] := c.2 _ (fun j hj z => by simp at z)
theorem RefP.ch {ks : List Nat} {h h' : Hp} {P : RW} (r : RefP h P) (c : CHr ks h h') (h4 : 4 ∉ ks) (h5 : 5 ∉ ks) : RefP h' P := by
  unfold RefP
  rw [c.at1, c.1, c.at h4, c.at h5]
  exact r
theorem SzIs.ch {ks : List Nat} {h h' : Hp} {P : RW} (r : SzIs h P) (c : CHr ks h h') (h4 : 22 ∉ ks) : SzIs h' P := by
  unfold SzIs
  rw [c.at h4]
  exact r
def wfP (L N : Nat) (P : RW) : Prop := P 0 0 = nI L ∧ P 0 1 = nI N ∧ 1 ≤ L ∧ L ≤ 4 ∧ 1 ≤ N ∧ N ≤ 12 ∧ ∀ k, k < 6 → (P 3 k = 0 ∨ P 3 k = 1) ∧ (P 3 k ≠ 0 → ∃ l, l < L ∧ P 4 k = nI l) ∧ (P 9 k = 0 ∨ P 9 k = 1 ∨ P 9 k = 2) ∧ (∃ s, s ≤ 2 ∧ P 8 k = nI s) ∧ ∃ e, e ≤ 9 ∧ P 7 k = nI e
def onOK (L N : Nat) (c : Int32) : Prop := ∃ a l, a < N ∧ l < L ∧ c = nI (4 * a + l)
def wfW (L N : Nat) (P W : RW) : Prop := ∀ k, k < 6 → (W 4 k = 0 ∨ W 4 k = 1) ∧ (W 3 k = -1 ∨ (W 4 k = 0 ∧ P 3 k ≠ 0 ∧ onOK L N (W 3 k)))
theorem cell_div {a l : Nat} (ha : a < 12) (hl : l < 4) : nI (4 * a + l) / 4 = nI a ∧ iR (nI (4 * a + l)) 4 = nI l := by
  rw [show (4 : Int32) = nI 4 from rfl]
  refine ⟨?_, ?_⟩
  · rw [pk_div (by omega) (by decide) (by decide)]; congr 1; omega
  · unfold iR
    rw [pk_rem (by omega) (by decide) (by decide)]; congr 1; omega
theorem on_ne {L N : Nat} {c : Int32} (hL : L ≤ 4) (hN : N ≤ 12) (h : onOK L N c) : 0 ≤ c ∧ c ≠ -1 := by
  obtain ⟨a, l, ha, hl, rfl⟩ := h
  have h0 : (0 : Int32) ≤ nI (4 * a + l) := nI_pos' (by omega)
  exact ⟨h0, fun z => by rw [z] at h0; exact absurd h0 (by decide)⟩
theorem off_nat {a b : Nat} (ha : a < 100) (hb : b < 100) : (if nI b < nI a then nI a - nI b else nI b - nI a) = iAbs (nI a - nI b) := by
  have h1 := nI_pos' (n := a) (by omega)
  have h2 := nI_pos' (n := b) (by omega)
  have h3 : nI a < nI 100 := nI_lt ha (by decide)
  have h4 : nI b < nI 100 := nI_lt hb (by decide)
  rw [show nI 100 = (100 : Int32) from rfl] at h3 h4
  unfold iAbs
  grind
/-! the state of the walk goes on well -/
section WF
variable {L N : Nat} {P W : RW}
theorem ahead_ok (hP : wfP L N P) {k a l : Nat} (ha : a < N) (hl : l < L) (hc : W 3 k = nI (4 * a + l)) : (aheadS P W k < 0 ∨ ¬ aheadS P W k < P 0 1) ∨ ∃ b, b < N ∧ aheadS P W k = nI b ∧ ¬ (aheadS P W k < 0 ∨ ¬ aheadS P W k < P 0 1) := by
  obtain ⟨p0, p1, l1, l2, n1, n2, -⟩ := hP
  have hd := (cell_div (a := a) (l := l) (by omega) (by omega)).1
  unfold aheadS
  rw [hc, hd, p1]
  split
  · rw [nI_add1]
    by_cases hb : a + 1 < N
    · exact Or.inr ⟨a + 1, hb, rfl, by rw [not_or]; exact ⟨nI_pos (by omega), fun z => z (nI_lt hb (by omega))⟩⟩
    · exact Or.inl (Or.inr (nI_nlt (by omega) (by omega)))
  · cases a with
    | zero => exact Or.inl (Or.inl (by decide))
    | succ a =>
      rw [nI_pred]
      exact Or.inr ⟨a, by omega, rfl, by rw [not_or]; exact ⟨nI_pos (by omega), fun z => z (nI_lt (by omega) (by omega))⟩⟩
theorem beside_ok (hP : wfP L N P) {k l : Nat} (hl : l < L) (hb : besideS P k (nI l) ≠ -1) : ∃ m, m < L ∧ besideS P k (nI l) = nI m := by
  obtain ⟨p0, p1, l1, l2, n1, n2, -⟩ := hP
  revert hb
  unfold besideS
  rw [p0]
  generalize (if ((P 9 k = 1) ↔ (P 5 k = 0)) then nI l - 1 else nI l + 1) = x
  split
  · intro hb; exact absurd rfl hb
  · split
    · rename_i c2
      intro _
      obtain ⟨j, hj, e⟩ := nI_of (x := x) (by grind)
      subst e
      exact ⟨j, (nI_ltI hj (by omega)).mp c2.2, rfl⟩
    · intro hb; exact absurd rfl hb
theorem wf_u2 {r i : Nat} {v : Int32} (hW : wfW L N P W) (h3 : r ≠ 3) (h4 : r ≠ 4) : wfW L N P (u2 W r i v) := by
  intro k hk
  have e3 : (u2 W r i v) 3 k = W 3 k := by unfold u2; rw [if_neg (fun z => h3 z.1.symm)]
  have e4 : (u2 W r i v) 4 k = W 4 k := by unfold u2; rw [if_neg (fun z => h4 z.1.symm)]
  rw [e3, e4]
  exact hW k hk
theorem wf_u3 {i : Nat} {v : Int32} (hW : wfW L N P W) (h4 : W 4 i = 0) (hp : P 3 i ≠ 0) (ho : onOK L N v) : wfW L N P (u2 W 3 i v) := by
  intro k hk
  have e4 : (u2 W 3 i v) 4 k = W 4 k := by unfold u2; rw [if_neg (by omega)]
  rw [e4]
  by_cases e : k = i
  · subst e
    have e3 : (u2 W 3 k v) 3 k = v := by unfold u2; rw [if_pos ⟨rfl, rfl⟩]
    rw [e3]
    exact ⟨(hW k hk).1, Or.inr ⟨h4, hp, ho⟩⟩
  · have e3 : (u2 W 3 i v) 3 k = W 3 k := by unfold u2; rw [if_neg (fun z => e z.2)]
    rw [e3]
    exact hW k hk
theorem wf_move (hP : wfP L N P) (hW : wfW L N P W) {k : Nat} (hk : k < 6) (hon : W 3 k ≠ -1) : wfW L N P (moveS P k W) := by
  have h0 := hW k hk
  rcases h0.2 with z | ⟨h4, hp, a, l, ha, hl, hc⟩
  · exact absurd z hon
  obtain ⟨p0, p1, l1, l2, n1, n2, -⟩ := id hP
  have hd := cell_div (a := a) (l := l) (by omega) (by omega)
  unfold moveS
  rcases ahead_ok hP ha hl hc with c | ⟨b, hb, eb, c⟩
  · rw [if_pos c]
    intro j hj
    by_cases e : j = k
    · subst e
      exact ⟨Or.inr (by simp [u2]), Or.inl (by simp [u2])⟩
    · have := hW j hj
      simpa [u2, e] using this
  · rw [if_neg c]
    split
    · refine wf_u3 hW h4 hp ⟨b, l, hb, hl, ?_⟩
      rw [eb, hc, hd.2, show (4 : Int32) = nI 4 from rfl, pk_mul, nI_add]
    · split
      · rename_i c3
        rw [hc, hd.2] at c3
        obtain ⟨m, hm, em⟩ := beside_ok hP hl c3.1
        refine wf_u3 hW h4 hp ⟨a, m, ha, hm, ?_⟩
        rw [hc, hd.1, hd.2, em, show (4 : Int32) = nI 4 from rfl, pk_mul, nI_add]
      · exact wf_u2 hW (by decide) (by decide)
theorem first_ok (hP : wfP L N P) {k : Nat} (hk : k < 6) (hp : P 3 k ≠ 0) : onOK L N (firstS P k) := by
  obtain ⟨p0, p1, l1, l2, n1, n2, q⟩ := hP
  obtain ⟨l, hl, el⟩ := (q k hk).2.1 hp
  unfold firstS
  rw [el, p1]
  split
  · exact ⟨0, l, by omega, hl, by rw [show (4 : Int32) * 0 = nI 0 from by decide, nI_add]⟩
  · refine ⟨N - 1, l, by omega, hl, ?_⟩
    rw [show (1 : Int32) = nI 1 from rfl, pk_sub n1, show (4 : Int32) = nI 4 from rfl, pk_mul, nI_add]
theorem wf_come (hP : wfP L N P) (hW : wfW L N P W) {k : Nat} (hk : k < 6) (hp : P 3 k ≠ 0) (h4 : W 4 k = 0) : wfW L N P (comeS P k W) := by
  unfold comeS
  split
  · exact wf_u3 hW h4 hp (first_ok hP hk hp)
  · exact hW
theorem wf_stepA (hP : wfP L N P) {k : Nat} (hk : k < 6) (hW : wfW L N P W) : wfW L N P (stepA P k W) := by
  unfold stepA
  split
  · rename_i c; exact wf_move hP hW hk c
  · exact hW
theorem wf_stepB (hP : wfP L N P) {k : Nat} (hk : k < 6) (hW : wfW L N P W) : wfW L N P (stepB P k W) := by
  unfold stepB
  split
  · rename_i c; exact wf_come hP hW hk c.1 c.2.2.2
  · exact hW
theorem itr_ind {α : Type} {f : Nat → α → α} {I : α → Prop} {n : Nat} (hs : ∀ k x, k < n → I x → I (f k x)) : ∀ m, m ≤ n → ∀ x, I x → I (itr f m x)
  | 0, _, x, h => h
  | m + 1, hm, x, h => hs m _ (by omega) (itr_ind hs m (by omega) x h)
theorem wf_pokeOne {j k : Nat} (hW : wfW L N P W) : wfW L N P (pokeOne P j k W) := by
  unfold pokeOne
  split
  · exact wf_u2 (wf_u2 (wf_u2 hW (by decide) (by decide)) (by decide) (by decide)) (by decide) (by decide)
  · exact hW
theorem wf_poke (hW : wfW L N P W) : wfW L N P (pokeS P W) := itr_ind (fun k x _ hx => itr_ind (n := k) (fun j y _ hy => wf_pokeOne hy) k (Nat.le_refl _) x hx) 6 (Nat.le_refl _) W hW
theorem wf_rainOne {amt : Int32} {k : Nat} (hW : wfW L N P W) : wfW L N P (rainOne P amt k W) := by
  unfold rainOne
  split
  · exact wf_u2 hW (by decide) (by decide)
  · exact hW
theorem wf_rain (hW : wfW L N P W) : wfW L N P (rainS P W) := itr_ind (fun k x _ hx => wf_rainOne hx) 6 (Nat.le_refl _) W hW
theorem wf_tickG (hP : wfP L N P) (hW : wfW L N P W) : wfW L N P (tickG P W) :=
  wf_u2 (wf_rain (wf_poke (itr_ind (fun k x hk hx => wf_stepB hP hk hx) 6 (Nat.le_refl _) _ (itr_ind (fun k x hk hx => wf_stepA hP hk hx) 6 (Nat.le_refl _) W hW)))) (by decide) (by decide)
end WF

/-! the reference's methods -/
abbrev toldS (P : RW) (k : Nat) : Prop := P 3 k ≠ 0
section RT
variable {X : XS} {h : Hp} {L N : Nat} {W P : RW}
theorem r_has (hR : RefP h P) (hP : wfP L N P) {k : Nat} (hk : k < 6) (h' : Hp) : EvI X m_Rf_has [vI (h.1 [1] 3), vI (nI k)] h' (fun r h2 => r = bI (P 3 k ≠ 0) ∧ h2 = h') := by
  apply e_Rf_has
  apply g_Rf_has_0
  rw [hR.2.2.2.1 k hk]
  have := (hP.2.2.2.2.2.2 k hk).1
  exact ⟨fun c => ⟨_, rfl, eqF (by grind), rfl⟩, fun c => ⟨_, rfl, eqT (by rw [c]; decide), rfl⟩⟩
theorem now_on {k : Nat} (hk : k < 6) (h4 : W 4 k = 0) : nowOf W k = W 3 k + 1 := by
  unfold nowOf
  rw [if_pos hk, if_neg (fun z => z h4)]
theorem now_out {k : Nat} (hk : k < 6) (h4 : W 4 k ≠ 0) : nowOf W k = -1 := by
  unfold nowOf
  rw [if_pos hk, if_pos h4]
theorem r_whoAt (hR : RefP h P) (hP : wfP L N P) (hN : NowIs h W) (hW : wfW L N P W) {c : Int32} (hc : onOK L N c) : EvI X m_Rf_whoAt [vR [1], vI c] h (fun r h' => r = whoS W c ∧ h' = h) := by
  have hc0 := on_ne hP.2.2.2.1 hP.2.2.2.2.2.1 hc
  apply e_Rf_whoAt
  apply g_Rf_whoAt_0
  have lp : ∀ (n i : Nat), i + n = 6 → Rn X m_Rf_whoAt 2 [some (vR [1]), some (vI c), some (vI (nI i))] [] h (fun v h' => ∃ r, v = some (vI r) ∧ r = whoG W c n i ∧ h' = h) := by
    intro n
    induction n with
    | zero =>
      intro i hi
      have : i = 6 := by omega
      subst this
      exact g_Rf_whoAt_2 _ _ _ _ (cT e6 ⟨_, rfl, rfl, rfl⟩)
    | succ n ih =>
      intro i hi
      have hi6 : i < 6 := by omega
      refine g_Rf_whoAt_2 _ _ _ _ (cF (n6 hi6) ?_)
      rw [nI_add1, show whoG W c (n + 1) i = if W 3 i = c ∧ c ≠ -1 then nI i else whoG W c n (i + 1) from rfl]
      have k := ih (i + 1) (by omega)
      have hw := hW i hi6
      refine callB (r_has hR hP hi6 h) (fun c1 => z1a ⟨vp_in_nI (by omega) (by decide), ?_⟩) (fun c1 => z0a ?_)
      · rw [ci (by omega), hN i (by omega)]
        rcases hw.1 with h4 | h4
        · rw [now_on hi6 h4]
          refine ⟨fun c2 => ?_, fun c2 => ⟨_, rfl, ?_, rfl⟩⟩
          · rw [if_neg (fun z => c2 (by rw [z.1]))]; exact k
          · rw [if_pos ⟨by grind, hc0.2⟩]
        · rw [now_out hi6 (by rw [h4]; decide)]
          refine ⟨fun c2 => ?_, fun c2 => absurd c2 (by grind)⟩
          have h3 : W 3 i = -1 := by
            rcases hw.2 with z | z
            · exact z
            · exact absurd z.1 (by rw [h4]; decide)
          rw [if_neg (fun z => hc0.2 (by rw [← z.1]; exact h3))]; exact k
      · have h3 : W 3 i = -1 := by
          rcases hw.2 with z | z
          · exact z
          · exact absurd z.2.1 c1
        rw [if_neg (fun z => hc0.2 (by rw [← z.1]; exact h3))]; exact k
  exact lp 6 0 rfl
theorem r_isOn (hR : RefP h P) (hP : wfP L N P) (hN : NowIs h W) (hW : wfW L N P W) {k : Nat} (hk : k < 6) : EvI X m_Rf_isOn [vR [1], vI (nI k)] h (fun r h' => r = bI (W 3 k ≠ -1) ∧ h' = h) := by
  have hw := hW k hk
  apply e_Rf_isOn
  refine g_Rf_isOn_0 _ _ _ (callB (r_has hR hP hk h) (fun c1 => z1a ⟨vp_in_nI (by omega) (by decide), ?_⟩) (fun c1 => z0a ⟨_, rfl, eqF ?_, rfl⟩))
  · rw [ci (by omega), hN k (by omega)]
    rcases hw.2 with h3 | ⟨h4, hp, ho⟩
    · have : nowOf W k ≤ 0 := by
        rcases hw.1 with h4 | h4
        · rw [now_on hk h4, h3]; decide
        · rw [now_out hk (by rw [h4]; decide)]; decide
      exact cT this ⟨_, rfl, eqF (fun z => z h3), rfl⟩
    · have h0 := on_ne hP.2.2.2.1 hP.2.2.2.2.2.1 ho
      obtain ⟨a, l, ha, hl, e⟩ := ho
      have hb := hP.2.2.2.2.2.1
      have hb2 := hP.2.2.2.1
      rw [now_on hk h4]
      refine cF ?_ ⟨_, rfl, eqT h0.2, rfl⟩
      rw [e, nI_add1]
      exact nI_nle (by omega) (by omega)
  · rcases hw.2 with h3 | ⟨h4, hp, ho⟩
    · exact fun z => z h3
    · exact absurd hp c1
theorem r_place (hN : NowIs h W) (hW : wfW L N P W) {k : Nat} (hk : k < 6) (hon : W 3 k ≠ -1) : EvI X m_Rf_placeOf [vR [1], vI (nI k)] h (fun r h' => r = W 3 k / 4 ∧ h' = h) := by
  apply e_Rf_placeOf
  refine g_Rf_placeOf_0 _ _ _ ⟨vp_in_nI (by omega) (by decide), _, rfl, ?_, rfl⟩
  rcases (hW k hk).2 with h3 | ⟨h4, hp, ho⟩
  · exact absurd h3 hon
  · rw [ci (by omega), hN k (by omega), now_on hk h4, show W 3 k + 1 - 1 = W 3 k by grind]
theorem r_lane (hN : NowIs h W) (hW : wfW L N P W) {k : Nat} (hk : k < 6) (hon : W 3 k ≠ -1) : EvI X m_Rf_laneOf [vR [1], vI (nI k)] h (fun r h' => r = iR (W 3 k) 4 ∧ h' = h) := by
  apply e_Rf_laneOf
  refine g_Rf_laneOf_0 _ _ _ ⟨vp_in_nI (by omega) (by decide), _, rfl, ?_, rfl⟩
  rcases (hW k hk).2 with h3 | ⟨h4, hp, ho⟩
  · exact absurd h3 hon
  · rw [ci (by omega), hN k (by omega), now_on hk h4, show W 3 k + 1 - 1 = W 3 k by grind]
theorem NowIs.put {W' : RW} (hN : NowIs h W) {i : Nat} {v : Int32} (he : ∀ j, j < 26 → nowOf W' j = if j = i then v else nowOf W j) : NowIs (hsI h [18, 1] i v) W' := by
  intro j hj
  show (if [18, 1] = [18, 1] ∧ j = i then v else h.1 [18, 1] j) = _
  rw [he j hj, hN j hj]
  by_cases e : j = i <;> simp [e]
theorem now_u3 {k : Nat} {v : Int32} (hk : k < 6) (h4 : W 4 k = 0) : ∀ j, j < 26 → nowOf (u2 W 3 k v) j = if j = k then v + 1 else nowOf W j := by
  intro j hj
  unfold nowOf u2
  grind
theorem now_thru {k : Nat} (hk : k < 6) : ∀ j, j < 26 → nowOf (u2 (u2 W 4 k 1) 3 k (-1)) j = if j = k then -1 else nowOf W j := by
  intro j hj
  unfold nowOf u2
  grind
theorem now_row {r k b : Nat} {v : Int32} (hk : k < 6) (hr : (r = 5 ∧ b = 6) ∨ (r = 6 ∧ b = 12) ∨ (r = 7 ∧ b = 18)) : ∀ j, j < 26 → nowOf (u2 W r k v) j = if j = b + k then v else nowOf W j := by
  intro j hj
  unfold nowOf u2
  grind
theorem now_tk {v : Int32} : ∀ j, j < 26 → nowOf (u2 W 0 1 v) j = if j = 24 then v else nowOf W j := by
  intro j hj
  unfold nowOf u2
  grind
theorem now_pp {v : Int32} : ∀ j, j < 26 → nowOf (u2 W 0 2 v) j = if j = 25 then v else nowOf W j := by
  intro j hj
  unfold nowOf u2
  grind
end RT
