/-! a tick of the class's street -/
abbrev cellHas (P : RW) (c : Int32) : Prop := 0 ≤ c ∧ c < 48 ∧ iR c 4 < P 0 0 ∧ c / 4 < P 0 1
abbrev dryS (P : RW) (c : Int32) : Prop := cellHas P c ∧ P 2 c.toNatClampNeg ≠ 0
def rainOfS (P : RW) (t : Int32) : Int32 := if 0 ≤ t ∧ t < 60 then P 10 t.toNatClampNeg else 0
def whoG (W : RW) (c : Int32) : Nat → Nat → Int32
  | 0, _ => -1
  | n + 1, i => if W 3 i = c ∧ c ≠ -1 then nI i else whoG W c n (i + 1)
def whoS (W : RW) (c : Int32) : Int32 := whoG W c 6 0
def besideS (P : RW) (k : Nat) (lane : Int32) : Int32 :=
  if P 9 k ≠ 1 ∧ P 9 k ≠ 2 then -1 else
  if 0 ≤ (if ((P 9 k = 1) ↔ (P 5 k = 0)) then lane - 1 else lane + 1) ∧ (if ((P 9 k = 1) ↔ (P 5 k = 0)) then lane - 1 else lane + 1) < P 0 0 then (if ((P 9 k = 1) ↔ (P 5 k = 0)) then lane - 1 else lane + 1) else -1
def aheadS (P W : RW) (k : Nat) : Int32 := if P 5 k = 0 then W 3 k / 4 + 1 else W 3 k / 4 - 1
def moveS (P : RW) (k : Nat) (W : RW) : RW :=
  if aheadS P W k < 0 ∨ ¬ aheadS P W k < P 0 1 then u2 (u2 W 4 k 1) 3 k (-1)
  else if whoS W (4 * aheadS P W k + iR (W 3 k) 4) = -1 then u2 W 3 k (4 * aheadS P W k + iR (W 3 k) 4)
  else if besideS P k (iR (W 3 k) 4) ≠ -1 ∧ whoS W (4 * (W 3 k / 4) + besideS P k (iR (W 3 k) 4)) = -1 then u2 W 3 k (4 * (W 3 k / 4) + besideS P k (iR (W 3 k) 4))
  else u2 W 7 k (W 7 k + 1)
def firstS (P : RW) (k : Nat) : Int32 := 4 * (if P 5 k = 0 then 0 else P 0 1 - 1) + P 4 k
def comeS (P : RW) (k : Nat) (W : RW) : RW := if whoS W (firstS P k) = -1 then u2 W 3 k (firstS P k) else W
def placesA (W : RW) (j k : Nat) : Int32 := iAbs (W 3 j / 4 - W 3 k / 4)
def lanesA (W : RW) (j k : Nat) : Int32 := iAbs (iR (W 3 j) 4 - iR (W 3 k) 4)
abbrev pokingS (P W : RW) (j k : Nat) : Prop := P 8 j ≠ 0 ∧ P 8 k ≠ 0 ∧ iAbs (P 7 j - P 7 k) < 2 ∧ placesA W j k ≤ 1 ∧ lanesA W j k ≤ iMax (P 8 j) (P 8 k)
def pokeOne (P : RW) (j k : Nat) (W : RW) : RW := if W 3 j ≠ -1 ∧ W 3 k ≠ -1 ∧ pokingS P W j k then u2 (u2 (u2 W 6 j (W 6 j + 1)) 6 k ((u2 W 6 j (W 6 j + 1)) 6 k + 1)) 0 2 (W 0 2 + 1) else W
def pokeRow (P : RW) (k : Nat) (W : RW) : RW := itr (fun j => pokeOne P j k) k W
def pokeS (P W : RW) : RW := itr (pokeRow P) 6 W
def bareG (P W : RW) (k : Nat) (amt : Int32) : Nat → Nat → Int32 → Int32
  | 0, _, s => s
  | n + 1, j, s => if j = k ∨ W 3 j = -1 ∨ P 8 j = 0 ∨ placesA W j k ≠ 0 then bareG P W k amt n (j + 1) s
    else if lanesA W j k < P 8 j then 0
    else bareG P W k amt n (j + 1) (s + if lanesA W j k = P 8 j then amt / 2 else 0)
def gainS (P W : RW) (amt : Int32) (k : Nat) : Int32 := if 0 < P 8 k then amt / (P 8 k + 1) else bareG P W k amt 6 0 amt
def rainOne (P : RW) (amt : Int32) (k : Nat) (W : RW) : RW := if W 3 k ≠ -1 ∧ ¬ dryS P (W 3 k) then u2 W 5 k (W 5 k + gainS P W amt k) else W
def rainS (P W : RW) : RW := itr (rainOne P (rainOfS P (W 0 1))) 6 W
def stepA (P : RW) (k : Nat) (W : RW) : RW := if W 3 k ≠ -1 then moveS P k W else W
def stepB (P : RW) (k : Nat) (W : RW) : RW := if P 3 k ≠ 0 ∧ ¬ W 0 1 < P 6 k ∧ W 3 k = -1 ∧ W 4 k = 0 then comeS P k W else W
def tickG (P W : RW) : RW := (fun V : RW => u2 V 0 1 (V 0 1 + 1)) (rainS P (pokeS P (itr (stepB P) 6 (itr (stepA P) 6 W))))
def tickS (P W : RW) : RW := if W 0 1 < 60 then tickG P W else W
section CW
variable {X : XS} {h : Hp} {w p : List Nat} {W P : RW}
theorem s_hasCell (hp : IsPl p) (hP : PlanIs h p P) (c : Int32) : EvI X m_Pl_hasCell [vR p, vI c] h (fun r h' => r = bI (cellHas P c) ∧ h' = h) := by
  apply e_Pl_hasCell
  refine g_Pl_hasCell_0 _ _ _ _ hp ?_
  rw [hP.1 0 (by omega), hP.1 1 (by omega)]
  refine ⟨fun c1 => ⟨_, rfl, eqF (fun z => by grind), rfl⟩, fun c1 => ⟨fun c2 => ⟨_, rfl, eqF (fun z => by grind), rfl⟩, fun c2 => ⟨fun c3 => ⟨_, rfl, eqF (fun z => by grind), rfl⟩, fun c3 => ⟨fun c4 => ⟨_, rfl, eqF (fun z => by grind), rfl⟩, fun c4 => ⟨_, rfl, eqT (by grind), rfl⟩⟩⟩⟩⟩
theorem s_isDry (hp : IsPl p) (hP : PlanIs h p P) (c : Int32) : EvI X m_Pl_isDry [vR p, vI c] h (fun r h' => r = bI (dryS P c) ∧ h' = h) := by
  apply e_Pl_isDry
  refine g_Pl_isDry_0 _ _ _ _ hp (callB (s_hasCell hp hP c) (fun c1 => z1a ?_) (fun c1 => z0a ⟨_, rfl, eqF (fun z => c1 z.1), rfl⟩))
  obtain ⟨n, hn, rfl⟩ := nI_of (x := c) (by grind)
  have hn2 : n < 48 := (nI_ltI hn (by decide)).mp c1.2.1
  refine ⟨vp_in_nI hn2 (by decide), ?_⟩
  have e : h.1 (2 :: p) (nI n).toNatClampNeg = P 2 (nI n).toNatClampNeg := by rw [ci hn]; exact hP.2.1 n hn2
  rw [e]
  refine ⟨fun c2 => ⟨_, rfl, eqF (fun z => z.2 c2), rfl⟩, fun c2 => ⟨_, rfl, eqT ⟨c1, c2⟩, rfl⟩⟩
theorem s_rainOf (hp : IsPl p) (hP : PlanIs h p P) (t : Int32) : EvI X m_Pl_rainOf [vR p, vI t] h (fun r h' => r = rainOfS P t ∧ h' = h) := by
  apply e_Pl_rainOf
  refine g_Pl_rainOf_0 _ _ _ _ hp ⟨fun c1 => ⟨_, rfl, by unfold rainOfS; rw [if_neg (by grind)], rfl⟩, fun c1 => ⟨fun c2 => ⟨_, rfl, by unfold rainOfS; rw [if_neg (by grind)], rfl⟩, fun c2 => ?_⟩⟩
  obtain ⟨n, hn, rfl⟩ := nI_of c1
  have hn2 : n < 60 := (nI_ltI hn (by decide)).mp (by show nI n < 60; grind)
  refine ⟨vp_in_nI hn2 (by decide), _, rfl, ?_, rfl⟩
  unfold rainOfS
  rw [if_pos (by grind), ci hn, hP.2.2.2 n hn2]
theorem c_isOn (hw : IsWk w) (hW : WalkIs h w W) {k : Nat} (hk : k < 6) : EvI X m_Wk_isOn [vR w, vI (nI k)] h (fun r h' => r = bI (W 3 k ≠ -1) ∧ h' = h) := by
  apply e_Wk_isOn
  refine g_Wk_isOn_0 _ _ _ _ hw (cF (nI_pos (by omega)) (cF (n6 hk) ⟨v6 hk, ?_⟩))
  rw [ci (by omega), hW.2 3 (by omega) (by omega) k hk]
  exact ⟨fun c => ⟨_, rfl, eqF (fun z => z c), rfl⟩, fun c => ⟨_, rfl, eqT c, rfl⟩⟩
theorem c_who (hw : IsWk w) (hW : WalkIs h w W) (c : Int32) : EvI X m_Wk_whoIsAt [vR w, vI c] h (fun r h' => r = whoS W c ∧ h' = h) := by
  apply e_Wk_whoIsAt
  refine g_Wk_whoIsAt_0 _ _ _ _ hw ?_
  have lp : ∀ (n i : Nat), i + n = 6 → Rn X m_Wk_whoIsAt 2 [some (vR w), some (vI c), some (vI (nI i))] [] h (fun v h' => ∃ r, v = some (vI r) ∧ r = whoG W c n i ∧ h' = h) := by
    intro n
    induction n with
    | zero =>
      intro i hi
      have : i = 6 := by omega
      subst this
      exact g_Wk_whoIsAt_2 _ _ _ _ _ hw (cT e6 ⟨_, rfl, rfl, rfl⟩)
    | succ n ih =>
      intro i hi
      refine g_Wk_whoIsAt_2 _ _ _ _ _ hw (cF (n6 (by omega)) ⟨v6 (by omega), ?_⟩)
      rw [ci (by omega), hW.2 3 (by omega) (by omega) i (by omega), nI_add1]
      have k := ih (i + 1) (by omega)
      rw [show whoG W c (n + 1) i = if W 3 i = c ∧ c ≠ -1 then nI i else whoG W c n (i + 1) from rfl]
      refine ⟨fun c1 => ?_, fun c1 => ⟨fun c2 => ?_, fun c2 => ⟨_, rfl, by rw [if_pos ⟨c1, c2⟩], rfl⟩⟩⟩
      · rw [if_neg (fun z => c1 z.1)]; exact k
      · rw [if_neg (fun z => z.2 c2)]; exact k
  exact lp 6 0 rfl
theorem c_beside (hw : IsWk w) (hp : IsPl p) (hP : PlanIs h p P) {k : Nat} (hk : k < 6) (lane : Int32) : EvI X m_Wk_laneBeside [vR w, vR p, vI (nI k), vI lane] h (fun r h' => r = besideS P k lane ∧ h' = h) := by
  apply e_Wk_laneBeside
  refine g_Wk_laneBeside_0 _ _ _ _ _ _ hw hp ⟨v6 hk, ?_⟩
  have e9 := hP.2.2.1 9 (by omega) (by omega) k hk
  have e5 := hP.2.2.1 5 (by omega) (by omega) k hk
  have e0 := hP.1 0 (by omega)
  rw [ci (by omega), e9]
  have m22 : (P 9 k = 1 ∨ P 9 k = 2) → Rn X m_Wk_laneBeside 22 [some (vR w), some (vR p), some (vI (nI k)), some (vI lane), none, none] [] h (fun v h' => ∃ r, v = some (vI r) ∧ r = besideS P k lane ∧ h' = h) := by
    intro hr
    have m75 : ∀ s a4 : Int32, s = (if ((P 9 k = 1) ↔ (P 5 k = 0)) then lane - 1 else lane + 1) → Rn X m_Wk_laneBeside 75 [some (vR w), some (vR p), some (vI (nI k)), some (vI lane), some (vI a4), none] [vI s] h (fun v h' => ∃ r, v = some (vI r) ∧ r = besideS P k lane ∧ h' = h) := by
      intro s a4 hs
      refine g_Wk_laneBeside_75 _ _ _ _ _ _ _ _ hw hp ?_
      rw [e0]
      have hb : besideS P k lane = if 0 ≤ s ∧ s < P 0 0 then s else -1 := by
        unfold besideS
        rw [if_neg (by grind), ← hs]
      refine ⟨fun c => ⟨_, rfl, by rw [hb, if_neg (by grind)], rfl⟩, fun c => ⟨fun c2 => ⟨_, rfl, by rw [hb, if_neg (by grind)], rfl⟩, fun c2 => ⟨_, rfl, by rw [hb, if_pos (by grind)], rfl⟩⟩⟩
    have m51 : ∀ a b : Int32, (b = a ↔ ((P 9 k = 1) ↔ (P 5 k = 0))) → Rn X m_Wk_laneBeside 51 [some (vR w), some (vR p), some (vI (nI k)), some (vI lane), none, none] [vI a, vI b] h (fun v h' => ∃ r, v = some (vI r) ∧ r = besideS P k lane ∧ h' = h) := by
      intro a b hab
      refine g_Wk_laneBeside_51 _ _ _ _ _ _ _ _ hw hp ⟨fun c => ?_, fun c => ?_⟩
      · exact g_Wk_laneBeside_59 _ _ _ _ _ _ _ hw hp (z0a (m75 _ _ (by rw [if_neg (fun z => c (hab.mpr z))])))
      · exact g_Wk_laneBeside_59 _ _ _ _ _ _ _ hw hp (z1a (m75 _ _ (by rw [if_pos (hab.mp c)])))
    refine g_Wk_laneBeside_22 _ _ _ _ _ _ hw hp ⟨v6 hk, ?_⟩
    rw [ci (by omega), e9]
    refine ⟨fun c => ?_, fun c => ?_⟩
    · refine g_Wk_laneBeside_37 _ _ _ _ _ _ _ hw hp ⟨v6 hk, ?_⟩
      rw [ci (by omega), e5]
      exact ⟨fun c2 => m51 _ _ (by simp [c, c2]), fun c2 => m51 _ _ (by simp [c, c2])⟩
    · refine g_Wk_laneBeside_37 _ _ _ _ _ _ _ hw hp ⟨v6 hk, ?_⟩
      rw [ci (by omega), e5]
      exact ⟨fun c2 => m51 _ _ (by simp [c, c2]), fun c2 => m51 _ _ (by simp [c, c2])⟩
  refine ⟨fun c => m22 (Or.inl c), fun c => ⟨v6 hk, fun c2 => m22 (Or.inr c2), fun c2 => ⟨_, rfl, ?_, rfl⟩⟩⟩
  unfold besideS
  rw [if_pos ⟨c, c2⟩]
/-- what a method that changes the walk alone does -/
def WkPost (w : List Nat) (h : Hp) (W' : RW) : Hp → Prop := fun h' => WalkIs h' w W' ∧ CH w h h'
theorem c_move (hw : IsWk w) (hp : IsPl p) (hW : WalkIs h w W) (hP : PlanIs h p P) {k : Nat} (hk : k < 6) : EvV X m_Wk_move [vR w, vR p, vI (nI k)] h (WkPost w h (moveS P k W)) := by
  apply e_Wk_move
  have w3 := hW.2 3 (by omega) (by omega) k hk
  have w7 := hW.2 7 (by omega) (by omega) k hk
  have p5 := hP.2.2.1 5 (by omega) (by omega) k hk
  refine g_Wk_move_0 _ _ _ _ _ hw hp ⟨v6 hk, v6 hk, v6 hk, ?_⟩
  rw [ci (by omega), w3, p5]
  have main : Rn X m_Wk_move 37 [some (vR w), some (vR p), some (vI (nI k)), some (vI (W 3 k / 4)), some (vI (iR (W 3 k) 4)), none, none] [vI (aheadS P W k)] h (fun v h' => v = none ∧ WkPost w h (moveS P k W) h') := by
    refine g_Wk_move_37 _ _ _ _ _ _ _ _ hw hp (callP (c_beside hw hp hP hk _) ?_)
    rw [hP.1 1 (by omega), ci (by omega)]
    have out : (aheadS P W k < 0 ∨ ¬ aheadS P W k < P 0 1) → WkPost w h (moveS P k W) (hsI (hsI h (4 :: w) k 1) (3 :: w) k (-1)) := by
      intro c
      unfold moveS
      rw [if_pos c]
      exact ⟨(hW.set (by omega)).set (by omega), CH.set.tr CH.set⟩
    refine ⟨fun c => ⟨v6 hk, v6 hk, rfl, out (Or.inl c)⟩, fun c => ⟨fun c2 => ?_, fun c2 => ⟨v6 hk, v6 hk, rfl, out (Or.inr c2)⟩⟩⟩
    have e : moveS P k W = if whoS W (4 * aheadS P W k + iR (W 3 k) 4) = -1 then u2 W 3 k (4 * aheadS P W k + iR (W 3 k) 4)
  else if besideS P k (iR (W 3 k) 4) ≠ -1 ∧ whoS W (4 * (W 3 k / 4) + besideS P k (iR (W 3 k) 4)) = -1 then u2 W 3 k (4 * (W 3 k / 4) + besideS P k (iR (W 3 k) 4))
  else u2 W 7 k (W 7 k + 1) := by
      rw [moveS, if_neg (by simp only [not_or, Classical.not_not]; exact ⟨c, c2⟩)]
    rw [e]
    refine callP (c_who hw hW _) ⟨fun c3 => callP (c_beside hw hp hP hk _) ?_, fun c3 => ⟨v6 hk, rfl, ?_⟩⟩
    · rw [w7, if_neg c3]
      refine ⟨fun c4 => ⟨v6 hk, v6 hk, rfl, ?_⟩, fun c4 => callP (c_who hw hW _) ⟨fun c5 => ⟨v6 hk, v6 hk, rfl, ?_⟩, fun c5 => ⟨v6 hk, rfl, ?_⟩⟩⟩
      · rw [if_neg (fun z => z.1 c4)]; exact ⟨hW.set (by omega), CH.set⟩
      · rw [w7, if_neg (fun z => c5 z.2)]; exact ⟨hW.set (by omega), CH.set⟩
      · rw [if_pos ⟨c4, c5⟩]; exact ⟨hW.set (by omega), CH.set⟩
    · rw [if_pos c3]; exact ⟨hW.set (by omega), CH.set⟩
  refine ⟨fun c => ?_, fun c => ?_⟩
  · rw [aheadS, if_neg c] at main; exact main
  · rw [aheadS, if_pos c] at main; exact main
theorem c_come (hw : IsWk w) (hp : IsPl p) (hW : WalkIs h w W) (hP : PlanIs h p P) {k : Nat} (hk : k < 6) : EvV X m_Wk_come [vR w, vR p, vI (nI k)] h (WkPost w h (comeS P k W)) := by
  apply e_Wk_come
  have p5 := hP.2.2.1 5 (by omega) (by omega) k hk
  have p4 := hP.2.2.1 4 (by omega) (by omega) k hk
  refine g_Wk_come_0 _ _ _ _ _ hw hp ⟨v6 hk, ?_⟩
  rw [ci (by omega), p5, hP.1 1 (by omega)]
  have main : ∀ s : Int32, 4 * s + P 4 k = firstS P k → Rn X m_Wk_come 19 [some (vR w), some (vR p), some (vI (nI k)), none, none] [vI s] h (fun v h' => v = none ∧ WkPost w h (comeS P k W) h') := by
    intro s hs
    refine g_Wk_come_19 _ _ _ _ _ _ hw hp ⟨v6 hk, ?_⟩
    rw [ci (by omega), p4, hs]
    refine callP (c_who hw hW _) ⟨fun c => ⟨rfl, ?_⟩, fun c => ⟨v6 hk, rfl, ?_⟩⟩
    · rw [comeS, if_neg c]; exact ⟨hW, CH.rf⟩
    · rw [comeS, if_pos c]; exact ⟨hW.set (by omega), CH.set⟩
  refine ⟨fun c => main _ ?_, fun c => main _ ?_⟩
  · rw [firstS, if_neg c]
  · rw [firstS, if_pos c]
theorem c_places (hw : IsWk w) (hW : WalkIs h w W) {j k : Nat} (hj : j < 6) (hk : k < 6) : EvI X m_Wk_placesApart [vR w, vI (nI j), vI (nI k)] h (fun r h' => r = placesA W j k ∧ h' = h) := by
  apply e_Wk_placesApart
  refine g_Wk_placesApart_0 _ _ _ _ _ hw ⟨v6 hj, v6 hk, _, rfl, ?_, rfl⟩
  rw [ci (by omega), ci (by omega), hW.2 3 (by omega) (by omega) j hj, hW.2 3 (by omega) (by omega) k hk]
  rfl
theorem c_lanes (hw : IsWk w) (hW : WalkIs h w W) {j k : Nat} (hj : j < 6) (hk : k < 6) : EvI X m_Wk_lanesApart [vR w, vI (nI j), vI (nI k)] h (fun r h' => r = lanesA W j k ∧ h' = h) := by
  apply e_Wk_lanesApart
  refine g_Wk_lanesApart_0 _ _ _ _ _ hw ⟨v6 hj, v6 hk, _, rfl, ?_, rfl⟩
  rw [ci (by omega), ci (by omega), hW.2 3 (by omega) (by omega) j hj, hW.2 3 (by omega) (by omega) k hk]
  rfl
theorem c_poking (hw : IsWk w) (hp : IsPl p) (hW : WalkIs h w W) (hP : PlanIs h p P) {j k : Nat} (hj : j < 6) (hk : k < 6) : EvI X m_Wk_isPoking [vR w, vR p, vI (nI j), vI (nI k)] h (fun r h' => r = bI (pokingS P W j k) ∧ h' = h) := by
  apply e_Wk_isPoking
  refine g_Wk_isPoking_0 _ _ _ _ _ _ hw hp ⟨v6 hj, ?_⟩
  rw [ci (k := j) (by omega), ci (k := k) (by omega), hP.2.2.1 8 (by omega) (by omega) j hj, hP.2.2.1 8 (by omega) (by omega) k hk, hP.2.2.1 7 (by omega) (by omega) j hj, hP.2.2.1 7 (by omega) (by omega) k hk]
  refine ⟨fun c => ⟨_, rfl, eqF (fun z => z.1 c), rfl⟩, fun c => ⟨v6 hk, fun c2 => ⟨v6 hj, v6 hk, fun c3 => ⟨_, rfl, eqF (fun z => absurd z.2.2.1 (by grind)), rfl⟩, fun c3 => ?_⟩, fun c2 => ⟨_, rfl, eqF (fun z => z.2.1 c2), rfl⟩⟩⟩
  refine callP (c_places hw hW hj hk) ⟨fun c4 => ⟨_, rfl, eqF (fun z => absurd z.2.2.2.1 (by grind)), rfl⟩, fun c4 => callP (c_lanes hw hW hj hk) ⟨v6 hj, v6 hk, ?_⟩⟩
  rw [hP.2.2.1 8 (by omega) (by omega) j hj, hP.2.2.1 8 (by omega) (by omega) k hk]
  exact ⟨fun c5 => ⟨_, rfl, eqF (fun z => absurd z.2.2.2.2 (by grind)), rfl⟩, fun c5 => ⟨_, rfl, eqT ⟨c, c2, by grind, by grind, by grind⟩, rfl⟩⟩
theorem c_poke (hw : IsWk w) (hp : IsPl p) (ap : Apart w p) (hW : WalkIs h w W) (hP : PlanIs h p P) : EvV X m_Wk_poke [vR w, vR p] h (WkPost w h (pokeS P W)) := by
  apply e_Wk_poke
  refine g_Wk_poke_0 _ _ _ _ hw hp ?_
  have outer : ∀ (n k : Nat) (hh : Hp) (V : RW), k + n = 6 → WalkIs hh w V → CH w h hh → V = itr (pokeRow P) k W → Rn X m_Wk_poke 2 [some (vR w), some (vR p), some (vI (nI k)), none] [] hh (fun v h' => v = none ∧ WkPost w h (pokeS P W) h') := by
    intro n
    induction n with
    | zero =>
      intro k hh V hk hV hc hv
      have : k = 6 := by omega
      subst this
      refine g_Wk_poke_2 _ _ _ _ _ hw hp (cT e6 ⟨rfl, ?_, hc⟩)
      rw [hv] at hV; exact hV
    | succ n ih =>
      intro k hh V hk hV hc hv
      refine g_Wk_poke_2 _ _ _ _ _ hw hp (cF (n6 (by omega)) ?_)
      have inner : ∀ (m j : Nat) (h2 : Hp) (V2 : RW), j + m = k → WalkIs h2 w V2 → CH w h h2 → V2 = itr (fun j => pokeOne P j k) j V → Rn X m_Wk_poke 10 [some (vR w), some (vR p), some (vI (nI k)), some (vI (nI j))] [] h2 (fun v h' => v = none ∧ WkPost w h (pokeS P W) h') := by
        intro m
        induction m with
        | zero =>
          intro j h2 V2 hj hV2 hc2 hv2
          have : j = k := by omega
          subst this
          refine g_Wk_poke_10 _ _ _ _ _ _ hw hp (cT (nI_le (Nat.le_refl _) (by omega)) ?_)
          rw [nI_add1]
          exact ih (j + 1) h2 V2 (by omega) hV2 hc2 (by rw [hv2, hv]; rfl)
        | succ m ihm =>
          intro j h2 V2 hj hV2 hc2 hv2
          have hP2 := hP.ch hc2 ap
          refine g_Wk_poke_10 _ _ _ _ _ _ hw hp (cF (nI_ge (by omega) (by omega)) ?_)
          rw [nI_add1]
          have no : ¬ (V2 3 j ≠ -1 ∧ V2 3 k ≠ -1 ∧ pokingS P V2 j k) → Rn X m_Wk_poke 10 [some (vR w), some (vR p), some (vI (nI k)), some (vI (nI (j + 1)))] [] h2 (fun v h' => v = none ∧ WkPost w h (pokeS P W) h') := by
            intro hn
            refine ihm (j + 1) h2 V2 (by omega) hV2 hc2 ?_
            rw [itr_s, ← hv2, pokeOne, if_neg hn]
          refine callB (c_isOn hw hV2 (show j < 6 by omega)) (fun c1 => z1a ?_) (fun c1 => z0a (no (fun z => c1 z.1)))
          refine callB (c_isOn hw hV2 (show k < 6 by omega)) (fun c2 => z1a ?_) (fun c2 => z0a (no (fun z => c2 z.2.1)))
          refine callB (c_poking hw hp hV2 hP2 (show j < 6 by omega) (show k < 6 by omega)) (fun c3 => z1a ?_) (fun c3 => z0a (no (fun z => c3 z.2.2)))
          refine ⟨v6 (by omega), v6 (by omega), v6 (by omega), v6 (by omega), ?_⟩
          rw [ci (k := j) (by omega), ci (k := k) (by omega)]
          have s1 : WalkIs (hsI h2 (6 :: w) j (h2.1 (6 :: w) j + 1)) w (u2 V2 6 j (V2 6 j + 1)) := by
            rw [hV2.2 6 (by omega) (by omega) j (by omega)]; exact hV2.set (by omega)
          have s2 := s1.set (k := 6) (i := k) (v := (hsI h2 (6 :: w) j (h2.1 (6 :: w) j + 1)).1 (6 :: w) k + 1) (by omega)
          rw [s1.2 6 (by omega) (by omega) k (by omega)] at s2
          have s3 := s2.set0 (i := 2) (v := V2 0 2 + 1)
          have e02 : (hsI (hsI h2 (6 :: w) j (h2.1 (6 :: w) j + 1)) (6 :: w) k ((hsI h2 (6 :: w) j (h2.1 (6 :: w) j + 1)).1 (6 :: w) k + 1)).1 w 2 = V2 0 2 := by
            rw [hsI_other (fun z => cons_ne_self' z.symm), hsI_other (fun z => cons_ne_self' z.symm)]
            exact hV2.1 2 (by omega)
          rw [e02]
          rw [s1.2 6 (by omega) (by omega) k (by omega)]
          refine ihm (j + 1) _ _ (by omega) s3 (((hc2.tr CH.set).tr CH.set).tr CH.set0) ?_
          rw [itr_s, ← hv2, pokeOne, if_pos ⟨c1, c2, c3⟩]
      exact inner k 0 hh V (by omega) hV hc itr_0.symm
  exact outer 6 0 h W rfl hW CH.rf itr_0.symm
theorem c_bare (hw : IsWk w) (hp : IsPl p) (hW : WalkIs h w W) (hP : PlanIs h p P) {k : Nat} (hk : k < 6) (amt : Int32) : EvI X m_Wk_amountOnBare [vR w, vR p, vI (nI k), vI amt] h (fun r h' => r = bareG P W k amt 6 0 amt ∧ h' = h) := by
  apply e_Wk_amountOnBare
  refine g_Wk_amountOnBare_0 _ _ _ _ _ _ hw hp ?_
  generalize hr0 : bareG P W k amt 6 0 amt = r0
  have lp : ∀ (n j : Nat) (s : Int32), j + n = 6 → bareG P W k amt n j s = r0 → Rn X m_Wk_amountOnBare 6 [some (vR w), some (vR p), some (vI (nI k)), some (vI amt), some (vI s), some (vI (nI j))] [] h (fun v h' => ∃ r, v = some (vI r) ∧ r = r0 ∧ h' = h) := by
    intro n
    induction n with
    | zero =>
      intro j s hj hs
      have : j = 6 := by omega
      subst this
      exact g_Wk_amountOnBare_6 _ _ _ _ _ _ _ _ hw hp (cT e6 ⟨_, rfl, hs, rfl⟩)
    | succ n ih =>
      intro j s hj hs
      have hj6 : j < 6 := by omega
      refine g_Wk_amountOnBare_6 _ _ _ _ _ _ _ _ hw hp (cF (n6 hj6) ?_)
      simp only [bareG] at hs
      rw [nI_add1, nI_eq (by omega) (by omega)]
      have skip : (j = k ∨ W 3 j = -1 ∨ P 8 j = 0 ∨ placesA W j k ≠ 0) → Rn X m_Wk_amountOnBare 6 [some (vR w), some (vR p), some (vI (nI k)), some (vI amt), some (vI s), some (vI (nI (j + 1)))] [] h (fun v h' => ∃ r, v = some (vI r) ∧ r = r0 ∧ h' = h) := by
        intro c
        rw [if_pos c] at hs
        exact ih (j + 1) s (by omega) hs
      refine ⟨fun c => skip (Or.inl c), fun c => ?_⟩
      refine callB (c_isOn hw hW hj6) (fun c1 => z1a ⟨v6 hj6, ?_⟩) (fun c1 => z0a (skip (Or.inr (Or.inl (Classical.not_not.mp c1)))))
      have e8 := hP.2.2.1 8 (by omega) (by omega) j hj6
      rw [ci (by omega), e8]
      refine ⟨fun c2 => skip (Or.inr (Or.inr (Or.inl c2))), fun c2 => ?_⟩
      refine callP (c_places hw hW hj6 hk) ⟨fun c3 => ?_, fun c3 => skip (Or.inr (Or.inr (Or.inr c3)))⟩
      rw [if_neg (by grind)] at hs
      refine callP (c_lanes hw hW hj6 hk) ⟨v6 hj6, ?_⟩
      rw [e8]
      refine ⟨fun c4 => ?_, fun c4 => ⟨_, rfl, by rw [← hs, if_pos (by grind)], rfl⟩⟩
      rw [if_neg (by grind)] at hs
      refine callP (c_lanes hw hW hj6 hk) ⟨v6 hj6, ?_⟩
      rw [e8]
      refine ⟨fun c5 => ?_, fun c5 => ?_⟩
      · rw [if_neg c5] at hs; exact ih (j + 1) _ (by omega) hs
      · rw [if_pos c5] at hs; exact ih (j + 1) _ (by omega) hs
  exact lp 6 0 amt rfl hr0
theorem c_rain (hw : IsWk w) (hp : IsPl p) (ap : Apart w p) (hW : WalkIs h w W) (hP : PlanIs h p P) : EvV X m_Wk_rain [vR w, vR p] h (WkPost w h (rainS P W)) := by
  apply e_Wk_rain
  refine g_Wk_rain_0 _ _ _ _ hw hp ?_
  rw [hW.1 1 (by omega)]
  refine callP (s_rainOf hp hP _) ?_
  have lp : ∀ (n k : Nat) (hh : Hp) (V : RW), k + n = 6 → WalkIs hh w V → CH w h hh → V = itr (rainOne P (rainOfS P (W 0 1))) k W → Rn X m_Wk_rain 11 [some (vR w), some (vR p), some (vI (rainOfS P (W 0 1))), some (vI (nI k)), none] [] hh (fun v h' => v = none ∧ WkPost w h (rainS P W) h') := by
    intro n
    induction n with
    | zero =>
      intro k hh V hk hV hc hv
      have : k = 6 := by omega
      subst this
      refine g_Wk_rain_11 _ _ _ _ _ _ hw hp (cT e6 ⟨rfl, ?_, hc⟩)
      rw [hv] at hV; exact hV
    | succ n ih =>
      intro k hh V hk hV hc hv
      have hk6 : k < 6 := by omega
      have hP2 := hP.ch hc ap
      refine g_Wk_rain_11 _ _ _ _ _ _ hw hp (cF (n6 hk6) ?_)
      rw [nI_add1]
      have no : ¬ (V 3 k ≠ -1 ∧ ¬ dryS P (V 3 k)) → Rn X m_Wk_rain 11 [some (vR w), some (vR p), some (vI (rainOfS P (W 0 1))), some (vI (nI (k + 1))), none] [] hh (fun v h' => v = none ∧ WkPost w h (rainS P W) h') := by
        intro hn
        refine ih (k + 1) hh V (by omega) hV hc ?_
        rw [itr_s]
        rw [← hv, rainOne, if_neg hn]
      have yes : ∀ g : Int32, (V 3 k ≠ -1 ∧ ¬ dryS P (V 3 k)) → g = gainS P V (rainOfS P (W 0 1)) k → Rn X m_Wk_rain 11 [some (vR w), some (vR p), some (vI (rainOfS P (W 0 1))), some (vI (nI (k + 1))), none] [] (hsI hh (5 :: w) k (V 5 k + g)) (fun v h' => v = none ∧ WkPost w h (rainS P W) h') := by
        intro g hn hg
        refine ih (k + 1) _ _ (by omega) (hV.set (by omega)) (hc.tr CH.set) ?_
        rw [itr_s]
        rw [← hv, rainOne, if_pos hn, ← hg]
      refine callB (c_isOn hw hV hk6) (fun c1 => z1a ⟨v6 hk6, ?_⟩) (fun c1 => z0a (no (fun z => c1 z.1)))
      rw [ci (by omega), hV.2 3 (by omega) (by omega) k hk6]
      refine callB (s_isDry hp hP2 _) (fun c2 => z1a (no (fun z => z.2 c2))) (fun c2 => z0a ⟨v6 hk6, v6 hk6, ?_⟩)
      rw [hP2.2.2.1 8 (by omega) (by omega) k hk6, hV.2 5 (by omega) (by omega) k hk6]
      refine ⟨fun c3 => callP (c_bare hw hp hV hP2 hk6 _) ⟨v6 hk6, yes _ ⟨c1, c2⟩ ?_⟩, fun c3 => ⟨by grind, v6 hk6, yes _ ⟨c1, c2⟩ ?_⟩⟩
      · rw [gainS, if_neg (by grind)]
      · rw [gainS, if_pos (by grind)]
  exact lp 6 0 h W rfl hW CH.rf itr_0.symm
theorem c_tick (hw : IsWk w) (hp : IsPl p) (ap : Apart w p) (hW : WalkIs h w W) (hP : PlanIs h p P) : EvV X m_Wk_tick [vR w, vR p] h (WkPost w h (tickS P W)) := by
  apply e_Wk_tick
  refine g_Wk_tick_0 _ _ _ _ hw hp ?_
  rw [hW.1 1 (by omega)]
  refine ⟨fun c0 => ?_, fun c0 => ⟨rfl, by rw [tickS, if_neg c0]; exact ⟨hW, CH.rf⟩⟩⟩
  have e : tickS P W = tickG P W := by rw [tickS, if_pos c0]
  rw [e]
  have lpB : ∀ (n k : Nat) (hh : Hp) (V : RW), k + n = 6 → WalkIs hh w V → CH w h hh → V = itr (stepB P) k (itr (stepA P) 6 W) → Rn X m_Wk_tick 40 [some (vR w), some (vR p), some (vI (nI k))] [] hh (fun v h' => v = none ∧ WkPost w h (tickG P W) h') := by
    intro n
    induction n with
    | zero =>
      intro k hh V hk hV hc hv
      have : k = 6 := by omega
      subst this
      refine g_Wk_tick_40 _ _ _ _ _ hw hp (cT e6 (callN (c_poke hw hp ap hV (hP.ch hc ap)) (fun h3 q3 => callN (c_rain hw hp ap q3.1 (hP.ch (hc.tr q3.2) ap)) (fun h7 q7 => ⟨rfl, ?_⟩))))
      rw [q7.1.1 1 (by omega)]
      have := q7.1.set0 (i := 1) (v := (rainS P (pokeS P V)) 0 1 + 1)
      refine ⟨?_, ((hc.tr q3.2).tr q7.2).tr CH.set0⟩
      rw [hv] at this ⊢
      exact this
    | succ n ih =>
      intro k hh V hk hV hc hv
      have hk6 : k < 6 := by omega
      have hP2 := hP.ch hc ap
      refine g_Wk_tick_40 _ _ _ _ _ hw hp (cF (n6 hk6) ⟨v6 hk6, ?_⟩)
      rw [nI_add1, ci (by omega), hP2.2.2.1 3 (by omega) (by omega) k hk6, hP2.2.2.1 6 (by omega) (by omega) k hk6, hV.1 1 (by omega)]
      have no : ¬ (P 3 k ≠ 0 ∧ ¬ V 0 1 < P 6 k ∧ V 3 k = -1 ∧ V 4 k = 0) → Rn X m_Wk_tick 40 [some (vR w), some (vR p), some (vI (nI (k + 1)))] [] hh (fun v h' => v = none ∧ WkPost w h (tickG P W) h') := by
        intro hn
        refine ih (k + 1) hh V (by omega) hV hc ?_
        rw [itr_s]
        rw [← hv, stepB, if_neg hn]
      refine ⟨fun c1 => no (fun z => z.1 c1), fun c1 => ⟨v6 hk6, fun c2 => no (fun z => z.2.1 c2), fun c2 => ?_⟩⟩
      refine callB (c_isOn hw hV hk6) (fun c3 => z1b (no (fun z => c3 z.2.2.1))) (fun c3 => z0b ⟨v6 hk6, ?_⟩)
      rw [hV.2 4 (by omega) (by omega) k hk6]
      refine ⟨fun c4 => no (fun z => c4 z.2.2.2), fun c4 => callN (c_come hw hp hV hP2 hk6) (fun h9 q9 => ?_)⟩
      refine ih (k + 1) h9 _ (by omega) q9.1 (hc.tr q9.2) ?_
      rw [itr_s]
      rw [← hv, stepB, if_pos ⟨c1, c2, Classical.not_not.mp c3, c4⟩]
  have lpA : ∀ (n k : Nat) (hh : Hp) (V : RW), k + n = 6 → WalkIs hh w V → CH w h hh → V = itr (stepA P) k W → Rn X m_Wk_tick 12 [some (vR w), some (vR p), some (vI (nI k))] [] hh (fun v h' => v = none ∧ WkPost w h (tickG P W) h') := by
    intro n
    induction n with
    | zero =>
      intro k hh V hk hV hc hv
      have : k = 6 := by omega
      subst this
      refine g_Wk_tick_12 _ _ _ _ _ hw hp (cT e6 ?_)
      exact lpB 6 0 hh V rfl hV hc (hv.trans itr_0.symm)
    | succ n ih =>
      intro k hh V hk hV hc hv
      have hk6 : k < 6 := by omega
      have hP2 := hP.ch hc ap
      refine g_Wk_tick_12 _ _ _ _ _ hw hp (cF (n6 hk6) ?_)
      rw [nI_add1]
      refine callB (c_isOn hw hV hk6) (fun c1 => z1a (callN (c_move hw hp hV hP2 hk6) (fun h9 q9 => ?_))) (fun c1 => z0a ?_)
      · refine ih (k + 1) h9 _ (by omega) q9.1 (hc.tr q9.2) ?_
        rw [itr_s]
        rw [← hv, stepA, if_pos c1]
      · refine ih (k + 1) hh V (by omega) hV hc ?_
        rw [itr_s]
        rw [← hv, stepA, if_neg c1]
  exact lpA 6 0 h W rfl hW CH.rf itr_0.symm
end CW
