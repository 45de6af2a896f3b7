/-! a seller: how wet one gets is small; the class's market -/
section MB
variable {P W : RW} {L N : Nat}
theorem bare_ok {k r : Nat} (hr : r ≤ 99) : ∀ (n j x : Nat), x + n * 50 < 10000 → n < 7 → ∃ g, g ≤ x + n * 50 ∧ bareG P W k (nI r) n j (nI x) = nI g
  | 0, j, x, hx, hn => ⟨x, by omega, rfl⟩
  | n + 1, j, x, hx, hn => by
    rw [bareG]
    split
    · obtain ⟨g, h1, h2⟩ := bare_ok hr n (j + 1) x (by omega) (by omega)
      exact ⟨g, by omega, h2⟩
    · split
      · exact ⟨0, by omega, rfl⟩
      · split
        · rw [show (2 : Int32) = nI 2 from rfl, pk_div (by omega) (by decide) (by decide), nI_add]
          obtain ⟨g, h1, h2⟩ := bare_ok hr n (j + 1) (x + r / 2) (by omega) (by omega)
          exact ⟨g, by omega, h2⟩
        · rw [show (0 : Int32) = nI 0 from rfl, nI_add]
          obtain ⟨g, h1, h2⟩ := bare_ok hr n (j + 1) (x + 0) (by omega) (by omega)
          exact ⟨g, by omega, h2⟩
theorem gain_ok (hP : wfP L N P) {k r : Nat} (hk : k < 6) (hr : r ≤ 99) : ∃ g, g ≤ 400 ∧ gainS P W (nI r) k = nI g := by
  obtain ⟨s, hs, e⟩ := (hP.2.2.2.2.2.2 k hk).2.2.2.1
  unfold gainS
  split
  · rw [e, nI_add1, pk_div (by omega) (by omega) (by omega)]
    exact ⟨r / (s + 1), by have := Nat.div_le_self r (s + 1); omega, rfl⟩
  · obtain ⟨g, h1, h2⟩ := bare_ok (W := W) (P := P) (k := k) hr 6 0 r (by omega) (by omega)
    exact ⟨g, by omega, h2⟩
def wetOK (W : RW) (t : Nat) : Prop := ∀ k, k < 6 → ∃ m, m ≤ 400 * t ∧ W 5 k = nI m
theorem wet_tick (hP : wfP L N P) (hr : ∀ t, t < 60 → ∃ r, r ≤ 99 ∧ P 10 t = nI r) {t : Nat} (ht : t < 60) (htk : W 0 1 = nI t) (hw : wetOK W t) : wetOK (tickG P W) (t + 1) := by
  have e5 : ∀ b, (pokeS P (itr (stepB P) 6 (itr (stepA P) 6 W))) 5 b = W 5 b := by
    intro b
    rw [poke_row (by decide) (by decide), itr_row (fun k V => stepB_row (by decide)), itr_row (fun k V => stepA_row (by decide) (by decide) (by decide))]
  have e01 : (pokeS P (itr (stepB P) 6 (itr (stepA P) 6 W))) 0 1 = nI t := by
    rw [poke_01, congrFun (itr_row (r := 0) (fun k V => stepB_row (by decide)) 6 _) 1, congrFun (itr_row (r := 0) (fun k V => stepA_row (by decide) (by decide) (by decide)) 6 _) 1, htk]
  intro k hk
  have et : (tickG P W) 5 k = (rainS P (pokeS P (itr (stepB P) 6 (itr (stepA P) 6 W)))) 5 k := by
    unfold tickG
    generalize rainS P (pokeS P (itr (stepB P) 6 (itr (stepA P) 6 W))) = V
    show u2 V 0 1 (V 0 1 + 1) 5 k = V 5 k
    unfold u2; rw [if_neg (by omega)]
  rw [et]
  generalize pokeS P (itr (stepB P) 6 (itr (stepA P) 6 W)) = V at e5 e01
  obtain ⟨r, hr9, er⟩ := hr t ht
  have ea : rainOfS P (V 0 1) = nI r := by
    rw [e01]; unfold rainOfS
    rw [if_pos ⟨nI_pos' (by omega), (lt60 (by omega)).mpr ht⟩, ci (by omega), er]
  show ∃ m, m ≤ 400 * (t + 1) ∧ (itr (rainOne P (rainOfS P (V 0 1))) 6 V) 5 k = nI m
  rw [ea]
  have st : ∀ i, i ≤ 6 → ∀ k, k < 6 → ∃ m, m ≤ 400 * t + (if k < i then 400 else 0) ∧ (itr (rainOne P (nI r)) i V) 5 k = nI m := by
    intro i
    induction i with
    | zero =>
      intro _ k hk
      obtain ⟨m, h1, h2⟩ := hw k hk
      exact ⟨m, by omega, by rw [itr_0, e5, h2]⟩
    | succ i ih =>
      intro hi k hk
      obtain ⟨m, h1, h2⟩ := ih (by omega) k hk
      rw [itr_s]
      by_cases e : k = i
      · subst e
        rw [if_neg (by omega)] at h1
        rw [if_pos (by omega)]
        generalize itr (rainOne P (nI r)) k V = V2 at h2 ⊢
        unfold rainOne
        split
        · obtain ⟨g, hg, eg⟩ := gain_ok (W := V2) hP hk hr9
          rw [eg, h2, nI_add]
          exact ⟨m + g, by omega, by unfold u2; rw [if_pos ⟨rfl, rfl⟩]⟩
        · exact ⟨m, by omega, h2⟩
      · rw [rainOne_5 e]
        refine ⟨m, ?_, h2⟩
        split at h1 <;> split <;> omega
  obtain ⟨m, h1, h2⟩ := st 6 (Nat.le_refl _) k hk
  exact ⟨m, by split at h1 <;> omega, h2⟩
theorem wet_go (hP : wfP L N P) (hr : ∀ t, t < 60 → ∃ r, r ≤ 99 ∧ P 10 t = nI r) {c0 : Int32} : ∀ t, t ≤ 60 → wetOK (goN P t (Wst c0)) t
  | 0, _ => fun k hk => ⟨0, by omega, by show u2 W00 0 0 c0 5 k = nI 0; unfold u2 W00; rw [if_neg (by omega), if_neg (by omega)]; rfl⟩
  | t + 1, h => by
    have tk : (goN P t (Wst c0)) 0 1 = nI t := by
      have := goN_tk (P := P) (Wst_01 (c := c0)) t (by omega)
      rw [this, Nat.zero_add]
    rw [goN_s, tickS, if_pos (by rw [tk]; exact (lt60 (by omega)).mpr (by omega))]
    exact wet_tick hP hr (by omega) tk (wet_go hP hr t (by omega))
/-- what the class notes: how wet one is when it is first there -/
def stG (P W0 : RW) (k a : Nat) : Nat → Int32
  | 0 => -1
  | t + 1 => if (goN P (t + 1) W0) 3 k ≠ -1 ∧ P 8 k = 0 ∧ (goN P (t + 1) W0) 3 k / 4 = nI a ∧ stG P W0 k a t = -1 then (goN P (t + 1) W0) 5 k else stG P W0 k a t
theorem st_first (hP : wfP L N P) (hr : ∀ t, t < 60 → ∃ r, r ≤ 99 ∧ P 10 t = nI r) {c0 : Int32} {k a : Nat} (hk : k < 6) (h8 : P 8 k = 0) : ∀ t, t ≤ 60 → (firstG P (Wst c0) k a t = -1 ∧ stG P (Wst c0) k a t = -1) ∨ ∃ f, f < t ∧ firstG P (Wst c0) k a t = nI f ∧ stG P (Wst c0) k a t = (goN P (f + 1) (Wst c0)) 5 k ∧ stG P (Wst c0) k a t ≠ -1
  | 0, _ => Or.inl ⟨rfl, rfl⟩
  | t + 1, ht => by
    have ih := st_first hP hr (c0 := c0) (a := a) hk h8 t (by omega)
    obtain ⟨m, hm, em⟩ := wet_go hP hr (c0 := c0) (t + 1) ht k hk
    have h0 : (0 : Int32) ≤ nI m := nI_pos' (by omega)
    rw [firstG, stG]
    rcases ih with ⟨i1, i2⟩ | ⟨f, hf, i1, i2, i3⟩
    · rw [i1, i2]
      by_cases z : (goN P (t + 1) (Wst c0)) 3 k ≠ -1 ∧ (goN P (t + 1) (Wst c0)) 3 k / 4 = nI a
      · rw [if_pos ⟨z.1, z.2, rfl⟩, if_pos ⟨z.1, h8, z.2, rfl⟩]
        refine Or.inr ⟨t, by omega, rfl, rfl, ?_⟩
        rw [em]; intro y; rw [y] at h0; exact absurd h0 (by decide)
      · rw [if_neg (fun y => z ⟨y.1, y.2.1⟩), if_neg (fun y => z ⟨y.1, y.2.2.1⟩)]
        exact Or.inl ⟨rfl, rfl⟩
    · have hfn : firstG P (Wst c0) k a t ≠ -1 := by
        rw [i1]; intro y
        have h0 : (0 : Int32) ≤ nI f := nI_pos' (by omega)
        rw [y] at h0; exact absurd h0 (by decide)
      rw [if_neg (fun y => hfn y.2.2), if_neg (fun y => i3 y.2.2.2)]
      exact Or.inr ⟨f, by omega, i1, i2, i3⟩
theorem st_8 {c0 : Int32} {k a : Nat} (h8 : P 8 k ≠ 0) : ∀ t, stG P (Wst c0) k a t = -1
  | 0 => rfl
  | t + 1 => by rw [stG, if_neg (fun y => h8 y.2.1)]; exact st_8 h8 t
theorem st_3 (hP : wfP L N P) {c0 : Int32} {k a : Nat} (hk : k < 6) (h3 : P 3 k = 0) : ∀ t, stG P (Wst c0) k a t = -1
  | 0 => rfl
  | t + 1 => by
    have hw := (wf_goN hP (wf_Wst (c := c0) (L := L) (N := N) (P := P)) tk_Wst (t + 1)).1 k hk
    rw [stG, if_neg (fun y => ?_)]
    · exact st_3 hP hk h3 t
    · rcases hw.2 with z | z
      · exact y.1 z
      · exact z.2.1 h3
/-- what one's umbrella is worth at a place -/
def worthS (P W0 : RW) (k a : Nat) : Int32 := if stG P W0 k a 60 = -1 then -1 else (goN P 60 W0) 5 k - stG P W0 k a 60
def incG (V : Nat → Int32) (pr : Int32) : Nat → Int32
  | 0 => 0
  | k + 1 => incG V pr k + (if V k < pr then 0 else pr)
theorem inc_ok {V : Nat → Int32} {p : Nat} (hp : p ≤ 99) : ∀ n, n < 100 → ∃ m, m ≤ 99 * n ∧ incG V (nI p) n = nI m
  | 0, _ => ⟨0, by omega, rfl⟩
  | n + 1, hn => by
    obtain ⟨m, h1, h2⟩ := inc_ok (V := V) hp n (by omega)
    rw [incG, h2]
    split
    · exact ⟨m, by omega, by rw [show (0 : Int32) = nI 0 from rfl, nI_add]; rfl⟩
    · exact ⟨m + p, by omega, by rw [nI_add]⟩
end MB
section MC
variable {X : XS} {h : Hp} {L N : Nat} {P W : RW} {K : Nat → RW} {T O : RW}
theorem c_fill {q : List Nat} {n : Nat} {v : Int32} (lq : Liv q 8 n) (hn : n < 1000) : EvV X m_Ar_fill [vR q, vI v] h (fun h' => CH q h h' ∧ (∀ k, h'.1 (k :: q) = h.1 (k :: q)) ∧ ∀ i, i < n → h'.1 q i = v) := by
  apply e_Ar_fill
  apply g_Ar_fill_0 _ _ _ _ _ lq
  rw [show Int32.ofNat n = nI n from rfl, show (0 : Int32) = nI 0 from rfl]
  have lp : ∀ (m i : Nat) (hh : Hp), i + m = n → CH q h hh → (∀ k, hh.1 (k :: q) = h.1 (k :: q)) → (∀ j, j < i → hh.1 q j = v) → Rn X m_Ar_fill 5 [some (vR q), some (vI v), some (vI (nI i)), some (vI (nI n))] [] hh (fun w h' => w = none ∧ CH q h h' ∧ (∀ k, h'.1 (k :: q) = h.1 (k :: q)) ∧ ∀ i, i < n → h'.1 q i = v) := by
    intro m
    induction m with
    | zero =>
      intro i hh hi hc hk h1
      have : i = n := by omega
      subst this
      exact g_Ar_fill_5 _ _ _ _ _ _ _ lq (cT (nI_leI (by omega) (by omega) |>.mpr (Nat.le_refl _)) ⟨rfl, hc, hk, h1⟩)
    | succ m ih =>
      intro i hh hi hc hk h1
      refine g_Ar_fill_5 _ _ _ _ _ _ _ lq (cF (fun z => absurd ((nI_leI (by omega) (by omega)).mp z) (by omega)) ⟨vp_in_nI (by omega) (by omega), ?_⟩)
      rw [nI_add1, ci (by omega)]
      refine ih (i + 1) _ (by omega) (hc.tr CH.set0) (fun k => ?_) (fun j hj => ?_)
      · rw [hsI_other cons_ne_self']; exact hk k
      · simp only [rd, true_and]
        by_cases e : j = i
        · rw [if_pos e]
        · rw [if_neg e]; exact h1 j (by omega)
  exact lp n 0 h (by omega) CH.rf (fun k => rfl) (fun j hj => by omega)
def CH8 (h h' : Hp) : Prop := h'.2 = h.2 ∧ ∀ q, q ≠ [0, 8, 0] → h'.1 q = h.1 q
theorem CH8.ch {h h' : Hp} (c : CH8 h h') : CH [8, 0] h h' := ⟨c.1, fun q _ b => c.2 q (b 0)⟩
theorem PlanIs.c8 {h h' : Hp} {p : List Nat} (hp : PlanIs h p P) (c : CH8 h h') (a : p ≠ [0, 8, 0]) (b : ∀ k, k :: p ≠ [0, 8, 0]) : PlanIs h' p P := by
  obtain ⟨p1, p2, p3, p4⟩ := hp
  exact ⟨fun i hi => by rw [c.2 _ a]; exact p1 i hi, fun i hi => by rw [c.2 _ (b _)]; exact p2 i hi, fun k x y i hi => by rw [c.2 _ (b _)]; exact p3 k x y i hi, fun i hi => by rw [c.2 _ (b _)]; exact p4 i hi⟩
theorem WalkIs.c8 {h h' : Hp} {p : List Nat} (hp : WalkIs h p W) (c : CH8 h h') (a : p ≠ [0, 8, 0]) (b : ∀ k, k :: p ≠ [0, 8, 0]) : WalkIs h' p W :=
  ⟨fun i hi => by rw [c.2 _ a]; exact hp.1 i hi, fun k x y i hi => by rw [c.2 _ (b _)]; exact hp.2 k x y i hi⟩
theorem c_noteFirst {c0 : Int32} {t : Nat} (hP : wfP L N P) (hp : PlanIs h [0, 0] P) (hw : WalkIs h [4, 0] (goN P (t + 1) (Wst c0))) (hs : ∀ a, a < 12 → ∀ k, k < 6 → h.1 [0, 8, 0] (6 * a + k) = stG P (Wst c0) k a t) : EvV X m_Mk_noteFirst [vR [8, 0], vR [0, 0], vR [4, 0]] h (fun h' => CH8 h h' ∧ ∀ a, a < 12 → ∀ k, k < 6 → h'.1 [0, 8, 0] (6 * a + k) = stG P (Wst c0) k a (t + 1)) := by
  have hwf := (wf_goN hP (wf_Wst (c := c0) (L := L) (N := N) (P := P)) tk_Wst (t + 1)).1
  have b1 := hP.2.2.2.1
  have b2 := hP.2.2.2.2.2.1
  apply e_Mk_noteFirst
  apply g_Mk_noteFirst_0 _ _ _ _ ipl0 iwk4
  have lp : ∀ (m k : Nat) (hh : Hp), k + m = 6 → CH8 h hh → (∀ a, a < 12 → ∀ j, j < 6 → hh.1 [0, 8, 0] (6 * a + j) = if j < k then stG P (Wst c0) j a (t + 1) else stG P (Wst c0) j a t) → Rn X m_Mk_noteFirst 2 [some (vR [8, 0]), some (vR [0, 0]), some (vR [4, 0]), some (vI (nI k)), none] [] hh (fun v h' => v = none ∧ CH8 h h' ∧ ∀ a, a < 12 → ∀ k, k < 6 → h'.1 [0, 8, 0] (6 * a + k) = stG P (Wst c0) k a (t + 1)) := by
    intro m
    induction m with
    | zero =>
      intro k hh hk hc h1
      have : k = 6 := by omega
      subst this
      refine g_Mk_noteFirst_2 _ _ _ _ _ ipl0 iwk4 (cT e6 ⟨rfl, hc, fun a ha j hj => ?_⟩)
      rw [h1 a ha j hj, if_pos hj]
    | succ m ih =>
      intro k hh hk hc h1
      have hk6 : k < 6 := by omega
      have hp2 := hp.c8 hc (by simp) (by simp)
      have hw2 := hw.c8 hc (by simp) (by simp)
      refine g_Mk_noteFirst_2 _ _ _ _ _ ipl0 iwk4 (cF (n6 hk6) ?_)
      rw [nI_add1]
      have same : (∀ a, a < 12 → stG P (Wst c0) k a (t + 1) = stG P (Wst c0) k a t) → Rn X m_Mk_noteFirst 2 [some (vR [8, 0]), some (vR [0, 0]), some (vR [4, 0]), some (vI (nI (k + 1))), none] [] hh (fun v h' => v = none ∧ CH8 h h' ∧ ∀ a, a < 12 → ∀ k, k < 6 → h'.1 [0, 8, 0] (6 * a + k) = stG P (Wst c0) k a (t + 1)) := by
        intro z
        refine ih (k + 1) hh (by omega) hc (fun a ha j hj => ?_)
        rw [h1 a ha j hj]
        by_cases e : j = k
        · subst e; rw [if_neg (by omega), if_pos (by omega), z a ha]
        · by_cases y : j < k
          · rw [if_pos y, if_pos (by omega)]
          · rw [if_neg y, if_neg (by omega)]
      refine callB (c_isOn iwk4 hw2 hk6) (fun z => z1a ⟨v6 hk6, ?_⟩) (fun z => z0a (same (fun a ha => by rw [stG, if_neg (fun y => z y.1)])))
      rw [ci (by omega), hp2.2.2.1 8 (by omega) (by omega) k hk6, hw2.2 3 (by omega) (by omega) k hk6, hw2.2 5 (by omega) (by omega) k hk6]
      refine ⟨fun z8 => ⟨v6 hk6, ?_⟩, fun z8 => same (fun a ha => by rw [stG, if_neg (fun y => z8 y.2.1)])⟩
      rcases (hwf k hk6).2 with y | ⟨_, _, a, l, ha, hl, e⟩
      · exact absurd y z
      have ed := (cell_div (a := a) (l := l) (by omega) (by omega)).1
      have hat : (nI (4 * a + l) / 4) * 6 + nI k = nI (6 * a + k) := by
        rw [ed, show (6 : Int32) = nI 6 from rfl, pk_mul, nI_add]; congr 1; omega
      rw [e, hat, ci (k := 6 * a + k) (by omega)]
      refine cF (nI_pos (by omega)) (cF (show ¬ (72 : Int32) ≤ nI (6 * a + k) from by rw [show (72 : Int32) = nI 72 from rfl]; exact nI_ge (by omega) (by decide)) ⟨vp_in_nI (by omega) (by decide), ?_⟩)
      rw [h1 a (by omega) k hk6, if_neg (by omega)]
      have nd : ∀ b, b < 12 → b ≠ a → stG P (Wst c0) k b (t + 1) = stG P (Wst c0) k b t := by
        intro b hb hba
        rw [stG, if_neg (fun y => hba ?_)]
        have := y.2.2.1
        rw [e, ed] at this
        exact ((nI_eq (by omega) (by omega)).mp this).symm
      refine ⟨fun z9 => same (fun b hb => ?_), fun z9 => ⟨v6 hk6, vp_in_nI (by omega) (by decide), ih (k + 1) _ (by omega) ⟨hc.1, fun q hq => by rw [hsI_other hq]; exact hc.2 q hq⟩ (fun b hb j hj => ?_)⟩⟩
      · by_cases eb : b = a
        · subst eb; rw [stG, if_neg (fun y => z9 y.2.2.2)]
        · exact nd b hb eb
      · simp only [rd, true_and]
        by_cases eb : b = a ∧ j = k
        · obtain ⟨rfl, rfl⟩ := eb
          rw [if_pos rfl, if_pos (by omega), stG, if_pos ⟨z, z8, by rw [e, ed], z9⟩]
        · rw [if_neg (by omega), h1 b hb j hj]
          by_cases ej : j = k
          · subst ej
            rw [if_neg (by omega), if_pos (by omega)]
            exact (nd b hb (fun y => eb ⟨y, rfl⟩)).symm
          · by_cases y : j < k
            · rw [if_pos y, if_pos (by omega)]
            · rw [if_neg y, if_neg (by omega)]
  exact lp 6 0 h rfl ⟨rfl, fun q hq => rfl⟩ (fun a ha j hj => by rw [hs a ha j hj, if_neg (by omega)])
end MC
