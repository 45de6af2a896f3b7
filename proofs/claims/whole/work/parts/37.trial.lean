/-! a whole street by sizes tried -/
theorem and3 (x : Int32) : ∃ j, j ≤ 3 ∧ x &&& 3 = nI j := by
  refine ⟨(x.toBitVec &&& 3#32).toNat, ?_, ?_⟩
  · rw [BitVec.toNat_and]
    exact Nat.and_le_right
  · apply Int32.toBitVec_inj.mp
    rw [Int32.toBitVec_and]
    show _ = BitVec.ofNat 32 (x.toBitVec &&& 3#32).toNat
    rw [BitVec.ofNat_toNat, BitVec.setWidth_eq]
    rfl
def szP (P : RW) (sz : Nat → Int32) : RW := fun a b => if a = 8 ∧ P 3 b ≠ 0 then sz b else P a b
theorem szP_o {P : RW} {sz : Nat → Int32} {a b : Nat} (h : a ≠ 8) : szP P sz a b = P a b := by unfold szP; rw [if_neg (fun z => h z.1)]
theorem szP_8 {P : RW} {sz : Nat → Int32} {b : Nat} (h : P 3 b ≠ 0) : szP P sz 8 b = sz b := by unfold szP; rw [if_pos ⟨rfl, h⟩]
def bitsS (P : RW) (s : Int32) (k : Nat) : Int32 := iShr s (2 * nI (walkersG P k)) &&& 3
theorem walkersG_sz {P : RW} {sz : Nat → Int32} : ∀ n, walkersG (szP P sz) n = walkersG P n
  | 0 => rfl
  | n + 1 => by
    unfold walkersG
    rw [walkersG_sz n, szP_o (by decide)]
theorem walkersG_mono {P : RW} {n : Nat} : ∀ m, walkersG P n ≤ walkersG P (n + m)
  | 0 => Nat.le_refl _
  | m + 1 => by
    have := walkersG_mono (P := P) (n := n) m
    rw [show n + (m + 1) = (n + m) + 1 from rfl, walkersG]
    omega
theorem walkersG_lt {P : RW} {k : Nat} (h : P 3 k ≠ 0) {n : Nat} (hk : k < n) : walkersG P k < walkersG P n := by
  have := walkersG_mono (P := P) (n := k + 1) (n - (k + 1))
  rw [show k + 1 + (n - (k + 1)) = n by omega] at this
  rw [walkersG, if_pos h] at this
  omega
theorem walkersG_ex {P : RW} : ∀ n i, i < walkersG P n → ∃ k, k < n ∧ P 3 k ≠ 0 ∧ walkersG P k = i
  | 0, i, h => absurd h (by unfold walkersG; omega)
  | n + 1, i, h => by
    by_cases z : i < walkersG P n
    · obtain ⟨k, a, b⟩ := walkersG_ex n i z
      exact ⟨k, by omega, b⟩
    · unfold walkersG at h
      by_cases y : P 3 n ≠ 0
      · rw [if_pos y] at h
        exact ⟨n, by omega, y, by omega⟩
      · rw [if_neg y] at h; omega
/-- the sizes that a number tells are sizes -/
def okS (P : RW) (s : Int32) : Prop := ∀ k, k < 6 → P 3 k ≠ 0 → bitsS P s k ≤ 2
section TRI
variable {X : XS} {h : Hp} {L N : Nat} {P W : RW} {K : Nat → RW} {T O : RW}
theorem wfP_sz {sz : Nat → Int32} (hP : wfP L N P) (hs : ∀ k, k < 6 → P 3 k ≠ 0 → ∃ s, s ≤ 2 ∧ sz k = nI s) : wfP L N (szP P sz) := by
  obtain ⟨p0, p1, l1, l2, n1, n2, q⟩ := hP
  refine ⟨by rw [szP_o (by decide)]; exact p0, by rw [szP_o (by decide)]; exact p1, l1, l2, n1, n2, fun k hk => ?_⟩
  obtain ⟨q1, q2, q3, q4, q5⟩ := q k hk
  rw [szP_o (a := 3) (by decide), szP_o (a := 4) (by decide), szP_o (a := 9) (by decide), szP_o (a := 7) (by decide)]
  refine ⟨q1, q2, q3, ?_, q5⟩
  by_cases z : P 3 k ≠ 0
  · rw [szP_8 z]; exact hs k hk z
  · unfold szP; rw [if_neg (fun y => z y.2)]; exact q4
theorem RefP.sz {sz : Nat → Int32} (hR : RefP h P) : RefP h (szP P sz) := by
  obtain ⟨a1, a2, a3, a4, a5, a6⟩ := hR
  refine ⟨by rw [szP_o (by decide)]; exact a1, by rw [szP_o (by decide)]; exact a2, fun c hc => ?_, fun k hk => ?_, fun k hk j hj hj4 => ?_, fun t ht => ?_⟩
  · rw [szP_o (by decide)]; exact a3 c hc
  · rw [szP_o (by decide)]; exact a4 k hk
  · rw [szP_o (by omega)]; exact a5 k hk j hj hj4
  · rw [szP_o (by decide)]; exact a6 t ht
/-- what walkWith leaves -/
def WWP (P' : RW) (h h' : Hp) : Prop := PlanIs h' [0, 6, 0] P' ∧ WalkIs h' [1, 6, 0] (goN P' 60 (Wst (h.1 [1, 6, 0] 0))) ∧ h'.1 [1, 6, 0] 0 = h.1 [1, 6, 0] 0 ∧ ∃ hm, CH [0, 6, 0] h hm ∧ CH [1, 6, 0] hm h'
theorem WWP.other {P' : RW} {h h' : Hp} (w : WWP P' h h') {q : List Nat} (a : q ≠ [0, 6, 0]) (b : ∀ k, q ≠ [k, 0, 6, 0]) (c : q ≠ [1, 6, 0]) (d : ∀ k, q ≠ [k, 1, 6, 0]) : h'.1 q = h.1 q := by
  obtain ⟨-, -, -, hm, c1, c2⟩ := w
  rw [c2.2 q c d, c1.2 q a b]
theorem WWP.cst {P' : RW} {h h' : Hp} (w : WWP P' h h') (s : CST P W K T O h) : CST P W K T O h' := by
  obtain ⟨-, -, -, hm, c1, c2⟩ := w
  exact (s.sc _ c1 (by simp)).sc _ c2 (by simp)
theorem WWP.on {P' : RW} {h h' : Hp} (w : WWP P' h h') : OnC h h' := by
  obtain ⟨-, -, -, hm, c1, c2⟩ := w
  exact (OnC.ch c1 rfl).tr (OnC.ch c2 rfl)
theorem c_walkWith (hC : CST P W K T O h) (hF : WFS L N P W K T O) (s : Int32) : EvV X m_Tr_walkWith [vR [6, 0], vR [0, 0], vI s] h (WWP (szP P (bitsS P s)) h) := by
  apply e_Tr_walkWith
  refine g_Tr_walkWith_0 _ _ _ _ ipl0 (callN (c_copyPl ipl6 ipl0 (by simp [Apart]) hC.1 hF.2.2.2.2.1 (fun k hk => (hF.1.2.2.2.2.2.2 k hk).1)) (fun h3 q3 => ?_))
  have hc0 : h3.1 [1, 6, 0] 0 = h.1 [1, 6, 0] 0 := by rw [q3.2.2 _ (by simp) (by simp)]
  have lpB : ∀ (n i : Nat) (hm hh : Hp) (z : Int32), i + n = 60 → CH [0, 6, 0] h hm → CH [1, 6, 0] hm hh → PlanIs hh [0, 6, 0] (szP P (bitsS P s)) → WalkIs hh [1, 6, 0] (goN (szP P (bitsS P s)) i (Wst (h.1 [1, 6, 0] 0))) → Rn X m_Tr_walkWith 69 [some (vR [6, 0]), some (vR [0, 0]), some (vI s), some (vI z), some (vI (nI i))] [] hh (fun v h' => v = none ∧ WWP (szP P (bitsS P s)) h h') := by
    intro n
    induction n with
    | zero =>
      intro i hm hh z hi c1 c2 hp hw
      have : i = 60 := by omega
      subst this
      refine g_Tr_walkWith_69 _ _ _ _ _ _ ipl0 (cT (by decide) ⟨rfl, hp, hw, ?_, hm, c1, c2⟩)
      rw [hw.1 0 (by omega), goN_00]; rfl
    | succ n ih =>
      intro i hm hh z hi c1 c2 hp hw
      refine g_Tr_walkWith_69 _ _ _ _ _ _ ipl0 (cF (n60 (by omega)) (callN (c_tick iwk6 ipl6 (by simp [Apart]) hw hp) (fun h9 q9 => ?_)))
      rw [nI_add1]
      exact ih (i + 1) hm h9 z (by omega) c1 (c2.tr q9.2) (hp.ch q9.2 (by simp [Apart])) q9.1
  have lpA : ∀ (n i : Nat) (hh : Hp), i + n = 6 → CH [0, 6, 0] h hh → PlanIs hh [0, 6, 0] (fun a b => if b < i then szP P (bitsS P s) a b else P a b) → (∀ t, t < 60 → hh.1 [10, 0, 6, 0] t = P 10 t) → (∀ t, t < 48 → hh.1 [2, 0, 6, 0] t = P 2 t) → Rn X m_Tr_walkWith 13 [some (vR [6, 0]), some (vR [0, 0]), some (vI s), some (vI (nI (walkersG P i))), some (vI (nI i))] [] hh (fun v h' => v = none ∧ WWP (szP P (bitsS P s)) h h') := by
    intro n
    induction n with
    | zero =>
      intro i hh hi c1 hp ht hcv
      have : i = 6 := by omega
      subst this
      have hp2 : PlanIs hh [0, 6, 0] (szP P (bitsS P s)) := by
        refine ⟨fun j hj => ?_, fun j hj => ?_, fun k a b j hj => ?_, fun j hj => ?_⟩
        · rw [hp.1 j hj]; show (if j < 6 then szP P (bitsS P s) 0 j else P 0 j) = _; rw [if_pos (by omega)]
        · rw [hcv j hj, szP_o (by decide)]
        · rw [hp.2.2.1 k a b j hj]; show (if j < 6 then szP P (bitsS P s) k j else P k j) = _; rw [if_pos (by omega)]
        · rw [ht j hj, szP_o (by decide)]
      have h10 : hh.1 [1, 6, 0] 0 = h.1 [1, 6, 0] 0 := by rw [c1.2 _ (by simp) (by simp)]
      refine g_Tr_walkWith_13 _ _ _ _ _ _ ipl0 (cT e6 (callN (c_clear iwk6) (fun h9 q9 => ?_)))
      refine lpB 60 0 hh h9 _ rfl c1 q9.2 (hp2.ch q9.2 (by simp [Apart])) ?_
      have := q9.1
      rw [h10] at this
      exact this
    | succ n ih =>
      intro i hh hi c1 hp ht hcv
      have hi6 : i < 6 := by omega
      have h3i : hh.1 [3, 0, 6, 0] i = P 3 i := by
        rw [hp.2.2.1 3 (by omega) (by omega) i hi6]
        show (if i < i then szP P (bitsS P s) 3 i else P 3 i) = _
        rw [if_neg (by omega)]
      refine g_Tr_walkWith_13 _ _ _ _ _ _ ipl0 (cF (n6 hi6) ⟨v6 hi6, ?_⟩)
      rw [nI_add1, nI_add1, ci (by omega), h3i]
      have hws : walkersG P (i + 1) = walkersG P i + (if P 3 i ≠ 0 then 1 else 0) := rfl
      refine ⟨fun c => ?_, fun c => ⟨v6 hi6, ?_⟩⟩
      · have := ih (i + 1) hh (by omega) c1 ?_ ht hcv
        · rw [hws, if_neg (fun z => z c)] at this; exact this
        · have ee : (fun a b => if b < i + 1 then szP P (bitsS P s) a b else P a b) = (fun a b => if b < i then szP P (bitsS P s) a b else P a b) := by
            funext a b
            by_cases e : b = i
            · subst e; rw [if_pos (by omega), if_neg (by omega)]; unfold szP; rw [if_neg (fun z => z.2 c)]
            · grind
          rw [ee]; exact hp
      · have := ih (i + 1) (hsI hh [8, 0, 6, 0] i (bitsS P s i)) (by omega) (c1.tr CH.set) ?_ (fun t h' => by rw [hsI_other (by simp)]; exact ht t h') (fun t h' => by rw [hsI_other (by simp)]; exact hcv t h')
        · rw [hws, if_pos c] at this; exact this
        · refine ⟨fun j hj => ?_, fun j hj => ?_, fun k a b j hj => ?_, fun j hj => ?_⟩
          · rw [hsI_other (by simp), hp.1 j hj]
            show (if j < i then szP P (bitsS P s) 0 j else P 0 j) = if j < i + 1 then szP P (bitsS P s) 0 j else P 0 j
            rw [szP_o (by decide)]; grind
          · rw [hsI_other (by simp), hp.2.1 j hj]
            show (if j < i then szP P (bitsS P s) 2 j else P 2 j) = if j < i + 1 then szP P (bitsS P s) 2 j else P 2 j
            rw [szP_o (by decide)]; grind
          · have e := hp.2.2.1 k a b j hj
            simp only [rd, List.cons.injEq, and_true]
            rw [e]
            show (if k = 8 ∧ j = i then bitsS P s i else if j < i then szP P (bitsS P s) k j else P k j) = if j < i + 1 then szP P (bitsS P s) k j else P k j
            by_cases z : k = 8 ∧ j = i
            · obtain ⟨rfl, rfl⟩ := z
              rw [if_pos ⟨rfl, rfl⟩, if_pos (by omega), szP_8 c]
            · rw [if_neg z]
              by_cases y : j < i
              · rw [if_pos y, if_pos (by omega)]
              · rw [if_neg y]
                by_cases x : j < i + 1
                · rw [if_pos x, szP_o (by omega)]
                · rw [if_neg x]
          · rw [hsI_other (by simp), hp.2.2.2 j hj]
            show (if j < i then szP P (bitsS P s) 10 j else P 10 j) = if j < i + 1 then szP P (bitsS P s) 10 j else P 10 j
            rw [szP_o (by decide)]; grind
  refine lpA 6 0 h3 rfl q3.2 ?_ q3.1.2.2.2 q3.1.2.1
  have ee : (fun a b => if b < 0 then szP P (bitsS P s) a b else P a b) = P := by funext a b; rw [if_neg (by omega)]
  rw [ee]; exact q3.1
def paidS (P' Wf : RW) (c p : Int32) (k : Nat) : Int32 := (Wf 5 k + c * P' 8 k) + p * Wf 6 k
theorem c_paidBy {P' Wf : RW} (hp : PlanIs h [0, 6, 0] P') (hw : WalkIs h [1, 6, 0] Wf) {k : Nat} (hk : k < 6) (c p : Int32) : EvI X m_Tr_paidBy [vR [6, 0], vI (nI k), vI c, vI p] h (fun r h' => r = paidS P' Wf c p k ∧ h' = h) := by
  apply e_Tr_paidBy
  refine g_Tr_paidBy_0 _ _ _ _ _ (cF (nI_pos (by omega)) (cT (by rw [show (6 : Int32) = nI 6 from rfl]; exact nI_lt hk (by decide)) ⟨v6 hk, v6 hk, v6 hk, _, rfl, ?_, rfl⟩))
  rw [ci (by omega), hw.2 5 (by omega) (by omega) k hk, hp.2.2.1 8 (by omega) (by omega) k hk, hw.2 6 (by omega) (by omega) k hk]
  rfl
def firstG (P' W0 : RW) (k a : Nat) : Nat → Int32
  | 0 => -1
  | t + 1 => if (goN P' (t + 1) W0) 3 k ≠ -1 ∧ (goN P' (t + 1) W0) 3 k / 4 = nI a ∧ firstG P' W0 k a t = -1 then nI t else firstG P' W0 k a t
/-- what the reference's whole street leaves -/
def GWP (P' W0 : RW) (c p : Int32) (h h' : Hp) : Prop := CHr [18, 19, 23, 24, 29] h h' ∧ (∀ k, k < 6 → h'.1 [29, 1] k = ((goN P' 60 W0) 5 k + c * h.1 [22, 1] k) + p * (goN P' 60 W0) 6 k) ∧ (∀ t, t < 60 → ∀ k, k < 6 → h'.1 [23, 1] (6 * t + k) = (goN P' (t + 1) W0) 5 k - (goN P' t W0) 5 k) ∧ ∀ k, k < 6 → ∀ a, a < 12 → h'.1 [24, 1] (12 * k + a) = firstG P' W0 k a 60
theorem r_goWhole {P' : RW} (hD : DST P W K T O h) (hR : RefP h P') (hP : wfP L N P') (hS : SzIs h P') (c p c0 : Int32) : EvV X m_Rf_goWhole [vR [1], vI c, vI p] h (fun h' => DST P W K T O h' ∧ GWP P' (Wst c0) c p h h') := by
  apply e_Rf_goWhole
  have fin : ∀ (n i : Nat) (hh : Hp), i + n = 6 → CHr [18, 19, 23, 24, 29] h hh → (∀ j, j < 26 → hh.1 [19, 1] j = nowOf W j) → NowIs hh (goN P' 60 (Wst c0)) → (∀ k, k < i → hh.1 [29, 1] k = ((goN P' 60 (Wst c0)) 5 k + c * h.1 [22, 1] k) + p * (goN P' 60 (Wst c0)) 6 k) → (∀ t, t < 60 → ∀ k, k < 6 → hh.1 [23, 1] (6 * t + k) = (goN P' (t + 1) (Wst c0)) 5 k - (goN P' t (Wst c0)) 5 k) → (∀ k, k < 6 → ∀ a, a < 12 → hh.1 [24, 1] (12 * k + a) = firstG P' (Wst c0) k a 60) → Rn X m_Rf_goWhole 59 [some (vR [1]), some (vI c), some (vI p), some (vI (nI i))] [] hh (fun v h' => v = none ∧ DST P W K T O h' ∧ GWP P' (Wst c0) c p h h') := by
    intro n
    induction n with
    | zero =>
      intro i hh hi hc ha hn h29 h23 h24
      have : i = 6 := by omega
      subst this
      refine g_Rf_goWhole_59 _ _ _ _ _ (cT e6 (callN r_back19 (fun h' q => ⟨rfl, ?_, hc.tr (q.1.le (by simp)), ?_, ?_, ?_⟩)))
      · refine hD.walk (hc.tr (q.1.le (ks' := [18, 19, 23, 24, 29]) (by simp))) (by simp) (fun i hi => ?_)
        have := q.2.1 i hi
        rw [show 0 + i = i by omega] at this
        rw [this, ha i hi]
      · rw [q.1.at (by decide)]; exact h29
      · rw [q.1.at (by decide)]; exact h23
      · rw [q.1.at (by decide)]; exact h24
    | succ n ih =>
      intro i hh hi hc ha hn h29 h23 h24
      have hi6 : i < 6 := by omega
      refine g_Rf_goWhole_59 _ _ _ _ _ (cF (n6 hi6) ?_)
      rw [nI_add1, show (6 : Int32) = nI 6 from rfl, show (12 : Int32) = nI 12 from rfl, nI_add, nI_add, ci (by omega), ci (by omega), ci (by omega), hn (6 + i) (by omega), hn (12 + i) (by omega), hc.at (show 22 ∉ [18, 19, 23, 24, 29] by decide)]
      refine ⟨vp_in_nI (by omega) (by decide), vp_in_nI (by omega) (by decide), vp_in_nI (by omega) (by decide), vp_in_nI (by omega) (by decide), ih (i + 1) _ (by omega) (hc.tr (CHr.set (by simp))) (fun j hj => ?_) (fun j hj => ?_) (fun k hk => ?_) (fun t ht k hk => ?_) (fun k hk a h' => ?_)⟩
      · rw [hsI_other (by simp)]; exact ha j hj
      · rw [hsI_other (by simp)]; exact hn j hj
      · have e := h29 k
        have e5 : nowOf (goN P' 60 (Wst c0)) (6 + i) = (goN P' 60 (Wst c0)) 5 i := by
          unfold nowOf; rw [if_neg (by omega), if_pos (by omega)]; congr 1; omega
        have e6 : nowOf (goN P' 60 (Wst c0)) (12 + i) = (goN P' 60 (Wst c0)) 6 i := by
          unfold nowOf; rw [if_neg (by omega), if_neg (by omega), if_pos (by omega)]; congr 1; omega
        rw [e5, e6]
        simp only [rd, true_and]
        by_cases z : k = i
        · subst z; rw [if_pos rfl]
        · rw [if_neg z]; exact e (by omega)
      · rw [hsI_other (by simp)]; exact h23 t ht k hk
      · rw [hsI_other (by simp)]; exact h24 k hk a h'
  have lpT : ∀ (n i : Nat) (hh : Hp) (z : Int32), i + n = 60 → CHr [18, 19, 23, 24, 29] h hh → (∀ j, j < 26 → hh.1 [19, 1] j = nowOf W j) → NowIs hh (goN P' i (Wst c0)) → (∀ t, t < i → ∀ k, k < 6 → hh.1 [23, 1] (6 * t + k) = (goN P' (t + 1) (Wst c0)) 5 k - (goN P' t (Wst c0)) 5 k) → (∀ k, k < 6 → ∀ a, a < 12 → hh.1 [24, 1] (12 * k + a) = firstG P' (Wst c0) k a i) → Rn X m_Rf_goWhole 38 [some (vR [1]), some (vI c), some (vI p), some (vI z)] [] hh (fun v h' => v = none ∧ DST P W K T O h' ∧ GWP P' (Wst c0) c p h h') := by
    intro n
    induction n with
    | zero =>
      intro i hh z hi hc ha hn h23 h24
      have : i = 60 := by omega
      subst this
      have tk : (goN P' 60 (Wst c0)) 0 1 = nI 60 := goN_tk (P := P') (Wst_01 (c := c0)) 60 (by omega)
      refine g_Rf_goWhole_38 _ _ _ _ _ ?_
      rw [now24 hn, tk]
      exact cT (by decide) (fin 6 0 hh rfl hc ha hn (fun k hk => by omega) h23 h24)
    | succ n ih =>
      intro i hh z hi hc ha hn h23 h24
      have hw := wf_goN hP (wf_Wst (c := c0) (L := L) (N := N) (P := P')) tk_Wst i
      have tk : (goN P' i (Wst c0)) 0 1 = nI i := by
        have := goN_tk (P := P') (Wst_01 (c := c0)) i (by omega)
        rw [this, Nat.zero_add]
      have gs : goN P' (i + 1) (Wst c0) = tickG P' (goN P' i (Wst c0)) := by
        rw [goN_s, tickS, if_pos (by rw [tk]; exact (lt60 (by omega)).mpr (by omega))]
      refine g_Rf_goWhole_38 _ _ _ _ _ ?_
      rw [now24 hn, tk]
      refine cF (n60 (by omega)) (callN (r_goTick (hR.ch hc (by decide) (by decide)) hP (hS.ch hc (by decide)) hn hw.1 (t := i) (by omega) tk) (fun h3 q3 => ?_))
      obtain ⟨g1, g2, g3, g4, g5⟩ := q3
      rw [← gs] at g1 g3 g5
      refine ih (i + 1) h3 z (by omega) (hc.tr (g2.le (by simp))) (fun j hj => by rw [g2.at (by decide)]; exact ha j hj) g1 (fun t ht k hk => ?_) (fun k hk a h' => ?_)
      · by_cases e : t = i
        · subst e; exact g3 k hk
        · rw [g4 _ (by omega)]; exact h23 t (by omega) k hk
      · rw [g5 k hk a h', h24 k hk a h']; rfl
  have lpF : ∀ (n i : Nat) (hh : Hp), i + n = 72 → CHr [18, 19, 23, 24, 29] h hh → (∀ j, j < 26 → hh.1 [19, 1] j = nowOf W j) → NowIs hh (Wst c0) → (∀ j, j < i → hh.1 [24, 1] j = -1) → Rn X m_Rf_goWhole 19 [some (vR [1]), some (vI c), some (vI p), some (vI (nI i))] [] hh (fun v h' => v = none ∧ DST P W K T O h' ∧ GWP P' (Wst c0) c p h h') := by
    intro n
    induction n with
    | zero =>
      intro i hh hi hc ha hn h24
      have : i = 72 := by omega
      subst this
      exact g_Rf_goWhole_19 _ _ _ _ _ (cT (by decide) (lpT 60 0 hh _ rfl hc ha hn (fun t ht => by omega) (fun k hk a h' => h24 _ (by omega))))
    | succ n ih =>
      intro i hh hi hc ha hn h24
      refine g_Rf_goWhole_19 _ _ _ _ _ (cF (show ¬ (72 : Int32) ≤ nI i from by rw [show (72 : Int32) = nI 72 from rfl]; exact nI_ge (by omega) (by decide)) ⟨vp_in_nI (by omega) (by decide), ?_⟩)
      rw [nI_add1, ci (by omega)]
      refine ih (i + 1) _ (by omega) (hc.tr (CHr.set (by simp))) (fun j hj => by rw [hsI_other (by simp)]; exact ha j hj) (fun j hj => by rw [hsI_other (by simp)]; exact hn j hj) (fun j hj => ?_)
      have e := h24 j
      simp only [rd, true_and]
      grind
  refine g_Rf_goWhole_0 _ _ _ _ (callN r_aside (fun h3 q3 => callN r_begin (fun h7 q7 => ?_)))
  refine lpF 72 0 h7 rfl ((q3.1.le (by simp)).tr (q7.1.le (by simp))) (fun j hj => ?_) (fun j hj => ?_) (fun j hj => by omega)
  · have := q3.2.1 j hj
    rw [show 0 + j = j by omega] at this
    rw [q7.1.at (by decide), this, hD.2.2.1 j hj]
  · rw [q7.2 j hj]; exact now_Wst.symm
end TRI
