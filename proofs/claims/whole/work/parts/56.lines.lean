/-! a line of the text: its spec; the numbers of a line: the class -/
def itE (n : Nat) (T : Nat → Int32) : Nat → Nat → Nat
  | 0, p => p
  | k + 1, p => itE n T k (tkE n T p)
theorem itE_s {n : Nat} {T : Nat → Int32} : ∀ (k p : Nat), itE n T (k + 1) p = tkE n T (itE n T k p)
  | 0, p => rfl
  | k + 1, p => by
    show itE n T (k + 1) (tkE n T p) = tkE n T (itE n T k (tkE n T p))
    exact itE_s k _
theorem itE_le {n : Nat} {T : Nat → Int32} : ∀ (k p : Nat), p ≤ n → itE n T k p ≤ n
  | 0, p, h => h
  | k + 1, p, h => itE_le k _ (tk_le h).2.2
abbrev okN (n : Nat) (T : Nat → Int32) (b : Int32 × Int32) (p : Nat) : Prop := tkD n T p ∧ (b.1 ≤ tkN n T p ∧ tkN n T p ≤ b.2)
def numsF (n : Nat) (T : Nat → Int32) (b : Nat → Int32 × Int32) : Nat → Nat → Nat → Nat
  | 0, _, p => p
  | c + 1, k, p => if okN n T (b k) p then numsF n T b c (k + 1) (tkE n T p) else tkF n T p
def okL (n : Nat) (T : Nat → Int32) (b : Nat → Int32 × Int32) (c p : Nat) : Prop := ∀ k, k < c → okN n T (b k) (itE n T k p)
theorem numsF_at {n : Nat} {T : Nat → Int32} {b : Nat → Int32 × Int32} : ∀ (d c k p : Nat), d < c → (∀ j, j < d → okN n T (b (k + j)) (itE n T j p)) → ¬ okN n T (b (k + d)) (itE n T d p) → numsF n T b c k p = tkF n T (itE n T d p)
  | 0, c + 1, k, p, _, _, hn => by
    rw [numsF, if_neg (show ¬ okN n T (b k) p from hn)]; rfl
  | d + 1, c + 1, k, p, hd, ho, hn => by
    rw [numsF, if_pos (show okN n T (b k) p from ho 0 (by omega))]
    exact numsF_at d c (k + 1) (tkE n T p) (by omega) (fun j hj => by
      have := ho (j + 1) (by omega)
      rw [show k + 1 + j = k + (j + 1) by omega]; exact this) (by
      rw [show k + 1 + d = k + (d + 1) by omega]; exact hn)
def cntG (kd : Nat) : Nat := match kd with
  | 0 => 2
  | 1 => 2
  | 2 => 7
  | 3 => 1
  | _ => 3
def bdG (kd : Nat) (L N v0 : Int32) (k : Nat) : Int32 × Int32 := match kd, k with
  | 0, 0 => (1, 4)
  | 0, _ => (1, 12)
  | 1, 0 => (0, N - 1)
  | 1, _ => (0, L - 1)
  | 2, 0 => (0, 5)
  | 2, 1 => (0, L - 1)
  | 2, 2 => (0, 1)
  | 2, 3 => (0, 20)
  | 2, 4 => (1, 9)
  | 2, _ => (0, 2)
  | 3, _ => (0, 5)
  | _, 0 => (0, 59)
  | _, 1 => (v0, 59)
  | _, _ => (0, 99)
abbrev wP (n : Nat) (T : Nat → Int32) (i k : Nat) : Prop := wordP T (tkF n T i) (tkE n T i) (tkK n T i) k
def wK (n : Nat) (T : Nat → Int32) (i : Nat) : Nat := if wP n T i 0 then 0 else if wP n T i 1 then 1 else if wP n T i 2 then 2 else if wP n T i 3 then 3 else if wP n T i 4 then 4 else 5
/-- number j behind the place p -/
def vNu (n : Nat) (T : Nat → Int32) (p j : Nat) : Int32 := tkN n T (itE n T j p)
def lnB (n : Nat) (T : Nat → Int32) (i : Nat) (L N : Int32) : Nat → Int32 × Int32 := bdG (wK n T i) L N (vNu n T (tkE n T i) 0)
def lnOK (n : Nat) (T : Nat → Int32) (i : Nat) (L N : Int32) : Prop := wK n T i < 5 ∧ okL n T (lnB n T i L N) (cntG (wK n T i)) (tkE n T i)
def lnF (n : Nat) (T : Nat → Int32) (i : Nat) (L N : Int32) : Nat := if wK n T i < 5 then numsF n T (lnB n T i L N) (cntG (wK n T i)) 0 (tkE n T i) else tkF n T i
def lnE (n : Nat) (T : Nat → Int32) (i : Nat) : Nat := itE n T (cntG (wK n T i)) (tkE n T i)
def doS (kd : Nat) (v : Nat → Int32) (P : RW) : RW := match kd with
  | 0 => layS (v 0) (v 1) P
  | 1 => coverS (4 * (v 0).toNatClampNeg + (v 1).toNatClampNeg) P
  | 2 => welcomeS (v 0).toNatClampNeg (fun j => v (j + 1)) P
  | 3 => forgetS (v 0).toNatClampNeg P
  | _ => pourS (v 0).toNatClampNeg (v 1).toNatClampNeg (v 2) P
def lnS (n : Nat) (T : Nat → Int32) (i : Nat) (P : RW) : RW := doS (wK n T i) (vNu n T (tkE n T i)) P
section CNU
variable {X : XS} {h0 h : Hp} {n : Nat} {T : Nat → Int32} {b : Nat → Int32 × Int32}
theorem TxN.rf {h : Hp} : TxN h h := ⟨rfl, fun _ _ _ => rfl, fun _ _ _ _ => rfl⟩
theorem TxN.tr {a b c : Hp} (h1 : TxN a b) (h2 : TxN b c) : TxN a c := ⟨h2.1.trans h1.1, fun q x y => (h2.2.1 q x y).trans (h1.2.1 q x y), fun j x y z => (h2.2.2 j x y z).trans (h1.2.2 j x y z)⟩
theorem TxtC.tn {h h' : Hp} (t : TxtC n T h) (p : TxN h h') : TxtC n T h' := ⟨t.1, by rw [p.2.2 2 (by omega) (by omega) (by omega)]; exact t.2.1, fun j hj => by rw [p.2.1 _ (by simp) (by simp)]; exact t.2.2 j hj⟩
theorem PlanIs.tn {h h' : Hp} {P : RW} (hP : PlanIs h [1, 0] P) (p : TxN h h') : PlanIs h' [1, 0] P := by
  unfold PlanIs
  rw [p.2.1 [1, 0] (by simp) (by simp), p.2.1 [2, 1, 0] (by simp) (by simp), p.2.1 [10, 1, 0] (by simp) (by simp)]
  exact ⟨hP.1, hP.2.1, fun k a c i hi => by rw [p.2.1 [k, 1, 0] (by simp) (by simp)]; exact hP.2.2.1 k a c i hi, hP.2.2.2⟩
/-- only the text's places and numbers, and the draft change -/
def TxD (h h' : Hp) : Prop := h'.2 = h.2 ∧ (∀ q, q ≠ [2, 0] → q ≠ [1, 2, 0] → q ≠ [1, 0] → (∀ k, q ≠ [k, 1, 0]) → h'.1 q = h.1 q) ∧ ∀ j, j ≠ 4 → j ≠ 5 → j ≠ 6 → h'.1 [2, 0] j = h.1 [2, 0] j
theorem TxD.rf {h : Hp} : TxD h h := ⟨rfl, fun _ _ _ _ _ => rfl, fun _ _ _ _ => rfl⟩
theorem TxD.tr {a b c : Hp} (h1 : TxD a b) (h2 : TxD b c) : TxD a c := ⟨h2.1.trans h1.1, fun q x y z w => (h2.2.1 q x y z w).trans (h1.2.1 q x y z w), fun j x y z => (h2.2.2 j x y z).trans (h1.2.2 j x y z)⟩
theorem TxN.td {h h' : Hp} (p : TxN h h') : TxD h h' := ⟨p.1, fun q x y _ _ => p.2.1 q x y, p.2.2⟩
theorem CH.td {h h' : Hp} (p : CH [1, 0] h h') : TxD h h' := ⟨p.1, fun q _ _ x y => p.2 q x y, fun j _ _ _ => by rw [p.2 [2, 0] (by simp) (by simp)]⟩
theorem TxtC.td {h h' : Hp} (t : TxtC n T h) (p : TxD h h') : TxtC n T h' := ⟨t.1, by rw [p.2.2 2 (by omega) (by omega) (by omega)]; exact t.2.1, fun j hj => by rw [p.2.1 _ (by simp) (by simp) (by simp) (by simp)]; exact t.2.2 j hj⟩
/-- behind j numbers that can stand there -/
def CSt (n : Nat) (T : Nat → Int32) (b : Nat → Int32 × Int32) (p j : Nat) (h0 h : Hp) : Prop := TxN h0 h ∧ h.1 [2, 0] 5 = nI (itE n T j p) ∧ (∀ k, k < j → h.1 [1, 2, 0] k = vNu n T p k) ∧ ∀ k, k < j → okN n T (b k) (itE n T k p)
def LnP (n : Nat) (T : Nat → Int32) (b : Nat → Int32 × Int32) (c p : Nat) (P' : RW) (h0 : Hp) (r : Int32) (h' : Hp) : Prop := (r = 1 ∧ okL n T b c p ∧ h'.1 [2, 0] 5 = nI (itE n T c p) ∧ PlanIs h' [1, 0] P' ∧ TxD h0 h') ∨ (r = 0 ∧ ¬ okL n T b c p ∧ h'.1 [2, 0] 4 = nI (numsF n T b c 0 p) ∧ TxD h0 h')
theorem c_step (hT : TxtC n T h0) {p j c : Nat} {P' : RW} (s : CSt n T b p j h0 h) (hp : p ≤ n) (hj : j < c) (hc : c ≤ 7) {x lo hi : Int32} (hx : x = nI j) (hb : b j = (lo, hi)) {K0 K1 : Hp → Prop} (k0 : ∀ h', LnP n T b c p P' h0 0 h' → K0 h') (k1 : ∀ h', CSt n T b p (j + 1) h0 h' → K1 h') : ∃ Q', EvI X m_Tx_reads [vR [2, 0], vI x, vI lo, vI hi] h Q' ∧ ∀ (r : Int32) (h' : Hp), Q' r h' → (r = 0 → K0 h') ∧ (¬ r = 0 → K1 h') := by
  obtain ⟨s1, s2, s3, s4⟩ := s
  subst hx
  refine ⟨_, c_reads (hT.tn s1) (itE_le j p hp) (show j < 7 by omega) s2 lo hi, fun r h' q => ?_⟩
  obtain ⟨q1, q2, q3, q4, q5, q6, q7⟩ := q
  have e : (tkD n T (itE n T j p) ∧ (lo ≤ tkN n T (itE n T j p) ∧ tkN n T (itE n T j p) ≤ hi)) ↔ okN n T (b j) (itE n T j p) := by unfold okN; rw [hb]
  refine ⟨fun z => k0 h' (Or.inr ⟨rfl, ?_, ?_, (s1.tr q2).td⟩), fun z => k1 h' ⟨s1.tr q2, ?_, fun k hk => ?_, fun k hk => ?_⟩⟩
  · have hn : ¬ okN n T (b j) (itE n T j p) := fun y => by rw [q1, bI_t (e.mpr y)] at z; exact absurd z (by decide)
    exact fun y => hn (y j hj)
  · have hn : ¬ okN n T (b j) (itE n T j p) := fun y => by rw [q1, bI_t (e.mpr y)] at z; exact absurd z (by decide)
    rw [q3, numsF_at j c 0 p hj (fun k hk => by rw [Nat.zero_add]; exact s4 k hk) (by rw [Nat.zero_add]; exact hn)]
  · rw [q4, itE_s]
  all_goals
    have hy : okN n T (b j) (itE n T j p) := e.mp (by
      rcases Classical.em (tkD n T (itE n T j p) ∧ (lo ≤ tkN n T (itE n T j p) ∧ tkN n T (itE n T j p) ≤ hi)) with y | y
      · exact y
      · rw [q1, bI_f y] at z; exact absurd rfl z)
    by_cases w : k = j
  · subst w; exact q6 hy.1
  · rw [q7 k w]; exact s3 k (by omega)
  · subst w; exact hy
  · exact s4 k (by omega)
theorem c_step' (hT : TxtC n T h0) {p j c : Nat} {P' : RW} (s : CSt n T b p j h0 h) (hp : p ≤ n) (hj : j < c) (hc : c ≤ 7) {x lo hi : Int32} (hx : x = nI j) (hb : b j = (lo, hi)) {K0 K1 : Hp → Prop} (k0 : ∀ h', LnP n T b c p P' h0 0 h' → K0 h') (k1 : ∀ h', CSt n T b p (j + 1) h0 h' → K1 h') : ∃ Q', EvI X m_Tx_reads [vR [2, 0], vI x, vI lo, vI hi] h Q' ∧ ∀ (r : Int32) (h' : Hp), Q' r h' → (¬ r = 0 → K1 h') ∧ (r = 0 → K0 h') := by
  obtain ⟨Q', a, k⟩ := c_step (X := X) hT s hp hj hc hx hb k0 k1
  exact ⟨Q', a, fun r h' q => ⟨(k r h' q).2, (k r h' q).1⟩⟩
theorem CSt.ini {p : Nat} (h5 : h.1 [2, 0] 5 = nI p) : CSt n T b p 0 h h := ⟨TxN.rf, h5, fun k hk => by omega, fun k hk => by omega⟩
theorem LnP.yes {p c : Nat} {P' : RW} {h' : Hp} (s : CSt n T b p c h0 h) (q : PlPost [1, 0] h P' h') : LnP n T b c p P' h0 1 h' := by
  refine Or.inl ⟨rfl, s.2.2.2, ?_, q.1, s.1.td.tr q.2.td⟩
  rw [q.2.2 [2, 0] (by simp) (by simp)]; exact s.2.1
end CNU
