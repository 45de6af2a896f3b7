/-! worlds as they are made -/
abbrev I3 : Type := ClassId × ClassId × ClassId
def T3 (I : I3) : List (ClassId × FieldType) := [(I.1, .int), (I.2.1, .boolean), (I.2.2, .object "UmbrellaStreet$Walk")]
def iI (c k : Nat) : Int32 := if (c = 1 ∨ c = 7) ∧ k = 0 then 2 else if (c = 1 ∨ c = 7) ∧ k = 1 then 6 else 0
/-- a cell as it is made; kind 11: ints of -1 -/
def celI (I : I3) (a : List Nat → Nat) (q : CU) : Nat × va_E := (a q.1, match q.2.1 with
  | 8 => .inl (I.1, q.2.2, .inl (fun _ => 0))
  | 9 => .inl (I.2.1, q.2.2, .inl (fun _ => 0))
  | 10 => .inl (I.2.2, q.2.2, .inr (.inr (.inr (.inr (fun j => some (a (j :: q.1)))))))
  | 11 => .inl (I.1, q.2.2, .inl (fun _ => -1))
  | c => .inr (c, (List.range (nfl c)).map (fun k => match fty c k with
    | 0 => .int (iI c k)
    | 1 => .int (iI c k)
    | 3 => .long 0
    | _ => .ref (a (k :: q.1)))))
def dfl (c : Nat) : List Value := (List.range (nfl c)).map (fun k => match fty c k with
  | 0 => .int 0
  | 1 => .int 0
  | 3 => .long 0
  | _ => .null)
def shL (k : Nat) (L : List CU) : List CU := L.map (fun q => (q.1 ++ [k], q.2))
def tr0 : List CU := [([], 0, 0), ([0], 8, 72)]
def tr1 : List CU := [([], 1, 0), ([2], 9, 48), ([3], 9, 6), ([4], 8, 6), ([5], 8, 6), ([6], 8, 6), ([7], 8, 6), ([8], 8, 6), ([9], 8, 6), ([10], 8, 60)]
def tr2 : List CU := [([], 2, 0), ([1], 8, 8), ([2], 8, 8), ([3], 8, 8), ([4], 8, 8), ([5], 8, 20)]
def tr3 : List CU := [([], 3, 0), ([0], 8, 200), ([1], 8, 7)]
def tr5 : List CU := [([], 5, 0), ([3], 11, 6), ([4], 9, 6), ([5], 8, 6), ([6], 8, 6), ([7], 8, 6)]
def tr4 : List CU := ([], 4, 0) :: ((shL 0 tr1 ++ shL 1 tr5) ++ [([2], 8, 324)])
def tr6 : List CU := ([], 6, 0) :: ([5], 10, 2) :: ((((((((((shL 0 tr1 ++ shL 1 tr1) ++ shL 2 tr3) ++ shL 3 tr5) ++ shL 4 tr5) ++ shL 6 tr4) ++ shL 7 tr2) ++ shL 8 tr0) ++ shL 5 (shL 0 tr5)) ++ shL 5 (shL 1 tr5)))
def tr7 : List CU := [([], 7, 0), ([4], 8, 36), ([5], 8, 60), ([7], 8, 200), ([15], 8, 64), ([18], 8, 26), ([19], 8, 26), ([20], 8, 52), ([21], 9, 2), ([22], 8, 6), ([23], 8, 360), ([24], 8, 72), ([26], 8, 24), ([27], 8, 8), ([28], 8, 20), ([29], 8, 6), ([30], 8, 324)]
def trU : Nat → List CU := fun c => match c with
  | 0 => tr0
  | 1 => tr1
  | 2 => tr2
  | 3 => tr3
  | 4 => tr4
  | 5 => tr5
  | 6 => tr6
  | _ => tr7
def adL (a0 : Nat) (qs : List (Nat × Nat)) (p : List Nat) : Nat := match p with
  | [k] => (qs.lookup k).getD 0
  | _ => a0
def glue (a0 : Nat) (f : Nat → List Nat → Nat) (p : List Nat) : Nat := match p.getLast? with
  | none => a0
  | some k => f k p.dropLast
theorem glue_c {a0 : Nat} {f : Nat → List Nat → Nat} (p : List Nat) (k : Nat) : glue a0 f (p ++ [k]) = f k p := by
  unfold glue
  rw [List.getLast?_concat, List.dropLast_concat]
theorem celI_sh {I : I3} {a b : List Nat → Nat} {k : Nat} (h : ∀ p, a (p ++ [k]) = b p) (q : CU) : celI I a (q.1 ++ [k], q.2) = celI I b q := by
  have e : b = fun p => a (p ++ [k]) := funext (fun p => (h p).symm)
  subst e
  rfl
theorem shL_map {I : I3} {a b : List Nat → Nat} {k : Nat} (h : ∀ p, a (p ++ [k]) = b p) (L : List CU) : (shL k L).map (celI I a) = L.map (celI I b) := by
  unfold shL
  rw [List.map_map]
  exact List.map_congr_left (fun q _ => celI_sh h q)
/-- what the constructors' calls need of nest mates, and of the array of walks -/
def nestW : List Cond := [.methodLinkNest RX6 11 yX1_init RX6, .methodLinkNest RX6 21 yX3_init RX6, .methodLinkNest RX6 42 yX4_init RX6, .methodLinkNest RX4 11 yX1_init RX6, .methodLinkNest RX6 49 yX2_init RX6, .methodLinkNest RX6 56 yX0_init RX6]
def NestU (U : State) : Prop := (∀ (a : String) (i : Nat) (x : MethodName) (h : String), Cond.methodLinkNest a i x h ∈ nestW → va_Nw (.methodLinkNest a i x h) U) ∧ va_AO "UmbrellaStreet$Walk" U
theorem NestU.warm {s U : State} (hW : s.WarmedH U.vm) (h : NestU s) : NestU U := ⟨fun a i x n hm => va_Nw.warmM hW (h.1 a i x n hm), h.2.moved hW.alike⟩
theorem va_P.lf {D : va_G} {cl : List vw_C} {w1 w2 : va_W} {H : Heap} (h : va_P D cl (w1 ++ w2) H) : va_P D cl w1 H := fun k q hk => h k q (by
  rw [List.getElem?_append_left (List.getElem?_eq_some_iff.mp hk).1]; exact hk)
theorem va_P.rg {D : va_G} {cl : List vw_C} {w1 w2 : va_W} {H : Heap} (h : va_P D cl (w1 ++ w2) H) : va_P D cl w2 H := fun k q hk => h (w1.length + k) q (by
  rw [List.getElem?_append_right (by omega), Nat.add_sub_cancel_left]; exact hk)
theorem va_D.lf {A : Nat → Prop} {w1 w2 : va_W} (h : va_D A (w1 ++ w2)) : va_D A w1 := by
  have e : ∀ (k : Nat) (q : Nat × va_E), w1[k]? = some q → (w1 ++ w2)[k]? = some q := fun k q hk => by
    rw [List.getElem?_append_left (List.getElem?_eq_some_iff.mp hk).1]; exact hk
  exact ⟨fun i j p q hi hj => h.1 i j p q (e i p hi) (e j q hj), fun k q hk => h.2 k q (e k q hk)⟩
theorem va_D.rg {A : Nat → Prop} {w1 w2 : va_W} (h : va_D A (w1 ++ w2)) : va_D A w2 := by
  have e : ∀ (k : Nat) (q : Nat × va_E), w2[k]? = some q → (w1 ++ w2)[w1.length + k]? = some q := fun k q hk => by
    rw [List.getElem?_append_right (by omega), Nat.add_sub_cancel_left]; exact hk
  refine ⟨fun i j p q hi hj hpq => ?_, fun k q hk => h.2 _ q (e k q hk)⟩
  have := h.1 _ _ p q (e i p hi) (e j q hj) hpq
  omega
theorem va_D.ne {A : Nat → Prop} {w1 w2 : va_W} (h : va_D A (w1 ++ w2)) {i j : Nat} {p q : Nat × va_E} (hi : w1[i]? = some p) (hj : w2[j]? = some q) : p.1 ≠ q.1 := by
  intro e
  have l := (List.getElem?_eq_some_iff.mp hi).1
  have := h.1 i (w1.length + j) p q (by rw [List.getElem?_append_left l]; exact hi) (by rw [List.getElem?_append_right (by omega), Nat.add_sub_cancel_left]; exact hj) e
  omega
/-- behind a call on the last part of a world -/
theorem k_join {A0 : Nat → Prop} {D : va_G} {cl : List vw_C} {ws wc w1 : va_W} {H H1 : Heap} (hP : va_P D cl (ws ++ wc) H) (hD : va_D A0 (ws ++ wc)) (hk : ∀ q : Nat, q < H.size → ¬ va_A wc H.size q → H1[q]? = H[q]?) (hF : ∀ q, va_A wc H.size q → A0 q) (hP1 : va_P D cl w1 H1) (hD1 : va_D (va_A wc H.size) w1) : va_P D cl (ws ++ w1) H1 ∧ va_D A0 (ws ++ w1) := by
  have apart : ∀ (k : Nat) (q : Nat × va_E), ws[k]? = some q → q.1 < H.size ∧ ¬ va_A wc H.size q.1 := by
    intro k q hq
    have hl := (hP.lf k q hq).lt
    refine ⟨hl, fun h => ?_⟩
    rcases h with ⟨k2, e, h⟩ | h
    · exact hD.ne hq h rfl
    · omega
  refine ⟨va_P.app (fun k q hq => ?_) hP1, va_D.app hD.lf (hD1.weaken (fun k q _ h => hF q.1 h)) (fun i j x y hx hy hxy => ?_)⟩
  · obtain ⟨g1, g2⟩ := apart k q hq
    exact (hP.lf k q hq).kept (hk q.1 g1 g2)
  · exact (apart i x hx).2 (by rw [hxy]; exact hD1.2 j y hy)
theorem k_free {A0 : Nat → Prop} {ws wc : va_W} {H0 H : Heap} {locs : List Loc} (hD : va_D A0 (ws ++ wc)) (hS : va_S A0 H0 H locs) (hA : ∀ q, H0.size ≤ q → A0 q) : ∀ q, va_A wc H.size q → A0 q := by
  intro q h
  rcases h with ⟨k, e, h⟩ | h
  · exact hD.rg.2 k (q, e) h
  · exact hA q (Nat.le_trans hS.1 h)
theorem arrV_same {cA : ClassId} {N : Nat} {f g : Nat → Value} (h : ∀ j, j < N → f j = g j) : arrV cA N f = arrV cA N g := by
  have e : (fun j : Fin N => f j.val) = fun j => g j.val := funext (fun j => h j.val j.isLt)
  unfold arrV
  rw [e]
