/-! THE ABSTRACT MACHINE: values by paths (a field's slot in front of its owner's path), a heap of whole numbers, and what stands of it in the machine -/
abbrev AV : Type := (Int32 ⊕ Int64) ⊕ Option (List Nat)
abbrev vI (x : Int32) : AV := .inl (.inl x)
abbrev vL (x : Int64) : AV := .inl (.inr x)
abbrev vR (p : List Nat) : AV := .inr (some p)
abbrev vN : AV := .inr none
abbrev EU : Type := va_G × (ClassId × ClassId × ClassId) × (List Nat → Nat) × (Nat → Prop)
abbrev EU.ad (E : EU) : List Nat → Nat := E.2.2.1
abbrev EU.A (E : EU) : Nat → Prop := E.2.2.2
def cv (E : EU) : AV → Value
  | .inl (.inl x) => .int x
  | .inl (.inr x) => .long x
  | .inr (some p) => .ref (EU.ad E p)
  | .inr none => .null
abbrev Hp : Type := (List Nat → Nat → Int32) × (List Nat → Nat → Int64)
def hsI (h : Hp) (p : List Nat) (i : Nat) (v : Int32) : Hp := (fun q j => if q = p ∧ j = i then v else h.1 q j, h.2)
def hsL (h : Hp) (p : List Nat) (i : Nat) (v : Int64) : Hp := (h.1, fun q j => if q = p ∧ j = i then v else h.2 q j)
def fty (c k : Nat) : Nat := ((ftab.getD c []).getD k 2)
def nfl (c : Nat) : Nat := (ftab.getD c []).length
def gv (h : Hp) (p : List Nat) (c k : Nat) : AV := match fty c k with
  | 0 => vI (h.1 p k)
  | 1 => vI (h.1 p k)
  | 3 => vL (h.2 p k)
  | _ => vR (k :: p)
/-- a cell: its path, its kind (0 .. 7 a class, 8 ints, 9 booleans, 10 walks), its length -/
abbrev CU : Type := List Nat × Nat × Nat
def celE (E : EU) (h : Hp) (q : CU) : va_E := match q.2.1 with
  | 8 => .inl (E.2.1.1, q.2.2, .inl (h.1 q.1))
  | 9 => .inl (E.2.1.2.1, q.2.2, .inl (h.1 q.1))
  | 10 => .inl (E.2.1.2.2, q.2.2, .inr (.inr (.inr (.inr (fun j => some (EU.ad E (j :: q.1)))))))
  | c => .inr (c, (List.range (nfl c)).map (fun k => cv E (gv h q.1 c k)))
def celU (E : EU) (h : Hp) (q : CU) : Nat × va_E := (EU.ad E q.1, celE E h q)
def live : List CU := [([0], 6, 0), ([0, 0], 1, 0), ([2, 0, 0], 9, 48), ([3, 0, 0], 9, 6), ([4, 0, 0], 8, 6), ([5, 0, 0], 8, 6), ([6, 0, 0], 8, 6), ([7, 0, 0], 8, 6), ([8, 0, 0], 8, 6), ([9, 0, 0], 8, 6), ([10, 0, 0], 8, 60), ([1, 0], 1, 0), ([2, 1, 0], 9, 48), ([3, 1, 0], 9, 6), ([4, 1, 0], 8, 6), ([5, 1, 0], 8, 6), ([6, 1, 0], 8, 6), ([7, 1, 0], 8, 6), ([8, 1, 0], 8, 6), ([9, 1, 0], 8, 6), ([10, 1, 0], 8, 60), ([2, 0], 3, 0), ([0, 2, 0], 8, 200), ([1, 2, 0], 8, 7), ([3, 0], 5, 0), ([3, 3, 0], 8, 6), ([4, 3, 0], 9, 6), ([5, 3, 0], 8, 6), ([6, 3, 0], 8, 6), ([7, 3, 0], 8, 6), ([4, 0], 5, 0), ([3, 4, 0], 8, 6), ([4, 4, 0], 9, 6), ([5, 4, 0], 8, 6), ([6, 4, 0], 8, 6), ([7, 4, 0], 8, 6), ([5, 0], 10, 2), ([0, 5, 0], 5, 0), ([3, 0, 5, 0], 8, 6), ([4, 0, 5, 0], 9, 6), ([5, 0, 5, 0], 8, 6), ([6, 0, 5, 0], 8, 6), ([7, 0, 5, 0], 8, 6), ([1, 5, 0], 5, 0), ([3, 1, 5, 0], 8, 6), ([4, 1, 5, 0], 9, 6), ([5, 1, 5, 0], 8, 6), ([6, 1, 5, 0], 8, 6), ([7, 1, 5, 0], 8, 6), ([6, 0], 4, 0), ([0, 6, 0], 1, 0), ([2, 0, 6, 0], 9, 48), ([3, 0, 6, 0], 9, 6), ([4, 0, 6, 0], 8, 6), ([5, 0, 6, 0], 8, 6), ([6, 0, 6, 0], 8, 6), ([7, 0, 6, 0], 8, 6), ([8, 0, 6, 0], 8, 6), ([9, 0, 6, 0], 8, 6), ([10, 0, 6, 0], 8, 60), ([1, 6, 0], 5, 0), ([3, 1, 6, 0], 8, 6), ([4, 1, 6, 0], 9, 6), ([5, 1, 6, 0], 8, 6), ([6, 1, 6, 0], 8, 6), ([7, 1, 6, 0], 8, 6), ([2, 6, 0], 8, 324), ([7, 0], 2, 0), ([1, 7, 0], 8, 8), ([2, 7, 0], 8, 8), ([3, 7, 0], 8, 8), ([4, 7, 0], 8, 8), ([5, 7, 0], 8, 20), ([8, 0], 0, 0), ([0, 8, 0], 8, 72), ([1], 7, 0), ([4, 1], 8, 36), ([5, 1], 8, 60), ([7, 1], 8, 200), ([15, 1], 8, 64), ([18, 1], 8, 26), ([19, 1], 8, 26), ([20, 1], 8, 52), ([21, 1], 9, 2), ([22, 1], 8, 6), ([23, 1], 8, 360), ([24, 1], 8, 72), ([26, 1], 8, 24), ([27, 1], 8, 8), ([28, 1], 8, 20), ([29, 1], 8, 6), ([30, 1], 8, 324)]
abbrev Liv (p : List Nat) (k n : Nat) : Prop := (p, k, n) ∈ live
theorem live_nd : (live.map (·.1)).Nodup := by decide +kernel
theorem live_inj {i j : Nat} {q r : CU} (hi : live[i]? = some q) (hj : live[j]? = some r) (e : q.1 = r.1) : i = j := by
  have h1 : (live.map (·.1))[i]? = some q.1 := by rw [List.getElem?_map, hi]; rfl
  have h2 : (live.map (·.1))[j]? = some r.1 := by rw [List.getElem?_map, hj]; rfl
  exact (List.getElem?_inj (List.getElem?_eq_some_iff.mp h1).1 live_nd).mp (by rw [h1, h2, e])
theorem live_ix {q : CU} (h : q ∈ live) (E : EU) (hp : Hp) : ∃ i : Nat, live[i]? = some q ∧ (live.map (celU E hp))[i]? = some (celU E hp q) := by
  obtain ⟨i, hi⟩ := List.getElem?_of_mem h
  exact ⟨i, hi, by rw [List.getElem?_map, hi]; rfl⟩
theorem live_set {E : EU} {h h' : Hp} {i : Nat} {q : CU} (hi : live[i]? = some q) (hne : ∀ q' : CU, q'.1 ≠ q.1 → celU E h' q' = celU E h q') : (live.map (celU E h)).set i (celU E h' q) = live.map (celU E h') := by
  apply List.ext_getElem?
  intro j
  by_cases hj : j = i
  · subst hj
    have hl := (List.getElem?_eq_some_iff.mp hi).1
    rw [List.getElem?_set_self (by simpa using hl), List.getElem?_map, hi]
    rfl
  · rw [List.getElem?_set_ne (Ne.symm hj), List.getElem?_map, List.getElem?_map]
    cases hq : live[j]? with
    | none => rfl
    | some r =>
      have hn : r.1 ≠ q.1 := fun e => hj (live_inj hq hi e)
      show some (celU E h r) = some (celU E h' r)
      rw [hne r hn]
theorem hsI_other {h : Hp} {p q : List Nat} {i : Nat} {v : Int32} (hn : q ≠ p) : (hsI h p i v).1 q = h.1 q := by
  funext j
  simp [hsI, hn]
theorem hsL_other {h : Hp} {p q : List Nat} {i : Nat} {v : Int64} (hn : q ≠ p) : (hsL h p i v).2 q = h.2 q := by
  funext j
  simp [hsL, hn]
theorem celE_congr {E : EU} {h h' : Hp} {q : CU} (h1 : h'.1 q.1 = h.1 q.1) (h2 : h'.2 q.1 = h.2 q.1) : celU E h' q = celU E h q := by
  have hg : ∀ c k, gv h' q.1 c k = gv h q.1 c k := fun c k => by unfold gv; rw [h1, h2]
  unfold celU celE
  simp only [h1, hg]
def RepH (E : EU) (h : Hp) (H : Heap) : Prop := va_P E.1 clsU (live.map (celU E h)) H ∧ va_D (EU.A E) (live.map (celU E h))
abbrev XS : Type := Nat × (Nat → Int32)
def tysU (E : EU) : List (ClassId × FieldType) := [(E.2.1.1, .int), (E.2.1.2.1, .boolean), (E.2.1.2.2, .object "UmbrellaStreet$Walk")]
def sIx : Nat → Nat := fun i => match i with | 0 => 49 | 1 => 58 | 2 => 63 | 3 => 68 | _ => 73
def sTx : Nat → String := fun i => match i with | 0 => "street" | 1 => "awning" | 2 => "walker" | 3 => "gone" | _ => "rain"
def sLen : List Nat := [6, 6, 6, 4, 4]
def sByt : List (List Int32) := [[115, 116, 114, 101, 101, 116], [97, 119, 110, 105, 110, 103], [119, 97, 108, 107, 101, 114], [103, 111, 110, 101], [114, 97, 105, 110]]
def StrU (E : EU) (s : State) : Prop := (∀ i : Nat, i < 5 → vk_R "UmbrellaStreet$Text" (sIx i) (sTx i) (EU.ad E [i, 3]) s) ∧ vk_S 5 sLen sByt (fun i => EU.ad E [i, 3]) (fun i => EU.ad E [0, i, 3]) (EU.A E) s s.heap ∧ va_Z "java/lang/String" "COMPACT_STRINGS" "Z" (.int 1) (EU.A E) s s.heap ∧ (va_Z "jdk/internal/util/Preconditions" "SIOOBE_FORMATTER" "Ljava/util/function/BiFunction;" .null (EU.A E) s s.heap ∨ va_Z "jdk/internal/util/Preconditions" "SIOOBE_FORMATTER" "Ljava/util/function/BiFunction;" (.ref (EU.ad E [4])) (EU.A E) s s.heap)
def WorldU (X : XS) (E : EU) (s : State) : Prop := va_K E.1 clsU (tysU E) s ∧ (va_X (EU.ad E [2]) X.1 X.2 s s.heap ∧ EU.ad E [2] < s.heap.size ∧ ¬ EU.A E (EU.ad E [2])) ∧ va_Nw (.methodLinkNest "UmbrellaStreet$Text" 107 m_Us_isNotIn.1 "UmbrellaStreet") s ∧ StrU E s
theorem WorldU.go {X : XS} {E : EU} {s U : State} {H : Heap} {locs : List Loc} (hW : WorldU X E s) (hS : va_S (EU.A E) s.heap H locs) (hU : U.heap = H) (hw : s.WarmedH U.vm) : WorldU X E U := by
  obtain ⟨hK, ⟨hX, hb, hA⟩, hN, h1, h2, h3, h4⟩ := hW
  subst hU
  have hq : ∀ a : Nat, a < s.heap.size → ¬ EU.A E a → U.heap[a]? = s.heap[a]? := hS.2.1
  refine ⟨va_K.moved hw.alike hK, ⟨(hX.kept (hq _ hb hA)).moved hw.alike, Nat.lt_of_lt_of_le hb hS.1, hA⟩, va_Nw.warmM hw hN, fun i hi => vk_R.warm hw (h1 i hi), (h2.kept hq).moved hw.alike, (h3.kept hq).moved hw.alike, ?_⟩
  rcases h4 with h | h
  · exact Or.inl ((h.kept hq).moved hw.alike)
  · exact Or.inr ((h.kept hq).moved hw.alike)
/-! locals -/
def asc (E : EU) (ls : List (Option AV)) : List (Nat × Value) := (List.range ls.length).filterMap (fun i => (ls[i]?.join).map (fun v => (i, cv E v)))
theorem mem_asc {E : EU} {ls : List (Option AV)} {q : Nat × Value} : q ∈ asc E ls ↔ ∃ v, ls[q.1]? = some (some v) ∧ q.2 = cv E v := by
  constructor
  · intro h
    obtain ⟨i, -, hi⟩ := List.mem_filterMap.mp h
    cases hl : ls[i]? with
    | none => simp [hl] at hi
    | some o =>
      cases o with
      | none => simp [hl] at hi
      | some v =>
        simp [hl] at hi
        subst hi
        exact ⟨v, hl, rfl⟩
  · rintro ⟨v, hv, e⟩
    refine List.mem_filterMap.mpr ⟨q.1, List.mem_range.mpr (List.getElem?_eq_some_iff.mp hv).1, ?_⟩
    simp [hv, ← e]
theorem asc_at {E : EU} {ls : List (Option AV)} {LS : Array Slot} {n i : Nat} {v : AV} (h : lv_has LS n (asc E ls)) (hv : ls[i]? = some (some v)) : LS[i]? = some (.val (cv E v)) := h.2.2 (i, cv E v) (mem_asc.mpr ⟨v, hv, rfl⟩)
theorem asc_le {E : EU} {ls ls' : List (Option AV)} {LS : Array Slot} {n : Nat} (h : lv_has LS n (asc E ls)) (hl : ∀ (k : Nat) (w : AV), ls'[k]? = some (some w) → ls[k]? = some (some w)) : lv_has LS n (asc E ls') := by
  refine ⟨h.1, h.2.1, fun q hq => ?_⟩
  obtain ⟨v, h1, h2⟩ := mem_asc.mp hq
  rw [h2]
  exact asc_at h (hl _ _ h1)
def isLg : AV → Bool
  | .inl (.inr _) => true
  | _ => false
theorem cat_cv (E : EU) (v : AV) : (cv E v).category = if isLg v then 2 else 1 := by
  rcases v with (x | x) | (_ | p) <;> rfl
def kil (ls : List (Option AV)) (i : Nat) : List (Option AV) := match i with
  | 0 => ls
  | j + 1 => match ls[j]? with
    | some (some (.inl (.inr _))) => ls.set j none
    | _ => ls
def st1 (ls : List (Option AV)) (i : Nat) (v : AV) : List (Option AV) := (kil ls i).set i (some v)
def st2 (ls : List (Option AV)) (i : Nat) (v : AV) : List (Option AV) := ((kil ls i).set (i + 1) none).set i (some v)
theorem kil_get {E : EU} {ls : List (Option AV)} {i k : Nat} {w : AV} (h : (kil ls i)[k]? = some (some w)) : ls[k]? = some (some w) ∧ ¬ (k + 1 = i ∧ (cv E w).category = 2) := by
  cases i with
  | zero => exact ⟨h, fun z => absurd z.1 (by omega)⟩
  | succ j =>
    have hcase : (∃ x : Int64, ls[j]? = some (some (.inl (.inr x))) ∧ kil ls (j + 1) = ls.set j none) ∨ ((∀ x : Int64, ls[j]? ≠ some (some (.inl (.inr x)))) ∧ kil ls (j + 1) = ls) := by
      show (∃ x : Int64, ls[j]? = some (some (.inl (.inr x))) ∧ (match ls[j]? with | some (some (.inl (.inr _))) => ls.set j none | _ => ls) = ls.set j none) ∨ ((∀ x : Int64, ls[j]? ≠ some (some (.inl (.inr x)))) ∧ (match ls[j]? with | some (some (.inl (.inr _))) => ls.set j none | _ => ls) = ls)
      rcases ls[j]? with _ | (_ | ((x | x) | (_ | p)))
      · exact Or.inr ⟨fun x h => (by cases h), rfl⟩
      · exact Or.inr ⟨fun x h => (by cases h), rfl⟩
      · exact Or.inr ⟨fun x h => (by cases h), rfl⟩
      · exact Or.inl ⟨x, rfl, rfl⟩
      · exact Or.inr ⟨fun x h => (by cases h), rfl⟩
      · exact Or.inr ⟨fun x h => (by cases h), rfl⟩
    rcases hcase with ⟨x, hx, he⟩ | ⟨hx, he⟩
    · rw [he, List.getElem?_set] at h
      split at h
      next e =>
        split at h <;> cases h
      next e => exact ⟨h, fun z => e (by omega)⟩
    · rw [he] at h
      refine ⟨h, fun z => ?_⟩
      have hk : k = j := by omega
      subst hk
      rcases w with (x | x) | (_ | p)
      · exact absurd z.2 (by show ¬ (1 : Nat) = 2; decide)
      · exact hx x h
      · exact absurd z.2 (by show ¬ (1 : Nat) = 2; decide)
      · exact absurd z.2 (by show ¬ (1 : Nat) = 2; decide)
theorem st1_has {E : EU} {ls : List (Option AV)} {LS : Array Slot} {n i : Nat} {v : AV} (h : lv_has LS n ((i, cv E v) :: (asc E ls).filter (fun q => !(q.1 == i) && !(q.1 + 1 == i && q.2.category == 2)))) : lv_has LS n (asc E (st1 ls i v)) := by
  refine ⟨h.1, h.2.1, fun q hq => h.2.2 q ?_⟩
  obtain ⟨w, h1, h2⟩ := mem_asc.mp hq
  unfold st1 at h1
  rw [List.getElem?_set] at h1
  split at h1
  next e =>
    split at h1
    · cases h1
      exact List.mem_cons.mpr (Or.inl (Prod.ext e.symm h2))
    · cases h1
  next e =>
    obtain ⟨g1, g2⟩ := kil_get (E := E) h1
    refine List.mem_cons_of_mem _ (List.mem_filter.mpr ⟨mem_asc.mpr ⟨w, g1, h2⟩, ?_⟩)
    rw [h2]
    have e1 : (q.1 == i) = false := by simpa using fun z => e z.symm
    rw [e1]
    have e2 : (q.1 + 1 == i && (cv E w).category == 2) = false := by
      cases hh : (q.1 + 1 == i && (cv E w).category == 2) with
      | false => rfl
      | true => simp only [Bool.and_eq_true, beq_iff_eq] at hh; exact absurd hh g2
    rw [e2]
    rfl
theorem st2_has {E : EU} {ls : List (Option AV)} {LS : Array Slot} {n i : Nat} {v : AV} (h : lv_has LS n ((i, cv E v) :: (asc E ls).filter (fun q => !(q.1 == i) && (!(q.1 == i + 1) && !(q.1 + 1 == i && q.2.category == 2))))) : lv_has LS n (asc E (st2 ls i v)) := by
  refine ⟨h.1, h.2.1, fun q hq => h.2.2 q ?_⟩
  obtain ⟨w, h1, h2⟩ := mem_asc.mp hq
  unfold st2 at h1
  rw [List.getElem?_set] at h1
  split at h1
  next e =>
    split at h1
    · cases h1
      exact List.mem_cons.mpr (Or.inl (Prod.ext e.symm h2))
    · cases h1
  next e =>
    rw [List.getElem?_set] at h1
    split at h1
    next e2 =>
      split at h1 <;> cases h1
    next e2 =>
      obtain ⟨g1, g2⟩ := kil_get (E := E) h1
      refine List.mem_cons_of_mem _ (List.mem_filter.mpr ⟨mem_asc.mpr ⟨w, g1, h2⟩, ?_⟩)
      rw [h2]
      have e1 : (q.1 == i) = false := by simpa using fun z => e z.symm
      have e3 : (q.1 == i + 1) = false := by simpa using fun z => e2 z.symm
      have e4 : (q.1 + 1 == i && (cv E w).category == 2) = false := by
        cases hh : (q.1 + 1 == i && (cv E w).category == 2) with
        | false => rfl
        | true => simp only [Bool.and_eq_true, beq_iff_eq] at hh; exact absurd hh g2
      rw [e1, e3, e4]
      rfl
/-! a method's entry -/
def entl : List AV → List (Option AV)
  | [] => []
  | v :: vs => if isLg v then some v :: none :: entl vs else some v :: entl vs
def slen : List AV → Nat
  | [] => 0
  | v :: vs => (if isLg v then 2 else 1) + slen vs
theorem slen_sl (E : EU) : ∀ (av : List AV), (lg_sl (av.map (cv E))).length = slen av
  | [] => rfl
  | v :: vs => by
    have ih := slen_sl E vs
    simp only [lg_sl, List.map_cons, List.flatMap_cons, List.length_append, slen, cat_cv] at ih ⊢
    rw [ih]
    cases isLg v <;> rfl
theorem entl_args (E : EU) : ∀ (av : List AV) (i k : Nat) (w : AV), (entl av)[k]? = some (some w) → (i + k, cv E w) ∈ lv_args i (av.map (cv E))
  | [], _, k, w, h => by simp [entl] at h
  | v :: vs, i, k, w, h => by
    simp only [List.map_cons, lv_args, cat_cv]
    cases hv : isLg v with
    | true =>
      simp only [entl, hv, if_true] at h
      match k, h with
      | 0, h => simp at h; subst h; simp
      | 1, h => simp at h
      | k + 2, h =>
        have h2 : (entl vs)[k]? = some (some w) := by simpa using h
        have ih := entl_args E vs (i + 2) k w h2
        simp only [if_true]
        rw [show i + (k + 2) = i + 2 + k by omega]
        exact List.mem_cons_of_mem _ ih
    | false =>
      simp only [entl, hv] at h
      match k, h with
      | 0, h => simp at h; subst h; simp
      | k + 1, h =>
        have h2 : (entl vs)[k]? = some (some w) := by simpa using h
        have ih := entl_args E vs (i + 1) k w h2
        have : ¬ ((if false = true then 2 else 1) = 2) := by decide
        simp only [this, if_false]
        rw [show i + (k + 1) = i + 1 + k by omega]
        exact List.mem_cons_of_mem _ ih
def entP (n : Nat) (av : List AV) : List (Option AV) := entl av ++ List.replicate (n - (entl av).length) none
theorem entP_get {n : Nat} {av : List AV} {k : Nat} {w : AV} (h : (entP n av)[k]? = some (some w)) : (entl av)[k]? = some (some w) := by
  unfold entP at h
  by_cases hk : k < (entl av).length
  · rwa [List.getElem?_append_left hk] at h
  · rw [List.getElem?_append_right (by omega)] at h
    have := List.eq_of_mem_replicate (List.mem_of_getElem? h)
    cases this
/-! the judgement -/
def RetAt (M : MD) (pc : Nat) (v : Option AV) : Prop := match v with
  | none => decode M.2.1 pc = .ok (.return_, 1) ∧ M.2.2.2.1 = none
  | some (.inl (.inl x)) => decode M.2.1 pc = .ok (.ireturn, 1) ∧ ∃ ty, M.2.2.2.1 = some ty ∧ narrow ty (.int x) = .int x
  | some (.inl (.inr _)) => decode M.2.1 pc = .ok (.lreturn, 1) ∧ M.2.2.2.1 = some .long
  | some (.inr _) => decode M.2.1 pc = .ok (.areturn, 1) ∧ ∃ n, M.2.2.2.1 = some (.object n)
def Fr (X : XS) (M : MD) (p : Program) (R : Room) (s : State) (m : MethodId) (args : Array Value) (c : Code) (cells slots : Nat) (E : EU) : Prop :=
  p.tables.exec = Jvm.exec ∧ c.code = M.2.1 ∧ c.maxLocals = M.2.2.1 ∧ s.vm.findClass M.1.cls = some m.cls ∧ (∀ w ∈ wsG, w.before args s = true) ∧ WorldU X E s ∧ M.2.2.2.2.1 ≤ R.frames ∧ M.2.2.2.2.2 ≤ R.locals ∧ cells ≤ R.cells ∧ slots ≤ R.slots
def Rn (X : XS) (M : MD) (pc : Nat) (ls : List (Option AV)) (st : List AV) (h : Hp) (Q : Option AV → Hp → Prop) : Prop :=
  ∀ (p : Program) (l : Launch) (e : Env) (R : Room) (s : State) (m : MethodId) (args : Array Value) (below : List Frame) (meth : Method) (c : Code) (cells slots : Nat) (E : EU) (QQ : State → Prop), Fr X M p R s m args c cells slots E →
    (∀ (v : Option AV) (h' : Hp), Q v h' → ∀ (pc' : Nat), RetAt M pc' v → ∀ (H' : Heap) (locs' : List Loc) (LS' : Array Slot), RepH E h' H' → va_S (EU.A E) s.heap H' locs' → W p l e R s m args below meth c H' locs' cells slots QQ (F0 m pc' LS' (v.toList.map (cv E)))) →
    ∀ (H : Heap) (locs : List Loc) (LS : Array Slot), RepH E h H → va_S (EU.A E) s.heap H locs → lv_has LS M.2.2.1 (asc E ls) → W p l e R s m args below meth c H locs cells slots QQ (F0 m pc LS (st.map (cv E)))
def rmM (M : MD) : Room := { frames := M.2.2.2.2.1, cells := 0, slots := 0, locals := M.2.2.2.2.2 }
def wsM (M : MD) : List Cond := .code M.1 M.2.1 M.2.2.1 M.2.2.2.1 :: wsG
def QcE (E : EU) (Q : Option AV → Hp → Prop) : Array Value → State → Outcome → State → Prop := fun _ st o t => (∃ (v : Option AV) (h' : Hp), o = .returned (v.map (cv E)) ∧ Q v h' ∧ RepH E h' t.heap) ∧ va_F (EU.A E) st t
def Ev (X : XS) (M : MD) (av : List AV) (h : Hp) (Q : Option AV → Hp → Prop) : Prop := ∀ (l : Launch) (E : EU), Met l M.1 (wsM M) (rmM M) (va_Pc (av.map (cv E)) (fun U => WorldU X E U ∧ RepH E h U.heap)) (QcE E Q) 0 0 (EU.A E)
theorem Met.ofWF {l : Launch} {y : MethodName} {ws ws' : List Cond} {rm : Room} {Pc : Array Value → State → Prop} {Qc : Array Value → State → Outcome → State → Prop} {mc ms : Nat} {free : Addr → Prop} {cc : ByteArray} {maxL : Nat} {ret : Option FieldType}
    (hy : plainFor y = true) (hw : ws = Cond.code y cc maxL ret :: ws')
    (body : ∀ p e s m args below meth c s₁, BodyLoose p l y (headSpec ws rm) cc maxL ret e s m args below meth c s₁ → c.maxLocals = maxL → Pc args s →
      W p l e (headSpec ws rm).room s m args below meth c s.heap [] 0 0 (MQ below Qc args s mc ms free) (entryFrame m args maxL)) : Met l y ws rm Pc Qc mc ms free := by
  refine MetFree.of_bodySF (code := cc) (maxLocals := maxL) (ret := ret) hy ?_ ?_
  · intro args s m h hn
    obtain ⟨meth, c, h1, h2, h3, h4, h5, h6, -, -⟩ := Cond.code_spec hn (atoms_spec (ws := ws) h _ (by rw [hw]; exact List.mem_cons_self))
    exact ⟨meth, c, h1, h2, h3, h4, h5, h6⟩
  · intro p e s m args below meth c s₁ B hml hP _
    have hh0 : s₁.heap = s.heap := by rw [B.state]; rfl
    obtain ⟨t, a1, o, b1, b2, b3⟩ := body p e s m args below meth c s₁ B hml hP s₁ hh0 (Stand.of_body B)
    exact ⟨t, o, a1, b1, b2, ⟨b3.1, b3.2⟩⟩
theorem Ev.intro {X : XS} {M : MD} {av : List AV} {h : Hp} {Q : Option AV → Hp → Prop} (hy : plainFor M.1 = true) (hlen : slen av ≤ M.2.2.1) {ls : List (Option AV)} (hls : entP M.2.2.1 av = ls) (k : Rn X M 0 ls [] h Q) : Ev X M av h Q := by
  intro l E
  refine Met.ofWF (cc := M.2.1) (maxL := M.2.2.1) (ret := M.2.2.2.1) hy rfl ?_
  intro p e s m args below meth c s₁ B hml hv
  obtain ⟨rfl, hWd, hR⟩ := hv
  have hx := B.exec
  have hb := B.bytes
  have hr := B.returns
  have hts := atoms_spec (ws := wsM M) B.pre
  have hown : s.vm.findClass M.1.cls = some m.cls := findClass_of_methodNamed B.named
  have hlocks := B.notSynchronized
  have hl := lv_entry (av.map (cv E)) (n := M.2.2.1) (by rw [slen_sl]; exact hlen)
  rw [lg_entry_eq]
  refine k p l e _ s m _ below meth c 0 0 E _ ⟨hx, hb, hml, hown, fun w hw => hts w (List.mem_cons_of_mem _ hw), hWd, Nat.le_refl _, Nat.le_refl _, Nat.le_refl _, Nat.le_refl _⟩ ?_ s.heap [] _ hR va_S.rf ?_
  · intro v h' hQ pc' hret H' locs' LS' hR' hS'
    rcases v with _ | ((x | x) | (_ | q))
    · obtain ⟨hd, hn⟩ := hret
      exact W.vret hx hb (hr.trans hn) (fun t ht hW => ⟨⟨none, h', rfl, hQ, by rw [ht]; exact hR'⟩, hS'.F ht⟩) hS'.2.2 hd
    · obtain ⟨hd, ty, hn, hnar⟩ := hret
      exact W.zret hx hb (hr.trans hn) hnar (fun t ht hW => ⟨⟨some (vI x), h', rfl, hQ, by rw [ht]; exact hR'⟩, hS'.F ht⟩) hS'.2.2 hd
    · obtain ⟨hd, hn⟩ := hret
      exact W.lret hx hb (hr.trans hn) (fun t ht hW => ⟨⟨some (vL x), h', rfl, hQ, by rw [ht]; exact hR'⟩, hS'.F ht⟩) hS'.2.2 hd
    · obtain ⟨hd, n, hn⟩ := hret
      exact W.aret hx hb (hr.trans hn) (Or.inl ⟨n, rfl⟩) (Or.inl rfl) (fun t ht hW => ⟨⟨some vN, h', rfl, hQ, by rw [ht]; exact hR'⟩, hS'.F ht⟩) hS'.2.2 hd
    · obtain ⟨hd, n, hn⟩ := hret
      exact W.aret hx hb (hr.trans hn) (Or.inl ⟨n, rfl⟩) (Or.inr ⟨_, rfl⟩) (fun t ht hW => ⟨⟨some (vR q), h', rfl, hQ, by rw [ht]; exact hR'⟩, hS'.F ht⟩) hS'.2.2 hd
  · refine ⟨hl.1, hl.2.1, fun q hq => ?_⟩
    obtain ⟨w, h1, h2⟩ := mem_asc.mp hq
    rw [← hls] at h1
    have h3 := entl_args E av 0 q.1 w (entP_get h1)
    rw [Nat.zero_add] at h3
    have h4 := hl.2.2 _ h3
    rw [h2]
    exact h4
