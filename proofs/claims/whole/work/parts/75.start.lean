/-! the state at the start -/
def wkC : List (List Nat) := [[3, 3, 0], [3, 4, 0], [3, 1, 6, 0], [3, 0, 5, 0], [3, 1, 5, 0]]
def plC : List (List Nat) := [[0, 0], [1, 0], [0, 6, 0], [1]]
def cod (p : List Nat) : Nat := if p ∈ wkC then 1 else if p ∈ plC then 2 else 0
def h0U : Hp := (fun p i => match cod p with | 1 => -1 | 2 => iI 1 i | _ => 0, fun _ _ => 0)
def k8 (q : CU) : CU := if q.2.1 = 11 then (q.1, 8, q.2.2) else q
def madeU : List CU := shL 0 tr6 ++ shL 1 tr7
theorem made_perm : (madeU.map k8).Perm live := List.isPerm_iff.mp (by decide +kernel)
theorem made_cod : ∀ q ∈ madeU, (q.2.1 = 8 → cod q.1 = 0) ∧ (q.2.1 = 9 → cod q.1 = 0) ∧ (q.2.1 = 11 → cod q.1 = 1) ∧ (q.2.1 < 8 → cod q.1 = if q.2.1 = 1 ∨ q.2.1 = 7 then 2 else 0) ∧ (q.2.1 < 8 ∨ q.2.1 = 8 ∨ q.2.1 = 9 ∨ q.2.1 = 10 ∨ q.2.1 = 11) := by decide +kernel
theorem h0_0 {p : List Nat} (h : cod p = 0) : h0U.1 p = fun _ => 0 := by
  funext i; show (match cod p with | 1 => -1 | 2 => iI 1 i | _ => 0) = (0 : Int32); rw [h]; rfl
theorem h0_1 {p : List Nat} (h : cod p = 1) : h0U.1 p = fun _ => -1 := by
  funext i; show (match cod p with | 1 => -1 | 2 => iI 1 i | _ => 0) = (-1 : Int32); rw [h]; rfl
theorem h0_2 {p : List Nat} (h : cod p = 2) : h0U.1 p = iI 1 := by
  funext i; show (match cod p with | 1 => -1 | 2 => iI 1 i | _ => 0) = iI 1 i; rw [h]; rfl
theorem iI_0 {c : Nat} (h : ¬ (c = 1 ∨ c = 7)) (k : Nat) : iI c k = 0 := by
  unfold iI; rw [if_neg (fun z => h z.1), if_neg (fun z => h z.1)]
theorem iI_1 {c : Nat} (h : c = 1 ∨ c = 7) (k : Nat) : iI c k = iI 1 k := by
  rcases h with rfl | rfl
  · rfl
  · unfold iI; simp
theorem celI_obj {I : I3} {a : List Nat → Nat} {p : List Nat} {c n : Nat} (hc : c < 8) : celI I a (p, c, n) = (a p, .inr (c, (List.range (nfl c)).map (fun k => match fty c k with
    | 0 => .int (iI c k)
    | 1 => .int (iI c k)
    | 3 => .long 0
    | _ => .ref (a (k :: p))))) := by
  match c, hc with
  | 0, _ => rfl
  | 1, _ => rfl
  | 2, _ => rfl
  | 3, _ => rfl
  | 4, _ => rfl
  | 5, _ => rfl
  | 6, _ => rfl
  | 7, _ => rfl
theorem made_cel (E : EU) : ∀ q ∈ madeU, celI E.2.1 (EU.ad E) q = celU E h0U (k8 q) := by
  intro q hq
  obtain ⟨c1, c2, c3, c4, c5⟩ := made_cod q hq
  obtain ⟨p, k, n⟩ := q
  simp only at c1 c2 c3 c4 c5
  rcases c5 with h | rfl | rfl | rfl | rfl
  · have e : k8 (p, k, n) = (p, k, n) := if_neg (by show ¬ k = 11; omega)
    rw [e, celI_obj h, celU_obj h]
    congr 3
    apply List.map_congr_left
    intro j hj
    have hv : h0U.1 p j = iI k j := by
      by_cases z : k = 1 ∨ k = 7
      · rw [h0_2 (by rw [c4 h, if_pos z]), iI_1 z]
      · rw [h0_0 (by rw [c4 h, if_neg z]), iI_0 z]
    unfold gv
    rw [hv]
    generalize fty k j = t
    match t with
    | 0 => rfl
    | 1 => rfl
    | 2 => rfl
    | 3 => rfl
    | _ + 4 => rfl
  · show (EU.ad E p, (.inl (E.2.1.1, n, .inl (fun _ => 0)) : va_E)) = (EU.ad E p, .inl (E.2.1.1, n, .inl (h0U.1 p)))
    rw [h0_0 (c1 rfl)]
  · show (EU.ad E p, (.inl (E.2.1.2.1, n, .inl (fun _ => 0)) : va_E)) = (EU.ad E p, .inl (E.2.1.2.1, n, .inl (h0U.1 p)))
    rw [h0_0 (c2 rfl)]
  · rfl
  · show (EU.ad E p, (.inl (E.2.1.1, n, .inl (fun _ => -1)) : va_E)) = (EU.ad E p, .inl (E.2.1.1, n, .inl (h0U.1 p)))
    rw [h0_1 (c3 rfl)]
theorem va_D_iff {A : Nat → Prop} {ws : va_W} : va_D A ws ↔ (ws.map (·.1)).Nodup ∧ ∀ x ∈ ws, A x.1 := by
  constructor
  · intro h
    refine ⟨?_, fun x hx => ?_⟩
    · rw [List.Nodup, List.pairwise_iff_getElem]
      intro i j hi hj hij e
      rw [List.length_map] at hi hj
      rw [List.getElem_map, List.getElem_map] at e
      have := h.1 i j _ _ (List.getElem?_eq_getElem hi) (List.getElem?_eq_getElem hj) e
      omega
    · obtain ⟨i, hi⟩ := List.getElem?_of_mem hx
      exact h.2 i x hi
  · intro ⟨h1, h2⟩
    refine ⟨fun i j p q hi hj e => ?_, fun k q hk => h2 q (List.mem_of_getElem? hk)⟩
    have hl := (List.getElem?_eq_some_iff.mp hi).1
    have e1 : (ws.map (·.1))[i]? = some p.1 := by rw [List.getElem?_map, hi]; rfl
    have e2 : (ws.map (·.1))[j]? = some q.1 := by rw [List.getElem?_map, hj]; rfl
    exact (List.getElem?_inj (by rw [List.length_map]; exact hl) h1).mp (by rw [e1, e2, e])
theorem va_P_iff {D : va_G} {cl : List vw_C} {ws : va_W} {H : Heap} : va_P D cl ws H ↔ ∀ x ∈ ws, va_at D cl x H := ⟨fun h x hx => by
  obtain ⟨i, hi⟩ := List.getElem?_of_mem hx
  exact h i x hi, fun h k q hk => h q (List.mem_of_getElem? hk)⟩
theorem made_rep (E : EU) {H : Heap} (hP : va_P E.1 clsU (madeU.map (celI E.2.1 (EU.ad E))) H) (hD : va_D (EU.A E) (madeU.map (celI E.2.1 (EU.ad E)))) : RepH E h0U H := by
  have e : madeU.map (celI E.2.1 (EU.ad E)) = (madeU.map k8).map (celU E h0U) := by
    rw [List.map_map]
    exact List.map_congr_left (made_cel E)
  have hp : (madeU.map (celI E.2.1 (EU.ad E))).Perm (live.map (celU E h0U)) := by
    rw [e]; exact made_perm.map _
  refine ⟨va_P_iff.mpr (fun x hx => va_P_iff.mp hP x (hp.mem_iff.mpr hx)), ?_⟩
  obtain ⟨d1, d2⟩ := va_D_iff.mp hD
  exact va_D_iff.mpr ⟨(hp.map (·.1)).nodup_iff.mp d1, fun x hx => d2 x (hp.mem_iff.mpr hx)⟩
def P0 : RW := fun a b => if a = 0 ∧ b = 0 then 2 else if a = 0 ∧ b = 1 then 6 else 0
def R0 : RW := fun _ _ => 0
theorem cod0 {p : List Nat} (h1 : p ∉ wkC) (h2 : p ∉ plC) : cod p = 0 := by unfold cod; rw [if_neg h1, if_neg h2]
theorem pl0 {p : List Nat} (hp : p ∈ plC) (hq : cod p = 2) (hk : ∀ k, k < 11 → cod (k :: p) = 0) : PlanIs h0U p P0 := by
  refine ⟨fun i hi => ?_, fun i hi => ?_, fun k h1 h2 i hi => ?_, fun i hi => ?_⟩
  · rw [h0_2 hq]
    have : i = 0 ∨ i = 1 := by omega
    rcases this with rfl | rfl <;> rfl
  · rw [h0_0 (hk 2 (by omega))]; rfl
  · rw [h0_0 (hk k (by omega))]
    unfold P0
    rw [if_neg (by omega), if_neg (by omega)]
  · rw [h0_0 (hk 10 (by omega))]; rfl
theorem wk0 {p : List Nat} (h0 : cod p = 0) (h3 : cod (3 :: p) = 1) (hk : ∀ k, k < 8 → 4 ≤ k → cod (k :: p) = 0) : WalkIs h0U p W00 := by
  refine ⟨fun i hi => ?_, fun k h1 h2 i hi => ?_⟩
  · rw [h0_0 h0]; rfl
  · by_cases z : k = 3
    · subst z; rw [h0_1 h3]; rfl
    · rw [h0_0 (hk k h2 (by omega))]
      unfold W00; rw [if_neg z]
theorem inv0 : Inv h0U := by
  refine ⟨2, 6, P0, W00, fun _ => W00, R0, R0, ⟨?_, ?_, ?_, ?_, ?_, ?_, ?_⟩, ⟨⟨?_, ?_, ?_, ?_, ?_, ?_⟩, ?_, ?_, ?_, ?_, ?_, ?_, ?_⟩, ?_⟩
  · exact pl0 (by decide) (by decide) (by decide)
  · exact wk0 (by decide) (by decide) (by decide)
  · intro k hk
    have : k = 0 ∨ k = 1 := by omega
    rcases this with rfl | rfl
    · exact wk0 (by decide) (by decide) (by decide)
    · exact wk0 (by decide) (by decide) (by decide)
  · rw [h0_0 (by decide)]; rfl
  · intro i hi; rw [h0_0 (by decide)]; rfl
  · rw [h0_0 (by decide)]; rfl
  · intro j hj i hi
    have : j = 0 ∨ j = 1 ∨ j = 2 := by omega
    rcases this with rfl | rfl | rfl
    · rw [h0_0 (by decide)]; rfl
    · rw [h0_0 (by decide)]; rfl
    · rw [h0_0 (by decide)]; rfl
  · rfl
  · rfl
  · intro c hc
    show lShr 0 (nI c) &&& 1 = _
    rw [lbit_0 (by omega)]; rfl
  · intro k hk
    have e : h0U.1 [1] 3 = 0 := rfl
    rw [e, bit_0 (by omega)]; rfl
  · intro k hk j hj _
    rw [h0_0 (by decide)]
    unfold P0; rw [if_neg (by omega), if_neg (by omega)]
  · intro t ht; rw [h0_0 (by decide)]; rfl
  · intro k hk; rw [h0_0 (by decide)]; rfl
  · intro i hi
    rw [h0_0 (by decide)]
    unfold nowOf W00
    grind
  · intro k hk
    rw [h0_0 (by decide)]
    exact ⟨rfl, fun z => absurd rfl z⟩
  · rfl
  · intro i hi; rw [h0_0 (by decide)]; rfl
  · rfl
  · intro j hj i hi
    rw [h0_0 (by decide)]; rfl
  · refine ⟨⟨rfl, rfl, by omega, by omega, by omega, by omega, fun k hk => ⟨Or.inl rfl, fun z => absurd rfl z, Or.inl rfl, ⟨0, by omega, rfl⟩, ⟨0, by omega, rfl⟩⟩⟩, ?_, ⟨0, by omega, rfl⟩, fun k hk z => absurd rfl z, fun c hc => Or.inl rfl, fun t ht => ⟨0, by omega, rfl⟩, ⟨0, by omega, rfl⟩, ⟨0, by omega, rfl, fun i hi => by omega⟩⟩
    intro k hk
    exact ⟨Or.inl rfl, Or.inl rfl⟩
