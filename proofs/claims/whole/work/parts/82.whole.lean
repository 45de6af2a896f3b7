/-! THE CLAIM OUT OF ONE WALK OF THE LAW'S BODY. Your part is whole_start (and what it stands on); all else here is the same for every law, but numbers. -/
def lw_P (b : Addr) (xs : List Int32) (args : Array Value) (s : State) : Prop := args = #[.ref b] ∧ s.IntsAt b xs ∧ xs.length ≤ 3584 ∧ (Jvm.Cond.and given_1 narrow_1).before args s = true
def lw_Q (_ : Array Value) (s : State) (o : Outcome) (t : State) : Prop := o = .returned (some (.int 1)) ∧ Framed s o t [] 600000 7302250
def lw_Z (below : List Frame) (a : Array Value) (s : State) : State → Prop := fun t => ∃ o, t.status = .running ∧ Ended t below o ∧ lw_Q a s o t
/-- the law's own end, with 1 on the stack, nothing written that was there before, its room as the claim has it -/
theorem lw_ret {p : Program} {l : Launch} {e : Env} {s : State} {m : MethodId} {below : List Frame} {meth : Method} {c : Code} {b : Nat} (hx : p.tables.exec = Jvm.exec) (hb : c.code = code) (hr : meth.sig.returnType = ret) (hlocks : meth.locks = false) {pc : Nat} {H : Heap} {ls : Array Slot} (hdg : decode code pc = .ok (.ireturn, 1)) : W p l e room_1 s m #[Value.ref b] below meth c H [] 600000 7302250 (lw_Z below #[Value.ref b] s) (F0 m pc ls [.int 1]) := by
  intro T hT X
  obtain ⟨fs, hret, hrun, hended, hW, hframe⟩ := X.leave (v := some (.int 1)) (hlocks := hlocks) (fun h => by rw [hr] at h; cases h)
  have hmeth' : T.vm.method? m = some meth := X.method'
  refine ⟨T.setFrames fs, ?_, .returned (some (.int 1)), hrun, hended, rfl, ⟨_, rfl⟩, hW, hframe⟩
  jvm_step X.here [X.here.top, hx, hb, hdg, hmeth', hr, ret, narrow_b1]
  (try refine ⟨rfl, ?_⟩); (try refine ⟨rfl, ?_⟩)
  first | (intro acts; rw [hret _ acts rfl rfl rfl]) | rw [hret _ _ rfl rfl rfl]
  exact Steps.refl _
/-- what holds at the law's entry: the machine, the code, the tables' words (any of lw_tbl by 'hts w (by decide +kernel)'), the script of L ints xs at the cell b, what the Statement gives of the start (any of its parts by flat_of_before) -/
def lw_At (p : Program) (s : State) (m : MethodId) (meth : Method) (c : Code) (b L : Nat) (xs : Nat → Int32) : Prop :=
  p.tables.exec = Jvm.exec ∧ c.code = code ∧ meth.sig.returnType = ret ∧ c.maxLocals = 4 ∧ s.vm.findClass R_law = some m.cls ∧ (∀ w ∈ lw_tbl, w.before #[Value.ref b] s = true) ∧ va_X b L xs s s.heap ∧ b < s.heap.size ∧ meth.locks = false ∧ (Jvm.Cond.and given_1 narrow_1).before #[Value.ref b] s = true
set_option maxHeartbeats 4000000 in
set_option maxRecDepth 20000 in
theorem whole_start {p : Program} {e : Env} {s : State} {m : MethodId} {below : List Frame} {meth : Method} {c : Code} (l : Launch) (hflags : l.flags = flags0) {b L : Nat} {xs : Nat → Int32} (hL : L ≤ 3584) (C0 : lw_At p s m meth c b L xs) : W p l e room_1 s m #[Value.ref b] below meth c s.heap [] 0 0 (lw_Z below #[Value.ref b] s) (entryFrame m ([Value.ref b] : List Value).toArray 4) := by
  obtain ⟨hx, hb, hr, hml, hown, htl, hX, hbl, hlocks, hgv⟩ := id C0
  have hts : ∀ w ∈ wsG, w.before #[Value.ref b] s = true := fun w hw => htl w (List.mem_filter.mp hw).1
  obtain ⟨A, hAe⟩ : ∃ A : Nat → Prop, A = fun q : Nat => s.heap.size ≤ q := ⟨_, rfl⟩
  have hA : ∀ q : Nat, s.heap.size ≤ q → A q := fun q h => by rw [hAe]; exact h
  have hAl : ∀ q : Nat, A q → s.heap.size ≤ q := fun q h => by rw [hAe] at h; exact h
  have hnA : ∀ a : Nat, a < s.heap.size → ¬ A a := fun a h z => by have := hAl a z; omega
  clear hAe
  obtain ⟨D, I, hK, hN, hNw⟩ := base_world htl
  obtain ⟨adK, adV, fm, hR1, hR2, hR3, hR4⟩ := base_str (A := A) htl hgv hnA
  have XL : CL x code 4 D I A p s m #[Value.ref b] c := ⟨hx, hb, hml, hown, hts, hK, hN, hA⟩
  have hl := lv_entry ([.ref b]) (n := 4) (Nat.le_of_ble_eq_true rfl)
  rw [lg_entry_eq]
  generalize (lg_sl ([.ref b]) ++ List.replicate (4 - (lg_sl ([.ref b])).length) Slot.unset).toArray = ls at hl ⊢
  have hl : lv_has ls 4 [(0, .ref b)] := hl
  refine k_child0 (ws := []) XL ct_X6 cw_L_7 (Nat.le_of_ble_eq_true rfl) (Nat.le_of_ble_eq_true rfl) (Nat.le_of_ble_eq_true rfl) (Nat.le_of_ble_eq_true rfl) (fun k q h => by simp at h) ⟨fun i j p q h => by simp at h, fun k q h => by simp at h⟩ va_S.rf (Nat.le_of_ble_eq_true rfl) hl.1 dn_0 dn_3 dn_4 (fun a1 H locs hP hD hS => ?_)
  refine lv_astore_n (lv' := [(1, .ref (a1 [])), (0, .ref b)]) hx hb dn_7 rfl hl (by decide) rfl (fun ls hl => ?_)
  refine k_child0 XL ct_X7 cw_L_10 (Nat.le_of_ble_eq_true rfl) (Nat.le_of_ble_eq_true rfl) (Nat.le_of_ble_eq_true rfl) (Nat.le_of_ble_eq_true rfl) hP hD hS (Nat.le_of_ble_eq_true rfl) hl.1 dn_8 dn_11 dn_12 (fun a2 H locs hP hD hS => ?_)
  refine lv_astore_n (lv' := [(2, .ref (a2 [])), (1, .ref (a1 [])), (0, .ref b)]) hx hb dn_15 rfl hl (by decide) rfl (fun ls hl => ?_)
  obtain ⟨ad, had⟩ : ∃ ad : List Nat → Nat, ad = glue 0 (fun k => match k with | 0 => a1 | 1 => a2 | 2 => fun _ => b | 3 => (fun p => match p with | [i] => adK i | [_, i] => adV i | _ => 0) | _ => fun _ => fm) := ⟨_, rfl⟩
  have ad0 : ad [0] = a1 [] := by rw [had]; rfl
  have ad1 : ad [1] = a2 [] := by rw [had]; rfl
  have ad2 : ad [2] = b := by rw [had]; rfl
  have ad3 : ∀ i, ad [i, 3] = adK i := fun i => by rw [had]; rfl
  have ad4 : ∀ i, ad [0, i, 3] = adV i := fun i => by rw [had]; rfl
  have ad5 : ad [4] = fm := by rw [had]; rfl
  have em : madeU.map (celI I ad) = ([] ++ (trU 6).map (celI I a1)) ++ (trU 7).map (celI I a2) := by
    rw [had, madeU, List.map_append, shL_map (b := a1) (fun p => glue_c p 0), shL_map (b := a2) (fun p => glue_c p 1), List.nil_append]
    rfl
  have hW : WorldU (L, xs) (D, I, ad, A) s := by
    refine ⟨hK, ⟨?_, ?_, ?_⟩, hNw, fun i hi => ?_, ?_, hR3, ?_⟩
    · show va_X (ad [2]) L xs s s.heap
      rw [ad2]; exact hX
    · show ad [2] < s.heap.size
      rw [ad2]; exact hbl
    · show ¬ A (ad [2])
      rw [ad2]; exact hnA b hbl
    · show vk_R _ _ _ (ad [i, 3]) s
      rw [ad3]; exact hR1 i hi
    · show vk_S 5 sLen sByt (fun i => ad [i, 3]) (fun i => ad [0, i, 3]) A s s.heap
      rw [funext ad3, funext ad4]; exact hR2
    · show _ ∨ va_Z _ _ _ (.ref (ad [4])) A s s.heap
      rw [ad5]; exact hR4
  have hRep : RepH (D, I, ad, A) h0U H := made_rep (D, I, ad, A) (by show va_P D clsU (madeU.map (celI I ad)) H; rw [em]; exact hP) (by show va_D A (madeU.map (celI I ad)); rw [em]; exact hD)
  have hlaw := g_Lw_law_16 (X := (L, xs)) h0U (fun v _ => v = some (vI 1)) (law_loop (X := (L, xs)) (fun h hI => op_fault hI) (fun h hI => op_shower hI) (by show L < 2 ^ 31; omega) (fun _ => rfl) L 0 h0U (by show L - 0 ≤ L; omega) (Nat.zero_le _) inv0)
  refine hlaw p l e room_1 s m #[Value.ref b] below meth c _ _ (D, I, ad, A) (lw_Z below #[Value.ref b] s) ⟨hx, hb, hml, hown, hts, hW, Nat.le_of_ble_eq_true rfl, Nat.le_of_ble_eq_true rfl, Nat.le_of_ble_eq_true rfl, Nat.le_of_ble_eq_true rfl⟩ (fun v h' hQ pc' hret H' locs' LS' hR' hS' => ?_) H locs ls hRep hS ?_
  · have hQ : v = some (vI 1) := hQ
    subst hQ
    refine va_forget (fun q hq => hAl _ (hS'.2.2 q hq)) ?_
    refine W.widen (k := 600000) (n := 7302250) (Nat.le_of_ble_eq_true rfl) (Nat.le_of_ble_eq_true rfl) ?_
    exact lw_ret hx hb hr hlocks hret.1
  · have e : asc (D, I, ad, A) [some (vR [2]), some (vR [0]), some (vR [1]), none] = [(0, .ref (ad [2])), (1, .ref (ad [0])), (2, .ref (ad [1]))] := rfl
    rw [e, ad0, ad1, ad2]
    exact lv_sub hl [2, 1, 0] rfl
