/-! the constructors' steps -/
def CX (y : MethodName) (cc : ByteArray) (mL : Nat) (D : va_G) (I : I3) (A : Nat → Prop) (p : Program) (s : State) (m : MethodId) (args : Array Value) (meth : Method) (c : Code) : Prop :=
  p.tables.exec = Jvm.exec ∧ c.code = cc ∧ c.maxLocals = mL ∧ s.vm.findClass y.cls = some m.cls ∧ (∀ w ∈ wsG, w.before args s = true) ∧ va_K D clsU (T3 I) s ∧ NestU s ∧ meth.name = "<init>" ∧ ∀ q : Nat, s.heap.size ≤ q → A q
/-- the same where no constructor is walked -/
def CL (y : MethodName) (cc : ByteArray) (mL : Nat) (D : va_G) (I : I3) (A : Nat → Prop) (p : Program) (s : State) (m : MethodId) (args : Array Value) (c : Code) : Prop :=
  p.tables.exec = Jvm.exec ∧ c.code = cc ∧ c.maxLocals = mL ∧ s.vm.findClass y.cls = some m.cls ∧ (∀ w ∈ wsG, w.before args s = true) ∧ va_K D clsU (T3 I) s ∧ NestU s ∧ ∀ q : Nat, s.heap.size ≤ q → A q
def CtC (y : MethodName) (cc : ByteArray) (mL ci fr lo mc ms : Nat) : Prop := ∀ (l : Launch) (D : va_G) (I : I3) (a0 sz : Nat), Met l y (Cond.code y cc mL none :: wsG) { frames := fr, cells := mc, slots := ms, locals := lo } (va_Pc [.ref a0] (fun U => U.heap.size = sz ∧ va_P D clsU [(a0, .inr (ci, dfl ci))] U.heap ∧ va_K D clsU (T3 I) U ∧ NestU U ∧ va_D (fun _ => True) [(a0, .inr (ci, dfl ci))])) (va_Qv (fun a : List Nat → Nat => a [] = a0) (fun a t => va_P D clsU ((trU ci).map (celI I a)) t.heap ∧ va_D (va_A [(a0, .inr (ci, dfl ci))] sz) ((trU ci).map (celI I a))) (va_A [(a0, .inr (ci, dfl ci))] sz)) mc ms (va_A [(a0, .inr (ci, dfl ci))] sz)
theorem CtC.intro {y : MethodName} {cc : ByteArray} {mL ci fr lo mc ms : Nat} (hy : plainFor y = true) (hn : y.name = "<init>") (hm : 1 ≤ mL)
    (k : ∀ (p : Program) (l : Launch) (e : Env) (R : Room) (s : State) (m : MethodId) (args : Array Value) (below : List Frame) (meth : Method) (c : Code) (D : va_G) (I : I3) (A : Nat → Prop) (a0 : Nat) (ls : Array Slot) (QQ : State → Prop), CX y cc mL D I A p s m args meth c → fr ≤ R.frames → lo ≤ R.locals → mc ≤ R.cells → ms ≤ R.slots →
      (∀ (H : Heap) (locs : List Loc) (LS : Array Slot) (a : List Nat → Nat) (pc : Nat), decode cc pc = .ok (.return_, 1) → a [] = a0 → va_P D clsU ((trU ci).map (celI I a)) H → va_D A ((trU ci).map (celI I a)) → va_S A s.heap H locs → W p l e R s m args below meth c H locs mc ms QQ (F0 m pc LS [])) →
      va_P D clsU [(a0, .inr (ci, dfl ci))] s.heap → va_D A [(a0, .inr (ci, dfl ci))] → lv_has ls mL [(0, .ref a0)] → W p l e R s m args below meth c s.heap [] 0 0 QQ (F0 m 0 ls [])) : CtC y cc mL ci fr lo mc ms := by
  intro l D I a0 sz
  refine Met.ofWF (cc := cc) (maxL := mL) (ret := none) hy rfl ?_
  intro p e s m args below meth c s₁ B hml hv
  obtain ⟨rfl, hsz, hP, hK, hN, hD0⟩ := hv
  have hx := B.exec
  have hb := B.bytes
  have hr := B.returns
  have hts := atoms_spec (ws := Cond.code y cc mL none :: wsG) B.pre
  have hown : s.vm.findClass y.cls = some m.cls := findClass_of_methodNamed B.named
  have hlocks := B.notSynchronized
  have hin : meth.name = "<init>" := (name_of_methodNamed B.named B.method).1.trans hn
  subst hsz
  have hD := hD0.self (sz := s.heap.size)
  have hl := lv_entry ([.ref a0]) (n := mL) hm
  rw [lg_entry_eq]
  refine k p l e _ s m _ below meth c D I (va_A [(a0, .inr (ci, dfl ci))] s.heap.size) a0 _ _ ⟨hx, hb, hml, hown, fun w hw => hts w (List.mem_cons_of_mem _ hw), hK, hN, hin, fun q h => Or.inr h⟩ (Nat.le_refl _) (Nat.le_refl _) (Nat.le_refl _) (Nat.le_refl _) ?_ hP hD hl
  intro H locs LS a pc hd ha hP1 hD1 hS1
  exact W.vret hx hb hr (fun t ht hW => ⟨⟨a, rfl, ha, by rw [ht]; exact hP1, hD1⟩, hS1.F ht⟩) hS1.2.2 hd
section CTK
variable {y : MethodName} {cc : ByteArray} {mL : Nat} {D : va_G} {I : I3} {A : Nat → Prop} {p : Program} {l : Launch} {e : Env} {R : Room} {s : State} {m : MethodId} {args : Array Value} {below : List Frame} {meth : Method} {c : Code} {H : Heap} {locs : List Loc} {cells slots : Nat} {Q : State → Prop} {pc : Nat} {ls : Array Slot} {st : List Value} {ws : va_W}
theorem objI_ok : Cond.instanceMethod Lib.objectInit ∈ wsG ∧ Cond.code Lib.objectInit ⟨#[0xb1]⟩ 1 none ∈ wsG := ⟨wsG_of (i := 54) (by decide +kernel) rfl, wsG_of (i := 55) (by decide +kernel) rfl⟩
theorem arrZ_ok : Cond.arrayClass .boolean ∈ wsG := wsG_of (i := 112) (by decide +kernel) rfl
theorem arrI_ok : Cond.arrayClass .int ∈ wsG := wsG_of (i := 113) (by decide +kernel) rfl
theorem k_objI (X : CX y cc mL D I A p s m args meth c) {idx a : Nat} (hl : ls.size = mL) (h1 : 1 ≤ R.frames) (h2 : 12 ≤ R.locals) (hlink : Cond.methodLink y.cls idx Lib.objectInit ∈ wsG) (d : decode cc pc = .ok (.invokespecial idx, 3)) (kk : W p l e R s m args below meth c H locs cells slots Q (F0 m (pc + 3) ls [])) : W p l e R s m args below meth c H locs cells slots Q (F0 m pc ls [.ref a]) := by
  obtain ⟨hx, hb, hml, hown, hts, hK, hN, hin, hA⟩ := X
  exact W.objInit hx hb hown (hts _ hlink) (hts _ objI_ok.1) (hts _ objI_ok.2) rfl (by rw [hml]; exact hl) rfl d h1 h2 kk
theorem k_newI (X : CX y cc mL D I A p s m args meth c) (hP : va_P D clsU ws H) (hD : va_D A ws) (hS : va_S A s.heap H locs) {n : Int32} {N : Nat} (hn : ¬ n < 0) (hN : n.toNatClampNeg = N) (hby : N * 4 ≤ 536870912) (hc : cells + 1 ≤ R.cells) (hs : slots + N ≤ R.slots) (d : decode cc pc = .ok (.newarray .int, 2))
    (kk : ∀ (q : Nat) (H1 : Heap), va_P D clsU (ws ++ [(q, .inl (I.1, N, .inl (fun _ => 0)))]) H1 → va_D A (ws ++ [(q, .inl (I.1, N, .inl (fun _ => 0)))]) → va_S A s.heap H1 locs → W p l e R s m args below meth c H1 locs (cells + 1) (slots + N) Q (F0 m (pc + 2) ls (.ref q :: st))) : W p l e R s m args below meth c H locs cells slots Q (F0 m pc ls (.int n :: st)) := by
  obtain ⟨hx, hb, hml, hown, hts, hK, hNe, hin, hA⟩ := X
  refine va_newa (atype := .int) (ty := .int) (tys := T3 I) (a0 := (N, .inl (fun _ => 0))) hx hb (hts _ arrI_ok) rfl hK hP hD hS hA (fun cA => rfl) hn hN hby hc hs d (fun q cA H1 hK1 hP1 hD1 hS1 => ?_)
  have e1 : s.vm.findClass ("[" ++ FieldType.int.toString) = some cA := (hK1.2 3 (cA, .int) rfl).2
  have e2 : s.vm.findClass ("[" ++ FieldType.int.toString) = some I.1 := (hK.2 0 (I.1, .int) rfl).2
  have e3 : cA = I.1 := Option.some.inj (e1.symm.trans e2)
  subst e3
  exact kk q H1 hP1 hD1 hS1
theorem k_newZ (X : CX y cc mL D I A p s m args meth c) (hP : va_P D clsU ws H) (hD : va_D A ws) (hS : va_S A s.heap H locs) {n : Int32} {N : Nat} (hn : ¬ n < 0) (hN : n.toNatClampNeg = N) (hby : N * 1 ≤ 536870912) (hc : cells + 1 ≤ R.cells) (hs : slots + N ≤ R.slots) (d : decode cc pc = .ok (.newarray .boolean, 2))
    (kk : ∀ (q : Nat) (H1 : Heap), va_P D clsU (ws ++ [(q, .inl (I.2.1, N, .inl (fun _ => 0)))]) H1 → va_D A (ws ++ [(q, .inl (I.2.1, N, .inl (fun _ => 0)))]) → va_S A s.heap H1 locs → W p l e R s m args below meth c H1 locs (cells + 1) (slots + N) Q (F0 m (pc + 2) ls (.ref q :: st))) : W p l e R s m args below meth c H locs cells slots Q (F0 m pc ls (.int n :: st)) := by
  obtain ⟨hx, hb, hml, hown, hts, hK, hNe, hin, hA⟩ := X
  refine va_newa (atype := .boolean) (ty := .boolean) (tys := T3 I) (a0 := (N, .inl (fun _ => 0))) hx hb (hts _ arrZ_ok) rfl hK hP hD hS hA (fun cA => rfl) hn hN hby hc hs d (fun q cA H1 hK1 hP1 hD1 hS1 => ?_)
  have e1 : s.vm.findClass ("[" ++ FieldType.boolean.toString) = some cA := (hK1.2 3 (cA, .boolean) rfl).2
  have e2 : s.vm.findClass ("[" ++ FieldType.boolean.toString) = some I.2.1 := (hK.2 1 (I.2.1, .boolean) rfl).2
  have e3 : cA = I.2.1 := Option.some.inj (e1.symm.trans e2)
  subst e3
  exact kk q H1 hP1 hD1 hS1
/-- an array of walks -/
theorem k_newW (X : CX y cc mL D I A p s m args meth c) (hP : va_P D clsU ws H) (hD : va_D A ws) (hS : va_S A s.heap H locs) {idx : Nat} {n : Int32} {N : Nat} (hn : ¬ n < 0) (hN : n.toNatClampNeg = N) (hby : N * 4 ≤ 536870912) (hlk : Cond.classLink y.cls idx "UmbrellaStreet$Walk" ∈ wsG) (hc : cells + 1 ≤ R.cells) (hs : slots + N ≤ R.slots) (d : decode cc pc = .ok (.anewarray idx, 3))
    (kk : ∀ (q : Nat) (H1 : Heap), va_P D clsU (ws ++ [(q, .inl (I.2.2, N, .inr (.inr (.inr (.inr (fun _ => none))))))]) H1 → va_D A (ws ++ [(q, .inl (I.2.2, N, .inr (.inr (.inr (.inr (fun _ => none))))))]) → va_S A s.heap H1 locs → W p l e R s m args below meth c H1 locs (cells + 1) (slots + N) Q (F0 m (pc + 3) ls (.ref q :: st))) : W p l e R s m args below meth c H locs cells slots Q (F0 m pc ls (.int n :: st)) := by
  obtain ⟨hx, hb, hml, hown, hts, hK, hNe, hin, hA⟩ := X
  refine va_newq (tys := T3 I) hx hb hown (hts _ hlk) hNe.2 hK hP hD hS hA hn hN hby hc hs d (fun q cA H1 hK1 hP1 hD1 hS1 => ?_)
  have e3 : cA = I.2.2 := by
    obtain ⟨kA, comp, h1, h2, h3, h4⟩ := (hK1.2 3 (cA, .object "UmbrellaStreet$Walk") rfl).2
    obtain ⟨kA', comp', g1, g2, g3, g4⟩ := (hK.2 2 (I.2.2, .object "UmbrellaStreet$Walk") rfl).2
    exact Option.some.inj (h4.symm.trans g4)
  subst e3
  exact kk q H1 hP1 hD1 hS1
/-- a field that is no final one -/
theorem k_put (X : CX y cc mL D I A p s m args meth c) {ci kk idx a : Nat} {fs : List Value} {v : Value} (lk : FLk y.cls idx ci kk) (pl : PLk ci kk) (hP : va_P D clsU ((a, .inr (ci, fs)) :: ws) H) (hD : va_D A ((a, .inr (ci, fs)) :: ws)) (hS : va_S A s.heap H locs) (hn : narrow (cty ci kk) v = v) (hf : fits (cty ci kk) v = true) (hl : kk < fs.length) (d : decode cc pc = .ok (.putfield idx, 3))
    (k : ∀ (H1 : Heap) (locs1 : List Loc), va_P D clsU ((a, .inr (ci, fs.set kk v)) :: ws) H1 → va_D A ((a, .inr (ci, fs.set kk v)) :: ws) → va_S A s.heap H1 locs1 → W p l e R s m args below meth c H1 locs1 cells slots Q (F0 m (pc + 3) ls st)) : W p l e R s m args below meth c H locs cells slots Q (F0 m pc ls (v :: .ref a :: st)) := by
  obtain ⟨hx, hb, hml, hown, hts, hK, hNe, hin, hA⟩ := X
  obtain ⟨C, T, N, hc, hk, hw⟩ := lk
  obtain ⟨c1, c2, c3, -⟩ := clsU_ok ci C T N hc
  exact va_put (D := D) (cl := clsU) (tys := T3 I) (C := C) (T := T) (N := N) (ty := cty ci kk) (v := v) hx hb hts c1 (cty ci) c2 c3 hown hK hP hD hS 0 rfl hc kk hk (hts _ hw) (fun _ z => z) (pl C T N hc) (c2 kk hk) hn hf hl d (fun H1 locs1 hP1 hD1 hS1 => k H1 locs1 hP1 hD1 hS1)
/-- a final one, in its own class's constructor -/
theorem k_putF (X : CX y cc mL D I A p s m args meth c) {ci kk idx a : Nat} {fs : List Value} {v : Value} (lk : FLk y.cls idx ci kk) (pf : ∀ (C : String) (T : u_T) (N : Nat), clsU[ci]? = some (C, T, N) → (T kk).2.2.2 = true ∧ (T kk).1 = y.cls) (hP : va_P D clsU ((a, .inr (ci, fs)) :: ws) H) (hD : va_D A ((a, .inr (ci, fs)) :: ws)) (hS : va_S A s.heap H locs) (hn : narrow (cty ci kk) v = v) (hf : fits (cty ci kk) v = true) (hl : kk < fs.length) (d : decode cc pc = .ok (.putfield idx, 3))
    (k : ∀ (H1 : Heap) (locs1 : List Loc), va_P D clsU ((a, .inr (ci, fs.set kk v)) :: ws) H1 → va_D A ((a, .inr (ci, fs.set kk v)) :: ws) → va_S A s.heap H1 locs1 → W p l e R s m args below meth c H1 locs1 cells slots Q (F0 m (pc + 3) ls st)) : W p l e R s m args below meth c H locs cells slots Q (F0 m pc ls (v :: .ref a :: st)) := by
  obtain ⟨hx, hb, hml, hown, hts, hK, hNe, hin, hA⟩ := X
  obtain ⟨C, T, N, hc, hk, hw⟩ := lk
  obtain ⟨c1, c2, c3, -⟩ := clsU_ok ci C T N hc
  obtain ⟨f1, f2⟩ := pf C T N hc
  exact va_putF (D := D) (cl := clsU) (tys := T3 I) (C := C) (T := T) (N := N) (ty := cty ci kk) (v := v) hx hb hts c1 (cty ci) c2 c3 hown hK hP hD hS 0 rfl hc kk hk (hts _ hw) (fun _ z => z) f1 hin f2 (c2 kk hk) hn hf hl d (fun H1 locs1 hP1 hD1 hS1 => k H1 locs1 hP1 hD1 hS1)
theorem dfl_ok : ∀ (ci : Nat) (C : String) (T : u_T) (N : Nat), clsU[ci]? = some (C, T, N) → ∀ j, j < N → defaultValue (cty ci j) = vp_V (dfl ci) j
  | 0, _, _, _, h => by cases h; decide +kernel
  | 1, _, _, _, h => by cases h; decide +kernel
  | 2, _, _, _, h => by cases h; decide +kernel
  | 3, _, _, _, h => by cases h; decide +kernel
  | 4, _, _, _, h => by cases h; decide +kernel
  | 5, _, _, _, h => by cases h; decide +kernel
  | 6, _, _, _, h => by cases h; decide +kernel
  | 7, _, _, _, h => by cases h; decide +kernel
  | i + 8, _, _, _, h => by cases h
/-- what the tables say of a constructor that is called -/
def CtW (own : String) (idx1 idx2 : Nat) (y' : MethodName) (cc' : ByteArray) (mL' ci' : Nat) (N' : Nat) : Prop := (∃ T', clsU[ci']? = some (y'.cls, T', N')) ∧ Cond.classLink own idx1 y'.cls ∈ wsG ∧ Cond.instantiable y'.cls N' ∈ wsG ∧ Cond.initialized y'.cls ∈ wsG ∧ (Cond.methodLink own idx2 y' ∈ wsG ∨ ∃ h, Cond.methodLinkNest own idx2 y' h ∈ nestW) ∧ Cond.instanceMethod y' ∈ wsG ∧ Cond.code y' cc' mL' none ∈ wsG ∧ (y'.cls ≠ "java/lang/invoke/MethodHandle" ∧ y'.cls ≠ "java/lang/invoke/VarHandle" ∧ (parseMethodDescriptor y'.desc).map (fun d => d.parameters.length) = some 0) ∧ y'.name = "<init>"
theorem good_ct {y' : MethodName} {cc' : ByteArray} {mL' : Nat} (h : Cond.code y' cc' mL' none ∈ wsG) : GoodIn wsG (Cond.code y' cc' mL' none :: wsG) := by
  intro w hw
  have hm : w ∈ wsG := by
    rcases List.mem_cons.mp hw with rfl | hw
    · exact h
    · exact hw
  exact ⟨hm, good_of_word (List.mem_filter.mp hm).2⟩
/-- new C; dup; its constructor -/
theorem k_child0 (X : CL y cc mL D I A p s m args c) {y' : MethodName} {cc' : ByteArray} {mL' ci' fr' lo' mc' ms' idx1 idx2 N' : Nat} (ct : CtC y' cc' mL' ci' fr' lo' mc' ms') (w : CtW y.cls idx1 idx2 y' cc' mL' ci' N') (r1 : fr' + 1 ≤ R.frames) (r2 : 8 + (mL' + 11) + lo' ≤ R.locals) (r3 : cells + 1 + mc' ≤ R.cells) (r4 : slots + N' + ms' ≤ R.slots)
    (hP : va_P D clsU ws H) (hD : va_D A ws) (hS : va_S A s.heap H locs) (hst : (st.map fun v => v.category).sum ≤ 7) (hls : ls.size = mL)
    (d1 : decode cc pc = .ok (.new idx1, 3)) (d2 : decode cc (pc + 3) = .ok (.dup, 1)) (d3 : decode cc (pc + 4) = .ok (.invokespecial idx2, 3))
    (kk : ∀ (a1 : List Nat → Nat) (H1 : Heap) (locs1 : List Loc), va_P D clsU (ws ++ (trU ci').map (celI I a1)) H1 → va_D A (ws ++ (trU ci').map (celI I a1)) → va_S A s.heap H1 locs1 → W p l e R s m args below meth c H1 locs1 (cells + 1 + mc') (slots + N' + ms') Q (F0 m (pc + 7) ls (.ref (a1 []) :: st))) : W p l e R s m args below meth c H locs cells slots Q (F0 m pc ls st) := by
  obtain ⟨hx, hb, hml, hown, hts, hK, hNe, hA⟩ := X
  obtain ⟨⟨T', hc⟩, w1, w2, w3, w4, w5, w6, w7, w8⟩ := w
  obtain ⟨c1, c2, c3, -⟩ := clsU_ok ci' _ T' N' hc
  refine va_new (ci := ci') (fs := dfl ci') (C := y'.cls) (T := T') (N := N') (tys := T3 I) hx hb hts c1 (cty ci') c2 hown (hts _ w1) (hts _ w2) (hts _ w3) hK hP hD hS hA hc (dfl_ok ci' _ T' N' hc) (by omega) (by omega) d1 (fun q H1 hP1 hD1 hS1 => ?_)
  refine lv_dup hx hb d2 rfl ?_
  have hF := k_free (wc := [(q, .inr (ci', dfl ci'))]) hD1 hS1 hA
  have hst' : ((Value.ref q :: st).map fun v => v.category).sum ≤ 8 := by
    rw [List.map_cons, List.sum_cons]
    show 1 + _ ≤ 8
    omega
  have hpre : PreS s H1 (va_Pc [.ref q] (fun U => U.heap.size = H1.size ∧ va_P D clsU [(q, .inr (ci', dfl ci'))] U.heap ∧ va_K D clsU (T3 I) U ∧ NestU U ∧ va_D (fun _ => True) [(q, .inr (ci', dfl ci'))])) (.ref q :: []) := by
    refine ⟨fun a U g mk z => ?_, fun U hU hW => ⟨rfl, by rw [hU], by rw [hU]; exact hP1.rg, va_K.moved hW.alike hK, NestU.warm hW hNe, hD1.rg.weaken (fun _ _ _ _ => trivial)⟩⟩
    obtain ⟨z0, z1, z2, z3, z4, z5⟩ := z
    exact ⟨z0, z1, z2, va_K.moved (u := U) (U := U.calling g mk a) (Vm.Alike.refl U.vm) z3, NestU.warm (U := U.calling g mk a) (State.WarmedH.refl U) z4, z5⟩
  have hrun : va_Run p l e R s m args below meth c H1 locs (cells + 1) (slots + N') mc' ms' (F0 m (pc + 3 + 1) ls (.ref q :: .ref q :: st)) (.ref q :: st) (va_Qv (fun a : List Nat → Nat => a [] = q) (fun a t => va_P D clsU ((trU ci').map (celI I a)) t.heap ∧ va_D (va_A [(q, .inr (ci', dfl ci'))] H1.size) ((trU ci').map (celI I a))) (va_A [(q, .inr (ci', dfl ci'))] H1.size) (Value.ref q :: []).toArray) (va_A [(q, .inr (ci', dfl ci'))] H1.size) := by
    rcases w4 with w4 | ⟨hh, w4⟩
    · exact va_runI (As := []) (rest := .ref q :: st) ⟨hx, hb, hml, hown, hts⟩ (ct l D I q H1.size) ⟨callB_of 0 hts (good_ct w6) rfl rfl rfl (hts _ w3) (hts _ w4) w7 ⟨r1, r2⟩, w8, hts _ w5⟩ hpre rfl rfl hls rfl (lv_room hst') d3 ⟨r3, r4⟩
    · exact va_runIN (As := []) (rest := .ref q :: st) ⟨hx, hb, hml, hown, hts⟩ (ct l D I q H1.size) ⟨va_cnB 0 hts (good_ct w6) rfl rfl rfl (hNe.1 _ _ _ _ w4) (hts _ w3) w7 ⟨r1, r2⟩, w8, hts _ w5⟩ hpre rfl rfl hls rfl (lv_room hst') d3 ⟨r3, r4⟩
  refine va_callv hrun hS1 (fun x _ h => hF x h) hF (fun u t H2 locs2 ht hvm hw hB hz hk hS2 => ?_)
  obtain ⟨hP2, hD2⟩ := hB
  rw [ht] at hP2
  obtain ⟨hP3, hD3⟩ := k_join hP1 hD1 hk hF hP2 hD2
  rw [← hw]
  exact kk u H2 locs2 hP3 hD3 hS2
theorem k_child (X : CX y cc mL D I A p s m args meth c) {y' : MethodName} {cc' : ByteArray} {mL' ci' fr' lo' mc' ms' idx1 idx2 N' : Nat} (ct : CtC y' cc' mL' ci' fr' lo' mc' ms') (w : CtW y.cls idx1 idx2 y' cc' mL' ci' N') (r1 : fr' + 1 ≤ R.frames) (r2 : 8 + (mL' + 11) + lo' ≤ R.locals) (r3 : cells + 1 + mc' ≤ R.cells) (r4 : slots + N' + ms' ≤ R.slots)
    (hP : va_P D clsU ws H) (hD : va_D A ws) (hS : va_S A s.heap H locs) (hst : (st.map fun v => v.category).sum ≤ 7) (hls : ls.size = mL)
    (d1 : decode cc pc = .ok (.new idx1, 3)) (d2 : decode cc (pc + 3) = .ok (.dup, 1)) (d3 : decode cc (pc + 4) = .ok (.invokespecial idx2, 3))
    (kk : ∀ (a1 : List Nat → Nat) (H1 : Heap) (locs1 : List Loc), va_P D clsU (ws ++ (trU ci').map (celI I a1)) H1 → va_D A (ws ++ (trU ci').map (celI I a1)) → va_S A s.heap H1 locs1 → W p l e R s m args below meth c H1 locs1 (cells + 1 + mc') (slots + N' + ms') Q (F0 m (pc + 7) ls (.ref (a1 []) :: st))) : W p l e R s m args below meth c H locs cells slots Q (F0 m pc ls st) :=
  k_child0 ⟨X.1, X.2.1, X.2.2.1, X.2.2.2.1, X.2.2.2.2.1, X.2.2.2.2.2.1, X.2.2.2.2.2.2.1, X.2.2.2.2.2.2.2.2⟩ ct w r1 r2 r3 r4 hP hD hS hst hls d1 d2 d3 kk
end CTK
