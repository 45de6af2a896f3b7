/-! Arrays.fill over one array -/
section FIL
variable {D : va_G} {I : I3}
theorem va_P.arr {a n : Nat} {f g : Nat → Int32} {ws : va_W} {H : Heap} (h : va_P D clsU ((a, .inl (I.1, n, .inl f)) :: ws) H) (e : ∀ j, j < n → f j = g j) : va_P D clsU ((a, .inl (I.1, n, .inl g)) :: ws) H := by
  intro k q hk
  cases k with
  | zero =>
    have h0 := h 0 _ rfl
    have hq : q = (a, .inl (I.1, n, .inl g)) := (Option.some.inj hk).symm
    subst hq
    have h1 : H[a]? = some (vp_cell I.1 (n, .inl f)) := h0
    show H[a]? = some (vp_cell I.1 (n, .inl g))
    rw [h1, vp_cell_i, vp_cell_i]
    exact congrArg some (arrV_same (fun j hj => by rw [e j hj]))
  | succ k => exact h (k + 1) q hk
set_option maxHeartbeats 4000000 in
theorem fillC (l : Launch) (a0 sz n : Nat) (hn : n < 2 ^ 31) (f : Nat → Int32) (v : Int32) : Met l m_Ar_fill.1 (wsM m_Ar_fill) (rmM m_Ar_fill) (va_Pc [.ref a0, .int v] (fun U => U.heap.size = sz ∧ va_P D clsU [(a0, .inl (I.1, n, .inl f))] U.heap ∧ va_K D clsU (T3 I) U ∧ va_D (fun _ => True) [(a0, .inl (I.1, n, .inl f))])) (va_Qv (fun _ : Unit => True) (fun _ t => va_P D clsU [(a0, .inl (I.1, n, .inl (fun _ => v)))] t.heap ∧ va_D (va_A [(a0, .inl (I.1, n, .inl f))] sz) [(a0, .inl (I.1, n, .inl (fun _ => v)))]) (va_A [(a0, .inl (I.1, n, .inl f))] sz)) 0 0 (va_A [(a0, .inl (I.1, n, .inl f))] sz) := by
  refine Met.ofWF (cc := m_Ar_fill.2.1) (maxL := 4) (ret := none) (plainFor_of_name (by decide +kernel)) rfl ?_
  intro p e s m args below meth c s₁ B hml hv
  obtain ⟨rfl, hsz, hP, hK, hD0⟩ := hv
  have hx := B.exec
  have hb := B.bytes
  have hr := B.returns
  have hlocks := B.notSynchronized
  subst hsz
  have hD := hD0.self (sz := s.heap.size)
  generalize hAe : va_A [(a0, .inl (I.1, n, .inl f))] s.heap.size = A at hD ⊢
  have hA : ∀ q : Nat, s.heap.size ≤ q → A q := fun q h => by rw [← hAe]; exact Or.inr h
  have hS : va_S A s.heap s.heap [] := va_S.rf
  have hl := lv_entry ([.ref a0, .int v]) (n := 4) (Nat.le_of_ble_eq_true rfl)
  rw [lg_entry_eq]
  generalize (lg_sl ([.ref a0, .int v]) ++ List.replicate (4 - (lg_sl ([.ref a0, .int v])).length) Slot.unset).toArray = ls at hl ⊢
  have hl : lv_has ls 4 [(0, .ref a0), (1, .int v)] := hl
  refine lv_iconst (v := 0) hx hb d_Ar_fill_0 (by decide) ?_
  refine lv_istore_n (lv' := [(2, .int 0), (0, .ref a0), (1, .int v)]) hx hb d_Ar_fill_1 rfl hl (by decide) rfl (fun ls hl => ?_)
  refine lv_aload_n hx hb d_Ar_fill_2 rfl (lv_at hl 1 rfl) ?_
  refine va_alen (D := D) (cl := clsU) (tys := T3 I) hx hb hK hP 0 0 rfl rfl (v := nI n) rfl d_Ar_fill_3 ?_
  refine lv_istore_n (lv' := [(3, .int (nI n)), (2, .int 0), (0, .ref a0), (1, .int v)]) hx hb d_Ar_fill_4 rfl hl (by decide) rfl (fun ls hl => ?_)
  have lp : ∀ (k i : Nat) (g : Nat → Int32) (H : Heap) (locs : List Loc) (ls : Array Slot), i + k = n → (∀ j, j < i → g j = v) → va_P D clsU [(a0, .inl (I.1, n, .inl g))] H → va_D A [(a0, .inl (I.1, n, .inl g))] → va_S A s.heap H locs → lv_has ls 4 [(3, .int (nI n)), (2, .int (nI i)), (0, .ref a0), (1, .int v)] → W p l e (headSpec (wsM m_Ar_fill) (rmM m_Ar_fill)).room s m [Value.ref a0, Value.int v].toArray below meth c H locs 0 0 (MQ below (va_Qv (fun _ : Unit => True) (fun _ t => va_P D clsU [(a0, .inl (I.1, n, .inl (fun _ => v)))] t.heap ∧ va_D A [(a0, .inl (I.1, n, .inl (fun _ => v)))]) A) [Value.ref a0, Value.int v].toArray s 0 0 A) (F0 m 5 ls []) := by
    intro k
    induction k with
    | zero =>
      intro i g H locs ls hi hg hP hD hS hl
      have : i = n := by omega
      subst this
      refine lv_iload_n hx hb d_Ar_fill_5 rfl (lv_at hl 1 rfl) ?_
      refine lv_iload_n hx hb d_Ar_fill_6 rfl (lv_at hl 0 rfl) ?_
      refine lv_icmp_ge (tgt := 20) hx hb d_Ar_fill_7 (by decide) (fun _ => ?_) (fun c => absurd ((nI_leI hn hn).mpr (Nat.le_refl _)) c)
      exact W.vret hx hb hr (fun t ht hW => ⟨⟨(), rfl, trivial, by rw [ht]; exact hP.arr hg, ⟨fun a b x y h1 h2 h3 => by
        match a, b, h1, h2 with
        | 0, 0, _, _ => rfl
        | 0, _ + 1, _, h2 => simp at h2
        | _ + 1, _, h1, _ => simp at h1, fun k q hq => by
        match k, hq with
        | 0, hq => cases hq; exact hD.2 0 (a0, .inl (I.1, i, .inl g)) rfl
        | _ + 1, hq => simp at hq⟩⟩, hS.F ht⟩) hS.2.2 d_Ar_fill_20
    | succ k ih =>
      intro i g H locs ls hi hg hP hD hS hl
      refine lv_iload_n hx hb d_Ar_fill_5 rfl (lv_at hl 1 rfl) ?_
      refine lv_iload_n hx hb d_Ar_fill_6 rfl (lv_at hl 0 rfl) ?_
      refine lv_icmp_ge (tgt := 20) hx hb d_Ar_fill_7 (by decide) (fun c => absurd ((nI_leI hn (by omega)).mp c) (by omega)) (fun _ => ?_)
      refine lv_aload_n hx hb d_Ar_fill_10 rfl (lv_at hl 2 rfl) ?_
      refine lv_iload_n hx hb d_Ar_fill_11 rfl (lv_at hl 1 rfl) ?_
      refine lv_iload_n hx hb d_Ar_fill_12 rfl (lv_at hl 3 rfl) ?_
      refine va_iast (D := D) (cl := clsU) (tys := T3 I) hx hb hK hP hD hS 0 0 rfl rfl (vp_in_nI (by omega) hn) d_Ar_fill_13 (fun H1 locs1 hP1 hD1 hS1 => ?_)
      refine lv_iinc (v := nI (i + 1)) (lv' := [(2, .int (nI (i + 1))), (3, .int (nI n)), (0, .ref a0), (1, .int v)]) hx hb d_Ar_fill_14 hl (k := 1) rfl (nI_1 i) (by decide) rfl (fun ls hl => ?_)
      refine lv_goto (tgt := 5) hx hb d_Ar_fill_17 (by decide) ?_
      rw [ci (by omega)] at hP1 hD1
      refine ih (i + 1) (upd g i v) H1 locs1 ls (by omega) (fun j hj => ?_) hP1 hD1 hS1 (lv_sub hl [1, 0, 2, 3] rfl)
      unfold upd
      split
      · rfl
      · exact hg j (by omega)
  exact lp n 0 f s.heap [] ls (by omega) (fun j hj => by omega) hP hD hS hl
end FIL
