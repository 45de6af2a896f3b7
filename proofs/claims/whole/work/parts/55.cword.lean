/-! the class's isWord -/
section CWO
variable {X : XS} {h : Hp} {n : Nat} {T : Nat → Int32}
abbrev wordP (T : Nat → Int32) (f e : Nat) (k : Int32) (i : Nat) : Prop := k = 1 ∧ e - f = sLen.getD i 0 ∧ ∀ j, j < sLen.getD i 0 → T (f + j) = sCh i j
theorem sLen_le : ∀ i, i < 5 → sLen.getD i 0 ≤ 6 := by decide
theorem c_isWord (hT : TxtC n T h) {i f e : Nat} {k : Int32} (hi : i < 5) (hfe : f ≤ e) (hen : e ≤ n) (h4 : h.1 [2, 0] 4 = nI f) (h5 : h.1 [2, 0] 5 = nI e) (h6 : h.1 [2, 0] 6 = k) : EvI X m_Tx_isWord [vR [2, 0], vR [i, 3]] h (fun r h' => r = bI (wordP T f e k i) ∧ h' = h) := by
  have n2 := hT.1
  have sl := sLen_le i hi
  apply e_Tx_isWord
  apply g_Tx_isWord_0 _ _ _ hi
  rw [h4, h5, h6, pk_sub hfe]
  refine ⟨fun c => ⟨_, rfl, eqF (fun z => c z.1), rfl⟩, fun c => callP (s_length hi h) ⟨fun c2 => ?_, fun c2 => ⟨_, rfl, eqF (fun z => c2 ?_), rfl⟩⟩⟩
  · have el : e - f = sLen.getD i 0 := (nI_eq (by omega) (by omega)).mp c2
    have lp : ∀ (m t : Nat), t + m = sLen.getD i 0 → (∀ j, j < t → T (f + j) = sCh i j) → Rn X m_Tx_isWord 28 [some (vR [2, 0]), some (vR [i, 3]), some (vI (nI t))] [] h (fun v h' => ∃ r, v = some (vI r) ∧ r = bI (wordP T f e k i) ∧ h' = h) := by
      intro m
      induction m with
      | zero =>
        intro t ht hj
        have : t = sLen.getD i 0 := by omega
        refine g_Tx_isWord_28 _ _ _ _ hi (callP (s_length hi h) (cT ?_ ⟨_, rfl, eqT ⟨c, el, fun j hj' => hj j (by omega)⟩, rfl⟩))
        rw [← this]; exact (nI_leI (by omega) (by omega)).mpr (Nat.le_refl _)
      | succ m ih =>
        intro t ht hj
        refine g_Tx_isWord_28 _ _ _ _ hi (callP (s_length hi h) (cF (fun z => absurd ((nI_leI (by omega) (by omega)).mp z) (by omega)) ?_))
        rw [h4, nI_add, nI_add1]
        refine callP (c_byteAt hT (by omega)) (callP (s_charAt hi (by omega) h) ⟨fun y => ih (t + 1) (by omega) (fun j hj' => ?_), fun y => ⟨_, rfl, eqF (fun z => y (z.2.2 t (by omega))), rfl⟩⟩)
        by_cases q : j = t
        · subst q; exact y
        · exact hj j (by omega)
    exact lp (sLen.getD i 0) 0 (by omega) (fun j hj => by omega)
  · rw [z.2.1]; rfl
end CWO
