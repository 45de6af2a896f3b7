/-! the next token: its spec, and the class -/
def kindS (b : Int32) : Int32 := if 97 ≤ b ∧ b ≤ 122 then 1 else if 48 ≤ b ∧ b ≤ 57 then 2 else 3
def skipG (n : Nat) (T : Nat → Int32) : Nat → Nat → Nat
  | 0, i => i
  | f + 1, i => if i < n ∧ T i = 32 then skipG n T f (i + 1) else i
def extG (n : Nat) (T : Nat → Int32) (k : Int32) : Nat → Nat → Nat
  | 0, i => i
  | f + 1, i => if i < n ∧ kindS (T i) = k then extG n T k f (i + 1) else i
def tkF (n : Nat) (T : Nat → Int32) (i : Nat) : Nat := skipG n T (n - i) i
def tkK (n : Nat) (T : Nat → Int32) (i : Nat) : Int32 := if tkF n T i < n then kindS (T (tkF n T i)) else 0
def tkE (n : Nat) (T : Nat → Int32) (i : Nat) : Nat := if tkF n T i < n then (if tkK n T i = 3 then tkF n T i + 1 else extG n T (tkK n T i) (n - (tkF n T i + 1)) (tkF n T i + 1)) else tkF n T i
theorem skip_le {n : Nat} {T : Nat → Int32} : ∀ f i, i + f ≤ n → i ≤ skipG n T f i ∧ skipG n T f i ≤ n
  | 0, i, h => by rw [skipG]; omega
  | f + 1, i, h => by
    rw [skipG]
    split
    · have := skip_le (n := n) (T := T) f (i + 1) (by omega); omega
    · omega
theorem ext_le {n : Nat} {T : Nat → Int32} {k : Int32} : ∀ f i, i + f ≤ n → i ≤ extG n T k f i ∧ extG n T k f i ≤ n
  | 0, i, h => by rw [extG]; omega
  | f + 1, i, h => by
    rw [extG]
    split
    · have := ext_le (n := n) (T := T) (k := k) f (i + 1) (by omega); omega
    · omega
section TOK
variable {X : XS} {h : Hp} {n : Nat} {T : Nat → Int32}
def TxtC (n : Nat) (T : Nat → Int32) (h : Hp) : Prop := n ≤ 200 ∧ h.1 [2, 0] 2 = nI n ∧ ∀ j, j < 200 → h.1 [0, 2, 0] j = T j
theorem c_byteAt (hT : TxtC n T h) {i : Nat} (hi : i < n) : EvI X m_Tx_byteAt [vR [2, 0], vI (nI i)] h (fun r h' => r = T i ∧ h' = h) := by
  have n2 := hT.1
  apply e_Tx_byteAt
  apply g_Tx_byteAt_0
  rw [hT.2.1, ci (by omega), hT.2.2 i (by omega)]
  exact cF (nI_pos (by omega)) (cF (fun z => absurd ((nI_leI (by omega) (by omega)).mp z) (by omega)) (cF (show ¬ (200 : Int32) ≤ nI i from by rw [show (200 : Int32) = nI 200 from rfl]; exact nI_ge (by omega) (by decide)) ⟨vp_in_nI (by omega) (by decide), _, rfl, rfl, rfl⟩))
theorem c_kindOf (b : Int32) : EvI X m_Tx_kindOf [vI b] h (fun r h' => r = kindS b ∧ h' = h) := by
  apply e_Tx_kindOf
  have k14 : ¬ (97 ≤ b ∧ b ≤ 122) → Rn X m_Tx_kindOf 14 [some (vI b)] [] h (fun v h' => ∃ r, v = some (vI r) ∧ r = kindS b ∧ h' = h) := by
    intro z
    refine g_Tx_kindOf_14 _ _ _ ⟨fun c => ⟨_, rfl, ?_, rfl⟩, fun c => ⟨fun c2 => ⟨_, rfl, ?_, rfl⟩, fun c2 => ⟨_, rfl, ?_, rfl⟩⟩⟩
    · rw [kindS, if_neg z, if_neg (by grind)]
    · rw [kindS, if_neg z, if_neg (by grind)]
    · rw [kindS, if_neg z, if_pos (by grind)]
  refine g_Tx_kindOf_0 _ _ _ ⟨fun c => k14 (by grind), fun c => ⟨fun c2 => k14 (by grind), fun c2 => ⟨_, rfl, ?_, rfl⟩⟩⟩
  rw [kindS, if_pos (by grind)]
end TOK
