/-! bits of sets -/
theorem sh_amt : ∀ k, k < 32 → ((nI k) &&& 31).toBitVec.toNat % 32 = k ∧ (nI k &&& 31).toBitVec = BitVec.ofNat 32 k := by decide +kernel
theorem bit_at (m : Int32) {k : Nat} (hk : k < 32) : iShr m (nI k) &&& 1 = if m.toBitVec.getLsbD k then (1 : Int32) else 0 := by
  apply Int32.toBitVec_inj.mp
  unfold iShr
  have e := (sh_amt k hk).2
  rw [Int32.toBitVec_and, Int32.toBitVec_shiftRight, e]
  apply BitVec.eq_of_getLsbD_eq
  intro i hi
  have er : (BitVec.ofNat 32 k).smod 32 = BitVec.ofNat 32 k := by
    have : ∀ k, k < 32 → (BitVec.ofNat 32 k).smod 32 = BitVec.ofNat 32 k := by decide +kernel
    exact this k hk
  rw [er, BitVec.getLsbD_and]
  by_cases z : i = 0
  · subst z
    unfold BitVec.sshiftRight'
    rw [BitVec.getLsbD_sshiftRight]
    have : (BitVec.ofNat 32 k).toNat = k := by rw [BitVec.toNat_ofNat]; omega
    rw [this]
    by_cases y : m.toBitVec.getLsbD k
    · simp [y, show k < 32 from hk]
    · rw [if_neg y]
      have y2 := Bool.eq_false_iff.mpr y
      simp [show k < 32 from hk] at y2 ⊢
      exact y2
  · have h1 : (1 : Int32).toBitVec.getLsbD i = false := by
      show (1#32).getLsbD i = false
      rw [BitVec.getLsbD_one]; simp; omega
    rw [h1, Bool.and_false]
    by_cases y : m.toBitVec.getLsbD k
    · rw [if_pos y, h1]
    · rw [if_neg y]; simp
theorem shl_at {a k : Nat} (ha : a < 32) (hk : k < 32) : (iShl 1 (nI a)).toBitVec.getLsbD k = decide (k = a) := by
  have : ∀ a, a < 32 → ∀ k, k < 32 → (iShl 1 (nI a)).toBitVec.getLsbD k = decide (k = a) := by decide +kernel
  exact this a ha k hk
theorem bit_or {m : Int32} {a k : Nat} (ha : a < 32) (hk : k < 32) : iShr (m ||| iShl 1 (nI a)) (nI k) &&& 1 = if k = a then (1 : Int32) else iShr m (nI k) &&& 1 := by
  rw [bit_at _ hk, bit_at _ hk, Int32.toBitVec_or, BitVec.getLsbD_or, shl_at ha hk]
  by_cases z : k = a
  · simp [z]
  · simp [z]
theorem bit_no {m : Int32} {a k : Nat} (ha : a < 32) (hk : k < 32) : iShr (m &&& (iShl 1 (nI a) ^^^ -1)) (nI k) &&& 1 = if k = a then (0 : Int32) else iShr m (nI k) &&& 1 := by
  rw [bit_at _ hk, bit_at _ hk, Int32.toBitVec_and, BitVec.getLsbD_and, Int32.toBitVec_xor, BitVec.getLsbD_xor, shl_at ha hk]
  have : (-1 : Int32).toBitVec.getLsbD k = true := by
    have : ∀ k, k < 32 → (-1 : Int32).toBitVec.getLsbD k = true := by decide +kernel
    exact this k hk
  rw [this]
  by_cases z : k = a
  · simp [z]
  · simp [z]
theorem bit_0 {k : Nat} (hk : k < 32) : iShr 0 (nI k) &&& 1 = (0 : Int32) := by
  have : ∀ k, k < 32 → iShr 0 (nI k) &&& 1 = (0 : Int32) := by decide +kernel
  exact this k hk
theorem shL_amt : ∀ k, k < 64 → ((nI k).toInt64 &&& 63).toBitVec = BitVec.ofNat 64 k := by decide +kernel
theorem lbit_at (m : Int64) {k : Nat} (hk : k < 64) : lShr m (nI k) &&& 1 = if m.toBitVec.getLsbD k then (1 : Int64) else 0 := by
  apply Int64.toBitVec_inj.mp
  unfold lShr
  have e := shL_amt k hk
  rw [Int64.toBitVec_and, Int64.toBitVec_shiftRight, e]
  apply BitVec.eq_of_getLsbD_eq
  intro i hi
  have er : (BitVec.ofNat 64 k).smod 64 = BitVec.ofNat 64 k := by
    have : ∀ k, k < 64 → (BitVec.ofNat 64 k).smod 64 = BitVec.ofNat 64 k := by decide +kernel
    exact this k hk
  rw [er, BitVec.getLsbD_and]
  by_cases z : i = 0
  · subst z
    unfold BitVec.sshiftRight'
    rw [BitVec.getLsbD_sshiftRight]
    have : (BitVec.ofNat 64 k).toNat = k := by rw [BitVec.toNat_ofNat]; omega
    rw [this]
    by_cases y : m.toBitVec.getLsbD k
    · simp [y, show k < 64 from hk]
    · rw [if_neg y]
      have y2 := Bool.eq_false_iff.mpr y
      simp [show k < 64 from hk] at y2 ⊢
      exact y2
  · have h1 : (1 : Int64).toBitVec.getLsbD i = false := by
      show (1#64).getLsbD i = false
      rw [BitVec.getLsbD_one]; simp; omega
    rw [h1, Bool.and_false]
    by_cases y : m.toBitVec.getLsbD k
    · rw [if_pos y, h1]
    · rw [if_neg y]; simp
theorem lshl_at {a k : Nat} (ha : a < 64) (hk : k < 64) : (lShl 1 (nI a)).toBitVec.getLsbD k = decide (k = a) := by
  have : ∀ a, a < 64 → ∀ k, k < 64 → (lShl 1 (nI a)).toBitVec.getLsbD k = decide (k = a) := by decide +kernel
  exact this a ha k hk
theorem lbit_or {m : Int64} {a k : Nat} (ha : a < 64) (hk : k < 64) : lShr (m ||| lShl 1 (nI a)) (nI k) &&& 1 = if k = a then (1 : Int64) else lShr m (nI k) &&& 1 := by
  rw [lbit_at _ hk, lbit_at _ hk, Int64.toBitVec_or, BitVec.getLsbD_or, lshl_at ha hk]
  by_cases z : k = a
  · simp [z]
  · simp [z]
theorem lbit_0 {k : Nat} (hk : k < 64) : lShr 0 (nI k) &&& 1 = (0 : Int64) := by
  have : ∀ k, k < 64 → lShr 0 (nI k) &&& 1 = (0 : Int64) := by decide +kernel
  exact this k hk
