/-! the lines of each kind: the class, on its draft -/
section CLI
variable {X : XS} {h : Hp} {n : Nat} {T : Nat → Int32} {P : RW} {L N : Nat}
theorem ok_rng {b : Int32 × Int32} {p a m : Nat} (o : okN n T b p) (h0 : b.1 = nI a) (h1 : b.2 = nI m) (hm : m < 2 ^ 31) (ha : a < 2 ^ 31) : ∃ j : Nat, a ≤ j ∧ j ≤ m ∧ tkN n T p = nI j := by
  obtain ⟨-, o1, o2⟩ := o
  rw [h0] at o1
  rw [h1] at o2
  have z := nI_pos' ha
  obtain ⟨j, hj, e⟩ := nI_of (x := tkN n T p) (by grind)
  rw [e] at o1 o2
  exact ⟨j, (nI_leI ha hj).mp o1, (nI_leI hj hm).mp o2, e⟩
theorem c_readStreet (hT : TxtC n T h) (hP : PlanIs h [1, 0] P) {p : Nat} (hp : p ≤ n) (h5 : h.1 [2, 0] 5 = nI p) (l m v : Int32) : EvI X m_Tx_readStreet [vR [2, 0], vR [1, 0]] h (LnP n T (bdG 0 l m v) 2 p (doS 0 (vNu n T p) P) h) := by
  apply e_Tx_readStreet
  refine g_Tx_readStreet_0 _ _ _ ipl1 (c_step hT (CSt.ini h5) hp (show 0 < 2 by omega) (by omega) rfl rfl (fun h' q => ⟨_, rfl, q⟩) (fun h1 s1 => c_step' hT s1 hp (show 1 < 2 by omega) (by omega) rfl rfl (fun h' q => ⟨_, rfl, q⟩) (fun h2 s2 => ?_)))
  rw [s2.2.2.1 0 (by omega), s2.2.2.1 1 (by omega)]
  exact callN (c_lay ipl1 (hP.tn s2.1) _ _) (fun h' q => ⟨_, rfl, LnP.yes s2 q⟩)
theorem c_readGone (hT : TxtC n T h) (hP : PlanIs h [1, 0] P) (hb : ∀ k, k < 6 → P 3 k = 0 ∨ P 3 k = 1) {p : Nat} (hp : p ≤ n) (h5 : h.1 [2, 0] 5 = nI p) (l m v : Int32) : EvI X m_Tx_readGone [vR [2, 0], vR [1, 0]] h (LnP n T (bdG 3 l m v) 1 p (doS 3 (vNu n T p) P) h) := by
  apply e_Tx_readGone
  refine g_Tx_readGone_0 _ _ _ ipl1 (c_step' hT (CSt.ini h5) hp (show 0 < 1 by omega) (by omega) rfl rfl (fun h' q => ⟨_, rfl, q⟩) (fun h1 s1 => ?_))
  obtain ⟨k, -, hk, e⟩ := ok_rng (a := 0) (m := 5) (s1.2.2.2 0 (by omega)) rfl rfl (by omega) (by omega)
  have e' : vNu n T p 0 = nI k := e
  rw [s1.2.2.1 0 (by omega), e']
  refine callN (c_forget ipl1 (hP.tn s1.1) hb (show k < 6 by omega)) (fun h' q => ⟨_, rfl, LnP.yes s1 ?_⟩)
  have ed : doS 3 (vNu n T p) P = forgetS k P := by
    show forgetS (vNu n T p 0).toNatClampNeg P = _
    rw [e', ci (by omega)]
  rw [ed]; exact q.2
theorem c_readAwning (hT : TxtC n T h) (hP : PlanIs h [1, 0] P) (hw : wfP L N P) {p : Nat} (hp : p ≤ n) (h5 : h.1 [2, 0] 5 = nI p) (v : Int32) : EvI X m_Tx_readAwning [vR [2, 0], vR [1, 0]] h (LnP n T (bdG 1 (P 0 0) (P 0 1) v) 2 p (doS 1 (vNu n T p) P) h) := by
  obtain ⟨w0, w1, l1, l2, n1, n2, -⟩ := hw
  apply e_Tx_readAwning
  apply g_Tx_readAwning_0 _ _ _ ipl1
  rw [hP.1 1 (by omega)]
  refine c_step hT (CSt.ini h5) hp (show 0 < 2 by omega) (by omega) rfl rfl (fun h' q => ⟨_, rfl, q⟩) (fun h1 s1 => ?_)
  rw [(hP.tn s1.1).1 0 (by omega)]
  refine c_step' hT s1 hp (show 1 < 2 by omega) (by omega) rfl rfl (fun h' q => ⟨_, rfl, q⟩) (fun h2 s2 => ?_)
  obtain ⟨a, -, ha, ea⟩ := ok_rng (a := 0) (m := N - 1) (s2.2.2.2 0 (by omega)) rfl (by show P 0 1 - 1 = _; rw [w1]; exact pk_sub n1) (by omega) (by omega)
  obtain ⟨b, -, hb, eb⟩ := ok_rng (a := 0) (m := L - 1) (s2.2.2.2 1 (by omega)) rfl (by show P 0 0 - 1 = _; rw [w0]; exact pk_sub l1) (by omega) (by omega)
  have ea' : vNu n T p 0 = nI a := ea
  have eb' : vNu n T p 1 = nI b := eb
  rw [s2.2.2.1 0 (by omega), s2.2.2.1 1 (by omega), ea', eb', show (4 : Int32) = nI 4 from rfl, pk_mul, nI_add]
  have hc : cellHas P (nI (4 * a + b)) := by
    obtain ⟨d1, d2⟩ := cell_div (a := a) (l := b) (by omega) (by omega)
    unfold cellHas
    rw [d1, d2, w0, w1]
    exact ⟨nI_pos' (by omega), by rw [show (48 : Int32) = nI 48 from rfl]; exact nI_lt (by omega) (by decide), nI_lt (by omega) (by omega), nI_lt (by omega) (by omega)⟩
  refine callN (c_cover ipl1 (hP.tn s2.1) (show 4 * a + b < 48 by omega) hc) (fun h' q => ⟨_, rfl, LnP.yes s2 ?_⟩)
  have ed : doS 1 (vNu n T p) P = coverS (4 * a + b) P := by
    show coverS (4 * (vNu n T p 0).toNatClampNeg + (vNu n T p 1).toNatClampNeg) P = _
    rw [ea', eb', ci (by omega), ci (by omega)]
  rw [ed]; exact q
theorem c_readRain (hT : TxtC n T h) (hP : PlanIs h [1, 0] P) {p : Nat} (hp : p ≤ n) (h5 : h.1 [2, 0] 5 = nI p) (l m : Int32) : EvI X m_Tx_readRain [vR [2, 0], vR [1, 0]] h (LnP n T (bdG 4 l m (vNu n T p 0)) 3 p (doS 4 (vNu n T p) P) h) := by
  apply e_Tx_readRain
  refine g_Tx_readRain_0 _ _ _ ipl1 (c_step hT (CSt.ini h5) hp (show 0 < 3 by omega) (by omega) rfl rfl (fun h' q => ⟨_, rfl, q⟩) (fun h1 s1 => ?_))
  rw [s1.2.2.1 0 (by omega)]
  refine c_step hT s1 hp (show 1 < 3 by omega) (by omega) rfl rfl (fun h' q => ⟨_, rfl, q⟩) (fun h2 s2 => c_step' hT s2 hp (show 2 < 3 by omega) (by omega) rfl rfl (fun h' q => ⟨_, rfl, q⟩) (fun h3 s3 => ?_))
  obtain ⟨a, -, ha, ea⟩ := ok_rng (a := 0) (m := 59) (s3.2.2.2 0 (by omega)) rfl rfl (by omega) (by omega)
  have ea' : vNu n T p 0 = nI a := ea
  obtain ⟨b, -, hb, eb⟩ := ok_rng (a := a) (m := 59) (s3.2.2.2 1 (by omega)) ea' rfl (by omega) (by omega)
  have eb' : vNu n T p 1 = nI b := eb
  have s3' := s3
  rw [ea'] at s3'
  rw [s3.2.2.1 0 (by omega), s3.2.2.1 1 (by omega), s3.2.2.1 2 (by omega), ea', eb']
  refine callN (c_pourPl ipl1 (hP.tn s3.1) (show b < 60 by omega) (show a < 60 by omega) _) (fun h' q => ⟨_, rfl, LnP.yes s3' ?_⟩)
  have ed : doS 4 (vNu n T p) P = pourS a b (vNu n T p 2) P := by
    show pourS (vNu n T p 0).toNatClampNeg (vNu n T p 1).toNatClampNeg (vNu n T p 2) P = _
    rw [ea', eb', ci (by omega), ci (by omega)]
  rw [ed]; exact q
theorem c_readWalker (hT : TxtC n T h) (hP : PlanIs h [1, 0] P) {p : Nat} (hp : p ≤ n) (h5 : h.1 [2, 0] 5 = nI p) (m v : Int32) : EvI X m_Tx_readWalker [vR [2, 0], vR [1, 0]] h (LnP n T (bdG 2 (P 0 0) m v) 7 p (doS 2 (vNu n T p) P) h) := by
  apply e_Tx_readWalker
  refine g_Tx_readWalker_0 _ _ _ ipl1 (c_step hT (CSt.ini h5) hp (show 0 < 7 by omega) (by omega) rfl rfl (fun h' q => ⟨_, rfl, q⟩) (fun h1 s1 => ?_))
  rw [(hP.tn s1.1).1 0 (by omega)]
  refine c_step hT s1 hp (show 1 < 7 by omega) (by omega) rfl rfl (fun h' q => ⟨_, rfl, q⟩) (fun h2 s2 => c_step' hT s2 hp (show 2 < 7 by omega) (by omega) rfl rfl (fun h' q => ⟨_, rfl, q⟩) (fun h3 s3 => c_step hT s3 hp (show 3 < 7 by omega) (by omega) rfl rfl (fun h' q => ⟨_, rfl, q⟩) (fun h4 s4 => c_step' hT s4 hp (show 4 < 7 by omega) (by omega) rfl rfl (fun h' q => ⟨_, rfl, q⟩) (fun h5 s5 => c_step hT s5 hp (show 5 < 7 by omega) (by omega) rfl rfl (fun h' q => ⟨_, rfl, q⟩) (fun h6 s6 => c_step' hT s6 hp (show 6 < 7 by omega) (by omega) rfl rfl (fun h' q => ⟨_, rfl, q⟩) (fun h7 s7 => ?_))))))
  obtain ⟨k, -, hk, e⟩ := ok_rng (a := 0) (m := 5) (s7.2.2.2 0 (by omega)) rfl rfl (by omega) (by omega)
  have e' : vNu n T p 0 = nI k := e
  refine callN (c_welcome (F := vNu n T p) ipl1 (fun k => by simp) (hP.tn s7.1) (show k < 6 by omega) e' (fun j hj => s7.2.2.1 j hj)) (fun h' q => ⟨_, rfl, LnP.yes s7 ?_⟩)
  have ed : doS 2 (vNu n T p) P = welcomeS k (fun j => vNu n T p (j + 1)) P := by
    show welcomeS (vNu n T p 0).toNatClampNeg (fun j => vNu n T p (j + 1)) P = _
    rw [e', ci (by omega)]
  rw [ed]; exact q
end CLI
