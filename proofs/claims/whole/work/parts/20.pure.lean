/-! helpers of the pure part -/
def bI (p : Prop) [Decidable p] : Int32 := if p then 1 else 0
theorem bI_t {p : Prop} [Decidable p] (h : p) : bI p = 1 := if_pos h
theorem bI_f {p : Prop} [Decidable p] (h : ¬ p) : bI p = 0 := if_neg h
theorem eqT {p : Prop} [Decidable p] (h : p) : (1 : Int32) = bI p := (bI_t h).symm
theorem eqF {p : Prop} [Decidable p] (h : ¬ p) : (0 : Int32) = bI p := (bI_f h).symm
theorem bI_01 (p : Prop) [Decidable p] : bI p = 0 ∨ bI p = 1 := by unfold bI; split <;> simp
theorem callP {X : XS} {M : MD} {av : List AV} {h : Hp} {f : Int32} {P : Int32 → Hp → Prop} (ev : EvI X M av h (fun r h' => r = f ∧ h' = h)) (k : P f h) : ∃ Q', EvI X M av h Q' ∧ ∀ (r : Int32) (h' : Hp), Q' r h' → P r h' :=
  ⟨_, ev, fun r h' q => by rw [q.1, q.2]; exact k⟩
theorem callL {X : XS} {M : MD} {av : List AV} {h : Hp} {f : Int64} {P : Int64 → Hp → Prop} (ev : EvL X M av h (fun r h' => r = f ∧ h' = h)) (k : P f h) : ∃ Q', EvL X M av h Q' ∧ ∀ (r : Int64) (h' : Hp), Q' r h' → P r h' :=
  ⟨_, ev, fun r h' q => by rw [q.1, q.2]; exact k⟩
theorem callB {X : XS} {M : MD} {av : List AV} {h : Hp} {p : Prop} [Decidable p] {P : Int32 → Hp → Prop} (ev : EvI X M av h (fun r h' => r = bI p ∧ h' = h)) (kt : p → P 1 h) (kf : ¬ p → P 0 h) : ∃ Q', EvI X M av h Q' ∧ ∀ (r : Int32) (h' : Hp), Q' r h' → P r h' :=
  ⟨_, ev, fun r h' q => by
    rw [q.1, q.2]
    by_cases c : p
    · rw [bI_t c]; exact kt c
    · rw [bI_f c]; exact kf c⟩
theorem callQ {X : XS} {M : MD} {av : List AV} {h : Hp} {Q0 P : Int32 → Hp → Prop} (ev : EvI X M av h Q0) (k : ∀ (r : Int32) (h' : Hp), Q0 r h' → P r h') : ∃ Q', EvI X M av h Q' ∧ ∀ (r : Int32) (h' : Hp), Q' r h' → P r h' := ⟨_, ev, k⟩
theorem callN {X : XS} {M : MD} {av : List AV} {h : Hp} {Q0 P : Hp → Prop} (ev : EvV X M av h Q0) (k : ∀ (h' : Hp), Q0 h' → P h') : ∃ Q', EvV X M av h Q' ∧ ∀ (h' : Hp), Q' h' → P h' := ⟨_, ev, k⟩
theorem z1a {A B : Prop} (b : B) : ((1 : Int32) = 0 → A) ∧ (¬ (1 : Int32) = 0 → B) := ⟨fun c => absurd c (by decide), fun _ => b⟩
theorem z1b {A B : Prop} (a : A) : (¬ (1 : Int32) = 0 → A) ∧ ((1 : Int32) = 0 → B) := ⟨fun _ => a, fun c => absurd c (by decide)⟩
theorem z0a {A B : Prop} (a : A) : ((0 : Int32) = 0 → A) ∧ (¬ (0 : Int32) = 0 → B) := ⟨fun _ => a, fun c => absurd rfl c⟩
theorem z0b {A B : Prop} (b : B) : (¬ (0 : Int32) = 0 → A) ∧ ((0 : Int32) = 0 → B) := ⟨fun c => absurd rfl c, fun _ => b⟩
theorem cT {c A B : Prop} (h : c) (a : A) : (c → A) ∧ (¬ c → B) := ⟨fun _ => a, fun n => absurd h n⟩
theorem cF {c A B : Prop} (h : ¬ c) (b : B) : (c → A) ∧ (¬ c → B) := ⟨fun n => absurd n h, fun _ => b⟩
theorem cT' {c A B : Prop} (h : c) (b : B) : (¬ c → A) ∧ (c → B) := ⟨fun n => absurd h n, fun _ => b⟩
theorem cF' {c A B : Prop} (h : ¬ c) (a : A) : (¬ c → A) ∧ (c → B) := ⟨fun _ => a, fun n => absurd n h⟩
/-- a counted loop -/
theorem forN {σ : Type} {P I : Nat → σ → Prop} (N : Nat) (step : ∀ i s, i < N → I i s → (∀ s', I (i + 1) s' → P (i + 1) s') → P i s) (fin : ∀ s, I N s → P N s) : ∀ (i : Nat) (s : σ), i ≤ N → I i s → P i s := by
  have key : ∀ (n i : Nat) (s : σ), i + n = N → I i s → P i s := by
    intro n
    induction n with
    | zero => intro i s hi hI; have : i = N := by omega
              subst this; exact fin s hI
    | succ n ih => intro i s hi hI; exact step i s (by omega) hI (fun s' hs => ih (i + 1) s' (by omega) hs)
  exact fun i s hi hI => key (N - i) i s (by omega) hI
theorem nI_lit_le {k n : Nat} (h1 : k < 2 ^ 31) (h2 : n < 2 ^ 31) : nI k ≤ nI n ↔ k ≤ n := nI_leI h1 h2
theorem nI_add1 (n : Nat) : nI n + 1 = nI (n + 1) := nI_1 n
theorem s_in {X : XS} (v l m : Int32) (h : Hp) : EvI X m_Rf_in [vI v, vI l, vI m] h (fun r h' => r = bI (l ≤ v ∧ v ≤ m) ∧ h' = h) := by
  apply e_Rf_in
  apply g_Rf_in_0
  unfold bI
  refine ⟨fun c => ⟨_, rfl, ?_, rfl⟩, fun c => ⟨fun c2 => ⟨_, rfl, ?_, rfl⟩, fun c2 => ⟨_, rfl, ?_, rfl⟩⟩⟩ <;> grind
theorem s_isNotIn {X : XS} (v l m : Int32) (h : Hp) : EvI X m_Us_isNotIn [vI v, vI l, vI m] h (fun r h' => r = bI (¬ (l ≤ v ∧ v ≤ m)) ∧ h' = h) := by
  apply e_Us_isNotIn
  apply g_Us_isNotIn_0
  unfold bI
  refine ⟨fun c => ⟨_, rfl, ?_, rfl⟩, fun c => ⟨fun c2 => ⟨_, rfl, ?_, rfl⟩, fun c2 => ⟨_, rfl, ?_, rfl⟩⟩⟩ <;> grind
theorem s_off {X : XS} (a b : Int32) (h : Hp) : EvI X m_Rf_off [vI a, vI b] h (fun r h' => r = (if b < a then a - b else b - a) ∧ h' = h) := by
  apply e_Rf_off
  apply g_Rf_off_0
  refine ⟨fun c => ⟨_, rfl, ?_, rfl⟩, fun c => ⟨_, rfl, ?_, rfl⟩⟩ <;> grind
theorem iMax_r {x y : Int32} (h : x ≤ y) : y = iMax x y := by unfold iMax; grind
theorem iMax_l {x y : Int32} (h : ¬ x ≤ y) : x = iMax x y := by unfold iMax; grind
