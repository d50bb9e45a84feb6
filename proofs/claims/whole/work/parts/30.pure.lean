-- the pure side: reading the memory
theorem ms_1 (μ : Mem) (a j : Nat) (v : Int32) (b i : Nat) : (ms μ a j v).1 b i = if b = a then (if i = j then v else μ.1 b i) else μ.1 b i := by
  unfold ms upd
  by_cases h : b = a
  · subst h; simp
  · simp [h]
theorem ms_2 (μ : Mem) (a j : Nat) (v : Int32) : (ms μ a j v).2 = μ.2 := rfl
theorem mr_1 (μ : Mem) (a : Nat) (f : Nat → Int32) (b i : Nat) : (mr μ a f).1 b i = if b = a then f i else μ.1 b i := by
  unfold mr
  by_cases h : b = a
  · subst h; simp
  · simp [h]
theorem ml_1 (μ : Mem) (a j : Nat) (v : Int64) : (ml μ a j v).1 = μ.1 := rfl
theorem nI_mulN (a b : Nat) : nI a * nI b = nI (a * b) := pk_mul a b
theorem i_lit (n : Nat) : (OfNat.ofNat n : Int32) = nI n := rfl
/-- an int that may be none (-4) -/
def oI : Option Nat → Int32
  | none => -4
  | some d => nI d
-- abstract kitchens: units, when eaten last, the day, what was eaten today, paid, thrown, liked
abbrev KA : Type := (Nat → Nat) × (Nat → Option Nat) × Nat × Option Nat × Nat × Nat × Nat
abbrev KA.u (κ : KA) : Nat → Nat := κ.1
abbrev KA.la (κ : KA) : Nat → Option Nat := κ.2.1
abbrev KA.date (κ : KA) : Nat := κ.2.2.1
abbrev KA.tod (κ : KA) : Option Nat := κ.2.2.2.1
abbrev KA.paid (κ : KA) : Nat := κ.2.2.2.2.1
abbrev KA.thr (κ : KA) : Nat := κ.2.2.2.2.2.1
abbrev KA.lik (κ : KA) : Nat := κ.2.2.2.2.2.2
/-- the class's kitchen at place b -/
def KC (μ : Mem) (b : Nat) (κ : KA) : Prop := (∀ i : Nat, i < 24 → μ.1 (b + 1) i = nI (κ.u i)) ∧ (∀ s : Nat, s < 9 → μ.1 (b + 2) s = oI (κ.la s)) ∧ μ.1 b 2 = nI κ.date ∧ μ.1 b 3 = oI κ.tod ∧ μ.1 b 4 = nI κ.paid ∧ μ.1 b 5 = nI κ.thr ∧ μ.1 b 6 = nI κ.lik
/-- the reference's, at B in its row st -/
def KM (μ : Mem) (B : Nat) (κ : KA) : Prop := (∀ i : Nat, i < 24 → μ.1 114 (B + i) = nI (κ.u i)) ∧ (∀ s : Nat, s < 9 → μ.1 114 (B + 24 + s) = oI (κ.la s)) ∧ μ.1 114 (B + 36) = nI κ.date ∧ μ.1 114 (B + 37) = oI κ.tod ∧ μ.1 114 (B + 33) = nI κ.paid ∧ μ.1 114 (B + 34) = nI κ.thr ∧ μ.1 114 (B + 35) = nI κ.lik
def uN (κ : KA) (t : Nat) : Nat := κ.u (4 * t) + κ.u (4 * t + 1) + κ.u (4 * t + 2) + κ.u (4 * t + 3)
set_option maxRecDepth 4000 in
theorem c_unitsOf {μ : Mem} {b t : Nat} {κ : KA} {Q : Int32 → Mem → Prop} (hK : KC μ b κ) (ht : t < 6) (h : Q (nI (uN κ t)) μ) : PX0_unitsOf b (nI t) μ Q := by
  intro S hS
  have e : ∀ a : Nat, a < 4 → vp_in (nI t * 4 + nI a) 24 ∧ μ.1 (b + 1) (nI t * 4 + nI a).toNatClampNeg = nI (κ.u (4 * t + a)) := by
    intro a ha
    have e1 : nI t * 4 + nI a = nI (4 * t + a) := by rw [show (4 : Int32) = nI 4 from rfl, nI_mulN, nI_add, Nat.mul_comm t 4]
    rw [e1, nI_clamp (by omega)]
    exact ⟨vp_in_nI (by omega) (by omega), hK.1 _ (by omega)⟩
  have key : ∀ d a acc : Nat, a + d = 4 → (acc + (if a ≤ 0 then κ.u (4 * t) else 0) + (if a ≤ 1 then κ.u (4 * t + 1) else 0) + (if a ≤ 2 then κ.u (4 * t + 2) else 0) + (if a ≤ 3 then κ.u (4 * t + 3) else 0) = uN κ t) → S (nI acc) (nI a) μ := by
    intro d
    induction d with
    | zero =>
      intro a acc ha hs
      have ha : a = 4 := by omega
      subst ha
      apply hS
      unfold nX0_unitsOf_4
      refine ⟨fun _ => ?_, fun c => absurd (by decide) c⟩
      have : acc = uN κ t := by simpa using hs
      rw [this]; exact h
    | succ d ih =>
      intro a acc ha hs
      apply hS
      unfold nX0_unitsOf_4
      refine ⟨fun c => absurd c (nI_ge (a := a) (b := 4) (by omega) (by omega)), fun _ => ⟨(e a (by omega)).1, ?_⟩⟩
      rw [(e a (by omega)).2, nI_add, nI_1]
      refine ih (a + 1) _ (by omega) ?_
      rcases (show a = 0 ∨ a = 1 ∨ a = 2 ∨ a = 3 by omega) with rfl | rfl | rfl | rfl <;> simp at hs ⊢ <;> omega
  exact key 4 0 0 rfl (by simp [uN])
