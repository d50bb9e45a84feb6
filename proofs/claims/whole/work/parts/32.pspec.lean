-- abstract rules: field (the class's place of it), index
abbrev RA : Type := Nat → Nat → Nat
/-- what rules are like -/
def RW (ρ : RA) : Prop := ρ 0 0 ≤ 6 ∧ ρ 0 4 ≤ 9 ∧ ρ 0 12 ≤ 7 ∧ ρ 0 13 ≤ 127 ∧ ρ 0 14 ≤ 127 ∧ (∀ t : Nat, t < ρ 0 0 → (1 ≤ ρ 1 t ∧ ρ 1 t ≤ 4) ∧ (1 ≤ ρ 2 t ∧ ρ 2 t ≤ 4) ∧ ρ 3 t ≤ 60) ∧ (∀ s : Nat, ρ 4 s ≤ 3 ∧ ρ 5 s ≤ 9 ∧ ρ 6 s ≤ 15 ∧ ρ 7 s ≤ 9 ∧ ρ 8 s ≤ 63) ∧ (∀ s : Nat, ρ 0 4 ≤ s → ρ 4 s = 0 ∧ ρ 5 s = 0 ∧ ρ 6 s = 0 ∧ ρ 7 s = 0 ∧ ρ 8 s = 0) ∧ (∀ i : Nat, ρ 9 i ≤ 3 ∧ ρ 10 i ≤ 3) ∧ (∀ i : Nat, 6 * ρ 0 4 ≤ i → ρ 9 i = 0 ∧ ρ 10 i = 0) ∧ (∀ w : Nat, w < 7 → ρ 11 w ≤ 4)
/-- the class's rules at place r -/
def CR (μ : Mem) (r : Nat) (ρ : RA) : Prop := μ.1 r 0 = nI (ρ 0 0) ∧ μ.1 r 4 = nI (ρ 0 4) ∧ μ.1 r 12 = nI (ρ 0 12) ∧ μ.1 r 13 = nI (ρ 0 13) ∧ μ.1 r 14 = nI (ρ 0 14) ∧ (∀ t : Nat, t < ρ 0 0 → μ.1 (r + 1) t = nI (ρ 1 t) ∧ μ.1 (r + 2) t = nI (ρ 2 t) ∧ μ.1 (r + 3) t = nI (ρ 3 t)) ∧ (∀ s : Nat, s < 9 → μ.1 (r + 4) s = nI (ρ 4 s) ∧ μ.1 (r + 5) s = nI (ρ 5 s) ∧ μ.1 (r + 6) s = nI (ρ 6 s) ∧ μ.1 (r + 7) s = nI (ρ 7 s) ∧ μ.1 (r + 8) s = nI (ρ 8 s)) ∧ (∀ i : Nat, i < 54 → μ.1 (r + 9) i = nI (ρ 9 i) ∧ μ.1 (r + 10) i = nI (ρ 10 i)) ∧ (∀ w : Nat, w < 7 → μ.1 (r + 11) w = nI (ρ 11 w))
/-- the things of a supper as bits -/
def bitsW (ρ : RA) (s : Nat) : Nat → Nat
  | 0 => 0
  | t + 1 => bitsW ρ s t + (if 0 < ρ 9 (6 * s + t) then 2 ^ t else 0)
def thgN (ρ : RA) (s : Nat) : Nat := if ρ 4 s = 3 then ρ 8 s else bitsW ρ s (ρ 0 0)
/-- the reference's rules -/
def MR (μ : Mem) (ρ : RA) : Prop := μ.1 100 0 = nI (ρ 0 0) ∧ μ.1 100 2 = nI (ρ 0 4) ∧ μ.1 100 6 = nI (ρ 0 12) ∧ μ.1 100 7 = nI (ρ 0 13) ∧ μ.1 100 8 = nI (ρ 0 14) ∧ (∀ t : Nat, t < ρ 0 0 → μ.1 101 (3 * t) = nI (ρ 1 t) ∧ μ.1 101 (3 * t + 1) = nI (ρ 2 t) ∧ μ.1 101 (3 * t + 2) = nI (ρ 3 t)) ∧ (∀ s : Nat, s < ρ 0 4 → μ.1 102 (5 * s) = nI (ρ 4 s) ∧ μ.1 102 (5 * s + 1) = nI (ρ 5 s) ∧ μ.1 102 (5 * s + 2) = nI (ρ 6 s) ∧ μ.1 102 (5 * s + 3) = nI (ρ 7 s) ∧ μ.1 102 (5 * s + 4) = nI (thgN ρ s)) ∧ (∀ i : Nat, i < 6 * ρ 0 4 → μ.1 103 i = nI (ρ 9 i) ∧ μ.1 104 i = nI (ρ 10 i)) ∧ (∀ w : Nat, w < 7 → μ.1 105 w = nI (ρ 11 w))
/-- what kitchens are like: units at most B, days at most D -/
def KW (κ : KA) (B D : Nat) : Prop := (∀ i : Nat, κ.u i ≤ B) ∧ κ.date ≤ D ∧ (∀ s d : Nat, κ.la s = some d → d ≤ κ.date)
def untN (κ : KA) (t : Nat) : Nat := sumN (fun a => κ.u (4 * t + a)) 4
def outN (ρ : RA) (d : Nat) : Prop := bitN (ρ 0 14) (d % 7) = 1
def wantN (ρ : RA) (s g t : Nat) : Nat := if 0 < g ∧ 0 < ρ 9 (6 * s + t) ∧ ρ 4 s ≠ 2 then ρ 9 (6 * s + t) + 1 else ρ 9 (6 * s + t)
def soupN (ρ : RA) (s g : Nat) : Nat := ρ 7 s + g
def inN (ρ : RA) (s t : Nat) : Prop := bitN (ρ 8 s) t = 1
def allN (ρ : RA) (κ : KA) (s : Nat) : Nat := sumN (fun t => if bitN (ρ 8 s) t = 1 then untN κ t else 0) (ρ 0 0)
def lackN (ρ : RA) (κ : KA) (s g t : Nat) : Nat := if ρ 4 s = 3 then (if bitN (ρ 8 s) t = 1 then soupN ρ s g - allN ρ κ s else 0) else wantN ρ s g t - untN κ t
def buyN (ρ : RA) (d s t : Nat) : Prop := bitN (ρ 0 13) (d % 7) = 1 ∧ 0 < ρ 3 t ∧ (ρ 4 s = 0 ∨ ρ 4 s = 2)
noncomputable def packN (ρ : RA) (κ : KA) (s g t : Nat) : Nat := by
  classical exact if buyN ρ κ.date s t then (lackN ρ κ s g t + ρ 2 t - 1) / ρ 2 t else 0
def badN (ρ : RA) (κ : KA) (s g t : Nat) : Prop := 0 < lackN ρ κ s g t ∧ ¬ buyN ρ κ.date s t
noncomputable def whyN (ρ : RA) (κ : KA) (s g : Nat) : Nat := by
  classical exact if outN ρ κ.date then 1 else if (∃ d : Nat, κ.la s = some d ∧ κ.date < d + ρ 0 12) then 2 else if (∃ t : Nat, t < ρ 0 0 ∧ badN ρ κ s g t) then 3 else 0
theorem unt_le {κ : KA} {B D t : Nat} (h : KW κ B D) : untN κ t ≤ 4 * B := sumN_le (fun i _ => h.1 _)
theorem want_le {ρ : RA} {s g t : Nat} (h : RW ρ) : wantN ρ s g t ≤ 4 := by
  have := (h.2.2.2.2.2.2.2.2.1 (6 * s + t)).1
  unfold wantN; split <;> omega
theorem soup_le {ρ : RA} {s g : Nat} (h : RW ρ) (hg : g ≤ 1) : soupN ρ s g ≤ 10 := by
  have := (h.2.2.2.2.2.2.1 s).2.2.2.1
  unfold soupN; omega
theorem all_le {ρ : RA} {κ : KA} {B D s : Nat} (hr : RW ρ) (h : KW κ B D) : allN ρ κ s ≤ 24 * B := by
  have h1 : allN ρ κ s ≤ ρ 0 0 * (4 * B) := sumN_le (fun i _ => by
    show (if bitN (ρ 8 s) i = 1 then untN κ i else 0) ≤ 4 * B
    have := unt_le (t := i) h
    split <;> omega)
  have h2 := Nat.mul_le_mul_right (4 * B) hr.1
  omega
theorem lack_le {ρ : RA} {κ : KA} {s g t : Nat} (hr : RW ρ) (hg : g ≤ 1) : lackN ρ κ s g t ≤ 10 := by
  have := want_le (s := s) (g := g) (t := t) hr
  have := soup_le (s := s) hr hg
  unfold lackN; split
  · split <;> omega
  · omega
