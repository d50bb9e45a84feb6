-- the tokens of a text
def scanN (B : Nat → Bool) (tp : Nat → Nat) : Nat → Nat → Nat
  | 0, p => p
  | n + 1, p => if B (tp p) = true then scanN B tp n (p + 1) else p
def spB (v : Nat) : Bool := decide (v = 32)
def ltB (v : Nat) : Bool := decide (97 ≤ v ∧ v ≤ 122)
def fgB (v : Nat) : Bool := decide (48 ≤ v ∧ v ≤ 57)
theorem scan_ge (B : Nat → Bool) (tp : Nat → Nat) : ∀ n p : Nat, p ≤ scanN B tp n p ∧ scanN B tp n p ≤ p + n := fun n => by
  induction n with
  | zero => exact fun p => ⟨Nat.le_refl _, Nat.le_refl _⟩
  | succ n ih =>
    intro p
    unfold scanN
    by_cases c : B (tp p) = true
    · rw [if_pos c]; have := ih (p + 1); omega
    · rw [if_neg c]; omega
theorem scan_stop (B : Nat → Bool) (tp : Nat → Nat) : ∀ n p : Nat, scanN B tp n p < p + n → B (tp (scanN B tp n p)) = false := fun n => by
  induction n with
  | zero => intro p h; exact absurd h (by unfold scanN; omega)
  | succ n ih =>
    intro p h
    unfold scanN at h ⊢
    by_cases c : B (tp p) = true
    · rw [if_pos c] at h ⊢; exact ih (p + 1) (by omega)
    · rw [if_neg c] at h ⊢; exact eq_false_of_ne_true c
theorem scan_in (B : Nat → Bool) (tp : Nat → Nat) : ∀ n p i : Nat, p ≤ i → i < scanN B tp n p → B (tp i) = true := fun n => by
  induction n with
  | zero => intro p i h1 h2; unfold scanN at h2; omega
  | succ n ih =>
    intro p i h1 h2
    unfold scanN at h2
    by_cases c : B (tp p) = true
    · rw [if_pos c] at h2
      by_cases d : i = p
      · rw [d]; exact c
      · exact ih (p + 1) i (by omega) h2
    · rw [if_neg c] at h2; omega
def tF (tl : Nat) (tp : Nat → Nat) (p : Nat) : Nat := scanN spB tp (tl - p) p
def figE (tl : Nat) (tp : Nat → Nat) (f : Nat) : Nat := scanN fgB tp (tl - f) f
def tS (tl : Nat) (tp : Nat → Nat) (p : Nat) : Nat := if tl ≤ tF tl tp p then 0 else if ltB (tp (tF tl tp p)) = true then 1 else if tp (tF tl tp p) = 59 then 3 else if figE tl tp (tF tl tp p) - tF tl tp p = 1 ∨ figE tl tp (tF tl tp p) - tF tl tp p = 2 then 2 else 4
def tE (tl : Nat) (tp : Nat → Nat) (p : Nat) : Nat := if tl ≤ tF tl tp p then tF tl tp p else if ltB (tp (tF tl tp p)) = true then scanN ltB tp (tl - tF tl tp p) (tF tl tp p) else if tp (tF tl tp p) = 59 then tF tl tp p + 1 else figE tl tp (tF tl tp p)
def tV (tl : Nat) (tp : Nat → Nat) (p : Nat) : Nat := if figE tl tp (tF tl tp p) - tF tl tp p = 1 then tp (tF tl tp p) - 48 else 10 * (tp (tF tl tp p) - 48) + (tp (tF tl tp p + 1) - 48)
theorem tF_le {tl p : Nat} {tp : Nat → Nat} (h : p ≤ tl) : p ≤ tF tl tp p ∧ tF tl tp p ≤ tl := by
  have := scan_ge spB tp (tl - p) p
  unfold tF
  omega
theorem tE_le {tl p : Nat} {tp : Nat → Nat} (h : p ≤ tl) : tF tl tp p ≤ tE tl tp p ∧ tE tl tp p ≤ tl := by
  have h1 := tF_le (tp := tp) h
  unfold tE
  by_cases c : tl ≤ tF tl tp p
  · rw [if_pos c]; omega
  · rw [if_neg c]
    by_cases c1 : ltB (tp (tF tl tp p)) = true
    · rw [if_pos c1]
      have := scan_ge ltB tp (tl - tF tl tp p) (tF tl tp p)
      omega
    · rw [if_neg c1]
      by_cases c2 : tp (tF tl tp p) = 59
      · rw [if_pos c2]; omega
      · rw [if_neg c2]
        have := scan_ge fgB tp (tl - tF tl tp p) (tF tl tp p)
        unfold figE
        omega
theorem sg_v : ∀ v : Nat, v < 256 → (sg v).toInt = if v < 128 then (v : Int) else (v : Int) - 256 := by decide +kernel
theorem sg_eq {v c : Nat} (hv : v < 256) (hc : c < 128) : sg v = nI c ↔ v = c := by
  have h := sg_v v hv
  constructor
  · intro e
    rw [e, nI_toInt (by omega)] at h
    by_cases z : v < 128
    · rw [if_pos z] at h; omega
    · rw [if_neg z] at h; omega
  · intro e
    apply Int32.toInt_inj.1
    rw [h, nI_toInt (by omega), if_pos (by omega), e]
theorem sg_lt {v c : Nat} (hv : v < 256) (hc : c < 128) : sg v < nI c ↔ v < c ∨ 128 ≤ v := by
  have h := sg_v v hv
  rw [i_lt (by omega), h]
  by_cases z : v < 128
  · rw [if_pos z]; omega
  · rw [if_neg z]; omega
theorem sg_gt {v c : Nat} (hv : v < 256) (hc : c < 128) : nI c < sg v ↔ c < v ∧ v < 128 := by
  have h := sg_v v hv
  rw [i_gt (by omega), h]
  by_cases z : v < 128
  · rw [if_pos z]; omega
  · rw [if_neg z]; omega
theorem c_isLetter {v : Nat} {μ : Mem} {Q : Int32 → Mem → Prop} (hv : v < 256) (h1 : ltB v = true → Q 1 μ) (h0 : ltB v = false → Q 0 μ) : PX1_isLetter (sg v) μ Q := by
  unfold PX1_isLetter nX1_isLetter_16
  rw [show (97 : Int32) = nI 97 from rfl, show (122 : Int32) = nI 122 from rfl, sg_lt hv (by omega), sg_gt hv (by omega)]
  exact ⟨fun c => h0 (decide_eq_false (by omega)), fun c => ⟨fun d => h0 (decide_eq_false (by omega)), fun d => h1 (decide_eq_true (by omega))⟩⟩
theorem c_isFigure {v : Nat} {μ : Mem} {Q : Int32 → Mem → Prop} (hv : v < 256) (h1 : fgB v = true → Q 1 μ) (h0 : fgB v = false → Q 0 μ) : PX1_isFigure (sg v) μ Q := by
  unfold PX1_isFigure nX1_isFigure_16
  rw [show (48 : Int32) = nI 48 from rfl, show (57 : Int32) = nI 57 from rfl, sg_lt hv (by omega), sg_gt hv (by omega)]
  exact ⟨fun c => h0 (decide_eq_false (by omega)), fun c => ⟨fun d => h0 (decide_eq_false (by omega)), fun d => h1 (decide_eq_true (by omega))⟩⟩
