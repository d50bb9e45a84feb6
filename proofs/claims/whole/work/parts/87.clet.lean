-- letters, each once
theorem tS_1 {tl p : Nat} {tp : Nat → Nat} (h : tS tl tp p = 1) : tF tl tp p < tE tl tp p ∧ tF tl tp p < tl ∧ ∀ i : Nat, tF tl tp p ≤ i → i < tE tl tp p → 97 ≤ tp i ∧ tp i ≤ 122 := by
  have c : ¬ tl ≤ tF tl tp p := fun z => by unfold tS at h; rw [if_pos z] at h; omega
  have c1 : ltB (tp (tF tl tp p)) = true := by
    by_cases z : ltB (tp (tF tl tp p)) = true
    · exact z
    · exfalso
      unfold tS at h
      rw [if_neg c, if_neg z] at h
      split at h
      · omega
      · split at h <;> omega
  have e : tE tl tp p = scanN ltB tp (tl - tF tl tp p) (tF tl tp p) := by unfold tE; rw [if_neg c, if_pos c1]
  refine ⟨?_, by omega, fun i h1 h2 => ?_⟩
  · rw [e, show tl - tF tl tp p = (tl - tF tl tp p - 1) + 1 by omega]
    unfold scanN
    rw [if_pos c1]
    have := scan_ge ltB tp (tl - tF tl tp p - 1) (tF tl tp p + 1)
    omega
  · rw [e] at h2
    have := scan_in ltB tp _ _ i h1 h2
    unfold ltB at this
    exact of_decide_eq_true this
def letN (tp : Nat → Nat) (c many : Nat) : Nat → Nat → Nat → Option Nat
  | 0, _, b => some b
  | k + 1, i, b => if c ≤ tp i ∧ tp i < c + many ∧ ¬ bitN b (tp i - c) = 1 then letN tp c many k (i + 1) (obN b (tp i - c)) else none
theorem letN_s (tp : Nat → Nat) (c many k i b : Nat) : letN tp c many (k + 1) i b = if c ≤ tp i ∧ tp i < c + many ∧ ¬ bitN b (tp i - c) = 1 then letN tp c many k (i + 1) (obN b (tp i - c)) else none := rfl
theorem obN_pos {a t : Nat} : 0 < obN a t := Nat.pos_of_ne_zero (fun z => by
  have := (obN_bit a t t).2 (Or.inr rfl)
  rw [z] at this
  unfold bitN at this
  simp at this)
theorem letN_pos {tp : Nat → Nat} {c many : Nat} : ∀ k i b b' : Nat, letN tp c many k i b = some b' → (0 < k ∨ 0 < b) → 0 < b' := fun k => by
  induction k with
  | zero => intro i b b' h z; unfold letN at h; have := Option.some.inj h; omega
  | succ k ih =>
    intro i b b' h z
    unfold letN at h
    by_cases c : c ≤ tp i ∧ tp i < c + many ∧ ¬ bitN b (tp i - c) = 1
    · rw [if_pos c] at h; exact ih _ _ _ h (Or.inr obN_pos)
    · rw [if_neg c] at h; exact absurd h (by simp)
theorem b64_le {b many : Nat} (hb : b < 2 ^ many) (hm : many ≤ 6) : b < 64 := Nat.lt_of_lt_of_le hb (show 2 ^ many ≤ 2 ^ 6 from Nat.pow_le_pow_right (by decide) hm)
theorem c_letters {tl c many f e : Nat} {tp : Nat → Nat} {μ : Mem} {Q : Int32 → Mem → Prop} (hT : TC μ tl tp) (h5 : μ.1 25 5 = nI e) (h7 : μ.1 25 7 = nI f) (hfe : f ≤ e) (hel : e ≤ tl) (hc : c < 200) (hm : many ≤ 6) (hL : ∀ i : Nat, f ≤ i → i < e → 97 ≤ tp i ∧ tp i ≤ 122) (hN : letN tp c many (e - f) f 0 = none → Q 0 μ) (hS : ∀ b : Nat, b < 2 ^ many → letN tp c many (e - f) f 0 = some b → Q (nI b) μ) : PX1_lettersOnce 25 (nI c) (nI many) μ Q := by
  have htl := hT.2.1
  intro S8 h8
  have lp : ∀ k i b : Nat, i + k = e → f ≤ i → b < 2 ^ many → letN tp c many k i b = letN tp c many (e - f) f 0 → S8 (nI b) (nI i) μ := by
    intro k
    induction k with
    | zero =>
      intro i b hi hf hb he
      apply h8
      unfold nX1_lettersOnce_8
      rw [h5]
      exact ⟨fun _ => hS b hb he.symm, fun d => absurd (nI_le (by omega) (by omega)) d⟩
    | succ k ih =>
      intro i b hi hf hb he
      have b64 := b64_le hb hm
      obtain ⟨l1, l2⟩ := hL i hf (by omega)
      apply h8
      unfold nX1_lettersOnce_8
      have e26 : μ.1 (25 + 1) i = nI (tp i) := (hT.2.2 i (by omega)).2.trans ((sg_eq (hT.2.2 i (by omega)).1 (by omega)).2 rfl)
      rw [h5, nI_clamp (n := i) (by omega), e26]
      rw [letN_s] at he
      refine ⟨fun d => absurd d (nI_ge (by omega) (by omega)), fun _ => ⟨vp_in_nI (by omega) (by omega), fun d => ?_, fun d => ?_⟩⟩
      · have : tp i < c := by
          by_cases z : c ≤ tp i
          · rw [pk_sub z] at d; exact absurd d (nI_pos (by omega))
          · omega
        rw [if_neg (by omega)] at he
        exact hN he.symm
      · have z : c ≤ tp i := by
          by_cases z : c ≤ tp i
          · exact z
          · exact absurd (pk_sneg (by omega) (by omega)) d
        rw [pk_sub z]
        refine ⟨fun d2 => ?_, fun d2 => ?_⟩
        · have : many ≤ tp i - c := (nI_leI (by omega) (by omega)).1 d2
          rw [if_neg (by omega)] at he
          exact hN he.symm
        · have y : tp i - c < many := by
            by_cases y : tp i - c < many
            · exact y
            · exact absurd (nI_le (by omega) (by omega)) d2
          refine ⟨fun d3 x5 hx5 => ?_, fun d3 => ?_⟩
          · have d4 := (jb_0 (a := b) (t := tp i - c) (by omega) (by omega)).1 d3
            rw [if_pos ⟨z, by omega, d4⟩] at he
            rw [hx5, or_bit (by omega), nI_1]
            exact ih (i + 1) (obN b (tp i - c)) (by omega) (by omega) (obN_lt hb y) he
          · have d4 : ¬ ¬ bitN b (tp i - c) = 1 := fun x => d3 ((jb_0 (a := b) (t := tp i - c) (by omega) (by omega)).2 x)
            rw [if_neg (fun x => d4 x.2.2)] at he
            exact hN he.symm
  rw [h7]
  exact lp (e - f) f 0 (by omega) (by omega) (Nat.two_pow_pos many) rfl
theorem c_nm {tl p s : Nat} {tp : Nat → Nat} {μ : Mem} {Q : Int32 → Mem → Prop} (hT : TC μ tl tp) (hp : p ≤ tl) (hc : CT tl tp μ p) (hs : s < 12) (h1 : tS tl tp p = 1 → isWd tp s (tF tl tp p) (tE tl tp p) → Q 1 μ) (h0 : ¬ (tS tl tp p = 1 ∧ isWd tp s (tF tl tp p) (tE tl tp p)) → Q 0 μ) : PX1_isName 25 s μ Q :=
  c_isName hT hs hc.1 hc.2.1 hc.2.2.1 (by have := tS_le (tl := tl) (tp := tp) (p := p); omega) (tE_le hp).1 (tE_le hp).2 h1 h0
-- uses, and what stands between lines
def UW (U : List (Nat × Nat)) (p L : Nat) : Prop := (∀ x : Nat × Nat, x ∈ U → x.1 < 6 ∧ x.2 ≤ p) ∧ U.Pairwise (fun a b => a.2 ≤ b.2) ∧ U.length ≤ L
/-- what is wanted was used -/
def UC (ρ : RA) (U : List (Nat × Nat)) : Prop := ∀ s t : Nat, t < 6 → ρ 9 (6 * s + t) ≠ 0 → ∃ q : Nat, (t, q) ∈ U
def LI (ρ : RA) (U : List (Nat × Nat)) (p L : Nat) : Prop := RW ρ ∧ RZ2 ρ ∧ ρ 0 4 ≤ 8 ∧ UW U p L ∧ UC ρ U
theorem UW_mono {U : List (Nat × Nat)} {p L p' L' : Nat} (h : UW U p L) (hp : p ≤ p') (hL : L ≤ L') : UW U p' L' :=
  ⟨fun x hx => ⟨(h.1 x hx).1, Nat.le_trans (h.1 x hx).2 hp⟩, h.2.1, Nat.le_trans h.2.2 hL⟩
theorem UW_app {U : List (Nat × Nat)} {p L t f p' : Nat} (h : UW U p L) (ht : t < 6) (hf : p ≤ f) (hp : f ≤ p') : UW (U ++ [(t, f)]) p' (L + 1) := by
  refine ⟨fun x hx => ?_, ?_, ?_⟩
  · rcases List.mem_append.1 hx with y | y
    · exact ⟨(h.1 x y).1, by have := (h.1 x y).2; omega⟩
    · have := List.mem_singleton.1 y
      rw [this]; exact ⟨ht, hp⟩
  · rw [List.pairwise_append]
    refine ⟨h.2.1, List.pairwise_singleton _ _, fun a ha b hb => ?_⟩
    have := List.mem_singleton.1 hb
    rw [this]
    have := (h.1 a ha).2
    show a.2 ≤ f
    omega
  · have := h.2.2
    simp
    omega
theorem fu_mem : ∀ {U : List (Nat × Nat)} {x q : Nat}, fuN U x = some q → (x, q) ∈ U := fun {U} => by
  induction U with
  | nil => intro x q h; exact absurd h (by simp [fuN])
  | cons a U ih =>
    obtain ⟨t, p⟩ := a
    intro x q h
    have h' : (if t = x then some p else fuN U x) = some q := h
    by_cases c : t = x
    · rw [if_pos c] at h'
      have := Option.some.inj h'
      rw [c, this]
      exact List.mem_cons_self
    · rw [if_neg c] at h'
      exact List.mem_cons_of_mem _ (ih h')
theorem fu_le {U : List (Nat × Nat)} {p L x q : Nat} (h : UW U p L) (e : fuN U x = some q) : q ≤ p := (h.1 _ (fu_mem e)).2
/-- a use written down -/
theorem CS_use {tl ag sh : Nat} {tp : Nat → Nat} {ρ : RA} {U U' : List (Nat × Nat)} {μ m : Mem} (h : CS tl tp μ ρ U ag sh) (hu : ∀ x : Nat, x < 6 → m.1 39 x = oU U' x) (o : ∀ a j : Nat, a ≠ 39 → m.1 a j = μ.1 a j) : CS tl tp m ρ U' ag sh :=
  ⟨⟨(o 25 1 (by decide)).trans h.1.1, h.1.2.1, fun i hi => ⟨(h.1.2.2 i hi).1, (o 26 i (by decide)).trans (h.1.2.2 i hi).2⟩⟩, CR_of h.2.1 (fun a j z1 z2 => o a j (by omega)), (o 25 9 (by decide)).trans h.2.2.1, (o 25 10 (by decide)).trans h.2.2.2.1, hu, (o 25 3 (by decide)).trans h.2.2.2.2.2⟩
theorem FW_use {μ m : Mem} (o : ∀ a j : Nat, a ≠ 39 → m.1 a j = μ.1 a j) : FW μ m := fun a j _ z => o a j (by omega)
