def chN (ρ : RA) (d : Nat) : Nat := ρ 11 (d % 7)
theorem ch_le {ρ : RA} {d : Nat} (hw : RW ρ) : chN ρ d ≤ 4 := hw.2.2.2.2.2.2.2.2.2.2 (d % 7) (Nat.mod_lt _ (by decide))
def wgN (ρ : RA) (d g : Nat) : Nat → Nat
  | 0 => 1
  | i + 1 => wgN ρ d g i * (if bitN g i = 1 then chN ρ (d + i) else 4 - chN ρ (d + i))
def wrC (ρ : RA) (R : Nat → Option Nat) (d i : Nat) : Nat := if R i = none then 0 else chN ρ (d + i)
def wrN (ρ : RA) (R : Nat → Option Nat) (d g : Nat) : Nat → Nat
  | 0 => 1
  | i + 1 => wrN ρ R d g i * (if bitN g i = 1 then wrC ρ R d i else 4 - wrC ρ R d i)
theorem wrC_le {ρ : RA} {R : Nat → Option Nat} {d i : Nat} (hw : RW ρ) : wrC ρ R d i ≤ 4 := by
  have := ch_le (d := d + i) hw
  unfold wrC; split <;> omega
theorem wg_le {ρ : RA} {d g : Nat} (hw : RW ρ) : ∀ i : Nat, wgN ρ d g i ≤ 4 ^ i
  | 0 => Nat.le_refl _
  | i + 1 => by
    have h1 := wg_le (d := d) (g := g) hw i
    have h2 := ch_le (d := d + i) hw
    have h3 : (if bitN g i = 1 then chN ρ (d + i) else 4 - chN ρ (d + i)) ≤ 4 := by split <;> omega
    have := Nat.mul_le_mul h1 h3
    rw [Nat.pow_succ]; exact this
theorem wr_le {ρ : RA} {R : Nat → Option Nat} {d g : Nat} (hw : RW ρ) : ∀ i : Nat, wrN ρ R d g i ≤ 4 ^ i
  | 0 => Nat.le_refl _
  | i + 1 => by
    have h1 := wr_le (R := R) (d := d) (g := g) hw i
    have h2 := wrC_le (R := R) (d := d) (i := i) hw
    have h3 : (if bitN g i = 1 then wrC ρ R d i else 4 - wrC ρ R d i) ≤ 4 := by split <;> omega
    have := Nat.mul_le_mul h1 h3
    rw [Nat.pow_succ]; exact this
theorem p4_le {n : Nat} (hn : n ≤ 7) : 4 ^ n ≤ 16384 := by
  have := Nat.pow_le_pow_right (n := 4) (by decide) hn
  exact Nat.le_trans this (by decide)
theorem p2_le {n : Nat} (hn : n ≤ 7) : 2 ^ n ≤ 128 := by
  have := Nat.pow_le_pow_right (n := 2) (by decide) hn
  exact Nat.le_trans this (by decide)
noncomputable def brN (ρ : RA) (κ : KA) (R : Nat → Option Nat) (n : Nat) : Nat := sumN (fun g => if goN ρ κ R g n = n then wgN ρ κ.date g n else 0) (2 ^ n)
noncomputable def bqN (ρ : RA) (κ : KA) (R : Nat → Option Nat) (n : Nat) : Nat := sumN (fun g => if goN ρ κ R g n = n then wrN ρ R κ.date g n else 0) (2 ^ n)
theorem br_le {ρ : RA} {κ : KA} {R : Nat → Option Nat} {n m : Nat} (hw : RW ρ) (hn : n ≤ 7) : sumN (fun g => if goN ρ κ R g n = n then wgN ρ κ.date g n else 0) m ≤ m * 16384 := sumN_le (fun g _ => by
  have h1 := wg_le (d := κ.date) (g := g) hw n
  have h2 := p4_le hn
  show (if goN ρ κ R g n = n then wgN ρ κ.date g n else 0) ≤ 16384
  split <;> omega)
theorem bq_le {ρ : RA} {κ : KA} {R : Nat → Option Nat} {n m : Nat} (hw : RW ρ) (hn : n ≤ 7) : sumN (fun g => if goN ρ κ R g n = n then wrN ρ R κ.date g n else 0) m ≤ m * 16384 := sumN_le (fun g _ => by
  have h1 := wr_le (R := R) (d := κ.date) (g := g) hw n
  have h2 := p4_le hn
  show (if goN ρ κ R g n = n then wrN ρ R κ.date g n else 0) ≤ 16384
  split <;> omega)
-- the two sums are the same
theorem sumN_split (f : Nat → Nat) (a : Nat) : ∀ b : Nat, sumN f (a + b) = sumN f a + sumN (fun i => f (a + i)) b
  | 0 => rfl
  | b + 1 => by
    show sumN f (a + b) + f (a + b) = _
    rw [sumN_split f a b]
    show _ = sumN f a + (sumN (fun i => f (a + i)) b + f (a + b))
    omega
theorem sumN_plus (f g : Nat → Nat) : ∀ n : Nat, sumN f n + sumN g n = sumN (fun i => f i + g i) n
  | 0 => rfl
  | n + 1 => by
    have := sumN_plus f g n
    show sumN f n + f n + (sumN g n + g n) = sumN (fun i => f i + g i) n + (f n + g n)
    omega
theorem bit_hi {n g : Nat} (h : g < 2 ^ n) : bitN (2 ^ n + g) n = 1 := by
  unfold bitN
  rw [Nat.add_div_left _ (Nat.two_pow_pos n), Nat.div_eq_of_lt h]
theorem bit_lo {n g : Nat} (h : g < 2 ^ n) : bitN g n = 0 := by
  unfold bitN
  rw [Nat.div_eq_of_lt h]
theorem bit_add {n g i : Nat} (h : i < n) : bitN (2 ^ n + g) i = bitN g i := by
  unfold bitN
  obtain ⟨d, rfl⟩ : ∃ d : Nat, n = i + 1 + d := ⟨n - (i + 1), by omega⟩
  have e : 2 ^ (i + 1 + d) = 2 ^ i * (2 * 2 ^ d) := by rw [Nat.pow_add, Nat.pow_succ, Nat.mul_assoc]
  rw [e, Nat.mul_add_div (Nat.two_pow_pos i)]
  omega
theorem wg_bits {ρ : RA} {d g g' : Nat} : ∀ i : Nat, (∀ j : Nat, j < i → bitN g j = bitN g' j) → wgN ρ d g i = wgN ρ d g' i
  | 0, _ => rfl
  | i + 1, h => by
    unfold wgN
    rw [wg_bits i (fun j hj => h j (by omega)), h i (by omega)]
theorem wr_bits {ρ : RA} {R : Nat → Option Nat} {d g g' : Nat} : ∀ i : Nat, (∀ j : Nat, j < i → bitN g j = bitN g' j) → wrN ρ R d g i = wrN ρ R d g' i
  | 0, _ => rfl
  | i + 1, h => by
    unfold wrN
    rw [wr_bits i (fun j hj => h j (by omega)), h i (by omega)]
theorem bear_sum {ρ : RA} {R : Nat → Option Nat} {d : Nat} (hw : RW ρ) : ∀ (n : Nat) (f : Nat → Nat), (∀ g g' : Nat, g < 2 ^ n → g' < 2 ^ n → (∀ i : Nat, i < n → R i ≠ none → bitN g i = bitN g' i) → f g = f g') → sumN (fun g => wgN ρ d g n * f g) (2 ^ n) = sumN (fun g => wrN ρ R d g n * f g) (2 ^ n)
  | 0, f, _ => rfl
  | n + 1, f, hf => by
    have e2 : 2 ^ (n + 1) = 2 ^ n + 2 ^ n := by rw [Nat.pow_succ]; omega
    rw [e2, sumN_split, sumN_split, sumN_plus, sumN_plus]
    have hc := ch_le (d := d + n) hw
    have hcr := wrC_le (R := R) (d := d) (i := n) hw
    have l1 : sumN (fun g => wgN ρ d g (n + 1) * f g + wgN ρ d (2 ^ n + g) (n + 1) * f (2 ^ n + g)) (2 ^ n) = sumN (fun g => wgN ρ d g n * ((4 - chN ρ (d + n)) * f g + chN ρ (d + n) * f (2 ^ n + g))) (2 ^ n) := sumN_congr (fun g hg => by
      show wgN ρ d g (n + 1) * f g + wgN ρ d (2 ^ n + g) (n + 1) * f (2 ^ n + g) = _
      have a1 : wgN ρ d g (n + 1) = wgN ρ d g n * (4 - chN ρ (d + n)) := by
        rw [wgN, if_neg (by rw [bit_lo hg]; decide)]
      have a2 : wgN ρ d (2 ^ n + g) (n + 1) = wgN ρ d g n * chN ρ (d + n) := by
        rw [wgN, if_pos (bit_hi hg), wg_bits (g := 2 ^ n + g) (g' := g) n (fun j hj => bit_add hj)]
      rw [a1, a2, Nat.mul_add, Nat.mul_assoc, Nat.mul_assoc])
    have l2 : sumN (fun g => wrN ρ R d g (n + 1) * f g + wrN ρ R d (2 ^ n + g) (n + 1) * f (2 ^ n + g)) (2 ^ n) = sumN (fun g => wrN ρ R d g n * ((4 - wrC ρ R d n) * f g + wrC ρ R d n * f (2 ^ n + g))) (2 ^ n) := sumN_congr (fun g hg => by
      show wrN ρ R d g (n + 1) * f g + wrN ρ R d (2 ^ n + g) (n + 1) * f (2 ^ n + g) = _
      have a1 : wrN ρ R d g (n + 1) = wrN ρ R d g n * (4 - wrC ρ R d n) := by
        rw [wrN, if_neg (by rw [bit_lo hg]; decide)]
      have a2 : wrN ρ R d (2 ^ n + g) (n + 1) = wrN ρ R d g n * wrC ρ R d n := by
        rw [wrN, if_pos (bit_hi hg), wr_bits (g := 2 ^ n + g) (g' := g) n (fun j hj => bit_add hj)]
      rw [a1, a2, Nat.mul_add, Nat.mul_assoc, Nat.mul_assoc])
    rw [l1, l2]
    have fin : sumN (fun g => wgN ρ d g n * ((4 - chN ρ (d + n)) * f g + chN ρ (d + n) * f (2 ^ n + g))) (2 ^ n) = sumN (fun g => wgN ρ d g n * ((4 - wrC ρ R d n) * f g + wrC ρ R d n * f (2 ^ n + g))) (2 ^ n) := by
      by_cases c : R n = none
      · refine sumN_congr (fun g hg => ?_)
        have ef : f (2 ^ n + g) = f g := hf _ _ (by omega) (by omega) (fun i hi hne => by
          by_cases q : i = n
          · rw [q, c] at hne; exact absurd rfl hne
          · exact bit_add (by omega))
        have ec : wrC ρ R d n = 0 := by unfold wrC; rw [if_pos c]
        show wgN ρ d g n * _ = wgN ρ d g n * _
        rw [ef, ec, ← Nat.add_mul, ← Nat.add_mul, Nat.sub_add_cancel hc]
      · have ec : wrC ρ R d n = chN ρ (d + n) := by unfold wrC; rw [if_neg c]
        rw [ec]
    rw [fin]
    refine bear_sum hw n (fun g => (4 - wrC ρ R d n) * f g + wrC ρ R d n * f (2 ^ n + g)) (fun g g' hg hg' hb => ?_)
    show (4 - wrC ρ R d n) * f g + wrC ρ R d n * f (2 ^ n + g) = (4 - wrC ρ R d n) * f g' + wrC ρ R d n * f (2 ^ n + g')
    have f1 : f g = f g' := hf _ _ (by omega) (by omega) (fun i hi hne => by
      by_cases q : i = n
      · rw [q, bit_lo hg, bit_lo hg']
      · exact hb i (by omega) hne)
    have f2 : f (2 ^ n + g) = f (2 ^ n + g') := hf _ _ (by omega) (by omega) (fun i hi hne => by
      by_cases q : i = n
      · rw [q, bit_hi hg, bit_hi hg']
      · rw [bit_add (by omega), bit_add (by omega)]; exact hb i (by omega) hne)
    rw [f1, f2]
theorem kAt_bits {ρ : RA} {κ : KA} {R : Nat → Option Nat} {g g' : Nat} : ∀ i : Nat, (∀ j : Nat, j < i → R j ≠ none → bitN g j = bitN g' j) → kAt ρ κ R g i = kAt ρ κ R g' i
  | 0, _ => rfl
  | i + 1, h => by
    have e := kAt_bits (ρ := ρ) (κ := κ) i (fun j hj hne => h j (by omega) hne)
    unfold kAt
    rw [e]
    cases c : R i with
    | none => rfl
    | some s => rw [h i (by omega) (by rw [c]; exact Option.some_ne_none s)]
theorem whyAt_bits {ρ : RA} {κ : KA} {R : Nat → Option Nat} {g g' n i : Nat} (hi : i < n) (h : ∀ j : Nat, j < n → R j ≠ none → bitN g j = bitN g' j) : whyAt ρ κ R g i = whyAt ρ κ R g' i := by
  unfold whyAt
  cases c : R i with
  | none => rfl
  | some s =>
    show whyN ρ (kAt ρ κ R g i) s (bitN g i) = whyN ρ (kAt ρ κ R g' i) s (bitN g' i)
    rw [kAt_bits i (fun j hj hne => h j (by omega) hne), h i hi (by rw [c]; exact Option.some_ne_none s)]
theorem goF_bits {ρ : RA} {κ : KA} {R : Nat → Option Nat} {g g' n : Nat} (h : ∀ j : Nat, j < n → R j ≠ none → bitN g j = bitN g' j) : ∀ f i : Nat, i + f ≤ n → goF ρ κ R g f i = goF ρ κ R g' f i
  | 0, _, _ => rfl
  | f + 1, i, hi => by
    unfold goF
    rw [whyAt_bits (by omega) h, goF_bits h f (i + 1) (by omega)]
theorem br_eq {ρ : RA} {κ : KA} {R : Nat → Option Nat} {n : Nat} (hw : RW ρ) : brN ρ κ R n = bqN ρ κ R n := by
  have := bear_sum (R := R) (d := κ.date) hw n (fun g => if goN ρ κ R g n = n then 1 else 0) (fun g g' _ _ h => by
    show (if goN ρ κ R g n = n then 1 else 0) = (if goN ρ κ R g' n = n then 1 else 0)
    have : goN ρ κ R g n = goN ρ κ R g' n := goF_bits h n 0 (by omega)
    rw [this])
  unfold brN bqN
  rw [sumN_congr (f := fun g => if goN ρ κ R g n = n then wgN ρ κ.date g n else 0) (g := fun g => wgN ρ κ.date g n * (if goN ρ κ R g n = n then 1 else 0)) (fun g _ => by
    show (if goN ρ κ R g n = n then wgN ρ κ.date g n else 0) = wgN ρ κ.date g n * (if goN ρ κ R g n = n then 1 else 0)
    split
    · rw [Nat.mul_one]
    · rw [Nat.mul_zero]), this]
  refine sumN_congr (fun g _ => ?_)
  show wrN ρ R κ.date g n * (if goN ρ κ R g n = n then 1 else 0) = (if goN ρ κ R g n = n then wrN ρ R κ.date g n else 0)
  split
  · rw [Nat.mul_one]
  · rw [Nat.mul_zero]
-- the class's
theorem c_chance {μ : Mem} {r d : Nat} {ρ : RA} {Q : Int32 → Mem → Prop} (hR : CR μ r ρ) (hd : d < 2 ^ 31) (h : Q (nI (chN ρ d)) μ) : PX2_chanceOfGuests r (nI d) μ Q := by
  have m7 : d % 7 < 7 := Nat.mod_lt _ (by decide)
  unfold PX2_chanceOfGuests
  refine c_mod7 hd ⟨vp_in_nI (by omega) (by omega), ?_⟩
  rw [nI_clamp (by omega), hR.2.2.2.2.2.2.2.2 _ m7]
  exact h
theorem c_weightOf {μ : Mem} {r d n g : Nat} {ρ : RA} {Q : Int32 → Mem → Prop} (hR : CR μ r ρ) (hw : RW ρ) (hd : d ≤ 1000000) (hn : n ≤ 7) (hg : g < 2 ^ 31) (h : Q (nI (wgN ρ d g n)) μ) : PX5_weightOf r (nI d) (nI n) (nI g) μ Q := by
  intro S hS
  have key : ∀ i : Nat, i ≤ n → S (nI (wgN ρ d g i)) (nI i) μ := by
    refine up_pure ?_ ?_
    · intro i hi ih
      have hc := ch_le (d := d + i) hw
      apply hS
      unfold nX5_weightOf_6 nX5_weightOf_42
      rw [nI_add]
      refine ⟨fun c => absurd c (nI_ge hi (by omega)), fun _ => ?_⟩
      refine c_chance hR (by omega) ?_
      have ew : wgN ρ d g (i + 1) = wgN ρ d g i * (if bitN g i = 1 then chN ρ (d + i) else 4 - chN ρ (d + i)) := rfl
      simp (disch := omega) only [jl_0, jl_1, jl_2, jl_3, jl_4, jl_5, jl_6, jl_7, jl_8, jl_9, jl_10, jl_11, jl_12, jl_13, jl_14, jl_15, jl_16, jl_17, jl_18, jl_19, jl_20, jl_21, jl_22, jl_23, jl_24, jl_25, jl_26, jl_27, jl_28, jl_29, jl_30, jl_31, jl_32, jl_33, jl_34, jl_35, jl_36, jl_37, jl_38, jl_39, jl_40, jl_41, jl_42, jl_43, jl_44, jl_45, jl_46, jl_47, jl_48, jl_49, jl_50, jl_51, jl_52, jl_53, jl_54, jl_55, jl_56, jl_57, jl_58, jl_59, jl_60, jl_61, jl_62, jl_63, jl_64, jl_97, jl_99, jl_100, jl_112, jl_122, jl_127, jl_240, jl_273, jl_274, jl_275, jl_280, jl_316, jl_317, jl_320, jl_400, jl_m1, jl_m4, dI_s2, nI_add, pk_mul, nI_clamp, nI_leI, nI_ltI, nI_eq, vn_in, pk_rem, jb_0, jb_1, jl_n40, jl_n40', true_and, and_true, true_implies, false_implies, not_true_eq_false, not_false_eq_true, implies_true, jl_z1, Nat.reduceEqDiff, Nat.reduceLeDiff, Nat.reduceLT, Nat.le_refl, Nat.lt_irrefl, Nat.zero_le, Nat.not_lt_zero, eq_self, Decidable.not_not, pk_sub]
      refine ⟨fun c => ?_, fun c => ?_⟩
      · rw [ew, if_neg c] at ih; exact ih
      · rw [ew, if_pos c] at ih; exact ih
    · apply hS
      unfold nX5_weightOf_6
      exact ⟨fun _ => h, fun c => absurd (nI_le (Nat.le_refl _) (by omega)) c⟩
  exact key 0 (Nat.zero_le _)
theorem c_bearing {μ : Mem} {b r k a n n3 B D : Nat} {κ : KA} {ρ : RA} {R : Nat → Option Nat} {Q : Int32 → Mem → Prop} (hK : KC μ k κ) (hk : KW κ B D) (hB : B ≤ 80000) (hD : D ≤ 90000) (hR : CR μ r ρ) (hw : RW ρ) (hn : n ≤ n3) (hn3 : n3 ≤ 7) (hrow : ∀ i : Nat, i < n → μ.1 a i = oI (R i)) (hrs : ∀ i s : Nat, i < n → R i = some s → s < 9) (hrb : r + 12 ≤ b) (hkb : k + 4 ≤ b) (hab : a < b) (h : ∀ m : Mem, FI b (b + 5) μ m → Q (nI (brN ρ κ R n)) m) : PX5_bearing b r k a n3 (nI n) μ Q := by
  intro S hS
  have hp := p2_le (n := n) (by omega)
  have key : ∀ g m, g ≤ 2 ^ n → FI b (b + 5) μ m → S (nI (sumN (fun g => if goN ρ κ R g n = n then wgN ρ κ.date g n else 0) g)) (nI g) m := by
    refine up_loop ?_ ?_
    · intro g m hg hf ih
      have hRm := CR_fr hR hf (by omega)
      have hKm := KC_fr hK hf (by omega)
      have hdate := hk.2.1
      have hrm : ∀ i : Nat, i < n → m.1 a i = oI (R i) := fun i hi => (hf.1 a (by omega) i).trans (hrow i hi)
      have hwl := wg_le (d := κ.date) (g := g) hw n
      have h4 := p4_le (n := n) (by omega)
      apply hS
      unfold nX5_bearing_6 nX5_bearing_57
      rw [show ((1 : Int32) <<< (nI n &&& 31)) = nI (2 ^ n) from jsh (by omega), nI_1 g, hKm.2.2.1]
      refine ⟨fun c => absurd c (nI_ge hg (by omega)), fun _ => ?_⟩
      refine c_weightOf hRm hw (by omega) (by omega) (by omega) ⟨fun c => ?_, fun c => ?_⟩
      · have c2 : wgN ρ κ.date g n = 0 := by
          have := (nI_leI (b := 0) (by omega) (by omega)).1 c
          omega
        have := ih m hf
        have e : sumN (fun g => if goN ρ κ R g n = n then wgN ρ κ.date g n else 0) (g + 1) = sumN (fun g => if goN ρ κ R g n = n then wgN ρ κ.date g n else 0) g := by
          show _ + (if goN ρ κ R g n = n then wgN ρ κ.date g n else 0) = _
          rw [c2]; split <;> rfl
        rw [e] at this; exact this
      · refine c_go hKm hk hB hD hRm hw hn hn3 (by omega) hrm hrs hrb hkb hab (fun m2 hf2 _ _ => ?_)
        have hgo := goN_le (ρ := ρ) (κ := κ) (R := R) (g := g) (n := n)
        have := ih m2 (FI_trans hf hf2)
        have e : sumN (fun g => if goN ρ κ R g n = n then wgN ρ κ.date g n else 0) (g + 1) = sumN (fun g => if goN ρ κ R g n = n then wgN ρ κ.date g n else 0) g + (if goN ρ κ R g n = n then wgN ρ κ.date g n else 0) := rfl
        rw [e] at this
        rw [nI_eq (by omega) (by omega)]
        refine ⟨fun q => ?_, fun q => ?_⟩
        · rw [if_neg q] at this; exact this
        · rw [if_pos q] at this; rw [nI_add]; exact this
    · intro m hf
      apply hS
      unfold nX5_bearing_6
      rw [show ((1 : Int32) <<< (nI n &&& 31)) = nI (2 ^ n) from jsh (by omega)]
      exact ⟨fun _ => h m hf, fun c => absurd (nI_le (Nat.le_refl _) (by omega)) c⟩
  exact key 0 μ (Nat.zero_le _) FI_refl
set_option maxHeartbeats 1000000 in
theorem r_bearsNow {μ : Mem} {n B D : Nat} {κ : KA} {ρ : RA} {R : Nat → Option Nat} {Q : Int32 → Mem → Prop} (hK : KM μ 280 κ) (hk : KW κ B D) (hB : B ≤ 80000) (hD : D ≤ 90000) (hR : MR μ ρ) (hw : RW ρ) (hn : n ≤ 7) (hl : μ.1 100 37 = nI n) (hrow : ∀ i : Nat, i < n → μ.1 118 i = oI (R i)) (hrs : ∀ i s : Nat, i < n → R i = some s → s < ρ 0 4) (h : ∀ m : Mem, FR μ m → Q (nI (bqN ρ κ R n)) m) : PX7_bearsNow 100 μ Q := by
  intro S4 S19 h4 h19
  have hp := p2_le hn
  have s9 := hw.2.1
  have key : ∀ g m, g ≤ 2 ^ n → FR μ m → S4 (nI (sumN (fun g => if goN ρ κ R g n = n then wrN ρ R κ.date g n else 0) g)) (nI g) m := by
    refine up_loop ?_ ?_
    · intro g m hg hf ih
      have hRm := MR_r hR hf
      have hKm := KM_r hK hf (by omega)
      have hdate := hk.2.1
      have hrm : ∀ i : Nat, i < n → m.1 118 i = oI (R i) := fun i hi => (hf.1 118 i (by decide) (by decide) (by simp) (by simp)).trans (hrow i hi)
      have hlm : m.1 100 37 = nI n := (hf.1 100 37 (by decide) (by decide) (by decide) (by decide)).trans hl
      have hwl := wr_le (R := R) (d := κ.date) (g := g) hw n
      have hp4 := p4_le hn
      have inner : ∀ i : Nat, i ≤ n → S19 (nI (sumN (fun g => if goN ρ κ R g n = n then wrN ρ R κ.date g n else 0) g)) (nI g) (nI (wrN ρ R κ.date g i)) (nI i) m := by
        refine up_pure ?_ ?_
        · intro i hi ih2
          have er : m.1 (100 + 18) i = oI (R i) := hrm i hi
          have hc := ch_le (d := κ.date + i) hw
          have hcr := wrC_le (R := R) (d := κ.date) (i := i) hw
          have m7 : (κ.date + i) % 7 < 7 := Nat.mod_lt _ (by decide)
          have ew : wrN ρ R κ.date g (i + 1) = wrN ρ R κ.date g i * (if bitN g i = 1 then wrC ρ R κ.date i else 4 - wrC ρ R κ.date i) := rfl
          have fin : nX7_bearsNow_63 100 Q S4 S19 (nI (sumN (fun g => if goN ρ κ R g n = n then wrN ρ R κ.date g n else 0) g)) (nI g) (nI (wrN ρ R κ.date g i)) (nI i) (nI (wrC ρ R κ.date i)) m := by
            unfold nX7_bearsNow_63 nX7_bearsNow_85
            rw [ew] at ih2
            simp (disch := omega) only [jl_0, jl_1, jl_2, jl_3, jl_4, jl_5, jl_6, jl_7, jl_8, jl_9, jl_10, jl_11, jl_12, jl_13, jl_14, jl_15, jl_16, jl_17, jl_18, jl_19, jl_20, jl_21, jl_22, jl_23, jl_24, jl_25, jl_26, jl_27, jl_28, jl_29, jl_30, jl_31, jl_32, jl_33, jl_34, jl_35, jl_36, jl_37, jl_38, jl_39, jl_40, jl_41, jl_42, jl_43, jl_44, jl_45, jl_46, jl_47, jl_48, jl_49, jl_50, jl_51, jl_52, jl_53, jl_54, jl_55, jl_56, jl_57, jl_58, jl_59, jl_60, jl_61, jl_62, jl_63, jl_64, jl_97, jl_99, jl_100, jl_112, jl_122, jl_127, jl_240, jl_273, jl_274, jl_275, jl_280, jl_316, jl_317, jl_320, jl_400, jl_m1, jl_m4, dI_s2, nI_add, pk_mul, nI_clamp, nI_leI, nI_ltI, nI_eq, vn_in, pk_rem, jb_0, jb_1, jl_n40, jl_n40', true_and, and_true, true_implies, false_implies, not_true_eq_false, not_false_eq_true, implies_true, jl_z1, Nat.reduceEqDiff, Nat.reduceLeDiff, Nat.reduceLT, Nat.le_refl, Nat.lt_irrefl, Nat.zero_le, Nat.not_lt_zero, eq_self, Decidable.not_not, pk_sub]
            refine ⟨fun c => ?_, fun c => ?_⟩
            · rw [if_neg c] at ih2; exact ih2
            · rw [if_pos c] at ih2; exact ih2
          apply h19
          unfold nX7_bearsNow_19
          have e316 : m.1 (100 + 14) (316 : Int32).toNatClampNeg = nI κ.date := hKm.2.2.1
          have e7 : (7 : Int32) = nI 7 := rfl
          rw [hlm, nI_clamp (n := i) (by omega), er, e316, nI_add κ.date i, e7, pk_rem (by omega) (by omega) (by omega), nI_clamp (n := (κ.date + i) % 7) (by omega)]
          refine ⟨fun c => absurd c (nI_ge hi (by omega)), fun _ => ⟨vp_in_nI (by omega) (by omega), ?_⟩⟩
          cases e : R i with
          | none =>
            have : wrC ρ R κ.date i = 0 := by unfold wrC; rw [if_pos e]
            rw [this] at fin
            exact ⟨fun c => absurd rfl c, fun _ => fin⟩
          | some s =>
            have hs4 := hrs i s hi e
            have : wrC ρ R κ.date i = chN ρ (κ.date + i) := by unfold wrC; rw [if_neg (by rw [e]; exact Option.some_ne_none s)]
            rw [this] at fin
            have e5 : m.1 (100 + 5) ((κ.date + i) % 7) = nI (chN ρ (κ.date + i)) := hRm.2.2.2.2.2.2.2.2 _ m7
            rw [e5]
            exact ⟨fun _ => ⟨vp_in_nI (n := 316) (by omega) (by omega), vp_in_nI (by omega) (by omega), fin⟩, fun c => absurd c (nI_ne4 (by omega))⟩
        · apply h19
          unfold nX7_bearsNow_19 nX7_bearsNow_114 nX7_bearsNow_115
          rw [hlm, nI_1, show (0 : Int32) = nI 0 from rfl, nI_add]
          refine ⟨fun _ => ⟨fun c => ?_, fun c => ?_⟩, fun c => absurd (nI_le (Nat.le_refl _) (by omega)) c⟩
          · have c2 : wrN ρ R κ.date g n = 0 := by
              have := (nI_leI (b := 0) (by omega) (by omega)).1 c
              omega
            have := ih m hf
            have e : sumN (fun g => if goN ρ κ R g n = n then wrN ρ R κ.date g n else 0) (g + 1) = sumN (fun g => if goN ρ κ R g n = n then wrN ρ R κ.date g n else 0) g := by
              show _ + (if goN ρ κ R g n = n then wrN ρ R κ.date g n else 0) = _
              rw [c2]; split <;> rfl
            rw [e] at this; exact this
          · refine r_runs hKm hk hB hD hRm hw hn hlm (by omega) hrm hrs (fun m2 hf2 _ _ => ?_)
            have hlm2 : m2.1 100 37 = nI n := (hf2.1 100 37 (by decide) (by decide) (by decide) (by decide)).trans hlm
            have hgo := goN_le (ρ := ρ) (κ := κ) (R := R) (g := g) (n := n)
            have := ih m2 (FR_trans hf hf2)
            have e : sumN (fun g => if goN ρ κ R g n = n then wrN ρ R κ.date g n else 0) (g + 1) = sumN (fun g => if goN ρ κ R g n = n then wrN ρ R κ.date g n else 0) g + (if goN ρ κ R g n = n then wrN ρ R κ.date g n else 0) := rfl
            rw [e] at this
            rw [hlm2, nI_eq (by omega) (by omega)]
            refine ⟨fun q => ?_, fun q => ?_⟩
            · rw [if_neg q] at this; exact this
            · rw [if_pos q] at this; rw [nI_add]; exact this
      apply h4
      unfold nX7_bearsNow_4
      rw [hlm, show ((1 : Int32) <<< (nI n &&& 31)) = nI (2 ^ n) from jsh (by omega)]
      exact ⟨fun c => absurd c (nI_ge hg (by omega)), fun _ => inner 0 (Nat.zero_le _)⟩
    · intro m hf
      have hlm : m.1 100 37 = nI n := (hf.1 100 37 (by decide) (by decide) (by decide) (by decide)).trans hl
      apply h4
      unfold nX7_bearsNow_4
      rw [hlm, show ((1 : Int32) <<< (nI n &&& 31)) = nI (2 ^ n) from jsh (by omega)]
      exact ⟨fun _ => h m hf, fun c => absurd (nI_le (Nat.le_refl _) (by omega)) c⟩
  exact key 0 μ (Nat.zero_le _) FR_refl
-- lowest terms
theorem c_lowestTerms {μ : Mem} {w n : Nat} {p : Int32} {Q : Int32 → Mem → Prop} (hn : n ≤ 7) (hw : w ≤ 100000000) (h0 : p = 0 → Q (nI (w / Nat.gcd w (2 ^ (2 * n)))) μ) (h1 : ¬ p = 0 → Q (nI (2 ^ (2 * n) / Nat.gcd w (2 ^ (2 * n)))) μ) : PX6_lowestTerms (nI w) (nI n) p μ Q := by
  intro S hS
  have fin : ∀ a j : Nat, j ≤ 14 → a / Nat.gcd a (2 ^ j) = w / Nat.gcd w (2 ^ (2 * n)) → 2 ^ j / Nat.gcd a (2 ^ j) = 2 ^ (2 * n) / Nat.gcd w (2 ^ (2 * n)) → Nat.gcd a (2 ^ j) = 1 → nX6_lowestTerms_34 (nI w) (nI n) p Q S (nI a) (nI (2 ^ j)) μ := by
    intro a j _ e1 e2 e3
    rw [e3, Nat.div_one] at e1 e2
    unfold nX6_lowestTerms_34
    rw [← e1] at h0
    rw [← e2] at h1
    exact ⟨h1, h0⟩
  have key : ∀ j a : Nat, j ≤ 14 → a ≤ 100000000 → a / Nat.gcd a (2 ^ j) = w / Nat.gcd w (2 ^ (2 * n)) → 2 ^ j / Nat.gcd a (2 ^ j) = 2 ^ (2 * n) / Nat.gcd w (2 ^ (2 * n)) → S (nI a) (nI (2 ^ j)) μ := by
    intro j
    induction j with
    | zero =>
      intro a _ ha e1 e2
      apply hS
      unfold nX6_lowestTerms_9
      exact ⟨fun _ => fin a 0 (by omega) e1 e2 (Nat.gcd_one_right a), fun c => absurd (by decide) c⟩
    | succ j ih =>
      intro a hj ha e1 e2
      have hp : 2 ^ j ≤ 16384 := Nat.le_trans (Nat.pow_le_pow_right (by decide) (show j ≤ 14 by omega)) (by decide)
      have hp1 := Nat.two_pow_pos j
      have ep : 2 ^ (j + 1) = 2 * 2 ^ j := by rw [Nat.pow_succ, Nat.mul_comm]
      apply hS
      unfold nX6_lowestTerms_9
      rw [show (2 : Int32) = nI 2 from rfl, pk_rem (by omega) (by omega) (by omega), pk_div (by omega) (by omega) (by omega), pk_div (by omega) (by omega) (by omega)]
      refine ⟨fun c => ?_, fun _ => ⟨fun c => ?_, fun c => ?_⟩⟩
      · have := (nI_leI (b := 1) (by omega) (by omega)).1 c
        omega
      · have c2 : a % 2 = 1 := by
          have := Nat.mod_lt a (show 0 < 2 by decide)
          have : ¬ a % 2 = 0 := fun z => c (by rw [z]; rfl)
          omega
        have g1 : Nat.Coprime a 2 := by
          show Nat.gcd a 2 = 1
          rw [Nat.gcd_comm, Nat.gcd_rec, c2]
          exact Nat.gcd_one_left 2
        exact fin a (j + 1) hj e1 e2 (Nat.Coprime.pow_right _ g1)
      · have c2 : a % 2 = 0 := (nI_eq (b := 0) (by have := Nat.mod_lt a (show 0 < 2 by decide); omega) (by omega)).1 c
        have ea : a = 2 * (a / 2) := by omega
        have e3 : 2 ^ (j + 1) / 2 = 2 ^ j := by omega
        rw [e3]
        have eg : Nat.gcd a (2 ^ (j + 1)) = 2 * Nat.gcd (a / 2) (2 ^ j) := by
          rw [ep]; conv => lhs; rw [ea]
          exact Nat.gcd_mul_left 2 (a / 2) (2 ^ j)
        rw [eg] at e1 e2
        refine ih (a / 2) (by omega) (by omega) ?_ ?_
        · rw [← e1]; conv => rhs; lhs; rw [ea]
          rw [Nat.mul_div_mul_left _ _ (by decide)]
        · rw [← e2, ep, Nat.mul_div_mul_left _ _ (by decide)]
  have := key (2 * n) w (by omega) hw rfl rfl
  rw [show (2 : Int32) * nI n = nI (2 * n) from pk_mul 2 n, show ((1 : Int32) <<< (nI (2 * n) &&& 31)) = nI (2 ^ (2 * n)) from jsh (by omega)]
  exact this
theorem r_told {μ : Mem} {w e : Nat} {p : Int32} {Q : Int32 → Mem → Prop} (hw : w ≤ 100000000) (he0 : 0 < e) (he : e ≤ 100000000) (h0 : p = 0 → Q (nI (w / Nat.gcd w e)) μ) (h1 : ¬ p = 0 → Q (nI (e / Nat.gcd w e)) μ) : PX7_told (nI w) (nI e) p μ Q := by
  intro S hS
  have key : ∀ y x : Nat, y ≤ 100000000 → x ≤ 100000000 → Nat.gcd x y = Nat.gcd w e → S (nI x) (nI y) μ := by
    intro y
    induction y using Nat.strongRecOn with
    | _ y ih =>
      intro x hy hx hg
      apply hS
      unfold nX7_told_5
      by_cases c0 : y = 0
      · subst c0
        rw [Nat.gcd_zero_right] at hg
        have hx0 : 0 < x := by rw [hg]; exact Nat.gcd_pos_of_pos_right w he0
        rw [pk_div (by omega) hx0 (by omega), pk_div (by omega) hx0 (by omega), hg]
        exact ⟨fun _ => ⟨fun c => ⟨by rw [← hg]; exact nI_ne0 hx0 (by omega), h1 c⟩, fun c => ⟨by rw [← hg]; exact nI_ne0 hx0 (by omega), h0 c⟩⟩, fun c => absurd rfl c⟩
      · have hm : x % y < y := Nat.mod_lt _ (by omega)
        rw [pk_rem (by omega) (by omega) (by omega)]
        refine ⟨fun c => absurd c (nI_ne0 (by omega) (by omega)), fun c => ⟨c, ?_⟩⟩
        refine ih (x % y) hm y (by omega) hy ?_
        rw [← hg, Nat.gcd_comm y, ← Nat.gcd_rec, Nat.gcd_comm]
  exact key w e hw he (Nat.gcd_comm e w)
