theorem cz0 : (0 : Int32).toNatClampNeg = 0 := rfl
theorem cz6 : (6 : Int32).toNatClampNeg = 6 := rfl
theorem cz7 : (7 : Int32).toNatClampNeg = 7 := rfl
theorem cz9 : (9 : Int32).toNatClampNeg = 9 := rfl
theorem cz54 : (54 : Int32).toNatClampNeg = 54 := rfl
set_option maxHeartbeats 2000000 in
theorem c_rcopy {μ : Mem} {b r : Nat} {ρ : RA} {Q : Mem → Prop} (hR : CR μ r ρ) (hd : r + 12 ≤ b ∨ b + 12 ≤ r) (t6 : ρ 0 0 ≤ 6) (h : ∀ m : Mem, CR m b ρ → FI b (b + 12) μ m → Q m) : PX2_copyFrom b r μ Q := by
  intro m1 hm1 m2 hm2 m3 hm3 m4 hm4 m5 hm5 m6 hm6 m7 hm7 m8 hm8 m9 hm9 m10 hm10 m11 hm11 m12 hm12
  rw [cz0, cz6] at hm1 hm2 hm3
  rw [cz0, cz9] at hm4 hm5 hm6 hm7 hm8
  rw [cz0, cz54] at hm9 hm10
  rw [cz0, cz7] at hm12
  have f1 : FI b (b + 12) μ m1 := by rw [hm1]; exact FI_trans (FI_ms (by omega) (by omega)) (FI_mr (by omega) (by omega))
  have f2 : FI b (b + 12) μ m2 := by rw [hm2]; exact FI_trans f1 (FI_mr (by omega) (by omega))
  have f3 : FI b (b + 12) μ m3 := by rw [hm3]; exact FI_trans f2 (FI_mr (by omega) (by omega))
  have f4 : FI b (b + 12) μ m4 := by rw [hm4]; exact FI_trans f3 (FI_trans (FI_ms (by omega) (by omega)) (FI_mr (by omega) (by omega)))
  have f5 : FI b (b + 12) μ m5 := by rw [hm5]; exact FI_trans f4 (FI_mr (by omega) (by omega))
  have f6 : FI b (b + 12) μ m6 := by rw [hm6]; exact FI_trans f5 (FI_mr (by omega) (by omega))
  have f7 : FI b (b + 12) μ m7 := by rw [hm7]; exact FI_trans f6 (FI_mr (by omega) (by omega))
  have f8 : FI b (b + 12) μ m8 := by rw [hm8]; exact FI_trans f7 (FI_mr (by omega) (by omega))
  have f9 : FI b (b + 12) μ m9 := by rw [hm9]; exact FI_trans f8 (FI_mr (by omega) (by omega))
  have f10 : FI b (b + 12) μ m10 := by rw [hm10]; exact FI_trans f9 (FI_mr (by omega) (by omega))
  have f11 : FI b (b + 12) μ m11 := by rw [hm11]; exact FI_trans f10 (FI_trans (FI_ms (by omega) (by omega)) (FI_ms (by omega) (by omega)))
  have f12 : FI b (b + 12) μ m12 := by rw [hm12]; exact FI_trans f11 (FI_trans (FI_ms (by omega) (by omega)) (FI_mr (by omega) (by omega)))
  have w1 : ∀ j : Nat, j < 6 → m12.1 (b + 1) j = μ.1 (r + 1) j := fun j hj => by
    simp (disch := omega) only [hm12, hm11, hm10, hm9, hm8, hm7, hm6, hm5, hm4, hm3, hm2, ms_1, mr_1, ite_true, ite_false, if_neg]
    simp (disch := omega) only [hm1, ms_1, mr_1, ite_true, ite_false, if_neg, sb_cpy0]
  have w2 : ∀ j : Nat, j < 6 → m12.1 (b + 2) j = μ.1 (r + 2) j := fun j hj => by
    simp (disch := omega) only [hm12, hm11, hm10, hm9, hm8, hm7, hm6, hm5, hm4, hm3, ms_1, mr_1, ite_true, ite_false, if_neg]
    simp (disch := omega) only [hm2, ms_1, mr_1, ite_true, ite_false, if_neg, sb_cpy0]
    exact f1.1 _ (by omega) j
  have w3 : ∀ j : Nat, j < 6 → m12.1 (b + 3) j = μ.1 (r + 3) j := fun j hj => by
    simp (disch := omega) only [hm12, hm11, hm10, hm9, hm8, hm7, hm6, hm5, hm4, ms_1, mr_1, ite_true, ite_false, if_neg]
    simp (disch := omega) only [hm3, ms_1, mr_1, ite_true, ite_false, if_neg, sb_cpy0]
    exact f2.1 _ (by omega) j
  have w4 : ∀ j : Nat, j < 9 → m12.1 (b + 4) j = μ.1 (r + 4) j := fun j hj => by
    simp (disch := omega) only [hm12, hm11, hm10, hm9, hm8, hm7, hm6, hm5, ms_1, mr_1, ite_true, ite_false, if_neg]
    simp (disch := omega) only [hm4, ms_1, mr_1, ite_true, ite_false, if_neg, sb_cpy0]
    exact f3.1 _ (by omega) j
  have w5 : ∀ j : Nat, j < 9 → m12.1 (b + 5) j = μ.1 (r + 5) j := fun j hj => by
    simp (disch := omega) only [hm12, hm11, hm10, hm9, hm8, hm7, hm6, ms_1, mr_1, ite_true, ite_false, if_neg]
    simp (disch := omega) only [hm5, ms_1, mr_1, ite_true, ite_false, if_neg, sb_cpy0]
    exact f4.1 _ (by omega) j
  have w6 : ∀ j : Nat, j < 9 → m12.1 (b + 6) j = μ.1 (r + 6) j := fun j hj => by
    simp (disch := omega) only [hm12, hm11, hm10, hm9, hm8, hm7, ms_1, mr_1, ite_true, ite_false, if_neg]
    simp (disch := omega) only [hm6, ms_1, mr_1, ite_true, ite_false, if_neg, sb_cpy0]
    exact f5.1 _ (by omega) j
  have w7 : ∀ j : Nat, j < 9 → m12.1 (b + 7) j = μ.1 (r + 7) j := fun j hj => by
    simp (disch := omega) only [hm12, hm11, hm10, hm9, hm8, ms_1, mr_1, ite_true, ite_false, if_neg]
    simp (disch := omega) only [hm7, ms_1, mr_1, ite_true, ite_false, if_neg, sb_cpy0]
    exact f6.1 _ (by omega) j
  have w8 : ∀ j : Nat, j < 9 → m12.1 (b + 8) j = μ.1 (r + 8) j := fun j hj => by
    simp (disch := omega) only [hm12, hm11, hm10, hm9, ms_1, mr_1, ite_true, ite_false, if_neg]
    simp (disch := omega) only [hm8, ms_1, mr_1, ite_true, ite_false, if_neg, sb_cpy0]
    exact f7.1 _ (by omega) j
  have w9 : ∀ j : Nat, j < 54 → m12.1 (b + 9) j = μ.1 (r + 9) j := fun j hj => by
    simp (disch := omega) only [hm12, hm11, hm10, ms_1, mr_1, ite_true, ite_false, if_neg]
    simp (disch := omega) only [hm9, ms_1, mr_1, ite_true, ite_false, if_neg, sb_cpy0]
    exact f8.1 _ (by omega) j
  have w10 : ∀ j : Nat, j < 54 → m12.1 (b + 10) j = μ.1 (r + 10) j := fun j hj => by
    simp (disch := omega) only [hm12, hm11, ms_1, mr_1, ite_true, ite_false, if_neg]
    simp (disch := omega) only [hm10, ms_1, mr_1, ite_true, ite_false, if_neg, sb_cpy0]
    exact f9.1 _ (by omega) j
  have w11 : ∀ j : Nat, j < 7 → m12.1 (b + 11) j = μ.1 (r + 11) j := fun j hj => by
    simp (disch := omega) only [hm12, ms_1, mr_1, ite_true, ite_false, if_neg, sb_cpy0]
    exact f11.1 _ (by omega) j
  have v0 : m12.1 b 0 = μ.1 r 0 := by
    simp (disch := omega) only [hm12, hm11, hm10, hm9, hm8, hm7, hm6, hm5, hm4, hm3, hm2, ms_1, mr_1, ite_true, ite_false, if_neg]
    simp (disch := omega) only [hm1, ms_1, mr_1, ite_true, ite_false, if_neg, if_pos]
  have v4 : m12.1 b 4 = μ.1 r 4 := by
    simp (disch := omega) only [hm12, hm11, hm10, hm9, hm8, hm7, hm6, hm5, ms_1, mr_1, ite_true, ite_false, if_neg]
    simp (disch := omega) only [hm4, ms_1, mr_1, ite_true, ite_false, if_neg, if_pos]
    exact f3.1 _ (by omega) 4
  have v12 : m12.1 b 12 = μ.1 r 12 := by
    simp (disch := omega) only [hm12, ms_1, mr_1, ite_true, ite_false, if_neg]
    simp (disch := omega) only [hm11, ms_1, mr_1, ite_true, ite_false, if_neg, if_pos]
    exact f10.1 _ (by omega) 12
  have v13 : m12.1 b 13 = μ.1 r 13 := by
    simp (disch := omega) only [hm12, ms_1, mr_1, ite_true, ite_false, if_neg]
    simp (disch := omega) only [hm11, ms_1, mr_1, ite_true, ite_false, if_neg, if_pos]
    exact f10.1 _ (by omega) 13
  have v14 : m12.1 b 14 = μ.1 r 14 := by
    simp (disch := omega) only [hm12, ms_1, mr_1, ite_true, ite_false, if_neg, if_pos]
    exact f11.1 _ (by omega) 14
  obtain ⟨h1, h2, h3, h4, h5, h6, h7, h8, h9⟩ := hR
  refine h m12 ⟨v0.trans h1, v4.trans h2, v12.trans h3, v13.trans h4, v14.trans h5, fun t ht => ?_, fun s hs => ?_, fun i hi => ?_, fun w hw => (w11 w hw).trans (h9 w hw)⟩ f12
  · obtain ⟨q1, q2, q3⟩ := h6 t ht
    exact ⟨(w1 t (by omega)).trans q1, (w2 t (by omega)).trans q2, (w3 t (by omega)).trans q3⟩
  · obtain ⟨q1, q2, q3, q4, q5⟩ := h7 s hs
    exact ⟨(w4 s hs).trans q1, (w5 s hs).trans q2, (w6 s hs).trans q3, (w7 s hs).trans q4, (w8 s hs).trans q5⟩
  · obtain ⟨q1, q2⟩ := h8 i hi
    exact ⟨(w9 i hi).trans q1, (w10 i hi).trans q2⟩
-- a small dish more
def dishR (ρ : RA) (t : Nat) : RA := fun f i => if f = 0 ∧ i = 4 then ρ 0 4 + 1 else if f = 4 ∧ i = ρ 0 4 then 1 else if f = 9 ∧ i = 6 * ρ 0 4 + t then 1 else ρ f i
theorem dish_0 {ρ : RA} {t i : Nat} (h : i ≠ 4) : dishR ρ t 0 i = ρ 0 i := by
  unfold dishR; rw [if_neg (by omega), if_neg (by omega), if_neg (by omega)]
theorem dish_4 {ρ : RA} {t : Nat} : dishR ρ t 0 4 = ρ 0 4 + 1 := if_pos ⟨rfl, rfl⟩
theorem dish_o {ρ : RA} {t f i : Nat} (h1 : f ≠ 0) (h2 : f ≠ 4) (h3 : f ≠ 9) : dishR ρ t f i = ρ f i := by
  unfold dishR; rw [if_neg (by omega), if_neg (by omega), if_neg (by omega)]
theorem dish_k {ρ : RA} {t i : Nat} : dishR ρ t 4 i = if i = ρ 0 4 then 1 else ρ 4 i := by
  unfold dishR
  rw [if_neg (by omega)]
  by_cases c : i = ρ 0 4
  · rw [if_pos ⟨rfl, c⟩, if_pos c]
  · rw [if_neg (by omega), if_neg (by omega), if_neg c]
theorem dish_w {ρ : RA} {t i : Nat} : dishR ρ t 9 i = if i = 6 * ρ 0 4 + t then 1 else ρ 9 i := by
  unfold dishR
  rw [if_neg (by omega), if_neg (by omega)]
  by_cases c : i = 6 * ρ 0 4 + t
  · rw [if_pos ⟨rfl, c⟩, if_pos c]
  · rw [if_neg (by omega), if_neg c]
theorem dish_RW {ρ : RA} {t : Nat} (hw : RW ρ) (h8 : ρ 0 4 ≤ 8) (ht : t < 6) : RW (dishR ρ t) := by
  obtain ⟨h1, h2, h3, h4, h5, h6, h7, h9, h10, h11, h12⟩ := hw
  refine ⟨?_, ?_, ?_, ?_, ?_, fun q hq => ?_, fun s => ?_, fun s hs => ?_, fun i => ?_, fun i hi => ?_, fun w hw => ?_⟩
  · rw [dish_0 (by omega)]; exact h1
  · rw [dish_4]; omega
  · rw [dish_0 (by omega)]; exact h3
  · rw [dish_0 (by omega)]; exact h4
  · rw [dish_0 (by omega)]; exact h5
  · rw [dish_0 (by omega)] at hq
    rw [dish_o (by omega) (by omega) (by omega), dish_o (by omega) (by omega) (by omega), dish_o (by omega) (by omega) (by omega)]
    exact h6 q hq
  · rw [dish_k, dish_o (by omega) (by omega) (by omega), dish_o (by omega) (by omega) (by omega), dish_o (by omega) (by omega) (by omega), dish_o (by omega) (by omega) (by omega)]
    obtain ⟨q1, q2⟩ := h7 s
    refine ⟨?_, q2⟩
    split <;> omega
  · rw [dish_4] at hs
    rw [dish_k, if_neg (by omega), dish_o (by omega) (by omega) (by omega), dish_o (by omega) (by omega) (by omega), dish_o (by omega) (by omega) (by omega), dish_o (by omega) (by omega) (by omega)]
    exact h9 s (by omega)
  · rw [dish_w, dish_o (by omega) (by omega) (by omega)]
    obtain ⟨q1, q2⟩ := h10 i
    refine ⟨?_, q2⟩
    split <;> omega
  · rw [dish_4] at hi
    rw [dish_w, if_neg (by omega), dish_o (by omega) (by omega) (by omega)]
    exact h11 i (by omega)
  · rw [dish_o (by omega) (by omega) (by omega)]; exact h12 w hw
theorem c_copyDish {μ : Mem} {ρ : RA} {t : Nat} {Q : Mem → Prop} (hC0 : CR μ 1 ρ) (hw : RW ρ) (h8 : ρ 0 4 ≤ 8) (ht : t < 6) (h0 : ∀ m' : Mem, CR m' 13 (dishR ρ t) → FI 13 25 μ m' → Q m') : PX2_copyWithSmallDish 13 1 (nI t) μ Q := by
  unfold PX2_copyWithSmallDish
  refine c_rcopy (b := 13) (r := 1) hC0 (by omega) hw.1 (fun m hC fc => ?_)
  have h : ∀ m' : Mem, CR m' 13 (dishR ρ t) → FI 13 25 m m' → Q m' := fun m' c f => h0 m' c (FI_trans fc f)
  have e4 : m.1 13 4 = nI (ρ 0 4) := hC.2.1
  rw [e4]
  refine ⟨fun _ => ⟨vp_in_nI (by omega) (by omega), ?_⟩, fun c => absurd (nI_le (b := 8) h8 (by omega)) c⟩
  rw [nI_clamp (n := ρ 0 4) (by omega)]
  have e4' : (ms m (13 + 4) (ρ 0 4) 1).1 13 4 = nI (ρ 0 4) := by rw [ms_1, if_neg (by decide)]; exact e4
  rw [e4', show nI (ρ 0 4) * (6 : Int32) = nI (ρ 0 4 * 6) from pk_mul _ 6, nI_add, nI_clamp (by omega)]
  refine ⟨vp_in_nI (by omega) (by omega), fun m2 hm2 => ?_⟩
  have e42 : m2.1 13 4 = nI (ρ 0 4) := by rw [hm2, ms_1, if_neg (by decide)]; exact e4'
  rw [e42, nI_1]
  obtain ⟨h1, h2, h3, h4, h5, h6, h7, h9, h10⟩ := hC
  have f : ∀ a j : Nat, (a = 13 → j ≠ 4) → (a = 17 → j ≠ ρ 0 4) → (a = 22 → j ≠ ρ 0 4 * 6 + t) → (ms m2 13 4 (nI (ρ 0 4 + 1))).1 a j = m.1 a j := fun a j q1 q2 q3 => by
    rw [ms_1]
    by_cases c : a = 13
    · rw [if_pos c, if_neg (q1 c), hm2, ms_1, if_neg (by omega), ms_1, if_neg (by omega)]
    · rw [if_neg c, hm2, ms_1]
      by_cases c2 : a = 13 + 9
      · rw [if_pos c2, if_neg (q3 (by omega)), ms_1, if_neg (by omega)]
      · rw [if_neg c2, ms_1]
        by_cases c3 : a = 13 + 4
        · rw [if_pos c3, if_neg (q2 (by omega))]
        · rw [if_neg c3]
  have z17 : (ms m2 13 4 (nI (ρ 0 4 + 1))).1 17 (ρ 0 4) = nI 1 := by
    rw [ms_1, if_neg (by decide), hm2, ms_1, if_neg (by decide)]
    show (ms m 17 (ρ 0 4) 1).1 17 (ρ 0 4) = nI 1
    rw [ms_1, if_pos rfl, if_pos rfl]; rfl
  have z22 : (ms m2 13 4 (nI (ρ 0 4 + 1))).1 22 (ρ 0 4 * 6 + t) = nI 1 := by
    rw [ms_1, if_neg (by decide), hm2]
    show (ms (ms m (13 + 4) (ρ 0 4) 1) 22 (ρ 0 4 * 6 + t) 1).1 22 (ρ 0 4 * 6 + t) = nI 1
    rw [ms_1, if_pos rfl, if_pos rfl]; rfl
  refine h _ ⟨?_, ?_, ?_, ?_, ?_, fun q hq => ?_, fun s hs => ?_, fun i hi => ?_, fun w hw => ?_⟩ ⟨fun a q j => f a j (by omega) (by omega) (by omega), by rw [ms_2, hm2, ms_2, ms_2]⟩
  · rw [dish_0 (by omega), f 13 0 (by decide) (by simp) (by simp)]; exact h1
  · rw [dish_4, ms_1, if_pos rfl, if_pos rfl]
  · rw [dish_0 (by omega), f 13 12 (by decide) (by simp) (by simp)]; exact h3
  · rw [dish_0 (by omega), f 13 13 (by decide) (by simp) (by simp)]; exact h4
  · rw [dish_0 (by omega), f 13 14 (by decide) (by simp) (by simp)]; exact h5
  · rw [dish_0 (by omega)] at hq
    rw [dish_o (by omega) (by omega) (by omega), dish_o (by omega) (by omega) (by omega), dish_o (by omega) (by omega) (by omega), f (13 + 1) q (by simp) (by simp) (by simp), f (13 + 2) q (by simp) (by simp) (by simp), f (13 + 3) q (by simp) (by simp) (by simp)]
    exact h6 q hq
  · obtain ⟨q1, q2, q3, q4, q5⟩ := h7 s hs
    rw [dish_k, dish_o (by omega) (by omega) (by omega), dish_o (by omega) (by omega) (by omega), dish_o (by omega) (by omega) (by omega), dish_o (by omega) (by omega) (by omega), f (13 + 5) s (by simp) (by simp) (by simp), f (13 + 6) s (by simp) (by simp) (by simp), f (13 + 7) s (by simp) (by simp) (by simp), f (13 + 8) s (by simp) (by simp) (by simp)]
    refine ⟨?_, q2, q3, q4, q5⟩
    by_cases c : s = ρ 0 4
    · rw [if_pos c, c]; exact z17
    · rw [if_neg c, f (13 + 4) s (by simp) (fun _ => c) (by simp)]; exact q1
  · obtain ⟨q1, q2⟩ := h9 i hi
    rw [dish_w, dish_o (by omega) (by omega) (by omega), f (13 + 10) i (by simp) (by simp) (by simp)]
    refine ⟨?_, q2⟩
    by_cases c : i = 6 * ρ 0 4 + t
    · rw [if_pos c, c, Nat.mul_comm 6]; exact z22
    · rw [if_neg c, f (13 + 9) i (by simp) (by simp) (fun _ => by omega)]; exact q1
  · rw [dish_o (by omega) (by omega) (by omega), f (13 + 11) w (by simp) (by simp) (by simp)]
    exact h10 w hw
noncomputable def dishN (ρ : RA) (κ : KA) (t n : Nat) : Nat := (closL (dishR ρ t) κ n (rowsN (dishR ρ t) κ n)).length
theorem dishN_le {ρ : RA} {κ : KA} {t n : Nat} (hw : RW ρ) (h8 : ρ 0 4 ≤ 8) (ht : t < 6) (hn : n ≤ 5) : dishN ρ κ t n ≤ 60000 := Nat.le_trans closL_len (rowsN_len (κ := κ) (dish_RW hw h8 ht) hn)
def FJd (μ m : Mem) : Prop := ∀ a j : Nat, (a < 13 ∨ 25 ≤ a) → (a < 60 ∨ 96 ≤ a) → m.1 a j = μ.1 a j
theorem c_dish {m : Mem} {ρ : RA} {κ : KA} {t n k : Nat} {Q : Mem → Prop} (hC : CR m 1 ρ) (hw : RW ρ) (h8 : ρ 0 4 ≤ 8) (ht : t < 6) (kc : KC m 40 κ) (kw : KW κ (9 + 6 * k) k) (hk : k ≤ 600) (hn0 : 1 ≤ n) (hn : n ≤ 5) (h : ∀ m' : Mem, FJd m m' → m'.1 (0 + 60) 15 = nI (dishN ρ κ t n) → Q m') : PX2_copyWithSmallDish (0 + 13) (0 + 1) (nI t) m (fun m6 => PX3_lookAtRows (0 + 60) (0 + 13) (0 + 40) (nI n) (0 : Int32) m6 Q) := by
  refine c_copyDish hC hw h8 ht (fun m2 c2 f2 => ?_)
  have kc2 := KC_of kc (m := m2) (fun a j _ _ => f2.1 a (by omega) j)
  refine c_look (w := 0) (ρ := dishR ρ t) (κ := κ) c2 (by omega) (dish_RW hw h8 ht) kc2 kw (by omega) (by omega) hn0 hn (by omega) (fun m3 f3 a => ?_)
  exact h m3 (fun a j q1 q2 => by rw [f3 a j (by omega), f2.1 a (by omega)]) a.2.2.2.1.1
/-- what the reference's small dish writes -/
def FDr (μ m : Mem) : Prop := ∀ a j : Nat, a ≠ 102 → a ≠ 103 → a ≠ 104 → a ≠ 116 → a ≠ 117 → a ≠ 119 → a ≠ 120 → (a = 100 → j < 41 ∨ 51 < j) → (a = 114 → 280 ≤ j) → m.1 a j = μ.1 a j
set_option maxHeartbeats 2000000 in
theorem r_dish {m : Mem} {ρ : RA} {κ : KA} {t n k : Nat} {Q : Int32 → Mem → Prop} (hM : MR m ρ) (hw : RW ρ) (h8 : ρ 0 4 ≤ 8) (ht : t < ρ 0 0) (km : KM m 280 κ) (kw : KW κ (9 + 6 * k) k) (hk : k ≤ 600) (hla : ∀ s d : Nat, κ.la s = some d → s < ρ 0 4) (hn0 : 1 ≤ n) (hn : n ≤ 5) (h : ∀ m' : Mem, FDr m m' → MR m' ρ → Q (nI (dishN ρ κ t n)) m') : PX7_closingWith 100 (nI t) (nI n) m Q := by
  have t6 := hw.1
  intro S8 S56 h8' h56
  have e2 : m.1 100 2 = nI (ρ 0 4) := hM.2.1
  rw [e2]
  have hlaN : κ.la (ρ 0 4) = none := by
    cases e : κ.la (ρ 0 4) with
    | none => rfl
    | some d => exact absurd (hla _ d e) (Nat.lt_irrefl _)
  -- wants and leaves
  have portions : ∀ q m1, q ≤ 6 → ((∀ a j : Nat, a ≠ 102 → a ≠ 103 → a ≠ 104 → m1.1 a j = m.1 a j) ∧ (∀ j : Nat, j < 5 * ρ 0 4 → m1.1 102 j = m.1 102 j) ∧ m1.1 102 (5 * ρ 0 4) = nI 1 ∧ m1.1 102 (5 * ρ 0 4 + 1) = nI 0 ∧ m1.1 102 (5 * ρ 0 4 + 2) = nI 0 ∧ m1.1 102 (5 * ρ 0 4 + 3) = nI 0 ∧ m1.1 102 (5 * ρ 0 4 + 4) = nI (2 ^ t) ∧ (∀ j : Nat, j < 6 * ρ 0 4 → m1.1 103 j = m.1 103 j ∧ m1.1 104 j = m.1 104 j) ∧ (∀ i : Nat, i < q → m1.1 103 (6 * ρ 0 4 + i) = nI (if i = t then 1 else 0) ∧ m1.1 104 (6 * ρ 0 4 + i) = nI 0)) → S56 (nI (ρ 0 4)) (nI q) m1 := by
    refine up_loop ?_ ?_
    · intro q m1 hq ⟨b1, b2, b3, b4, b5, b6, b7, b8, b9⟩ ih
      have go : ∀ w : Nat, w = (if q = t then 1 else 0) → nX7_closingWith_85 100 (nI t) (nI n) Q S8 S56 (nI (ρ 0 4)) (nI q) (nI w) (nI (6 * ρ 0 4 + q)) m1 := by
        intro w hw2
        unfold nX7_closingWith_85
        rw [show (6 : Int32) * nI (ρ 0 4) = nI (6 * ρ 0 4) from pk_mul 6 _, nI_add, nI_clamp (by omega), nI_1 q]
        refine ⟨vp_in_nI (by omega) (by omega), vp_in_nI (by omega) (by omega), fun m9 hm9 => ih m9 ?_⟩
        have g1 : ∀ a j : Nat, a ≠ 103 → a ≠ 104 → m9.1 a j = m1.1 a j := fun a j q1 q2 => by
          rw [hm9, ms_1, if_neg (by omega), ms_1, if_neg (by omega)]
        have g3 : ∀ j : Nat, m9.1 103 j = if j = 6 * ρ 0 4 + q then nI w else m1.1 103 j := fun j => by
          rw [hm9, ms_1, if_neg (by decide)]
          show (ms m1 103 (6 * ρ 0 4 + q) (nI w)).1 103 j = _
          rw [ms_1, if_pos rfl]
        have g4 : ∀ j : Nat, m9.1 104 j = if j = 6 * ρ 0 4 + q then nI 0 else m1.1 104 j := fun j => by
          rw [hm9]
          show (ms (ms m1 (100 + 3) (6 * ρ 0 4 + q) (nI w)) 104 (6 * ρ 0 4 + q) 0).1 104 j = _
          rw [ms_1, if_pos rfl]
          by_cases c : j = 6 * ρ 0 4 + q
          · rw [if_pos c, if_pos c]; rfl
          · rw [if_neg c, if_neg c, ms_1, if_neg (by decide)]
        refine ⟨fun a j q1 q2 q3 => (g1 a j q2 q3).trans (b1 a j q1 q2 q3), fun j hj => (g1 _ _ (by decide) (by decide)).trans (b2 j hj), (g1 _ _ (by decide) (by decide)).trans b3, (g1 _ _ (by decide) (by decide)).trans b4, (g1 _ _ (by decide) (by decide)).trans b5, (g1 _ _ (by decide) (by decide)).trans b6, (g1 _ _ (by decide) (by decide)).trans b7, fun j hj => ?_, fun i hi => ?_⟩
        · rw [g3, g4, if_neg (by omega), if_neg (by omega)]; exact b8 j hj
        · rw [g3, g4]
          by_cases c : i = q
          · rw [c, if_pos rfl, if_pos rfl, hw2]; exact ⟨rfl, rfl⟩
          · rw [if_neg (show ¬ 6 * ρ 0 4 + i = 6 * ρ 0 4 + q by omega), if_neg (show ¬ 6 * ρ 0 4 + i = 6 * ρ 0 4 + q by omega)]; exact b9 i (by omega)
      apply h56
      unfold nX7_closingWith_56
      rw [show (6 : Int32) * nI (ρ 0 4) + nI q = nI (6 * ρ 0 4 + q) by rw [show (6 : Int32) * nI (ρ 0 4) = nI (6 * ρ 0 4) from pk_mul 6 _, nI_add], nI_eq (by omega) (by omega)]
      refine ⟨fun c => absurd c (nI_ge (b := 6) hq (by omega)), fun _ => ⟨fun c => go 0 (by rw [if_neg c]), fun c => go 1 (by rw [if_pos c])⟩⟩
    · intro m1 ⟨b1, b2, b3, b4, b5, b6, b7, b8, b9⟩
      apply h56
      unfold nX7_closingWith_56
      refine ⟨fun _ => ?_, fun c => absurd (by decide) c⟩
      rw [show (304 : Int32) + nI (ρ 0 4) = nI (304 + ρ 0 4) from nI_add 304 _, nI_clamp (by omega)]
      refine ⟨vp_in_nI (by omega) (by omega), fun m5 hm5 => ?_⟩
      have e42 : (ms m1 (100 + 14) (304 + ρ 0 4) (-4)).1 100 2 = nI (ρ 0 4) := by
        rw [ms_1, if_neg (by decide), b1 100 2 (by decide) (by decide) (by decide)]; exact e2
      rw [e42, nI_1] at hm5
      have old : m.1 114 (304 + ρ 0 4) = -4 := by
        have := km.2.1 (ρ 0 4) (by omega)
        rw [hlaN] at this; exact this
      have g : ∀ a j : Nat, a ≠ 102 → a ≠ 103 → a ≠ 104 → (a = 100 → j ≠ 2) → m5.1 a j = m.1 a j := fun a j q1 q2 q3 q4 => by
        rw [hm5, ms_1]
        by_cases c : a = 100
        · rw [if_pos c, if_neg (q4 c), ms_1, if_neg (by omega)]; exact b1 a j q1 q2 q3
        · rw [if_neg c, ms_1]
          by_cases c2 : a = 100 + 14
          · by_cases c3 : j = 304 + ρ 0 4
            · rw [if_pos c2, if_pos c3, c2, c3]; exact old.symm
            · rw [if_pos c2, if_neg c3]; exact b1 a j q1 q2 q3
          · rw [if_neg c2]; exact b1 a j q1 q2 q3
      have g102 : ∀ j : Nat, m5.1 102 j = m1.1 102 j := fun j => by rw [hm5, ms_1, if_neg (by decide), ms_1, if_neg (by decide)]
      have g103 : ∀ j : Nat, m5.1 103 j = m1.1 103 j := fun j => by rw [hm5, ms_1, if_neg (by decide), ms_1, if_neg (by decide)]
      have g104 : ∀ j : Nat, m5.1 104 j = m1.1 104 j := fun j => by rw [hm5, ms_1, if_neg (by decide), ms_1, if_neg (by decide)]
      have x2 : m5.1 100 2 = nI (ρ 0 4 + 1) := by rw [hm5, ms_1, if_pos rfl, if_pos rfl]
      obtain ⟨q1, q2, q3, q4, q5, q6, q7, q8, q9⟩ := id hM
      have hbits : bitsW (dishR ρ t) (ρ 0 4) (ρ 0 0) = 2 ^ t := by
        have lo : ∀ i : Nat, i ≤ t → bitsW (dishR ρ t) (ρ 0 4) i = 0 := by
          intro i
          induction i with
          | zero => intro _; rfl
          | succ i ihi =>
            intro hi
            unfold bitsW
            rw [ihi (by omega), dish_w, if_neg (show ¬ 6 * ρ 0 4 + i = 6 * ρ 0 4 + t by omega), (hw.2.2.2.2.2.2.2.2.2.1 (6 * ρ 0 4 + i) (by omega)).1]
            rfl
        have hi : ∀ i : Nat, bitsW (dishR ρ t) (ρ 0 4) (t + 1 + i) = 2 ^ t := by
          intro i
          induction i with
          | zero =>
            show bitsW (dishR ρ t) (ρ 0 4) t + (if 0 < dishR ρ t 9 (6 * ρ 0 4 + t) then 2 ^ t else 0) = 2 ^ t
            rw [lo t (Nat.le_refl _), dish_w, if_pos rfl]
            simp
          | succ i ihi =>
            show bitsW (dishR ρ t) (ρ 0 4) (t + 1 + i) + (if 0 < dishR ρ t 9 (6 * ρ 0 4 + (t + 1 + i)) then 2 ^ (t + 1 + i) else 0) = 2 ^ t
            rw [ihi, dish_w, if_neg (show ¬ 6 * ρ 0 4 + (t + 1 + i) = 6 * ρ 0 4 + t by omega), (hw.2.2.2.2.2.2.2.2.2.1 (6 * ρ 0 4 + (t + 1 + i)) (by omega)).1]
            rfl
        have := hi (ρ 0 0 - (t + 1))
        rw [show t + 1 + (ρ 0 0 - (t + 1)) = ρ 0 0 by omega] at this
        exact this
      have bw : ∀ s : Nat, s < ρ 0 4 → ∀ i : Nat, i ≤ 6 → bitsW (dishR ρ t) s i = bitsW ρ s i := by
        intro s hs i
        induction i with
        | zero => intro _; rfl
        | succ i ihi =>
          intro hi
          unfold bitsW
          rw [ihi (by omega), dish_w, if_neg (show ¬ 6 * s + i = 6 * ρ 0 4 + t by omega)]
      have hM5 : MR m5 (dishR ρ t) := by
        refine ⟨?_, ?_, ?_, ?_, ?_, fun x hx => ?_, fun s hs => ?_, fun i hi => ?_, fun w hw' => ?_⟩
        · rw [dish_0 (by omega), g 100 0 (by decide) (by decide) (by decide) (by decide)]; exact q1
        · rw [dish_4]; exact x2
        · rw [dish_0 (by omega), g 100 6 (by decide) (by decide) (by decide) (by decide)]; exact q3
        · rw [dish_0 (by omega), g 100 7 (by decide) (by decide) (by decide) (by decide)]; exact q4
        · rw [dish_0 (by omega), g 100 8 (by decide) (by decide) (by decide) (by decide)]; exact q5
        · rw [dish_0 (by omega)] at hx
          rw [dish_o (by omega) (by omega) (by omega), dish_o (by omega) (by omega) (by omega), dish_o (by omega) (by omega) (by omega), g 101 _ (by decide) (by decide) (by decide) (by simp), g 101 _ (by decide) (by decide) (by decide) (by simp), g 101 _ (by decide) (by decide) (by decide) (by simp)]
          exact q6 x hx
        · rw [dish_4] at hs
          rw [g102, g102, g102, g102, g102, dish_k, dish_o (by omega) (by omega) (by omega), dish_o (by omega) (by omega) (by omega), dish_o (by omega) (by omega) (by omega)]
          by_cases c : s = ρ 0 4
          · obtain ⟨w1, w2, w3, w4, w5⟩ := hw.2.2.2.2.2.2.2.1 s (by omega)
            rw [if_pos c, w2, w3, w4]
            have : thgN (dishR ρ t) s = 2 ^ t := by
              unfold thgN
              rw [dish_k, if_pos c, if_neg (by decide), dish_0 (by omega), c]; exact hbits
            rw [this, c]
            exact ⟨b3, b4, b5, b6, b7⟩
          · rw [if_neg c, b2 _ (by omega), b2 _ (by omega), b2 _ (by omega), b2 _ (by omega), b2 _ (by omega)]
            have : thgN (dishR ρ t) s = thgN ρ s := by
              unfold thgN
              rw [dish_k, if_neg c, dish_o (by omega) (by omega) (by omega), dish_0 (by omega), bw s (by omega) _ (by omega)]
            rw [this]
            exact q7 s (by omega)
        · rw [dish_4] at hi
          rw [g103, g104, dish_w, dish_o (by omega) (by omega) (by omega)]
          by_cases c : i < 6 * ρ 0 4
          · rw [if_neg (by omega), (b8 i c).1, (b8 i c).2]; exact q8 i c
          · obtain ⟨y1, y2⟩ := b9 (i - 6 * ρ 0 4) (by omega)
            rw [show 6 * ρ 0 4 + (i - 6 * ρ 0 4) = i by omega] at y1 y2
            rw [y1, y2, (hw.2.2.2.2.2.2.2.2.2.1 i (by omega)).2]
            refine ⟨?_, rfl⟩
            by_cases c2 : i = 6 * ρ 0 4 + t
            · rw [if_pos c2, if_pos (by omega)]
            · rw [if_neg c2, if_neg (by omega), (hw.2.2.2.2.2.2.2.2.2.1 i (by omega)).1]
        · rw [dish_o (by omega) (by omega) (by omega), g 105 _ (by decide) (by decide) (by decide) (by simp)]
          exact q9 w hw'
      have km5 := KM_of km (m := m5) (fun j _ => g 114 _ (by decide) (by decide) (by decide) (by simp))
      refine r_findClosing (ρ := dishR ρ t) (κ := κ) hM5 (dish_RW hw h8 (by omega)) km5 kw (by omega) (by omega) hn0 hn (fun m6 a => ?_)
      obtain ⟨f6, a1, _, _⟩ := a
      have x62 : m6.1 100 2 = nI (ρ 0 4 + 1) := (f6 100 2 (by decide) (by decide) (by decide) (by decide) (by decide) (by simp)).trans x2
      have es : nI (ρ 0 4 + 1) - (1 : Int32) = nI (ρ 0 4) := nI_pred _
      rw [x62, es]
      have x50 : (ms m6 100 2 (nI (ρ 0 4))).1 100 50 = nI (dishN ρ κ t n) := by rw [ms_1, if_pos rfl, if_neg (by decide)]; exact a1
      rw [x50]
      have fin : ∀ a j : Nat, a ≠ 116 → a ≠ 117 → a ≠ 119 → a ≠ 120 → (a = 100 → j ≠ 2 ∧ (j < 41 ∨ 51 < j)) → (a = 114 → 240 ≤ j) → (ms m6 100 2 (nI (ρ 0 4))).1 a j = m5.1 a j := fun a j z1 z2 z3 z4 z5 z6 => by
        rw [ms_1]
        by_cases c : a = 100
        · rw [if_pos c, if_neg (z5 c).1]; exact f6 a j z1 z2 z3 z4 (fun q => (z5 q).2) z6
        · rw [if_neg c]; exact f6 a j z1 z2 z3 z4 (fun q => (z5 q).2) z6
      refine h _ (fun a j z1 z2 z3 z4 z5 z6 z7 z8 z9 => ?_) ⟨?_, ?_, ?_, ?_, ?_, fun x hx => ?_, fun s hs => ?_, fun i hi => ?_, fun w hw' => ?_⟩
      · by_cases c : a = 100 ∧ j = 2
        · rw [c.1, c.2, ms_1, if_pos rfl, if_pos rfl]; exact e2.symm
        · rw [fin a j z4 z5 z6 z7 (fun y => by have := z8 y; omega) (fun y => by have := z9 y; omega)]
          exact g a j z1 z2 z3 (fun y => by omega)
      · rw [fin 100 0 (by decide) (by decide) (by decide) (by decide) (by decide) (by simp), g 100 0 (by decide) (by decide) (by decide) (by decide)]; exact q1
      · rw [ms_1, if_pos rfl, if_pos rfl]
      · rw [fin 100 6 (by decide) (by decide) (by decide) (by decide) (by decide) (by simp), g 100 6 (by decide) (by decide) (by decide) (by decide)]; exact q3
      · rw [fin 100 7 (by decide) (by decide) (by decide) (by decide) (by decide) (by simp), g 100 7 (by decide) (by decide) (by decide) (by decide)]; exact q4
      · rw [fin 100 8 (by decide) (by decide) (by decide) (by decide) (by decide) (by simp), g 100 8 (by decide) (by decide) (by decide) (by decide)]; exact q5
      · rw [fin 101 _ (by decide) (by decide) (by decide) (by decide) (by simp) (by simp), fin 101 _ (by decide) (by decide) (by decide) (by decide) (by simp) (by simp), fin 101 _ (by decide) (by decide) (by decide) (by decide) (by simp) (by simp), g 101 _ (by decide) (by decide) (by decide) (by simp), g 101 _ (by decide) (by decide) (by decide) (by simp), g 101 _ (by decide) (by decide) (by decide) (by simp)]
        exact q6 x hx
      · have z : ∀ j : Nat, j < 5 * ρ 0 4 → (ms m6 100 2 (nI (ρ 0 4))).1 102 j = m.1 102 j := fun j hj => by
          rw [fin 102 _ (by decide) (by decide) (by decide) (by decide) (by simp) (by simp), g102, b2 _ hj]
        rw [z _ (by omega), z _ (by omega), z _ (by omega), z _ (by omega), z _ (by omega)]
        exact q7 s hs
      · rw [fin 103 _ (by decide) (by decide) (by decide) (by decide) (by simp) (by simp), fin 104 _ (by decide) (by decide) (by decide) (by decide) (by simp) (by simp), g103, g104, (b8 i hi).1, (b8 i hi).2]
        exact q8 i hi
      · rw [fin 105 _ (by decide) (by decide) (by decide) (by decide) (by simp) (by simp), g 105 _ (by decide) (by decide) (by decide) (by simp)]
        exact q9 w hw'
  -- the supper's row
  have row : ∀ x m1, x ≤ 5 → ((∀ a j : Nat, a ≠ 102 → m1.1 a j = m.1 a j) ∧ (∀ j : Nat, j < 5 * ρ 0 4 → m1.1 102 j = m.1 102 j) ∧ (∀ i : Nat, i < x → m1.1 102 (5 * ρ 0 4 + i) = nI (if i = 0 then 1 else if i = 4 then 2 ^ t else 0))) → S8 (nI (ρ 0 4)) (nI x) m1 := by
    refine up_loop ?_ ?_
    · intro x m1 hx ⟨b1, b2, b3⟩ ih
      have go : ∀ w : Nat, w = (if x = 0 then 1 else if x = 4 then 2 ^ t else 0) → nX7_closingWith_46 100 (nI t) (nI n) Q S8 S56 (nI (ρ 0 4)) (nI x) (nI w) (nI (5 * ρ 0 4 + x)) m1 := by
        intro w hw2
        unfold nX7_closingWith_46
        rw [nI_clamp (by omega), nI_1 x]
        refine ⟨vp_in_nI (by omega) (by omega), ih _ ⟨fun a j q => ?_, fun j hj => ?_, fun i hi => ?_⟩⟩
        · rw [ms_1, if_neg (by omega)]; exact b1 a j q
        · show (ms m1 102 (5 * ρ 0 4 + x) (nI w)).1 102 j = _
          rw [ms_1, if_pos rfl, if_neg (by omega)]; exact b2 j hj
        · show (ms m1 102 (5 * ρ 0 4 + x) (nI w)).1 102 (5 * ρ 0 4 + i) = _
          rw [ms_1, if_pos rfl]
          by_cases c : i = x
          · rw [if_pos (by omega), hw2, c]
          · rw [if_neg (by omega)]; exact b3 i (by omega)
      have two : 2 ^ t ≤ 64 := Nat.le_trans (Nat.pow_le_pow_right (by decide) (show t ≤ 6 by omega)) (by decide)
      apply h8'
      unfold nX7_closingWith_8
      rw [show (5 : Int32) * nI (ρ 0 4) + nI x = nI (5 * ρ 0 4 + x) by rw [show (5 : Int32) * nI (ρ 0 4) = nI (5 * ρ 0 4) from pk_mul 5 _, nI_add], show ((1 : Int32) <<< (nI t &&& 31)) = nI (2 ^ t) from jsh (by omega)]
      refine ⟨fun c => absurd c (nI_ge (b := 5) hx (by omega)), fun _ => ⟨fun c => ⟨fun c2 => ?_, fun c2 => ?_⟩, fun c => ?_⟩⟩
      · have z1 : x ≠ 0 := fun z => c (by rw [z]; rfl)
        have z2 : x ≠ 4 := fun z => c2 (by rw [z]; rfl)
        exact go 0 (by rw [if_neg z1, if_neg z2])
      · have z2 : x = 4 := (nI_eq (b := 4) (by omega) (by omega)).1 c2
        exact go (2 ^ t) (by rw [if_neg (by omega), if_pos z2])
      · have z1 : x = 0 := (nI_eq (b := 0) (by omega) (by omega)).1 c
        exact go 1 (by rw [if_pos z1])
    · intro m1 ⟨b1, b2, b3⟩
      apply h8'
      unfold nX7_closingWith_8
      refine ⟨fun _ => ?_, fun c => absurd (by decide) c⟩
      have z0 := b3 0 (by omega)
      have z1 := b3 1 (by omega)
      have z2 := b3 2 (by omega)
      have z3 := b3 3 (by omega)
      have z4 := b3 4 (by omega)
      exact portions 0 m1 (by omega) ⟨fun a j q1 _ _ => b1 a j q1, b2, z0, z1, z2, z3, z4, fun j hj => ⟨b1 103 j (by decide), b1 104 j (by decide)⟩, fun i hi => absurd hi (Nat.not_lt_zero _)⟩
  exact row 0 m (by omega) ⟨fun _ _ _ => rfl, fun _ _ => rfl, fun i hi => absurd hi (Nat.not_lt_zero _)⟩
