theorem c_passNight {μ : Mem} {b r : Nat} {κ : KA} {ρ : RA} {Q : Int32 → Mem → Prop} (hK : KC μ b κ) (hR : CR μ r ρ) (hw : RW ρ) (hrb : r + 12 ≤ b) (h : ∀ m : Mem, KC m b (nightN ρ κ) → FI b (b + 4) μ m → Q (nI (ngT ρ κ.u (ρ 0 0)).2) m) : PX0_passNight b r μ Q := by
  intro S4 S15 h4 h15
  have t6 := hw.1
  have inner : ∀ t : Nat, t < ρ 0 0 → ∀ n : Nat, n ≤ 4 → ∀ (x : (Nat → Nat) × Nat) (m : Mem), KC m b (x.1, κ.2) → FI b (b + 4) μ m → (∀ m' : Mem, KC m' b ((ngA ρ t n x).1, κ.2) → FI b (b + 4) μ m' → S4 (nI (ngA ρ t n x).2) (nI (t + 1)) m') → S15 (nI x.2) (nI t) (dI n) m := by
    intro t ht n
    have k4 := (hw.2.2.2.2.2.1 t ht).1
    induction n with
    | zero =>
      intro _ x m hKm hf hx
      apply h15
      unfold nX0_passNight_15
      refine ⟨fun _ => ?_, fun c => absurd dI_neg c⟩
      rw [nI_1]; exact hx m hKm hf
    | succ n ih =>
      intro hn x m hKm hf hx
      have hRm := CR_fr hR hf (by omega)
      apply h15
      unfold nX0_passNight_15
      refine ⟨fun c => absurd c (dI_pos (by omega)), fun _ => ?_⟩
      rw [show dI (n + 1) = nI n from rfl]
      have e1 : m.1 (b + 1) (t * 4 + n) = nI (x.1 (t * 4 + n)) := hKm.1 (t * 4 + n) (by omega)
      have hK1 := KC_u (v := 0) hKm (show t * 4 + n < 24 by omega)
      have hf1 : FI b (b + 4) m (ms m (b + 1) (t * 4 + n) (nI 0)) := FI_ms (by omega) (by omega)
      have e2 := ((CR_fr hRm hf1 (by omega)).2.2.2.2.2.1 t ht).1
      simp (disch := omega) only [jl_0, jl_1, jl_2, jl_3, jl_4, jl_5, jl_6, jl_7, jl_8, jl_9, jl_10, jl_11, jl_12, jl_13, jl_14, jl_15, jl_16, jl_17, jl_18, jl_19, jl_20, jl_21, jl_22, jl_23, jl_24, jl_25, jl_26, jl_27, jl_28, jl_29, jl_30, jl_31, jl_32, jl_33, jl_34, jl_35, jl_36, jl_37, jl_38, jl_39, jl_40, jl_41, jl_42, jl_43, jl_44, jl_45, jl_46, jl_47, jl_48, jl_49, jl_50, jl_51, jl_52, jl_53, jl_54, jl_55, jl_56, jl_57, jl_58, jl_59, jl_60, jl_61, jl_62, jl_63, jl_64, jl_97, jl_99, jl_100, jl_112, jl_122, jl_127, jl_240, jl_273, jl_274, jl_275, jl_280, jl_316, jl_317, jl_320, jl_400, jl_m1, jl_m4, dI_s2, nI_add, pk_mul, nI_clamp, nI_leI, nI_ltI, nI_eq, vn_in, pk_rem, jb_0, jb_1, jl_n40, jl_n40', true_and, and_true, true_implies, false_implies, not_true_eq_false, not_false_eq_true, implies_true, jl_z1, Nat.reduceEqDiff, Nat.reduceLeDiff, Nat.reduceLT, Nat.le_refl, Nat.lt_irrefl, Nat.zero_le, Nat.not_lt_zero, eq_self, Decidable.not_not, e1, e2]
      refine ⟨by omega, by omega, by omega, fun c => ?_, fun c => ⟨by omega, fun m5 hm5 => ?_⟩⟩
      · unfold nX0_passNight_81
        rw [dI_s]
        have ex : ngA ρ t (n + 1) x = ngA ρ t n (fun i => if i = 4 * t + n then 0 else x.1 i, x.2 + x.1 (4 * t + n)) := by rw [ngA, if_neg (by omega)]
        rw [ex] at hx
        rw [Nat.mul_comm t 4] at hK1 hf1 ⊢
        exact ih (by omega) (fun i => if i = 4 * t + n then 0 else x.1 i, x.2 + x.1 (4 * t + n)) _ hK1 (FI_trans hf hf1) hx
      · unfold nX0_passNight_81
        rw [dI_s]
        have ex : ngA ρ t (n + 1) x = ngA ρ t n (fun i => if i = 4 * t + n + 1 then x.1 (4 * t + n) else if i = 4 * t + n then 0 else x.1 i, x.2) := by rw [ngA, if_pos (by omega)]
        rw [ex] at hx
        have hK2 := KC_u (v := x.1 (t * 4 + n)) hK1 (show t * 4 + n + 1 < 24 by omega)
        rw [Nat.mul_comm t 4] at hK2 hf1 hm5
        rw [← hm5] at hK2
        exact ih (by omega) (fun i => if i = 4 * t + n + 1 then x.1 (4 * t + n) else if i = 4 * t + n then 0 else x.1 i, x.2) _ hK2 (FI_trans (FI_trans hf hf1) (by rw [hm5]; exact FI_ms (by omega) (by omega))) hx
  have key : ∀ t m, t ≤ ρ 0 0 → (KC m b ((ngT ρ κ.u t).1, κ.2) ∧ FI b (b + 4) μ m) → S4 (nI (ngT ρ κ.u t).2) (nI t) m := by
    refine up_loop ?_ ?_
    · intro t m ht ⟨hKm, hf⟩ ih
      have hRm := CR_fr hR hf (by omega)
      apply h4
      unfold nX0_passNight_4
      rw [hRm.1]
      refine ⟨fun c => absurd c (nI_ge ht (by omega)), fun _ => ?_⟩
      exact inner t ht 4 (Nat.le_refl _) (ngT ρ κ.u t) m hKm hf (fun m' h1 h2 => ih m' ⟨h1, h2⟩)
    · intro m ⟨hKm, hf⟩
      have hRm := CR_fr hR hf (by omega)
      apply h4
      unfold nX0_passNight_4
      rw [hRm.1]
      refine ⟨fun _ m2 hm2 => ?_, fun c => absurd (nI_le (Nat.le_refl _) (by omega)) c⟩
      obtain ⟨h1, h2, h3, h4, h5, h6, h7⟩ := hKm
      refine h _ ?_ ?_
      · subst hm2
        refine ⟨fun i hi => ?_, fun q hq => ?_, ?_, ?_, ?_, ?_, ?_⟩
        · simp (disch := omega) only [ms_1, if_neg]; exact h1 i hi
        · simp (disch := omega) only [ms_1, if_neg]; exact h2 q hq
        · simp (disch := omega) only [ms_1, if_neg, if_pos]; rw [h3]; exact nI_1 _
        · simp (disch := omega) only [ms_1, if_neg, if_pos]; rfl
        · simp (disch := omega) only [ms_1, if_neg, if_pos]; exact h5
        · simp (disch := omega) only [ms_1, if_neg, if_pos]; rw [h6, nI_add]; rfl
        · simp (disch := omega) only [ms_1, if_neg, if_pos]; exact h7
      · refine FI_trans hf ?_
        subst hm2
        exact FI_trans (FI_trans (FI_ms (by omega) (by omega)) (FI_ms (by omega) (by omega))) (FI_ms (by omega) (by omega))
  exact key 0 μ (Nat.zero_le _) ⟨hK, FI_refl⟩
theorem c_unitsInAll {μ : Mem} {b : Nat} {κ : KA} {Q : Int32 → Mem → Prop} (hK : KC μ b κ) (h : Q (nI (sumN κ.u 24)) μ) : PX0_unitsInAll b μ Q := by
  intro S hS
  refine up_pure (n := 24) (T := fun i => S (nI (sumN κ.u i)) (nI i) μ) ?_ ?_ 0 (by omega)
  · intro i hi hn
    have e := hK.1 i hi
    apply hS
    unfold nX0_unitsInAll_4
    simp (disch := omega) only [jl_0, jl_1, jl_2, jl_3, jl_4, jl_5, jl_6, jl_7, jl_8, jl_9, jl_10, jl_11, jl_12, jl_13, jl_14, jl_15, jl_16, jl_17, jl_18, jl_19, jl_20, jl_21, jl_22, jl_23, jl_24, jl_25, jl_26, jl_27, jl_28, jl_29, jl_30, jl_31, jl_32, jl_33, jl_34, jl_35, jl_36, jl_37, jl_38, jl_39, jl_40, jl_41, jl_42, jl_43, jl_44, jl_45, jl_46, jl_47, jl_48, jl_49, jl_50, jl_51, jl_52, jl_53, jl_54, jl_55, jl_56, jl_57, jl_58, jl_59, jl_60, jl_61, jl_62, jl_63, jl_64, jl_97, jl_99, jl_100, jl_112, jl_122, jl_127, jl_240, jl_273, jl_274, jl_275, jl_280, jl_316, jl_317, jl_320, jl_400, jl_m1, jl_m4, dI_s2, nI_add, pk_mul, nI_clamp, nI_leI, nI_ltI, nI_eq, vn_in, pk_rem, jb_0, jb_1, jl_n40, jl_n40', true_and, and_true, true_implies, false_implies, not_true_eq_false, not_false_eq_true, implies_true, jl_z1, Nat.reduceEqDiff, Nat.reduceLeDiff, Nat.reduceLT, Nat.le_refl, Nat.lt_irrefl, Nat.zero_le, Nat.not_lt_zero, eq_self, Decidable.not_not, e]
    exact ⟨fun c => absurd c (by omega), fun _ => ⟨by omega, hn⟩⟩
  · apply hS
    unfold nX0_unitsInAll_4
    exact ⟨fun _ => h, fun c => absurd (by decide) c⟩
def sameU (κ κ' : KA) : Prop := ∀ i : Nat, i < 24 → κ.u i = κ'.u i
theorem c_hasSameLarder {μ : Mem} {b r B D B' D' : Nat} {κ κ' : KA} {Q : Int32 → Mem → Prop} (hK : KC μ b κ) (hK' : KC μ r κ') (hk : KW κ B D) (hk' : KW κ' B' D') (hB : B ≤ 1000000) (hB' : B' ≤ 1000000) (h1 : sameU κ κ' → Q (nI 1) μ) (h0 : ¬ sameU κ κ' → Q (nI 0) μ) : PX0_hasSameLarder b r μ Q := by
  intro S hS
  have key : ∀ i : Nat, i ≤ 24 → (∀ j : Nat, j < i → κ.u j = κ'.u j) → S (nI i) μ := by
    refine up_pure (n := 24) ?_ ?_
    · intro i hi ih hj
      have e1 := hK.1 i hi
      have e2 := hK'.1 i hi
      have b1 := hk.1 i
      have b2 := hk'.1 i
      apply hS
      unfold nX0_hasSameLarder_2
      simp (disch := omega) only [jl_0, jl_1, jl_2, jl_3, jl_4, jl_5, jl_6, jl_7, jl_8, jl_9, jl_10, jl_11, jl_12, jl_13, jl_14, jl_15, jl_16, jl_17, jl_18, jl_19, jl_20, jl_21, jl_22, jl_23, jl_24, jl_25, jl_26, jl_27, jl_28, jl_29, jl_30, jl_31, jl_32, jl_33, jl_34, jl_35, jl_36, jl_37, jl_38, jl_39, jl_40, jl_41, jl_42, jl_43, jl_44, jl_45, jl_46, jl_47, jl_48, jl_49, jl_50, jl_51, jl_52, jl_53, jl_54, jl_55, jl_56, jl_57, jl_58, jl_59, jl_60, jl_61, jl_62, jl_63, jl_64, jl_97, jl_99, jl_100, jl_112, jl_122, jl_127, jl_240, jl_273, jl_274, jl_275, jl_280, jl_316, jl_317, jl_320, jl_400, jl_m1, jl_m4, dI_s2, nI_add, pk_mul, nI_clamp, nI_leI, nI_ltI, nI_eq, vn_in, pk_rem, jb_0, jb_1, jl_n40, jl_n40', true_and, and_true, true_implies, false_implies, not_true_eq_false, not_false_eq_true, implies_true, jl_z1, Nat.reduceEqDiff, Nat.reduceLeDiff, Nat.reduceLT, Nat.le_refl, Nat.lt_irrefl, Nat.zero_le, Nat.not_lt_zero, eq_self, Decidable.not_not, e1, e2]
      refine ⟨fun c => absurd c (by omega), fun _ => ⟨by omega, by omega, fun c => ?_, fun c => ?_⟩⟩
      · exact ih (fun j hj2 => by
          by_cases q : j = i
          · subst q; exact c
          · exact hj j (by omega))
      · exact h0 (fun z => c (z i hi))
    · intro hj
      apply hS
      unfold nX0_hasSameLarder_2
      exact ⟨fun _ => h1 hj, fun c => absurd (by decide) c⟩
  exact key 0 (by omega) (fun j hj => absurd hj (Nat.not_lt_zero _))
theorem c_copyFrom {μ : Mem} {b r : Nat} {κ : KA} {Q : Mem → Prop} (hK : KC μ r κ) (hd : r + 3 ≤ b ∨ b + 3 ≤ r) (h : ∀ m : Mem, KC m b κ → FI b (b + 3) μ m → Q m) : PX0_copyFrom b r μ Q := by
  intro m1 hm1 m2 hm2 m3 hm3 m4 hm4
  obtain ⟨h1, h2, h3, h4, h5, h6, h7⟩ := hK
  simp (disch := omega) only [jl_0, jl_1, jl_2, jl_3, jl_4, jl_5, jl_6, jl_7, jl_8, jl_9, jl_10, jl_11, jl_12, jl_13, jl_14, jl_15, jl_16, jl_17, jl_18, jl_19, jl_20, jl_21, jl_22, jl_23, jl_24, jl_25, jl_26, jl_27, jl_28, jl_29, jl_30, jl_31, jl_32, jl_33, jl_34, jl_35, jl_36, jl_37, jl_38, jl_39, jl_40, jl_41, jl_42, jl_43, jl_44, jl_45, jl_46, jl_47, jl_48, jl_49, jl_50, jl_51, jl_52, jl_53, jl_54, jl_55, jl_56, jl_57, jl_58, jl_59, jl_60, jl_61, jl_62, jl_63, jl_64, jl_97, jl_99, jl_100, jl_112, jl_122, jl_127, jl_240, jl_273, jl_274, jl_275, jl_280, jl_316, jl_317, jl_320, jl_400, jl_m1, jl_m4, dI_s2, nI_add, pk_mul, nI_clamp, nI_leI, nI_ltI, nI_eq, vn_in, pk_rem, jb_0, jb_1, jl_n40, jl_n40', true_and, and_true, true_implies, false_implies, not_true_eq_false, not_false_eq_true, implies_true, jl_z1, Nat.reduceEqDiff, Nat.reduceLeDiff, Nat.reduceLT, Nat.le_refl, Nat.lt_irrefl, Nat.zero_le, Nat.not_lt_zero, eq_self, Decidable.not_not] at hm1 hm2
  have f1 : FI b (b + 3) μ m1 := by rw [hm1]; exact FI_mr (by omega) (by omega)
  have f2 : FI b (b + 3) m1 m2 := by rw [hm2]; exact FI_mr (by omega) (by omega)
  have f3 : FI b (b + 3) m2 m3 := by rw [hm3]; exact FI_trans (FI_ms (by omega) (by omega)) (FI_ms (by omega) (by omega))
  have f4 : FI b (b + 3) m3 m4 := by rw [hm4]; exact FI_trans (FI_ms (by omega) (by omega)) (FI_ms (by omega) (by omega))
  have f5 : FI b (b + 3) m4 (ms m4 b 6 (m4.1 r 6)) := FI_ms (by omega) (by omega)
  have g2 := FI_trans f1 f2
  have g3 := FI_trans g2 f3
  have g4 := FI_trans g3 f4
  refine h _ ⟨fun i hi => ?_, fun s hs => ?_, ?_, ?_, ?_, ?_, ?_⟩ (FI_trans g4 f5)
  · subst hm4; subst hm3; subst hm2
    simp (disch := omega) only [ms_1, mr_1, if_neg]
    subst hm1
    simp (disch := omega) only [mr_1, if_pos, sb_cpy0]
    exact h1 i hi
  · subst hm4; subst hm3
    simp (disch := omega) only [ms_1, if_neg]
    subst hm2
    simp (disch := omega) only [mr_1, if_pos, sb_cpy0]
    rw [f1.1 _ (by omega)]; exact h2 s hs
  · subst hm4
    simp (disch := omega) only [ms_1, if_neg]
    subst hm3
    simp (disch := omega) only [ms_1, if_neg, if_pos]
    rw [g2.1 _ (by omega)]; exact h3
  · subst hm4
    simp (disch := omega) only [ms_1, if_neg]
    subst hm3
    simp (disch := omega) only [ms_1, if_neg, if_pos]
    rw [g2.1 _ (by omega)]; exact h4
  · subst hm4
    simp (disch := omega) only [ms_1, if_neg, if_pos]
    rw [g3.1 _ (by omega)]; exact h5
  · subst hm4
    simp (disch := omega) only [ms_1, if_neg, if_pos]
    rw [g3.1 _ (by omega)]; exact h6
  · rw [ms_1, if_pos rfl, if_pos rfl, g4.1 _ (by omega)]; exact h7
theorem c_beginRow {μ : Mem} {b r : Nat} {κ : KA} {Q : Mem → Prop} (hK : KC μ r κ) (hd : r + 3 ≤ b ∨ b + 3 ≤ r) (h : ∀ m : Mem, KC m b (zeroK κ) → FI b (b + 3) μ m → Q m) : PX0_beginRow b r μ Q := by
  refine c_copyFrom hK hd (fun m hKm hf m1 hm1 => ?_)
  obtain ⟨h1, h2, h3, h4, h5, h6, h7⟩ := hKm
  refine h _ ⟨fun i hi => ?_, fun s hs => ?_, ?_, ?_, ?_, ?_, ?_⟩ (FI_trans hf ?_)
  · subst hm1; simp (disch := omega) only [ms_1, if_neg]; exact h1 i hi
  · subst hm1; simp (disch := omega) only [ms_1, if_neg]; exact h2 s hs
  · subst hm1; simp (disch := omega) only [ms_1, if_neg, if_pos]; exact h3
  · subst hm1; simp (disch := omega) only [ms_1, if_neg, if_pos]; exact h4
  · subst hm1; simp (disch := omega) only [ms_1, if_neg, if_pos]; rfl
  · subst hm1; simp (disch := omega) only [ms_1, if_neg, if_pos]; rfl
  · subst hm1; simp (disch := omega) only [ms_1, if_neg, if_pos]; rfl
  · subst hm1; exact FI_trans (FI_trans (FI_ms (by omega) (by omega)) (FI_ms (by omega) (by omega))) (FI_ms (by omega) (by omega))
def newK : KA := (fun _ => 0, fun _ => none, 0, none, 0, 0, 0)
theorem c_kreset {μ : Mem} {b : Nat} {Q : Mem → Prop} (h : ∀ m : Mem, KC m b newK → FI b (b + 3) μ m → Q m) : PX0_reset b μ Q := by
  intro S2 S23 h2 h23
  have l2 : ∀ i m, i ≤ 9 → ((∀ j : Nat, j < 24 → m.1 (b + 1) j = nI 0) ∧ (∀ j : Nat, j < i → m.1 (b + 2) j = oI none) ∧ FI b (b + 3) μ m) → S23 (nI i) m := by
    refine up_loop ?_ ?_
    · intro i m hi ⟨hu, hl, hf⟩ ih
      apply h23
      unfold nX0_reset_23
      simp (disch := omega) only [jl_0, jl_1, jl_2, jl_3, jl_4, jl_5, jl_6, jl_7, jl_8, jl_9, jl_10, jl_11, jl_12, jl_13, jl_14, jl_15, jl_16, jl_17, jl_18, jl_19, jl_20, jl_21, jl_22, jl_23, jl_24, jl_25, jl_26, jl_27, jl_28, jl_29, jl_30, jl_31, jl_32, jl_33, jl_34, jl_35, jl_36, jl_37, jl_38, jl_39, jl_40, jl_41, jl_42, jl_43, jl_44, jl_45, jl_46, jl_47, jl_48, jl_49, jl_50, jl_51, jl_52, jl_53, jl_54, jl_55, jl_56, jl_57, jl_58, jl_59, jl_60, jl_61, jl_62, jl_63, jl_64, jl_97, jl_99, jl_100, jl_112, jl_122, jl_127, jl_240, jl_273, jl_274, jl_275, jl_280, jl_316, jl_317, jl_320, jl_400, jl_m1, jl_m4, dI_s2, nI_add, pk_mul, nI_clamp, nI_leI, nI_ltI, nI_eq, vn_in, pk_rem, jb_0, jb_1, jl_n40, jl_n40', true_and, and_true, true_implies, false_implies, not_true_eq_false, not_false_eq_true, implies_true, jl_z1, Nat.reduceEqDiff, Nat.reduceLeDiff, Nat.reduceLT, Nat.le_refl, Nat.lt_irrefl, Nat.zero_le, Nat.not_lt_zero, eq_self, Decidable.not_not]
      refine ⟨fun c => absurd c (by omega), fun _ => ⟨by omega, ih _ ⟨fun j hj => ?_, fun j hj => ?_, FI_trans hf (FI_ms (by omega) (by omega))⟩⟩⟩
      · rw [ms_1, if_neg (by omega)]; exact hu j hj
      · rw [ms_1, if_pos rfl]
        by_cases c : j = i
        · rw [if_pos c]
        · rw [if_neg c]; exact hl j (by omega)
    · intro m ⟨hu, hl, hf⟩
      apply h23
      unfold nX0_reset_23
      refine ⟨fun _ m3 hm3 m4 hm4 => ?_, fun c => absurd (by decide) c⟩
      refine h _ ⟨fun i hi => ?_, fun s hs => ?_, ?_, ?_, ?_, ?_, ?_⟩ (FI_trans hf ?_)
      · subst hm4; subst hm3; simp (disch := omega) only [ms_1, if_neg]; exact hu i hi
      · subst hm4; subst hm3; simp (disch := omega) only [ms_1, if_neg]; exact hl s hs
      · subst hm4; subst hm3; simp (disch := omega) only [ms_1, if_neg, if_pos]; rfl
      · subst hm4; subst hm3; simp (disch := omega) only [ms_1, if_neg, if_pos]; rfl
      · subst hm4; subst hm3; simp (disch := omega) only [ms_1, if_neg, if_pos]; rfl
      · subst hm4; subst hm3; simp (disch := omega) only [ms_1, if_neg, if_pos]; rfl
      · subst hm4; subst hm3; simp (disch := omega) only [ms_1, if_neg, if_pos]; rfl
      · subst hm4; subst hm3; exact FI_trans (FI_trans (FI_ms (by omega) (by omega)) (FI_ms (by omega) (by omega))) (FI_trans (FI_trans (FI_ms (by omega) (by omega)) (FI_ms (by omega) (by omega))) (FI_ms (by omega) (by omega)))
  have l1 : ∀ i m, i ≤ 24 → ((∀ j : Nat, j < i → m.1 (b + 1) j = nI 0) ∧ FI b (b + 3) μ m) → S2 (nI i) m := by
    refine up_loop ?_ ?_
    · intro i m hi ⟨hu, hf⟩ ih
      apply h2
      unfold nX0_reset_2
      simp (disch := omega) only [jl_0, jl_1, jl_2, jl_3, jl_4, jl_5, jl_6, jl_7, jl_8, jl_9, jl_10, jl_11, jl_12, jl_13, jl_14, jl_15, jl_16, jl_17, jl_18, jl_19, jl_20, jl_21, jl_22, jl_23, jl_24, jl_25, jl_26, jl_27, jl_28, jl_29, jl_30, jl_31, jl_32, jl_33, jl_34, jl_35, jl_36, jl_37, jl_38, jl_39, jl_40, jl_41, jl_42, jl_43, jl_44, jl_45, jl_46, jl_47, jl_48, jl_49, jl_50, jl_51, jl_52, jl_53, jl_54, jl_55, jl_56, jl_57, jl_58, jl_59, jl_60, jl_61, jl_62, jl_63, jl_64, jl_97, jl_99, jl_100, jl_112, jl_122, jl_127, jl_240, jl_273, jl_274, jl_275, jl_280, jl_316, jl_317, jl_320, jl_400, jl_m1, jl_m4, dI_s2, nI_add, pk_mul, nI_clamp, nI_leI, nI_ltI, nI_eq, vn_in, pk_rem, jb_0, jb_1, jl_n40, jl_n40', true_and, and_true, true_implies, false_implies, not_true_eq_false, not_false_eq_true, implies_true, jl_z1, Nat.reduceEqDiff, Nat.reduceLeDiff, Nat.reduceLT, Nat.le_refl, Nat.lt_irrefl, Nat.zero_le, Nat.not_lt_zero, eq_self, Decidable.not_not]
      refine ⟨fun c => absurd c (by omega), fun _ => ⟨by omega, ih _ ⟨fun j hj => ?_, FI_trans hf (FI_ms (by omega) (by omega))⟩⟩⟩
      rw [ms_1, if_pos rfl]
      by_cases c : j = i
      · rw [if_pos c]
      · rw [if_neg c]; exact hu j (by omega)
    · intro m ⟨hu, hf⟩
      apply h2
      unfold nX0_reset_2
      exact ⟨fun _ => l2 0 m (by omega) ⟨hu, fun j hj => absurd hj (Nat.not_lt_zero _), hf⟩, fun c => absurd (by decide) c⟩
  exact l1 0 μ (by omega) ⟨fun j hj => absurd hj (Nat.not_lt_zero _), FI_refl⟩
theorem c_taking {μ : Mem} {b r s g t B D : Nat} {κ : KA} {ρ : RA} {Q : Int32 → Mem → Prop} (hK : KC μ b κ) (hk : KW κ B D) (hB : B ≤ 100000) (hR : CR μ r ρ) (hw : RW ρ) (hrb : r + 12 ≤ b) (hs : s < 9) (hg : g ≤ 1) (ht : t < ρ 0 0) (h : ∀ m : Mem, FI (b + 3) (b + 4) μ m → Q (nI (takN ρ κ s g t)) m) : PX0_taking b r (nI s) (nI g) (nI t) μ Q := by
  have t6 := hw.1
  refine c_findTaken hK hk hB hR hw hrb hs hg (fun m f e => ⟨vp_in_nI (by omega) (by omega), ?_⟩)
  rw [nI_clamp (by omega), e t ht]
  exact h m f
