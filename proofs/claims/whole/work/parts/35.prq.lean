theorem r_have {μ : Mem} {B t : Nat} {κ : KA} {Q : Int32 → Mem → Prop} (hK : KM μ B κ) (hB : B ≤ 360) (ht : t < 6) (h : Q (nI (untN κ t)) μ) : PX7_have 100 (nI B) (nI t) μ Q := by
  intro S hS
  have key : ∀ a, a ≤ 4 → S (nI (sumN (fun a => κ.u (4 * t + a)) a)) (nI a) μ := by
    refine up_pure ?_ ?_
    · intro a ha hn
      have e := hK.1 (4 * t + a) (by omega)
      rw [← Nat.add_assoc] at e
      apply hS
      unfold nX7_have_5
      simp (disch := omega) only [jl_0, jl_1, jl_2, jl_3, jl_4, jl_5, jl_6, jl_7, jl_8, jl_9, jl_10, jl_11, jl_12, jl_13, jl_14, jl_15, jl_16, jl_17, jl_18, jl_19, jl_20, jl_21, jl_22, jl_23, jl_24, jl_25, jl_26, jl_27, jl_28, jl_29, jl_30, jl_31, jl_32, jl_33, jl_34, jl_35, jl_36, jl_37, jl_38, jl_39, jl_40, jl_41, jl_42, jl_43, jl_44, jl_45, jl_46, jl_47, jl_48, jl_49, jl_50, jl_51, jl_52, jl_53, jl_54, jl_55, jl_56, jl_57, jl_58, jl_59, jl_60, jl_61, jl_62, jl_63, jl_64, jl_97, jl_99, jl_100, jl_112, jl_122, jl_127, jl_240, jl_273, jl_274, jl_275, jl_280, jl_316, jl_317, jl_320, jl_400, jl_m1, jl_m4, dI_s2, nI_add, pk_mul, nI_clamp, nI_leI, nI_ltI, nI_eq, vn_in, pk_rem, jb_0, jb_1, jl_n40, jl_n40', true_and, and_true, true_implies, false_implies, not_true_eq_false, not_false_eq_true, implies_true, jl_z1, Nat.reduceEqDiff, Nat.reduceLeDiff, Nat.reduceLT, Nat.le_refl, Nat.lt_irrefl, Nat.zero_le, Nat.not_lt_zero, eq_self, Decidable.not_not, Nat.reduceAdd, e]
      refine ⟨fun c => absurd c (by omega), fun _ => ⟨by omega, fun x hx => ?_⟩⟩
      rw [hx]
      exact hn
    · apply hS
      unfold nX7_have_5
      simp (disch := omega) only [jl_0, jl_1, jl_2, jl_3, jl_4, jl_5, jl_6, jl_7, jl_8, jl_9, jl_10, jl_11, jl_12, jl_13, jl_14, jl_15, jl_16, jl_17, jl_18, jl_19, jl_20, jl_21, jl_22, jl_23, jl_24, jl_25, jl_26, jl_27, jl_28, jl_29, jl_30, jl_31, jl_32, jl_33, jl_34, jl_35, jl_36, jl_37, jl_38, jl_39, jl_40, jl_41, jl_42, jl_43, jl_44, jl_45, jl_46, jl_47, jl_48, jl_49, jl_50, jl_51, jl_52, jl_53, jl_54, jl_55, jl_56, jl_57, jl_58, jl_59, jl_60, jl_61, jl_62, jl_63, jl_64, jl_97, jl_99, jl_100, jl_112, jl_122, jl_127, jl_240, jl_273, jl_274, jl_275, jl_280, jl_316, jl_317, jl_320, jl_400, jl_m1, jl_m4, dI_s2, nI_add, pk_mul, nI_clamp, nI_leI, nI_ltI, nI_eq, vn_in, pk_rem, jb_0, jb_1, jl_n40, jl_n40', true_and, and_true, true_implies, false_implies, not_true_eq_false, not_false_eq_true, implies_true, jl_z1, Nat.reduceEqDiff, Nat.reduceLeDiff, Nat.reduceLT, Nat.le_refl, Nat.lt_irrefl, Nat.zero_le, Nat.not_lt_zero, eq_self, Decidable.not_not]
      exact h
  exact key 0 (by omega)
theorem r_kind {μ : Mem} {s : Nat} {ρ : RA} {Q : Int32 → Mem → Prop} (hR : MR μ ρ) (hw : RW ρ) (hs : s < ρ 0 4) (h : Q (nI (ρ 4 s)) μ) : PX7_kind 100 (nI s) μ Q := by
  have s9 := hw.2.1
  have e := (hR.2.2.2.2.2.2.1 s hs).1
  unfold PX7_kind
  simp (disch := omega) only [jl_0, jl_1, jl_2, jl_3, jl_4, jl_5, jl_6, jl_7, jl_8, jl_9, jl_10, jl_11, jl_12, jl_13, jl_14, jl_15, jl_16, jl_17, jl_18, jl_19, jl_20, jl_21, jl_22, jl_23, jl_24, jl_25, jl_26, jl_27, jl_28, jl_29, jl_30, jl_31, jl_32, jl_33, jl_34, jl_35, jl_36, jl_37, jl_38, jl_39, jl_40, jl_41, jl_42, jl_43, jl_44, jl_45, jl_46, jl_47, jl_48, jl_49, jl_50, jl_51, jl_52, jl_53, jl_54, jl_55, jl_56, jl_57, jl_58, jl_59, jl_60, jl_61, jl_62, jl_63, jl_64, jl_97, jl_99, jl_100, jl_112, jl_122, jl_127, jl_240, jl_273, jl_274, jl_275, jl_280, jl_316, jl_317, jl_320, jl_400, jl_m1, jl_m4, dI_s2, nI_add, pk_mul, nI_clamp, nI_leI, nI_ltI, nI_eq, vn_in, pk_rem, jb_0, jb_1, jl_n40, jl_n40', true_and, and_true, true_implies, false_implies, not_true_eq_false, not_false_eq_true, implies_true, jl_z1, Nat.reduceEqDiff, Nat.reduceLeDiff, Nat.reduceLT, Nat.le_refl, Nat.lt_irrefl, Nat.zero_le, Nat.not_lt_zero, eq_self, Decidable.not_not, Nat.reduceAdd, e]
  exact ⟨by omega, h⟩
theorem r_wantOf {μ : Mem} {s g t : Nat} {ρ : RA} {Q : Int32 → Mem → Prop} (hR : MR μ ρ) (hw : RW ρ) (hs : s < ρ 0 4) (ht : t < 6) (hg : g ≤ 1) (h : Q (nI (wantN ρ s g t)) μ) : PX7_wantOf 100 (nI s) (nI g) (nI t) μ Q := by
  have s9 := hw.2.1
  have e1 := (hR.2.2.2.2.2.2.2.1 (6 * s + t) (by omega)).1
  have b1 := (hw.2.2.2.2.2.2.2.2.1 (6 * s + t)).1
  have b2 := (hw.2.2.2.2.2.2.1 s).1
  unfold PX7_wantOf nX7_wantOf_38
  unfold wantN at h
  simp (disch := omega) only [jl_0, jl_1, jl_2, jl_3, jl_4, jl_5, jl_6, jl_7, jl_8, jl_9, jl_10, jl_11, jl_12, jl_13, jl_14, jl_15, jl_16, jl_17, jl_18, jl_19, jl_20, jl_21, jl_22, jl_23, jl_24, jl_25, jl_26, jl_27, jl_28, jl_29, jl_30, jl_31, jl_32, jl_33, jl_34, jl_35, jl_36, jl_37, jl_38, jl_39, jl_40, jl_41, jl_42, jl_43, jl_44, jl_45, jl_46, jl_47, jl_48, jl_49, jl_50, jl_51, jl_52, jl_53, jl_54, jl_55, jl_56, jl_57, jl_58, jl_59, jl_60, jl_61, jl_62, jl_63, jl_64, jl_97, jl_99, jl_100, jl_112, jl_122, jl_127, jl_240, jl_273, jl_274, jl_275, jl_280, jl_316, jl_317, jl_320, jl_400, jl_m1, jl_m4, dI_s2, nI_add, pk_mul, nI_clamp, nI_leI, nI_ltI, nI_eq, vn_in, pk_rem, jb_0, jb_1, jl_n40, jl_n40', true_and, and_true, true_implies, false_implies, not_true_eq_false, not_false_eq_true, implies_true, jl_z1, Nat.reduceEqDiff, Nat.reduceLeDiff, Nat.reduceLT, Nat.le_refl, Nat.lt_irrefl, Nat.zero_le, Nat.not_lt_zero, eq_self, Decidable.not_not, Nat.reduceAdd, e1]
  refine ⟨by omega, ?_, ?_⟩
  · intro c; rw [if_neg (by omega)] at h; exact h
  · intro c
    refine ⟨fun d => ?_, fun d => r_kind hR hw hs ?_⟩
    · rw [if_neg (by omega)] at h; exact h
    · simp (disch := omega) only [jl_0, jl_1, jl_2, jl_3, jl_4, jl_5, jl_6, jl_7, jl_8, jl_9, jl_10, jl_11, jl_12, jl_13, jl_14, jl_15, jl_16, jl_17, jl_18, jl_19, jl_20, jl_21, jl_22, jl_23, jl_24, jl_25, jl_26, jl_27, jl_28, jl_29, jl_30, jl_31, jl_32, jl_33, jl_34, jl_35, jl_36, jl_37, jl_38, jl_39, jl_40, jl_41, jl_42, jl_43, jl_44, jl_45, jl_46, jl_47, jl_48, jl_49, jl_50, jl_51, jl_52, jl_53, jl_54, jl_55, jl_56, jl_57, jl_58, jl_59, jl_60, jl_61, jl_62, jl_63, jl_64, jl_97, jl_99, jl_100, jl_112, jl_122, jl_127, jl_240, jl_273, jl_274, jl_275, jl_280, jl_316, jl_317, jl_320, jl_400, jl_m1, jl_m4, dI_s2, nI_add, pk_mul, nI_clamp, nI_leI, nI_ltI, nI_eq, vn_in, pk_rem, jb_0, jb_1, jl_n40, jl_n40', true_and, and_true, true_implies, false_implies, not_true_eq_false, not_false_eq_true, implies_true, jl_z1, Nat.reduceEqDiff, Nat.reduceLeDiff, Nat.reduceLT, Nat.le_refl, Nat.lt_irrefl, Nat.zero_le, Nat.not_lt_zero, eq_self, Decidable.not_not]
      refine ⟨fun k => ?_, fun k => ?_⟩
      · rw [if_neg (by omega)] at h; exact h
      · rw [if_pos (by omega)] at h; exact h
theorem r_flag {g : Nat} {μ : Mem} {Q : Int32 → Mem → Prop} (hg : g ≤ 1) (h : Q (nI g) μ) : PX7_flag (nI g) μ Q := by
  unfold PX7_flag
  simp (disch := omega) only [jl_0, jl_1, jl_2, jl_3, jl_4, jl_5, jl_6, jl_7, jl_8, jl_9, jl_10, jl_11, jl_12, jl_13, jl_14, jl_15, jl_16, jl_17, jl_18, jl_19, jl_20, jl_21, jl_22, jl_23, jl_24, jl_25, jl_26, jl_27, jl_28, jl_29, jl_30, jl_31, jl_32, jl_33, jl_34, jl_35, jl_36, jl_37, jl_38, jl_39, jl_40, jl_41, jl_42, jl_43, jl_44, jl_45, jl_46, jl_47, jl_48, jl_49, jl_50, jl_51, jl_52, jl_53, jl_54, jl_55, jl_56, jl_57, jl_58, jl_59, jl_60, jl_61, jl_62, jl_63, jl_64, jl_97, jl_99, jl_100, jl_112, jl_122, jl_127, jl_240, jl_273, jl_274, jl_275, jl_280, jl_316, jl_317, jl_320, jl_400, jl_m1, jl_m4, dI_s2, nI_add, pk_mul, nI_clamp, nI_leI, nI_ltI, nI_eq, vn_in, pk_rem, jb_0, jb_1, jl_n40, jl_n40', true_and, and_true, true_implies, false_implies, not_true_eq_false, not_false_eq_true, implies_true, jl_z1, Nat.reduceEqDiff, Nat.reduceLeDiff, Nat.reduceLT, Nat.le_refl, Nat.lt_irrefl, Nat.zero_le, Nat.not_lt_zero, eq_self, Decidable.not_not]
  refine ⟨fun c => ?_, fun c => ?_⟩
  · rw [c] at h; exact h
  · rw [show g = 1 by omega] at h; exact h
theorem r_anyOf {μ : Mem} {s g : Nat} {ρ : RA} {Q : Int32 → Mem → Prop} (hR : MR μ ρ) (hw : RW ρ) (hs : s < ρ 0 4) (hg : g ≤ 1) (h : Q (nI (soupN ρ s g)) μ) : PX7_anyOf 100 (nI s) (nI g) μ Q := by
  have s9 := hw.2.1
  have e := (hR.2.2.2.2.2.2.1 s hs).2.2.2.1
  unfold soupN at h
  unfold PX7_anyOf
  simp (disch := omega) only [jl_0, jl_1, jl_2, jl_3, jl_4, jl_5, jl_6, jl_7, jl_8, jl_9, jl_10, jl_11, jl_12, jl_13, jl_14, jl_15, jl_16, jl_17, jl_18, jl_19, jl_20, jl_21, jl_22, jl_23, jl_24, jl_25, jl_26, jl_27, jl_28, jl_29, jl_30, jl_31, jl_32, jl_33, jl_34, jl_35, jl_36, jl_37, jl_38, jl_39, jl_40, jl_41, jl_42, jl_43, jl_44, jl_45, jl_46, jl_47, jl_48, jl_49, jl_50, jl_51, jl_52, jl_53, jl_54, jl_55, jl_56, jl_57, jl_58, jl_59, jl_60, jl_61, jl_62, jl_63, jl_64, jl_97, jl_99, jl_100, jl_112, jl_122, jl_127, jl_240, jl_273, jl_274, jl_275, jl_280, jl_316, jl_317, jl_320, jl_400, jl_m1, jl_m4, dI_s2, nI_add, pk_mul, nI_clamp, nI_leI, nI_ltI, nI_eq, vn_in, pk_rem, jb_0, jb_1, jl_n40, jl_n40', true_and, and_true, true_implies, false_implies, not_true_eq_false, not_false_eq_true, implies_true, jl_z1, Nat.reduceEqDiff, Nat.reduceLeDiff, Nat.reduceLT, Nat.le_refl, Nat.lt_irrefl, Nat.zero_le, Nat.not_lt_zero, eq_self, Decidable.not_not, Nat.reduceAdd, e]
  refine ⟨by omega, r_flag hg ?_⟩
  rw [nI_add]; exact h
theorem r_isAmong {μ : Mem} {s t : Nat} {ρ : RA} {Q : Int32 → Mem → Prop} (hR : MR μ ρ) (hw : RW ρ) (hs : s < ρ 0 4) (h3 : ρ 4 s = 3) (ht : t < 6) (h0 : ¬ bitN (ρ 8 s) t = 1 → Q (nI 0) μ) (h1 : bitN (ρ 8 s) t = 1 → Q (nI 1) μ) : PX7_isAmong 100 (nI s) (nI t) μ Q := by
  have s9 := hw.2.1
  have e := (hR.2.2.2.2.2.2.1 s hs).2.2.2.2
  have b2 := (hw.2.2.2.2.2.2.1 s).2.2.2.2
  unfold thgN at e
  rw [if_pos h3] at e
  unfold PX7_isAmong
  simp (disch := omega) only [jl_0, jl_1, jl_2, jl_3, jl_4, jl_5, jl_6, jl_7, jl_8, jl_9, jl_10, jl_11, jl_12, jl_13, jl_14, jl_15, jl_16, jl_17, jl_18, jl_19, jl_20, jl_21, jl_22, jl_23, jl_24, jl_25, jl_26, jl_27, jl_28, jl_29, jl_30, jl_31, jl_32, jl_33, jl_34, jl_35, jl_36, jl_37, jl_38, jl_39, jl_40, jl_41, jl_42, jl_43, jl_44, jl_45, jl_46, jl_47, jl_48, jl_49, jl_50, jl_51, jl_52, jl_53, jl_54, jl_55, jl_56, jl_57, jl_58, jl_59, jl_60, jl_61, jl_62, jl_63, jl_64, jl_97, jl_99, jl_100, jl_112, jl_122, jl_127, jl_240, jl_273, jl_274, jl_275, jl_280, jl_316, jl_317, jl_320, jl_400, jl_m1, jl_m4, dI_s2, nI_add, pk_mul, nI_clamp, nI_leI, nI_ltI, nI_eq, vn_in, pk_rem, jb_0, jb_1, jl_n40, jl_n40', true_and, and_true, true_implies, false_implies, not_true_eq_false, not_false_eq_true, implies_true, jl_z1, Nat.reduceEqDiff, Nat.reduceLeDiff, Nat.reduceLT, Nat.le_refl, Nat.lt_irrefl, Nat.zero_le, Nat.not_lt_zero, eq_self, Decidable.not_not, Nat.reduceAdd, e]
  exact ⟨by omega, h0, h1⟩
theorem r_haveAll {μ : Mem} {B s : Nat} {κ : KA} {ρ : RA} {Q : Int32 → Mem → Prop} (hK : KM μ B κ) (hB : B ≤ 360) (hR : MR μ ρ) (hw : RW ρ) (hs : s < ρ 0 4) (h3 : ρ 4 s = 3) (h : Q (nI (allN ρ κ s)) μ) : PX7_haveAll 100 (nI B) (nI s) μ Q := by
  have t6 := hw.1
  intro S hS
  have key : ∀ a, a ≤ ρ 0 0 → S (nI (sumN (fun t => if bitN (ρ 8 s) t = 1 then untN κ t else 0) a)) (nI a) μ := by
    refine up_pure ?_ ?_
    · intro a ha hn
      apply hS
      unfold nX7_haveAll_5 nX7_haveAll_36
      rw [hR.1]
      simp (disch := omega) only [jl_0, jl_1, jl_2, jl_3, jl_4, jl_5, jl_6, jl_7, jl_8, jl_9, jl_10, jl_11, jl_12, jl_13, jl_14, jl_15, jl_16, jl_17, jl_18, jl_19, jl_20, jl_21, jl_22, jl_23, jl_24, jl_25, jl_26, jl_27, jl_28, jl_29, jl_30, jl_31, jl_32, jl_33, jl_34, jl_35, jl_36, jl_37, jl_38, jl_39, jl_40, jl_41, jl_42, jl_43, jl_44, jl_45, jl_46, jl_47, jl_48, jl_49, jl_50, jl_51, jl_52, jl_53, jl_54, jl_55, jl_56, jl_57, jl_58, jl_59, jl_60, jl_61, jl_62, jl_63, jl_64, jl_97, jl_99, jl_100, jl_112, jl_122, jl_127, jl_240, jl_273, jl_274, jl_275, jl_280, jl_316, jl_317, jl_320, jl_400, jl_m1, jl_m4, dI_s2, nI_add, pk_mul, nI_clamp, nI_leI, nI_ltI, nI_eq, vn_in, pk_rem, jb_0, jb_1, jl_n40, jl_n40', true_and, and_true, true_implies, false_implies, not_true_eq_false, not_false_eq_true, implies_true, jl_z1, Nat.reduceEqDiff, Nat.reduceLeDiff, Nat.reduceLT, Nat.le_refl, Nat.lt_irrefl, Nat.zero_le, Nat.not_lt_zero, eq_self, Decidable.not_not]
      refine ⟨fun c => absurd c (by omega), fun _ => ?_⟩
      refine r_isAmong hR hw hs h3 (by omega) (fun d => ?_) (fun d => ?_)
      · simp only [sumN, if_neg d, Nat.add_zero] at hn
        simp (disch := omega) only [jl_0, jl_1, jl_2, jl_3, jl_4, jl_5, jl_6, jl_7, jl_8, jl_9, jl_10, jl_11, jl_12, jl_13, jl_14, jl_15, jl_16, jl_17, jl_18, jl_19, jl_20, jl_21, jl_22, jl_23, jl_24, jl_25, jl_26, jl_27, jl_28, jl_29, jl_30, jl_31, jl_32, jl_33, jl_34, jl_35, jl_36, jl_37, jl_38, jl_39, jl_40, jl_41, jl_42, jl_43, jl_44, jl_45, jl_46, jl_47, jl_48, jl_49, jl_50, jl_51, jl_52, jl_53, jl_54, jl_55, jl_56, jl_57, jl_58, jl_59, jl_60, jl_61, jl_62, jl_63, jl_64, jl_97, jl_99, jl_100, jl_112, jl_122, jl_127, jl_240, jl_273, jl_274, jl_275, jl_280, jl_316, jl_317, jl_320, jl_400, jl_m1, jl_m4, dI_s2, nI_add, pk_mul, nI_clamp, nI_leI, nI_ltI, nI_eq, vn_in, pk_rem, jb_0, jb_1, jl_n40, jl_n40', true_and, and_true, true_implies, false_implies, not_true_eq_false, not_false_eq_true, implies_true, jl_z1, Nat.reduceEqDiff, Nat.reduceLeDiff, Nat.reduceLT, Nat.le_refl, Nat.lt_irrefl, Nat.zero_le, Nat.not_lt_zero, eq_self, Decidable.not_not, Nat.add_zero]
        exact hn
      · simp only [sumN, if_pos d] at hn
        simp (disch := omega) only [jl_0, jl_1, jl_2, jl_3, jl_4, jl_5, jl_6, jl_7, jl_8, jl_9, jl_10, jl_11, jl_12, jl_13, jl_14, jl_15, jl_16, jl_17, jl_18, jl_19, jl_20, jl_21, jl_22, jl_23, jl_24, jl_25, jl_26, jl_27, jl_28, jl_29, jl_30, jl_31, jl_32, jl_33, jl_34, jl_35, jl_36, jl_37, jl_38, jl_39, jl_40, jl_41, jl_42, jl_43, jl_44, jl_45, jl_46, jl_47, jl_48, jl_49, jl_50, jl_51, jl_52, jl_53, jl_54, jl_55, jl_56, jl_57, jl_58, jl_59, jl_60, jl_61, jl_62, jl_63, jl_64, jl_97, jl_99, jl_100, jl_112, jl_122, jl_127, jl_240, jl_273, jl_274, jl_275, jl_280, jl_316, jl_317, jl_320, jl_400, jl_m1, jl_m4, dI_s2, nI_add, pk_mul, nI_clamp, nI_leI, nI_ltI, nI_eq, vn_in, pk_rem, jb_0, jb_1, jl_n40, jl_n40', true_and, and_true, true_implies, false_implies, not_true_eq_false, not_false_eq_true, implies_true, jl_z1, Nat.reduceEqDiff, Nat.reduceLeDiff, Nat.reduceLT, Nat.le_refl, Nat.lt_irrefl, Nat.zero_le, Nat.not_lt_zero, eq_self, Decidable.not_not]
        refine r_have hK hB (by omega) ?_
        simp (disch := omega) only [jl_0, jl_1, jl_2, jl_3, jl_4, jl_5, jl_6, jl_7, jl_8, jl_9, jl_10, jl_11, jl_12, jl_13, jl_14, jl_15, jl_16, jl_17, jl_18, jl_19, jl_20, jl_21, jl_22, jl_23, jl_24, jl_25, jl_26, jl_27, jl_28, jl_29, jl_30, jl_31, jl_32, jl_33, jl_34, jl_35, jl_36, jl_37, jl_38, jl_39, jl_40, jl_41, jl_42, jl_43, jl_44, jl_45, jl_46, jl_47, jl_48, jl_49, jl_50, jl_51, jl_52, jl_53, jl_54, jl_55, jl_56, jl_57, jl_58, jl_59, jl_60, jl_61, jl_62, jl_63, jl_64, jl_97, jl_99, jl_100, jl_112, jl_122, jl_127, jl_240, jl_273, jl_274, jl_275, jl_280, jl_316, jl_317, jl_320, jl_400, jl_m1, jl_m4, dI_s2, nI_add, pk_mul, nI_clamp, nI_leI, nI_ltI, nI_eq, vn_in, pk_rem, jb_0, jb_1, jl_n40, jl_n40', true_and, and_true, true_implies, false_implies, not_true_eq_false, not_false_eq_true, implies_true, jl_z1, Nat.reduceEqDiff, Nat.reduceLeDiff, Nat.reduceLT, Nat.le_refl, Nat.lt_irrefl, Nat.zero_le, Nat.not_lt_zero, eq_self, Decidable.not_not]
        exact hn
    · apply hS
      unfold nX7_haveAll_5
      rw [hR.1]
      exact ⟨fun _ => h, fun c => absurd (nI_le (Nat.le_refl _) (by omega)) c⟩
  exact key 0 (by omega)
theorem r_lackOf {μ : Mem} {B s g t B' D : Nat} {κ : KA} {ρ : RA} {Q : Int32 → Mem → Prop} (hK : KM μ B κ) (hB : B ≤ 360) (hk : KW κ B' D) (hB' : B' ≤ 100000) (hR : MR μ ρ) (hw : RW ρ) (hs : s < ρ 0 4) (ht : t < ρ 0 0) (hg : g ≤ 1) (h : Q (nI (lackN ρ κ s g t)) μ) : PX7_lackOf 100 (nI B) (nI s) (nI g) (nI t) μ Q := by
  have b2 := (hw.2.2.2.2.2.2.1 s).1
  have t6 := hw.1
  have hu := unt_le (t := t) hk
  have hwt := want_le (s := s) (g := g) (t := t) hw
  have hsp := soup_le (s := s) hw hg
  have hal := all_le (s := s) hw hk
  unfold lackN at h
  unfold PX7_lackOf
  refine r_kind hR hw hs ?_
  simp (disch := omega) only [jl_0, jl_1, jl_2, jl_3, jl_4, jl_5, jl_6, jl_7, jl_8, jl_9, jl_10, jl_11, jl_12, jl_13, jl_14, jl_15, jl_16, jl_17, jl_18, jl_19, jl_20, jl_21, jl_22, jl_23, jl_24, jl_25, jl_26, jl_27, jl_28, jl_29, jl_30, jl_31, jl_32, jl_33, jl_34, jl_35, jl_36, jl_37, jl_38, jl_39, jl_40, jl_41, jl_42, jl_43, jl_44, jl_45, jl_46, jl_47, jl_48, jl_49, jl_50, jl_51, jl_52, jl_53, jl_54, jl_55, jl_56, jl_57, jl_58, jl_59, jl_60, jl_61, jl_62, jl_63, jl_64, jl_97, jl_99, jl_100, jl_112, jl_122, jl_127, jl_240, jl_273, jl_274, jl_275, jl_280, jl_316, jl_317, jl_320, jl_400, jl_m1, jl_m4, dI_s2, nI_add, pk_mul, nI_clamp, nI_leI, nI_ltI, nI_eq, vn_in, pk_rem, jb_0, jb_1, jl_n40, jl_n40', true_and, and_true, true_implies, false_implies, not_true_eq_false, not_false_eq_true, implies_true, jl_z1, Nat.reduceEqDiff, Nat.reduceLeDiff, Nat.reduceLT, Nat.le_refl, Nat.lt_irrefl, Nat.zero_le, Nat.not_lt_zero, eq_self, Decidable.not_not]
  refine ⟨fun c => ?_, fun c => ?_⟩
  · rw [if_neg c] at h
    refine r_wantOf hR hw hs (by omega) hg (r_have hK hB (by omega) ?_)
    unfold nX7_lackOf_55
    exact mx2 (by omega) (by omega) h
  · rw [if_pos c] at h
    refine r_isAmong hR hw hs c (by omega) (fun d => ?_) (fun d => ?_)
    · rw [if_neg d] at h
      unfold nX7_lackOf_55
      simp (disch := omega) only [jl_0, jl_1, jl_2, jl_3, jl_4, jl_5, jl_6, jl_7, jl_8, jl_9, jl_10, jl_11, jl_12, jl_13, jl_14, jl_15, jl_16, jl_17, jl_18, jl_19, jl_20, jl_21, jl_22, jl_23, jl_24, jl_25, jl_26, jl_27, jl_28, jl_29, jl_30, jl_31, jl_32, jl_33, jl_34, jl_35, jl_36, jl_37, jl_38, jl_39, jl_40, jl_41, jl_42, jl_43, jl_44, jl_45, jl_46, jl_47, jl_48, jl_49, jl_50, jl_51, jl_52, jl_53, jl_54, jl_55, jl_56, jl_57, jl_58, jl_59, jl_60, jl_61, jl_62, jl_63, jl_64, jl_97, jl_99, jl_100, jl_112, jl_122, jl_127, jl_240, jl_273, jl_274, jl_275, jl_280, jl_316, jl_317, jl_320, jl_400, jl_m1, jl_m4, dI_s2, nI_add, pk_mul, nI_clamp, nI_leI, nI_ltI, nI_eq, vn_in, pk_rem, jb_0, jb_1, jl_n40, jl_n40', true_and, and_true, true_implies, false_implies, not_true_eq_false, not_false_eq_true, implies_true, jl_z1, Nat.reduceEqDiff, Nat.reduceLeDiff, Nat.reduceLT, Nat.le_refl, Nat.lt_irrefl, Nat.zero_le, Nat.not_lt_zero, eq_self, Decidable.not_not]
      exact h
    · rw [if_pos d] at h
      simp (disch := omega) only [jl_0, jl_1, jl_2, jl_3, jl_4, jl_5, jl_6, jl_7, jl_8, jl_9, jl_10, jl_11, jl_12, jl_13, jl_14, jl_15, jl_16, jl_17, jl_18, jl_19, jl_20, jl_21, jl_22, jl_23, jl_24, jl_25, jl_26, jl_27, jl_28, jl_29, jl_30, jl_31, jl_32, jl_33, jl_34, jl_35, jl_36, jl_37, jl_38, jl_39, jl_40, jl_41, jl_42, jl_43, jl_44, jl_45, jl_46, jl_47, jl_48, jl_49, jl_50, jl_51, jl_52, jl_53, jl_54, jl_55, jl_56, jl_57, jl_58, jl_59, jl_60, jl_61, jl_62, jl_63, jl_64, jl_97, jl_99, jl_100, jl_112, jl_122, jl_127, jl_240, jl_273, jl_274, jl_275, jl_280, jl_316, jl_317, jl_320, jl_400, jl_m1, jl_m4, dI_s2, nI_add, pk_mul, nI_clamp, nI_leI, nI_ltI, nI_eq, vn_in, pk_rem, jb_0, jb_1, jl_n40, jl_n40', true_and, and_true, true_implies, false_implies, not_true_eq_false, not_false_eq_true, implies_true, jl_z1, Nat.reduceEqDiff, Nat.reduceLeDiff, Nat.reduceLT, Nat.le_refl, Nat.lt_irrefl, Nat.zero_le, Nat.not_lt_zero, eq_self, Decidable.not_not]
      refine r_anyOf hR hw hs hg (r_haveAll hK hB hR hw hs c ?_)
      unfold nX7_lackOf_55
      exact mx2 (by omega) (by omega) h
theorem r_weekDay {μ : Mem} {B D B' : Nat} {κ : KA} {Q : Int32 → Mem → Prop} (hK : KM μ B κ) (hB : B ≤ 360) (hk : KW κ B' D) (hD : D ≤ 100000) (h : Q (nI (κ.date % 7)) μ) : PX7_weekDay 100 (nI B) μ Q := by
  have e := hK.2.2.1
  have hd := hk.2.1
  unfold PX7_weekDay
  simp (disch := omega) only [jl_0, jl_1, jl_2, jl_3, jl_4, jl_5, jl_6, jl_7, jl_8, jl_9, jl_10, jl_11, jl_12, jl_13, jl_14, jl_15, jl_16, jl_17, jl_18, jl_19, jl_20, jl_21, jl_22, jl_23, jl_24, jl_25, jl_26, jl_27, jl_28, jl_29, jl_30, jl_31, jl_32, jl_33, jl_34, jl_35, jl_36, jl_37, jl_38, jl_39, jl_40, jl_41, jl_42, jl_43, jl_44, jl_45, jl_46, jl_47, jl_48, jl_49, jl_50, jl_51, jl_52, jl_53, jl_54, jl_55, jl_56, jl_57, jl_58, jl_59, jl_60, jl_61, jl_62, jl_63, jl_64, jl_97, jl_99, jl_100, jl_112, jl_122, jl_127, jl_240, jl_273, jl_274, jl_275, jl_280, jl_316, jl_317, jl_320, jl_400, jl_m1, jl_m4, dI_s2, nI_add, pk_mul, nI_clamp, nI_leI, nI_ltI, nI_eq, vn_in, pk_rem, jb_0, jb_1, jl_n40, jl_n40', true_and, and_true, true_implies, false_implies, not_true_eq_false, not_false_eq_true, implies_true, jl_z1, Nat.reduceEqDiff, Nat.reduceLeDiff, Nat.reduceLT, Nat.le_refl, Nat.lt_irrefl, Nat.zero_le, Nat.not_lt_zero, eq_self, Decidable.not_not, Nat.reduceAdd, e]
  exact ⟨by omega, h⟩
theorem r_isBought {μ : Mem} {B s t B' D : Nat} {κ : KA} {ρ : RA} {Q : Int32 → Mem → Prop} (hK : KM μ B κ) (hB : B ≤ 360) (hk : KW κ B' D) (hD : D ≤ 100000) (hR : MR μ ρ) (hw : RW ρ) (hs : s < ρ 0 4) (ht : t < ρ 0 0) (h0 : ¬ buyN ρ κ.date s t → Q (nI 0) μ) (h1 : buyN ρ κ.date s t → Q (nI 1) μ) : PX7_isBought 100 (nI B) (nI s) (nI t) μ Q := by
  have b := hw.2.2.2.1
  have hm := Nat.mod_lt κ.date (show 7 > 0 by decide)
  have t6 := hw.1
  have e3 := (hR.2.2.2.2.2.1 t ht).2.2
  have b3 := (hw.2.2.2.2.2.1 t ht).2.2
  have b2 := (hw.2.2.2.2.2.2.1 s).1
  unfold buyN at h0 h1
  have key : (ρ 4 s = 0 ∨ ρ 4 s = 2) → nX7_isBought_17 100 (nI B) (nI s) (nI t) Q μ := by
    intro c
    unfold nX7_isBought_17 nX7_isBought_50
    simp (disch := omega) only [jl_0, jl_1, jl_2, jl_3, jl_4, jl_5, jl_6, jl_7, jl_8, jl_9, jl_10, jl_11, jl_12, jl_13, jl_14, jl_15, jl_16, jl_17, jl_18, jl_19, jl_20, jl_21, jl_22, jl_23, jl_24, jl_25, jl_26, jl_27, jl_28, jl_29, jl_30, jl_31, jl_32, jl_33, jl_34, jl_35, jl_36, jl_37, jl_38, jl_39, jl_40, jl_41, jl_42, jl_43, jl_44, jl_45, jl_46, jl_47, jl_48, jl_49, jl_50, jl_51, jl_52, jl_53, jl_54, jl_55, jl_56, jl_57, jl_58, jl_59, jl_60, jl_61, jl_62, jl_63, jl_64, jl_97, jl_99, jl_100, jl_112, jl_122, jl_127, jl_240, jl_273, jl_274, jl_275, jl_280, jl_316, jl_317, jl_320, jl_400, jl_m1, jl_m4, dI_s2, nI_add, pk_mul, nI_clamp, nI_leI, nI_ltI, nI_eq, vn_in, pk_rem, jb_0, jb_1, jl_n40, jl_n40', true_and, and_true, true_implies, false_implies, not_true_eq_false, not_false_eq_true, implies_true, jl_z1, Nat.reduceEqDiff, Nat.reduceLeDiff, Nat.reduceLT, Nat.le_refl, Nat.lt_irrefl, Nat.zero_le, Nat.not_lt_zero, eq_self, Decidable.not_not, Nat.reduceAdd, e3]
    refine ⟨by omega, fun k => h0 (fun q => by omega), fun k => r_weekDay hK hB hk hD ?_⟩
    rw [hR.2.2.2.1]
    simp (disch := omega) only [jl_0, jl_1, jl_2, jl_3, jl_4, jl_5, jl_6, jl_7, jl_8, jl_9, jl_10, jl_11, jl_12, jl_13, jl_14, jl_15, jl_16, jl_17, jl_18, jl_19, jl_20, jl_21, jl_22, jl_23, jl_24, jl_25, jl_26, jl_27, jl_28, jl_29, jl_30, jl_31, jl_32, jl_33, jl_34, jl_35, jl_36, jl_37, jl_38, jl_39, jl_40, jl_41, jl_42, jl_43, jl_44, jl_45, jl_46, jl_47, jl_48, jl_49, jl_50, jl_51, jl_52, jl_53, jl_54, jl_55, jl_56, jl_57, jl_58, jl_59, jl_60, jl_61, jl_62, jl_63, jl_64, jl_97, jl_99, jl_100, jl_112, jl_122, jl_127, jl_240, jl_273, jl_274, jl_275, jl_280, jl_316, jl_317, jl_320, jl_400, jl_m1, jl_m4, dI_s2, nI_add, pk_mul, nI_clamp, nI_leI, nI_ltI, nI_eq, vn_in, pk_rem, jb_0, jb_1, jl_n40, jl_n40', true_and, and_true, true_implies, false_implies, not_true_eq_false, not_false_eq_true, implies_true, jl_z1, Nat.reduceEqDiff, Nat.reduceLeDiff, Nat.reduceLT, Nat.le_refl, Nat.lt_irrefl, Nat.zero_le, Nat.not_lt_zero, eq_self, Decidable.not_not]
    exact ⟨fun q => h0 (fun w => q w.1), fun q => h1 ⟨q, by omega, c⟩⟩
  unfold PX7_isBought
  refine r_kind hR hw hs ?_
  simp (disch := omega) only [jl_0, jl_1, jl_2, jl_3, jl_4, jl_5, jl_6, jl_7, jl_8, jl_9, jl_10, jl_11, jl_12, jl_13, jl_14, jl_15, jl_16, jl_17, jl_18, jl_19, jl_20, jl_21, jl_22, jl_23, jl_24, jl_25, jl_26, jl_27, jl_28, jl_29, jl_30, jl_31, jl_32, jl_33, jl_34, jl_35, jl_36, jl_37, jl_38, jl_39, jl_40, jl_41, jl_42, jl_43, jl_44, jl_45, jl_46, jl_47, jl_48, jl_49, jl_50, jl_51, jl_52, jl_53, jl_54, jl_55, jl_56, jl_57, jl_58, jl_59, jl_60, jl_61, jl_62, jl_63, jl_64, jl_97, jl_99, jl_100, jl_112, jl_122, jl_127, jl_240, jl_273, jl_274, jl_275, jl_280, jl_316, jl_317, jl_320, jl_400, jl_m1, jl_m4, dI_s2, nI_add, pk_mul, nI_clamp, nI_leI, nI_ltI, nI_eq, vn_in, pk_rem, jb_0, jb_1, jl_n40, jl_n40', true_and, and_true, true_implies, false_implies, not_true_eq_false, not_false_eq_true, implies_true, jl_z1, Nat.reduceEqDiff, Nat.reduceLeDiff, Nat.reduceLT, Nat.le_refl, Nat.lt_irrefl, Nat.zero_le, Nat.not_lt_zero, eq_self, Decidable.not_not]
  refine ⟨fun c => key (Or.inl c), fun c => r_kind hR hw hs ?_⟩
  unfold nX7_isBought_50
  simp (disch := omega) only [jl_0, jl_1, jl_2, jl_3, jl_4, jl_5, jl_6, jl_7, jl_8, jl_9, jl_10, jl_11, jl_12, jl_13, jl_14, jl_15, jl_16, jl_17, jl_18, jl_19, jl_20, jl_21, jl_22, jl_23, jl_24, jl_25, jl_26, jl_27, jl_28, jl_29, jl_30, jl_31, jl_32, jl_33, jl_34, jl_35, jl_36, jl_37, jl_38, jl_39, jl_40, jl_41, jl_42, jl_43, jl_44, jl_45, jl_46, jl_47, jl_48, jl_49, jl_50, jl_51, jl_52, jl_53, jl_54, jl_55, jl_56, jl_57, jl_58, jl_59, jl_60, jl_61, jl_62, jl_63, jl_64, jl_97, jl_99, jl_100, jl_112, jl_122, jl_127, jl_240, jl_273, jl_274, jl_275, jl_280, jl_316, jl_317, jl_320, jl_400, jl_m1, jl_m4, dI_s2, nI_add, pk_mul, nI_clamp, nI_leI, nI_ltI, nI_eq, vn_in, pk_rem, jb_0, jb_1, jl_n40, jl_n40', true_and, and_true, true_implies, false_implies, not_true_eq_false, not_false_eq_true, implies_true, jl_z1, Nat.reduceEqDiff, Nat.reduceLeDiff, Nat.reduceLT, Nat.le_refl, Nat.lt_irrefl, Nat.zero_le, Nat.not_lt_zero, eq_self, Decidable.not_not]
  exact ⟨fun d => h0 (fun q => by omega), fun d => key (Or.inr d)⟩
theorem r_packsOf {μ : Mem} {B s g t B' D : Nat} {κ : KA} {ρ : RA} {Q : Int32 → Mem → Prop} (hK : KM μ B κ) (hB : B ≤ 360) (hk : KW κ B' D) (hB' : B' ≤ 100000) (hD : D ≤ 100000) (hR : MR μ ρ) (hw : RW ρ) (hs : s < ρ 0 4) (ht : t < ρ 0 0) (hg : g ≤ 1) (h : Q (nI (packN ρ κ s g t)) μ) : PX7_packsOf 100 (nI B) (nI s) (nI g) (nI t) μ Q := by
  have t6 := hw.1
  have e2 := (hR.2.2.2.2.2.1 t ht).2.1
  have b2 := (hw.2.2.2.2.2.1 t ht).2.1
  have bl := lack_le (κ := κ) (s := s) (t := t) hw hg
  unfold PX7_packsOf
  unfold packN at h
  simp (disch := omega) only [jl_0, jl_1, jl_2, jl_3, jl_4, jl_5, jl_6, jl_7, jl_8, jl_9, jl_10, jl_11, jl_12, jl_13, jl_14, jl_15, jl_16, jl_17, jl_18, jl_19, jl_20, jl_21, jl_22, jl_23, jl_24, jl_25, jl_26, jl_27, jl_28, jl_29, jl_30, jl_31, jl_32, jl_33, jl_34, jl_35, jl_36, jl_37, jl_38, jl_39, jl_40, jl_41, jl_42, jl_43, jl_44, jl_45, jl_46, jl_47, jl_48, jl_49, jl_50, jl_51, jl_52, jl_53, jl_54, jl_55, jl_56, jl_57, jl_58, jl_59, jl_60, jl_61, jl_62, jl_63, jl_64, jl_97, jl_99, jl_100, jl_112, jl_122, jl_127, jl_240, jl_273, jl_274, jl_275, jl_280, jl_316, jl_317, jl_320, jl_400, jl_m1, jl_m4, dI_s2, nI_add, pk_mul, nI_clamp, nI_leI, nI_ltI, nI_eq, vn_in, pk_rem, jb_0, jb_1, jl_n40, jl_n40', true_and, and_true, true_implies, false_implies, not_true_eq_false, not_false_eq_true, implies_true, jl_z1, Nat.reduceEqDiff, Nat.reduceLeDiff, Nat.reduceLT, Nat.le_refl, Nat.lt_irrefl, Nat.zero_le, Nat.not_lt_zero, eq_self, Decidable.not_not, Nat.reduceAdd, e2]
  refine ⟨by omega, fun x hx => ?_⟩
  rw [hx]
  refine r_isBought hK hB hk hD hR hw hs ht (fun d => ?_) (fun d => ?_)
  · rw [if_neg d] at h
    simp (disch := omega) only [jl_0, jl_1, jl_2, jl_3, jl_4, jl_5, jl_6, jl_7, jl_8, jl_9, jl_10, jl_11, jl_12, jl_13, jl_14, jl_15, jl_16, jl_17, jl_18, jl_19, jl_20, jl_21, jl_22, jl_23, jl_24, jl_25, jl_26, jl_27, jl_28, jl_29, jl_30, jl_31, jl_32, jl_33, jl_34, jl_35, jl_36, jl_37, jl_38, jl_39, jl_40, jl_41, jl_42, jl_43, jl_44, jl_45, jl_46, jl_47, jl_48, jl_49, jl_50, jl_51, jl_52, jl_53, jl_54, jl_55, jl_56, jl_57, jl_58, jl_59, jl_60, jl_61, jl_62, jl_63, jl_64, jl_97, jl_99, jl_100, jl_112, jl_122, jl_127, jl_240, jl_273, jl_274, jl_275, jl_280, jl_316, jl_317, jl_320, jl_400, jl_m1, jl_m4, dI_s2, nI_add, pk_mul, nI_clamp, nI_leI, nI_ltI, nI_eq, vn_in, pk_rem, jb_0, jb_1, jl_n40, jl_n40', true_and, and_true, true_implies, false_implies, not_true_eq_false, not_false_eq_true, implies_true, jl_z1, Nat.reduceEqDiff, Nat.reduceLeDiff, Nat.reduceLT, Nat.le_refl, Nat.lt_irrefl, Nat.zero_le, Nat.not_lt_zero, eq_self, Decidable.not_not]
    exact h
  · rw [if_pos d] at h
    simp (disch := omega) only [jl_0, jl_1, jl_2, jl_3, jl_4, jl_5, jl_6, jl_7, jl_8, jl_9, jl_10, jl_11, jl_12, jl_13, jl_14, jl_15, jl_16, jl_17, jl_18, jl_19, jl_20, jl_21, jl_22, jl_23, jl_24, jl_25, jl_26, jl_27, jl_28, jl_29, jl_30, jl_31, jl_32, jl_33, jl_34, jl_35, jl_36, jl_37, jl_38, jl_39, jl_40, jl_41, jl_42, jl_43, jl_44, jl_45, jl_46, jl_47, jl_48, jl_49, jl_50, jl_51, jl_52, jl_53, jl_54, jl_55, jl_56, jl_57, jl_58, jl_59, jl_60, jl_61, jl_62, jl_63, jl_64, jl_97, jl_99, jl_100, jl_112, jl_122, jl_127, jl_240, jl_273, jl_274, jl_275, jl_280, jl_316, jl_317, jl_320, jl_400, jl_m1, jl_m4, dI_s2, nI_add, pk_mul, nI_clamp, nI_leI, nI_ltI, nI_eq, vn_in, pk_rem, jb_0, jb_1, jl_n40, jl_n40', true_and, and_true, true_implies, false_implies, not_true_eq_false, not_false_eq_true, implies_true, jl_z1, Nat.reduceEqDiff, Nat.reduceLeDiff, Nat.reduceLT, Nat.le_refl, Nat.lt_irrefl, Nat.zero_le, Nat.not_lt_zero, eq_self, Decidable.not_not]
    refine r_lackOf hK hB hk hB' hR hw hs ht hg ?_
    simp (disch := omega) only [jl_0, jl_1, jl_2, jl_3, jl_4, jl_5, jl_6, jl_7, jl_8, jl_9, jl_10, jl_11, jl_12, jl_13, jl_14, jl_15, jl_16, jl_17, jl_18, jl_19, jl_20, jl_21, jl_22, jl_23, jl_24, jl_25, jl_26, jl_27, jl_28, jl_29, jl_30, jl_31, jl_32, jl_33, jl_34, jl_35, jl_36, jl_37, jl_38, jl_39, jl_40, jl_41, jl_42, jl_43, jl_44, jl_45, jl_46, jl_47, jl_48, jl_49, jl_50, jl_51, jl_52, jl_53, jl_54, jl_55, jl_56, jl_57, jl_58, jl_59, jl_60, jl_61, jl_62, jl_63, jl_64, jl_97, jl_99, jl_100, jl_112, jl_122, jl_127, jl_240, jl_273, jl_274, jl_275, jl_280, jl_316, jl_317, jl_320, jl_400, jl_m1, jl_m4, dI_s2, nI_add, pk_mul, nI_clamp, nI_leI, nI_ltI, nI_eq, vn_in, pk_rem, jb_0, jb_1, jl_n40, jl_n40', true_and, and_true, true_implies, false_implies, not_true_eq_false, not_false_eq_true, implies_true, jl_z1, Nat.reduceEqDiff, Nat.reduceLeDiff, Nat.reduceLT, Nat.le_refl, Nat.lt_irrefl, Nat.zero_le, Nat.not_lt_zero, eq_self, Decidable.not_not, pk_sub, pk_div]
    exact ⟨by omega, h⟩
theorem r_whyNot {μ : Mem} {B s g B' D : Nat} {κ : KA} {ρ : RA} {Q : Int32 → Mem → Prop} (hK : KM μ B κ) (hB : B ≤ 360) (hk : KW κ B' D) (hB' : B' ≤ 100000) (hD : D ≤ 100000) (hR : MR μ ρ) (hw : RW ρ) (hs : s < ρ 0 4) (hg : g ≤ 1) (h : Q (nI (whyN ρ κ s g)) μ) : PX7_whyNot 100 (nI B) (nI s) (nI g) μ Q := by
  have hd := hk.2.1
  have t6 := hw.1
  have s9 := hw.2.1
  have el := hK.2.1 s (by omega)
  have ed := hK.2.2.1
  have bg := hw.2.2.1
  have bo := hw.2.2.2.2.1
  have hm := Nat.mod_lt κ.date (show 7 > 0 by decide)
  unfold whyN at h
  intro S hS
  refine r_weekDay hK hB hk hD ?_
  rw [hR.2.2.2.2.1]
  simp (disch := omega) only [jl_0, jl_1, jl_2, jl_3, jl_4, jl_5, jl_6, jl_7, jl_8, jl_9, jl_10, jl_11, jl_12, jl_13, jl_14, jl_15, jl_16, jl_17, jl_18, jl_19, jl_20, jl_21, jl_22, jl_23, jl_24, jl_25, jl_26, jl_27, jl_28, jl_29, jl_30, jl_31, jl_32, jl_33, jl_34, jl_35, jl_36, jl_37, jl_38, jl_39, jl_40, jl_41, jl_42, jl_43, jl_44, jl_45, jl_46, jl_47, jl_48, jl_49, jl_50, jl_51, jl_52, jl_53, jl_54, jl_55, jl_56, jl_57, jl_58, jl_59, jl_60, jl_61, jl_62, jl_63, jl_64, jl_97, jl_99, jl_100, jl_112, jl_122, jl_127, jl_240, jl_273, jl_274, jl_275, jl_280, jl_316, jl_317, jl_320, jl_400, jl_m1, jl_m4, dI_s2, nI_add, pk_mul, nI_clamp, nI_leI, nI_ltI, nI_eq, vn_in, pk_rem, jb_0, jb_1, jl_n40, jl_n40', true_and, and_true, true_implies, false_implies, not_true_eq_false, not_false_eq_true, implies_true, jl_z1, Nat.reduceEqDiff, Nat.reduceLeDiff, Nat.reduceLT, Nat.le_refl, Nat.lt_irrefl, Nat.zero_le, Nat.not_lt_zero, eq_self, Decidable.not_not, Nat.reduceAdd]
  refine ⟨fun d => ⟨by omega, ?_⟩, fun d => ?_⟩
  · rw [if_neg (show ¬ outN ρ κ.date from d)] at h
    have key : ¬ (∃ d : Nat, κ.la s = some d ∧ κ.date < d + ρ 0 12) → nX7_whyNot_59 100 (nI B) (nI s) (nI g) Q S μ := by
      intro c
      rw [if_neg c] at h
      unfold nX7_whyNot_59
      have key : ∀ a, a ≤ ρ 0 0 → (∀ t, t < a → ¬ badN ρ κ s g t) → S (nI a) μ := by
        refine up_pure ?_ ?_
        · intro a ha ih hb
          have bl := lack_le (κ := κ) (s := s) (t := a) hw hg
          apply hS
          unfold nX7_whyNot_62 nX7_whyNot_96
          rw [hR.1]
          simp (disch := omega) only [jl_0, jl_1, jl_2, jl_3, jl_4, jl_5, jl_6, jl_7, jl_8, jl_9, jl_10, jl_11, jl_12, jl_13, jl_14, jl_15, jl_16, jl_17, jl_18, jl_19, jl_20, jl_21, jl_22, jl_23, jl_24, jl_25, jl_26, jl_27, jl_28, jl_29, jl_30, jl_31, jl_32, jl_33, jl_34, jl_35, jl_36, jl_37, jl_38, jl_39, jl_40, jl_41, jl_42, jl_43, jl_44, jl_45, jl_46, jl_47, jl_48, jl_49, jl_50, jl_51, jl_52, jl_53, jl_54, jl_55, jl_56, jl_57, jl_58, jl_59, jl_60, jl_61, jl_62, jl_63, jl_64, jl_97, jl_99, jl_100, jl_112, jl_122, jl_127, jl_240, jl_273, jl_274, jl_275, jl_280, jl_316, jl_317, jl_320, jl_400, jl_m1, jl_m4, dI_s2, nI_add, pk_mul, nI_clamp, nI_leI, nI_ltI, nI_eq, vn_in, pk_rem, jb_0, jb_1, jl_n40, jl_n40', true_and, and_true, true_implies, false_implies, not_true_eq_false, not_false_eq_true, implies_true, jl_z1, Nat.reduceEqDiff, Nat.reduceLeDiff, Nat.reduceLT, Nat.le_refl, Nat.lt_irrefl, Nat.zero_le, Nat.not_lt_zero, eq_self, Decidable.not_not]
          refine ⟨fun q => absurd q (by omega), fun _ => ?_⟩
          refine r_lackOf hK hB hk hB' hR hw hs ha hg ?_
          simp (disch := omega) only [jl_0, jl_1, jl_2, jl_3, jl_4, jl_5, jl_6, jl_7, jl_8, jl_9, jl_10, jl_11, jl_12, jl_13, jl_14, jl_15, jl_16, jl_17, jl_18, jl_19, jl_20, jl_21, jl_22, jl_23, jl_24, jl_25, jl_26, jl_27, jl_28, jl_29, jl_30, jl_31, jl_32, jl_33, jl_34, jl_35, jl_36, jl_37, jl_38, jl_39, jl_40, jl_41, jl_42, jl_43, jl_44, jl_45, jl_46, jl_47, jl_48, jl_49, jl_50, jl_51, jl_52, jl_53, jl_54, jl_55, jl_56, jl_57, jl_58, jl_59, jl_60, jl_61, jl_62, jl_63, jl_64, jl_97, jl_99, jl_100, jl_112, jl_122, jl_127, jl_240, jl_273, jl_274, jl_275, jl_280, jl_316, jl_317, jl_320, jl_400, jl_m1, jl_m4, dI_s2, nI_add, pk_mul, nI_clamp, nI_leI, nI_ltI, nI_eq, vn_in, pk_rem, jb_0, jb_1, jl_n40, jl_n40', true_and, and_true, true_implies, false_implies, not_true_eq_false, not_false_eq_true, implies_true, jl_z1, Nat.reduceEqDiff, Nat.reduceLeDiff, Nat.reduceLT, Nat.le_refl, Nat.lt_irrefl, Nat.zero_le, Nat.not_lt_zero, eq_self, Decidable.not_not]
          refine ⟨fun c => ih (fun t ht => ?_), fun c => ?_⟩
          · by_cases q : t < a
            · exact hb t q
            · have : t = a := by omega
              subst this
              exact fun w => by have := w.1; omega
          · refine r_isBought hK hB hk hD hR hw hs ha (fun d => ?_) (fun d => ?_)
            · simp (disch := omega) only [jl_0, jl_1, jl_2, jl_3, jl_4, jl_5, jl_6, jl_7, jl_8, jl_9, jl_10, jl_11, jl_12, jl_13, jl_14, jl_15, jl_16, jl_17, jl_18, jl_19, jl_20, jl_21, jl_22, jl_23, jl_24, jl_25, jl_26, jl_27, jl_28, jl_29, jl_30, jl_31, jl_32, jl_33, jl_34, jl_35, jl_36, jl_37, jl_38, jl_39, jl_40, jl_41, jl_42, jl_43, jl_44, jl_45, jl_46, jl_47, jl_48, jl_49, jl_50, jl_51, jl_52, jl_53, jl_54, jl_55, jl_56, jl_57, jl_58, jl_59, jl_60, jl_61, jl_62, jl_63, jl_64, jl_97, jl_99, jl_100, jl_112, jl_122, jl_127, jl_240, jl_273, jl_274, jl_275, jl_280, jl_316, jl_317, jl_320, jl_400, jl_m1, jl_m4, dI_s2, nI_add, pk_mul, nI_clamp, nI_leI, nI_ltI, nI_eq, vn_in, pk_rem, jb_0, jb_1, jl_n40, jl_n40', true_and, and_true, true_implies, false_implies, not_true_eq_false, not_false_eq_true, implies_true, jl_z1, Nat.reduceEqDiff, Nat.reduceLeDiff, Nat.reduceLT, Nat.le_refl, Nat.lt_irrefl, Nat.zero_le, Nat.not_lt_zero, eq_self, Decidable.not_not]
              rw [if_pos ⟨a, ha, by omega, d⟩] at h
              exact h
            · simp (disch := omega) only [jl_0, jl_1, jl_2, jl_3, jl_4, jl_5, jl_6, jl_7, jl_8, jl_9, jl_10, jl_11, jl_12, jl_13, jl_14, jl_15, jl_16, jl_17, jl_18, jl_19, jl_20, jl_21, jl_22, jl_23, jl_24, jl_25, jl_26, jl_27, jl_28, jl_29, jl_30, jl_31, jl_32, jl_33, jl_34, jl_35, jl_36, jl_37, jl_38, jl_39, jl_40, jl_41, jl_42, jl_43, jl_44, jl_45, jl_46, jl_47, jl_48, jl_49, jl_50, jl_51, jl_52, jl_53, jl_54, jl_55, jl_56, jl_57, jl_58, jl_59, jl_60, jl_61, jl_62, jl_63, jl_64, jl_97, jl_99, jl_100, jl_112, jl_122, jl_127, jl_240, jl_273, jl_274, jl_275, jl_280, jl_316, jl_317, jl_320, jl_400, jl_m1, jl_m4, dI_s2, nI_add, pk_mul, nI_clamp, nI_leI, nI_ltI, nI_eq, vn_in, pk_rem, jb_0, jb_1, jl_n40, jl_n40', true_and, and_true, true_implies, false_implies, not_true_eq_false, not_false_eq_true, implies_true, jl_z1, Nat.reduceEqDiff, Nat.reduceLeDiff, Nat.reduceLT, Nat.le_refl, Nat.lt_irrefl, Nat.zero_le, Nat.not_lt_zero, eq_self, Decidable.not_not]
              refine ih (fun t ht => ?_)
              by_cases q : t < a
              · exact hb t q
              · have : t = a := by omega
                subst this
                exact fun w => w.2 d
        · intro hb
          apply hS
          unfold nX7_whyNot_62
          rw [hR.1]
          rw [if_neg (fun w => by obtain ⟨t, h1, h2⟩ := w; exact hb t h1 h2)] at h
          exact ⟨fun _ => h, fun c => absurd (nI_le (Nat.le_refl _) (by omega)) c⟩
      exact key 0 (Nat.zero_le _) (fun t ht => absurd ht (Nat.not_lt_zero _))
    rcases hla : κ.la s with _ | e
    · rw [hla] at el
      rw [el]
      exact ⟨fun _ => key (fun c => by obtain ⟨d, h1, _⟩ := c; rw [hla] at h1; cases h1), fun c => absurd rfl c⟩
    · have he := hk.2.2 s e hla
      rw [hla] at el
      have el2 : μ.1 114 (B + 24 + s) = nI e := el
      simp (disch := omega) only [jl_0, jl_1, jl_2, jl_3, jl_4, jl_5, jl_6, jl_7, jl_8, jl_9, jl_10, jl_11, jl_12, jl_13, jl_14, jl_15, jl_16, jl_17, jl_18, jl_19, jl_20, jl_21, jl_22, jl_23, jl_24, jl_25, jl_26, jl_27, jl_28, jl_29, jl_30, jl_31, jl_32, jl_33, jl_34, jl_35, jl_36, jl_37, jl_38, jl_39, jl_40, jl_41, jl_42, jl_43, jl_44, jl_45, jl_46, jl_47, jl_48, jl_49, jl_50, jl_51, jl_52, jl_53, jl_54, jl_55, jl_56, jl_57, jl_58, jl_59, jl_60, jl_61, jl_62, jl_63, jl_64, jl_97, jl_99, jl_100, jl_112, jl_122, jl_127, jl_240, jl_273, jl_274, jl_275, jl_280, jl_316, jl_317, jl_320, jl_400, jl_m1, jl_m4, dI_s2, nI_add, pk_mul, nI_clamp, nI_leI, nI_ltI, nI_eq, vn_in, pk_rem, jb_0, jb_1, jl_n40, jl_n40', true_and, and_true, true_implies, false_implies, not_true_eq_false, not_false_eq_true, implies_true, jl_z1, Nat.reduceEqDiff, Nat.reduceLeDiff, Nat.reduceLT, Nat.le_refl, Nat.lt_irrefl, Nat.zero_le, Nat.not_lt_zero, eq_self, Decidable.not_not, Nat.reduceAdd, el2, ed, hR.2.2.1, pk_sub]
      refine ⟨by omega, fun c => key (fun q => ?_), fun c => ?_⟩
      · obtain ⟨d, h1, h2⟩ := q
        rw [hla] at h1
        cases h1
        omega
      · rw [if_pos ⟨e, hla, by omega⟩] at h
        exact h
  · rw [if_pos (show outN ρ κ.date from d)] at h
    exact h
