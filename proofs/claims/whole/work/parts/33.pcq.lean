theorem c_unitsOf' {μ : Mem} {b t : Nat} {κ : KA} {Q : Int32 → Mem → Prop} (hK : KC μ b κ) (ht : t < 6) (h : Q (nI (untN κ t)) μ) : PX0_unitsOf b (nI t) μ Q := by
  intro S hS
  refine up_pure (n := 4) (T := fun a => S (nI (sumN (fun a => κ.u (4 * t + a)) a)) (nI a) μ) ?_ ?_ 0 (by omega)
  · intro a ha hn
    have e := hK.1 (t * 4 + a) (by omega)
    apply hS
    unfold nX0_unitsOf_4
    simp (disch := omega) only [jl_0, jl_1, jl_2, jl_3, jl_4, jl_5, jl_6, jl_7, jl_8, jl_9, jl_10, jl_11, jl_12, jl_13, jl_14, jl_15, jl_16, jl_17, jl_18, jl_19, jl_20, jl_21, jl_22, jl_23, jl_24, jl_25, jl_26, jl_27, jl_28, jl_29, jl_30, jl_31, jl_32, jl_33, jl_34, jl_35, jl_36, jl_37, jl_38, jl_39, jl_40, jl_41, jl_42, jl_43, jl_44, jl_45, jl_46, jl_47, jl_48, jl_49, jl_50, jl_51, jl_52, jl_53, jl_54, jl_55, jl_56, jl_57, jl_58, jl_59, jl_60, jl_61, jl_62, jl_63, jl_64, jl_97, jl_99, jl_100, jl_112, jl_122, jl_127, jl_240, jl_273, jl_274, jl_275, jl_280, jl_316, jl_317, jl_320, jl_400, jl_m1, jl_m4, dI_s2, nI_add, pk_mul, nI_clamp, nI_leI, nI_ltI, nI_eq, vn_in, pk_rem, jb_0, jb_1, jl_n40, jl_n40', true_and, and_true, true_implies, false_implies, not_true_eq_false, not_false_eq_true, implies_true, jl_z1, Nat.reduceEqDiff, Nat.reduceLeDiff, Nat.reduceLT, Nat.le_refl, Nat.lt_irrefl, Nat.zero_le, Nat.not_lt_zero, eq_self, Decidable.not_not, e]
    refine ⟨fun c => absurd c (by omega), fun _ => ⟨by omega, ?_⟩⟩
    rw [Nat.mul_comm t 4]
    exact hn
  · apply hS
    unfold nX0_unitsOf_4
    simp (disch := omega) only [jl_0, jl_1, jl_2, jl_3, jl_4, jl_5, jl_6, jl_7, jl_8, jl_9, jl_10, jl_11, jl_12, jl_13, jl_14, jl_15, jl_16, jl_17, jl_18, jl_19, jl_20, jl_21, jl_22, jl_23, jl_24, jl_25, jl_26, jl_27, jl_28, jl_29, jl_30, jl_31, jl_32, jl_33, jl_34, jl_35, jl_36, jl_37, jl_38, jl_39, jl_40, jl_41, jl_42, jl_43, jl_44, jl_45, jl_46, jl_47, jl_48, jl_49, jl_50, jl_51, jl_52, jl_53, jl_54, jl_55, jl_56, jl_57, jl_58, jl_59, jl_60, jl_61, jl_62, jl_63, jl_64, jl_97, jl_99, jl_100, jl_112, jl_122, jl_127, jl_240, jl_273, jl_274, jl_275, jl_280, jl_316, jl_317, jl_320, jl_400, jl_m1, jl_m4, dI_s2, nI_add, pk_mul, nI_clamp, nI_leI, nI_ltI, nI_eq, vn_in, pk_rem, jb_0, jb_1, jl_n40, jl_n40', true_and, and_true, true_implies, false_implies, not_true_eq_false, not_false_eq_true, implies_true, jl_z1, Nat.reduceEqDiff, Nat.reduceLeDiff, Nat.reduceLT, Nat.le_refl, Nat.lt_irrefl, Nat.zero_le, Nat.not_lt_zero, eq_self, Decidable.not_not]
    exact h
theorem c_wanted {μ : Mem} {r s g t : Nat} {ρ : RA} {Q : Int32 → Mem → Prop} (hR : CR μ r ρ) (hw : RW ρ) (hs : s < 9) (ht : t < 6) (hg : g ≤ 1) (h : Q (nI (wantN ρ s g t)) μ) : PX2_wanted r (nI s) (nI g) (nI t) μ Q := by
  have e1 := (hR.2.2.2.2.2.2.2.1 (s * 6 + t) (by omega)).1
  have e2 := (hR.2.2.2.2.2.2.1 s hs).1
  have b1 := (hw.2.2.2.2.2.2.2.2.1 (s * 6 + t)).1
  have b2 := (hw.2.2.2.2.2.2.1 s).1
  unfold PX2_wanted nX2_wanted_39
  unfold wantN at h
  rw [Nat.mul_comm 6 s] at h
  simp (disch := omega) only [jl_0, jl_1, jl_2, jl_3, jl_4, jl_5, jl_6, jl_7, jl_8, jl_9, jl_10, jl_11, jl_12, jl_13, jl_14, jl_15, jl_16, jl_17, jl_18, jl_19, jl_20, jl_21, jl_22, jl_23, jl_24, jl_25, jl_26, jl_27, jl_28, jl_29, jl_30, jl_31, jl_32, jl_33, jl_34, jl_35, jl_36, jl_37, jl_38, jl_39, jl_40, jl_41, jl_42, jl_43, jl_44, jl_45, jl_46, jl_47, jl_48, jl_49, jl_50, jl_51, jl_52, jl_53, jl_54, jl_55, jl_56, jl_57, jl_58, jl_59, jl_60, jl_61, jl_62, jl_63, jl_64, jl_97, jl_99, jl_100, jl_112, jl_122, jl_127, jl_240, jl_273, jl_274, jl_275, jl_280, jl_316, jl_317, jl_320, jl_400, jl_m1, jl_m4, dI_s2, nI_add, pk_mul, nI_clamp, nI_leI, nI_ltI, nI_eq, vn_in, pk_rem, jb_0, jb_1, jl_n40, jl_n40', true_and, and_true, true_implies, false_implies, not_true_eq_false, not_false_eq_true, implies_true, jl_z1, Nat.reduceEqDiff, Nat.reduceLeDiff, Nat.reduceLT, Nat.le_refl, Nat.lt_irrefl, Nat.zero_le, Nat.not_lt_zero, eq_self, Decidable.not_not, e1, e2]
  refine ⟨by omega, ?_, ?_⟩
  · intro c; rw [if_neg (by omega)] at h; exact h
  · intro c
    refine ⟨fun d => ?_, fun d => ⟨hs, fun k => ?_, fun k => ?_⟩⟩
    · rw [if_neg (by omega)] at h; exact h
    · rw [if_neg (by omega)] at h; exact h
    · rw [if_pos (by omega)] at h; exact h
theorem c_isInSoup {μ : Mem} {r s t : Nat} {ρ : RA} {Q : Int32 → Mem → Prop} (hR : CR μ r ρ) (hw : RW ρ) (hs : s < 9) (ht : t < 6) (h0 : ¬ bitN (ρ 8 s) t = 1 → Q (nI 0) μ) (h1 : bitN (ρ 8 s) t = 1 → Q (nI 1) μ) : PX2_isInSoup r (nI s) (nI t) μ Q := by
  have e2 := (hR.2.2.2.2.2.2.1 s hs).2.2.2.2
  have b2 := (hw.2.2.2.2.2.2.1 s).2.2.2.2
  unfold PX2_isInSoup
  simp (disch := omega) only [jl_0, jl_1, jl_2, jl_3, jl_4, jl_5, jl_6, jl_7, jl_8, jl_9, jl_10, jl_11, jl_12, jl_13, jl_14, jl_15, jl_16, jl_17, jl_18, jl_19, jl_20, jl_21, jl_22, jl_23, jl_24, jl_25, jl_26, jl_27, jl_28, jl_29, jl_30, jl_31, jl_32, jl_33, jl_34, jl_35, jl_36, jl_37, jl_38, jl_39, jl_40, jl_41, jl_42, jl_43, jl_44, jl_45, jl_46, jl_47, jl_48, jl_49, jl_50, jl_51, jl_52, jl_53, jl_54, jl_55, jl_56, jl_57, jl_58, jl_59, jl_60, jl_61, jl_62, jl_63, jl_64, jl_97, jl_99, jl_100, jl_112, jl_122, jl_127, jl_240, jl_273, jl_274, jl_275, jl_280, jl_316, jl_317, jl_320, jl_400, jl_m1, jl_m4, dI_s2, nI_add, pk_mul, nI_clamp, nI_leI, nI_ltI, nI_eq, vn_in, pk_rem, jb_0, jb_1, jl_n40, jl_n40', true_and, and_true, true_implies, false_implies, not_true_eq_false, not_false_eq_true, implies_true, jl_z1, Nat.reduceEqDiff, Nat.reduceLeDiff, Nat.reduceLT, Nat.le_refl, Nat.lt_irrefl, Nat.zero_le, Nat.not_lt_zero, eq_self, Decidable.not_not, e2]
  exact ⟨hs, h0, h1⟩
theorem c_soupWanted {μ : Mem} {r s g : Nat} {ρ : RA} {Q : Int32 → Mem → Prop} (hR : CR μ r ρ) (hs : s < 9) (hg : g ≤ 1) (h : Q (nI (soupN ρ s g)) μ) : PX2_soupWanted r (nI s) (nI g) μ Q := by
  have e2 := (hR.2.2.2.2.2.2.1 s hs).2.2.2.1
  unfold soupN at h
  unfold PX2_soupWanted
  simp (disch := omega) only [jl_0, jl_1, jl_2, jl_3, jl_4, jl_5, jl_6, jl_7, jl_8, jl_9, jl_10, jl_11, jl_12, jl_13, jl_14, jl_15, jl_16, jl_17, jl_18, jl_19, jl_20, jl_21, jl_22, jl_23, jl_24, jl_25, jl_26, jl_27, jl_28, jl_29, jl_30, jl_31, jl_32, jl_33, jl_34, jl_35, jl_36, jl_37, jl_38, jl_39, jl_40, jl_41, jl_42, jl_43, jl_44, jl_45, jl_46, jl_47, jl_48, jl_49, jl_50, jl_51, jl_52, jl_53, jl_54, jl_55, jl_56, jl_57, jl_58, jl_59, jl_60, jl_61, jl_62, jl_63, jl_64, jl_97, jl_99, jl_100, jl_112, jl_122, jl_127, jl_240, jl_273, jl_274, jl_275, jl_280, jl_316, jl_317, jl_320, jl_400, jl_m1, jl_m4, dI_s2, nI_add, pk_mul, nI_clamp, nI_leI, nI_ltI, nI_eq, vn_in, pk_rem, jb_0, jb_1, jl_n40, jl_n40', true_and, and_true, true_implies, false_implies, not_true_eq_false, not_false_eq_true, implies_true, jl_z1, Nat.reduceEqDiff, Nat.reduceLeDiff, Nat.reduceLT, Nat.le_refl, Nat.lt_irrefl, Nat.zero_le, Nat.not_lt_zero, eq_self, Decidable.not_not, e2]
  refine ⟨fun c => ⟨hs, ?_⟩, fun c => ⟨hs, ?_⟩⟩
  · rw [c] at h; exact h
  · rw [show g = 1 by omega] at h; exact h
theorem c_lacking {μ : Mem} {b r s g t B D : Nat} {κ : KA} {ρ : RA} {Q : Int32 → Mem → Prop} (hK : KC μ b κ) (hk : KW κ B D) (hB : B ≤ 100000) (hR : CR μ r ρ) (hw : RW ρ) (hs : s < 9) (ht : t < ρ 0 0) (hg : g ≤ 1) (h : Q (nI (lackN ρ κ s g t)) μ) : PX0_lacking b r (nI s) (nI g) (nI t) μ Q := by
  have e2 := (hR.2.2.2.2.2.2.1 s hs).1
  have b2 := (hw.2.2.2.2.2.2.1 s).1
  have t6 := hw.1
  have hu := unt_le (t := t) hk
  have hwt := want_le (s := s) (g := g) (t := t) hw
  have hsp := soup_le (s := s) hw hg
  have hal := all_le (s := s) hw hk
  unfold lackN at h
  intro S hS
  simp (disch := omega) only [jl_0, jl_1, jl_2, jl_3, jl_4, jl_5, jl_6, jl_7, jl_8, jl_9, jl_10, jl_11, jl_12, jl_13, jl_14, jl_15, jl_16, jl_17, jl_18, jl_19, jl_20, jl_21, jl_22, jl_23, jl_24, jl_25, jl_26, jl_27, jl_28, jl_29, jl_30, jl_31, jl_32, jl_33, jl_34, jl_35, jl_36, jl_37, jl_38, jl_39, jl_40, jl_41, jl_42, jl_43, jl_44, jl_45, jl_46, jl_47, jl_48, jl_49, jl_50, jl_51, jl_52, jl_53, jl_54, jl_55, jl_56, jl_57, jl_58, jl_59, jl_60, jl_61, jl_62, jl_63, jl_64, jl_97, jl_99, jl_100, jl_112, jl_122, jl_127, jl_240, jl_273, jl_274, jl_275, jl_280, jl_316, jl_317, jl_320, jl_400, jl_m1, jl_m4, dI_s2, nI_add, pk_mul, nI_clamp, nI_leI, nI_ltI, nI_eq, vn_in, pk_rem, jb_0, jb_1, jl_n40, jl_n40', true_and, and_true, true_implies, false_implies, not_true_eq_false, not_false_eq_true, implies_true, jl_z1, Nat.reduceEqDiff, Nat.reduceLeDiff, Nat.reduceLT, Nat.le_refl, Nat.lt_irrefl, Nat.zero_le, Nat.not_lt_zero, eq_self, Decidable.not_not, e2]
  refine ⟨hs, fun c => ?_, fun c => ?_⟩
  · rw [if_pos c] at h
    refine c_isInSoup hR hw hs (by omega) (fun d => ?_) (fun d => ?_)
    · rw [if_neg d] at h
      simp (disch := omega) only [jl_0, jl_1, jl_2, jl_3, jl_4, jl_5, jl_6, jl_7, jl_8, jl_9, jl_10, jl_11, jl_12, jl_13, jl_14, jl_15, jl_16, jl_17, jl_18, jl_19, jl_20, jl_21, jl_22, jl_23, jl_24, jl_25, jl_26, jl_27, jl_28, jl_29, jl_30, jl_31, jl_32, jl_33, jl_34, jl_35, jl_36, jl_37, jl_38, jl_39, jl_40, jl_41, jl_42, jl_43, jl_44, jl_45, jl_46, jl_47, jl_48, jl_49, jl_50, jl_51, jl_52, jl_53, jl_54, jl_55, jl_56, jl_57, jl_58, jl_59, jl_60, jl_61, jl_62, jl_63, jl_64, jl_97, jl_99, jl_100, jl_112, jl_122, jl_127, jl_240, jl_273, jl_274, jl_275, jl_280, jl_316, jl_317, jl_320, jl_400, jl_m1, jl_m4, dI_s2, nI_add, pk_mul, nI_clamp, nI_leI, nI_ltI, nI_eq, vn_in, pk_rem, jb_0, jb_1, jl_n40, jl_n40', true_and, and_true, true_implies, false_implies, not_true_eq_false, not_false_eq_true, implies_true, jl_z1, Nat.reduceEqDiff, Nat.reduceLeDiff, Nat.reduceLT, Nat.le_refl, Nat.lt_irrefl, Nat.zero_le, Nat.not_lt_zero, eq_self, Decidable.not_not]
      exact h
    · rw [if_pos d] at h
      simp (disch := omega) only [jl_0, jl_1, jl_2, jl_3, jl_4, jl_5, jl_6, jl_7, jl_8, jl_9, jl_10, jl_11, jl_12, jl_13, jl_14, jl_15, jl_16, jl_17, jl_18, jl_19, jl_20, jl_21, jl_22, jl_23, jl_24, jl_25, jl_26, jl_27, jl_28, jl_29, jl_30, jl_31, jl_32, jl_33, jl_34, jl_35, jl_36, jl_37, jl_38, jl_39, jl_40, jl_41, jl_42, jl_43, jl_44, jl_45, jl_46, jl_47, jl_48, jl_49, jl_50, jl_51, jl_52, jl_53, jl_54, jl_55, jl_56, jl_57, jl_58, jl_59, jl_60, jl_61, jl_62, jl_63, jl_64, jl_97, jl_99, jl_100, jl_112, jl_122, jl_127, jl_240, jl_273, jl_274, jl_275, jl_280, jl_316, jl_317, jl_320, jl_400, jl_m1, jl_m4, dI_s2, nI_add, pk_mul, nI_clamp, nI_leI, nI_ltI, nI_eq, vn_in, pk_rem, jb_0, jb_1, jl_n40, jl_n40', true_and, and_true, true_implies, false_implies, not_true_eq_false, not_false_eq_true, implies_true, jl_z1, Nat.reduceEqDiff, Nat.reduceLeDiff, Nat.reduceLT, Nat.le_refl, Nat.lt_irrefl, Nat.zero_le, Nat.not_lt_zero, eq_self, Decidable.not_not]
      refine c_soupWanted hR hs hg ?_
      have key : ∀ a, a ≤ ρ 0 0 → S (nI (soupN ρ s g) - nI (sumN (fun t => if bitN (ρ 8 s) t = 1 then untN κ t else 0) a)) (nI a) μ := by
        refine up_pure ?_ ?_
        · intro a ha hn
          apply hS
          unfold nX0_lacking_53 nX0_lacking_83
          rw [hR.1]
          simp (disch := omega) only [jl_0, jl_1, jl_2, jl_3, jl_4, jl_5, jl_6, jl_7, jl_8, jl_9, jl_10, jl_11, jl_12, jl_13, jl_14, jl_15, jl_16, jl_17, jl_18, jl_19, jl_20, jl_21, jl_22, jl_23, jl_24, jl_25, jl_26, jl_27, jl_28, jl_29, jl_30, jl_31, jl_32, jl_33, jl_34, jl_35, jl_36, jl_37, jl_38, jl_39, jl_40, jl_41, jl_42, jl_43, jl_44, jl_45, jl_46, jl_47, jl_48, jl_49, jl_50, jl_51, jl_52, jl_53, jl_54, jl_55, jl_56, jl_57, jl_58, jl_59, jl_60, jl_61, jl_62, jl_63, jl_64, jl_97, jl_99, jl_100, jl_112, jl_122, jl_127, jl_240, jl_273, jl_274, jl_275, jl_280, jl_316, jl_317, jl_320, jl_400, jl_m1, jl_m4, dI_s2, nI_add, pk_mul, nI_clamp, nI_leI, nI_ltI, nI_eq, vn_in, pk_rem, jb_0, jb_1, jl_n40, jl_n40', true_and, and_true, true_implies, false_implies, not_true_eq_false, not_false_eq_true, implies_true, jl_z1, Nat.reduceEqDiff, Nat.reduceLeDiff, Nat.reduceLT, Nat.le_refl, Nat.lt_irrefl, Nat.zero_le, Nat.not_lt_zero, eq_self, Decidable.not_not]
          refine ⟨fun q => absurd q (by omega), fun _ => ?_⟩
          refine c_isInSoup hR hw hs (by omega) (fun d => ?_) (fun d => ?_)
          · simp (disch := omega) only [jl_0, jl_1, jl_2, jl_3, jl_4, jl_5, jl_6, jl_7, jl_8, jl_9, jl_10, jl_11, jl_12, jl_13, jl_14, jl_15, jl_16, jl_17, jl_18, jl_19, jl_20, jl_21, jl_22, jl_23, jl_24, jl_25, jl_26, jl_27, jl_28, jl_29, jl_30, jl_31, jl_32, jl_33, jl_34, jl_35, jl_36, jl_37, jl_38, jl_39, jl_40, jl_41, jl_42, jl_43, jl_44, jl_45, jl_46, jl_47, jl_48, jl_49, jl_50, jl_51, jl_52, jl_53, jl_54, jl_55, jl_56, jl_57, jl_58, jl_59, jl_60, jl_61, jl_62, jl_63, jl_64, jl_97, jl_99, jl_100, jl_112, jl_122, jl_127, jl_240, jl_273, jl_274, jl_275, jl_280, jl_316, jl_317, jl_320, jl_400, jl_m1, jl_m4, dI_s2, nI_add, pk_mul, nI_clamp, nI_leI, nI_ltI, nI_eq, vn_in, pk_rem, jb_0, jb_1, jl_n40, jl_n40', true_and, and_true, true_implies, false_implies, not_true_eq_false, not_false_eq_true, implies_true, jl_z1, Nat.reduceEqDiff, Nat.reduceLeDiff, Nat.reduceLT, Nat.le_refl, Nat.lt_irrefl, Nat.zero_le, Nat.not_lt_zero, eq_self, Decidable.not_not]
            simp only [sumN, if_neg d, Nat.add_zero] at hn
            exact hn
          · simp (disch := omega) only [jl_0, jl_1, jl_2, jl_3, jl_4, jl_5, jl_6, jl_7, jl_8, jl_9, jl_10, jl_11, jl_12, jl_13, jl_14, jl_15, jl_16, jl_17, jl_18, jl_19, jl_20, jl_21, jl_22, jl_23, jl_24, jl_25, jl_26, jl_27, jl_28, jl_29, jl_30, jl_31, jl_32, jl_33, jl_34, jl_35, jl_36, jl_37, jl_38, jl_39, jl_40, jl_41, jl_42, jl_43, jl_44, jl_45, jl_46, jl_47, jl_48, jl_49, jl_50, jl_51, jl_52, jl_53, jl_54, jl_55, jl_56, jl_57, jl_58, jl_59, jl_60, jl_61, jl_62, jl_63, jl_64, jl_97, jl_99, jl_100, jl_112, jl_122, jl_127, jl_240, jl_273, jl_274, jl_275, jl_280, jl_316, jl_317, jl_320, jl_400, jl_m1, jl_m4, dI_s2, nI_add, pk_mul, nI_clamp, nI_leI, nI_ltI, nI_eq, vn_in, pk_rem, jb_0, jb_1, jl_n40, jl_n40', true_and, and_true, true_implies, false_implies, not_true_eq_false, not_false_eq_true, implies_true, jl_z1, Nat.reduceEqDiff, Nat.reduceLeDiff, Nat.reduceLT, Nat.le_refl, Nat.lt_irrefl, Nat.zero_le, Nat.not_lt_zero, eq_self, Decidable.not_not]
            refine c_unitsOf' hK (by omega) ?_
            simp only [sumN, if_pos d] at hn
            rw [← nI_add, ← Int32.sub_sub] at hn
            exact hn
        · apply hS
          unfold nX0_lacking_53
          rw [hR.1]
          refine ⟨fun _ x hx => ?_, fun q => absurd (nI_le (Nat.le_refl _) (by omega)) q⟩
          rw [mx0 (by omega) (by show sumN _ _ < _; exact Nat.lt_of_le_of_lt hal (by omega))] at hx
          rw [hx]; exact h
      have q := key 0 (Nat.zero_le _)
      have e0 : nI (soupN ρ s g) - nI 0 = nI (soupN ρ s g) := by rw [pk_sub (Nat.zero_le _), Nat.sub_zero]
      simp only [sumN, e0] at q
      exact q
  · rw [if_neg c] at h
    refine c_wanted hR hw hs (by omega) hg (c_unitsOf' hK (by omega) ?_)
    intro x hx
    have hx' := hx.trans (mx0 (a := wantN ρ s g t) (b := untN κ t) (by omega) (by omega))
    rw [hx']
    exact h
theorem c_mod7 {d : Nat} {μ : Mem} {Q : Int32 → Mem → Prop} (hd : d < 2 ^ 31) (h : Q (nI (d % 7)) μ) : PJ9_floorMod_7cf53 (nI d) (7 : Int32) μ Q := by
  unfold PJ9_floorMod_7cf53
  have e : nI d - nI d / (7 : Int32) * (7 : Int32) = nI (d % 7) := pk_rem hd (by decide) (by decide)
  rw [e]
  refine ⟨by decide, fun _ => h, fun c => absurd ?_ c⟩
  show (0 : Int32) ≤ nI d ^^^ nI 7
  have nx (a b : Nat) : nI a ^^^ nI b = nI (a ^^^ b) := by
    apply Int32.toBitVec_inj.mp
    rw [Int32.toBitVec_xor]
    show BitVec.ofNat 32 a ^^^ BitVec.ofNat 32 b = BitVec.ofNat 32 (a ^^^ b)
    exact (BitVec.ofNat_xor).symm
  rw [nx]
  exact nI_pos' (Nat.xor_lt_two_pow hd (by decide))
theorem c_isOut {μ : Mem} {r d : Nat} {ρ : RA} {Q : Int32 → Mem → Prop} (hR : CR μ r ρ) (hw : RW ρ) (hd : d < 2 ^ 31) (h0 : ¬ outN ρ d → Q (nI 0) μ) (h1 : outN ρ d → Q (nI 1) μ) : PX2_isOut r (nI d) μ Q := by
  have b := hw.2.2.2.2.1
  have hm := Nat.mod_lt d (show 7 > 0 by decide)
  unfold PX2_isOut
  refine c_mod7 hd ?_
  rw [hR.2.2.2.2.1]
  simp (disch := omega) only [jl_0, jl_1, jl_2, jl_3, jl_4, jl_5, jl_6, jl_7, jl_8, jl_9, jl_10, jl_11, jl_12, jl_13, jl_14, jl_15, jl_16, jl_17, jl_18, jl_19, jl_20, jl_21, jl_22, jl_23, jl_24, jl_25, jl_26, jl_27, jl_28, jl_29, jl_30, jl_31, jl_32, jl_33, jl_34, jl_35, jl_36, jl_37, jl_38, jl_39, jl_40, jl_41, jl_42, jl_43, jl_44, jl_45, jl_46, jl_47, jl_48, jl_49, jl_50, jl_51, jl_52, jl_53, jl_54, jl_55, jl_56, jl_57, jl_58, jl_59, jl_60, jl_61, jl_62, jl_63, jl_64, jl_97, jl_99, jl_100, jl_112, jl_122, jl_127, jl_240, jl_273, jl_274, jl_275, jl_280, jl_316, jl_317, jl_320, jl_400, jl_m1, jl_m4, dI_s2, nI_add, pk_mul, nI_clamp, nI_leI, nI_ltI, nI_eq, vn_in, pk_rem, jb_0, jb_1, jl_n40, jl_n40', true_and, and_true, true_implies, false_implies, not_true_eq_false, not_false_eq_true, implies_true, jl_z1, Nat.reduceEqDiff, Nat.reduceLeDiff, Nat.reduceLT, Nat.le_refl, Nat.lt_irrefl, Nat.zero_le, Nat.not_lt_zero, eq_self, Decidable.not_not]
  exact ⟨h0, h1⟩
theorem c_isBought {μ : Mem} {r d s t : Nat} {ρ : RA} {Q : Int32 → Mem → Prop} (hR : CR μ r ρ) (hw : RW ρ) (hd : d < 2 ^ 31) (hs : s < 9) (ht : t < ρ 0 0) (h0 : ¬ buyN ρ d s t → Q (nI 0) μ) (h1 : buyN ρ d s t → Q (nI 1) μ) : PX2_isBought r (nI s) (nI t) (nI d) μ Q := by
  have b := hw.2.2.2.1
  have hm := Nat.mod_lt d (show 7 > 0 by decide)
  have t6 := hw.1
  have e3 := (hR.2.2.2.2.2.1 t ht).2.2
  have b3 := (hw.2.2.2.2.2.1 t ht).2.2
  have e2 := (hR.2.2.2.2.2.2.1 s hs).1
  have b2 := (hw.2.2.2.2.2.2.1 s).1
  unfold PX2_isBought
  refine c_mod7 hd ?_
  unfold nX2_isBought_21 nX2_isBought_56 nX2_isBought_60
  rw [hR.2.2.2.1]
  unfold buyN at h0 h1
  simp (disch := omega) only [jl_0, jl_1, jl_2, jl_3, jl_4, jl_5, jl_6, jl_7, jl_8, jl_9, jl_10, jl_11, jl_12, jl_13, jl_14, jl_15, jl_16, jl_17, jl_18, jl_19, jl_20, jl_21, jl_22, jl_23, jl_24, jl_25, jl_26, jl_27, jl_28, jl_29, jl_30, jl_31, jl_32, jl_33, jl_34, jl_35, jl_36, jl_37, jl_38, jl_39, jl_40, jl_41, jl_42, jl_43, jl_44, jl_45, jl_46, jl_47, jl_48, jl_49, jl_50, jl_51, jl_52, jl_53, jl_54, jl_55, jl_56, jl_57, jl_58, jl_59, jl_60, jl_61, jl_62, jl_63, jl_64, jl_97, jl_99, jl_100, jl_112, jl_122, jl_127, jl_240, jl_273, jl_274, jl_275, jl_280, jl_316, jl_317, jl_320, jl_400, jl_m1, jl_m4, dI_s2, nI_add, pk_mul, nI_clamp, nI_leI, nI_ltI, nI_eq, vn_in, pk_rem, jb_0, jb_1, jl_n40, jl_n40', true_and, and_true, true_implies, false_implies, not_true_eq_false, not_false_eq_true, implies_true, jl_z1, Nat.reduceEqDiff, Nat.reduceLeDiff, Nat.reduceLT, Nat.le_refl, Nat.lt_irrefl, Nat.zero_le, Nat.not_lt_zero, eq_self, Decidable.not_not, e2, e3]
  exact ⟨fun c => h0 (fun q => c q.1), fun c => ⟨by omega, fun k => h0 (fun q => by omega), fun k => ⟨hs, fun l => h1 ⟨c, by omega, Or.inl l⟩, fun l => ⟨hs, fun m => h0 (fun q => by omega), fun m => h1 ⟨c, by omega, Or.inr m⟩⟩⟩⟩⟩
