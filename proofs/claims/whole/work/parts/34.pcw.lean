theorem c_packs {μ : Mem} {b r s g t B D : Nat} {κ : KA} {ρ : RA} {Q : Int32 → Mem → Prop} (hK : KC μ b κ) (hk : KW κ B D) (hB : B ≤ 100000) (hD : D ≤ 100000) (hR : CR μ r ρ) (hw : RW ρ) (hs : s < 9) (ht : t < ρ 0 0) (hg : g ≤ 1) (h : Q (nI (packN ρ κ s g t)) μ) : PX0_packs b r (nI s) (nI g) (nI t) μ Q := by
  have hd := hk.2.1
  have t6 := hw.1
  have e2 := (hR.2.2.2.2.2.1 t ht).2.1
  have b2 := (hw.2.2.2.2.2.1 t ht).2.1
  have bl := lack_le (κ := κ) (s := s) (t := t) hw hg
  unfold PX0_packs
  rw [hK.2.2.1]
  unfold packN at h
  refine c_isBought hR hw (by omega) hs ht (fun d => ?_) (fun d => ?_)
  · rw [if_neg d] at h
    simp (disch := omega) only [jl_0, jl_1, jl_2, jl_3, jl_4, jl_5, jl_6, jl_7, jl_8, jl_9, jl_10, jl_11, jl_12, jl_13, jl_14, jl_15, jl_16, jl_17, jl_18, jl_19, jl_20, jl_21, jl_22, jl_23, jl_24, jl_25, jl_26, jl_27, jl_28, jl_29, jl_30, jl_31, jl_32, jl_33, jl_34, jl_35, jl_36, jl_37, jl_38, jl_39, jl_40, jl_41, jl_42, jl_43, jl_44, jl_45, jl_46, jl_47, jl_48, jl_49, jl_50, jl_51, jl_52, jl_53, jl_54, jl_55, jl_56, jl_57, jl_58, jl_59, jl_60, jl_61, jl_62, jl_63, jl_64, jl_97, jl_99, jl_100, jl_112, jl_122, jl_127, jl_240, jl_273, jl_274, jl_275, jl_280, jl_316, jl_317, jl_320, jl_400, jl_m1, jl_m4, dI_s2, nI_add, pk_mul, nI_clamp, nI_leI, nI_ltI, nI_eq, vn_in, pk_rem, jb_0, jb_1, jl_n40, jl_n40', true_and, and_true, true_implies, false_implies, not_true_eq_false, not_false_eq_true, implies_true, jl_z1, Nat.reduceEqDiff, Nat.reduceLeDiff, Nat.reduceLT, Nat.le_refl, Nat.lt_irrefl, Nat.zero_le, Nat.not_lt_zero, eq_self, Decidable.not_not]
    exact h
  · rw [if_pos d] at h
    simp (disch := omega) only [jl_0, jl_1, jl_2, jl_3, jl_4, jl_5, jl_6, jl_7, jl_8, jl_9, jl_10, jl_11, jl_12, jl_13, jl_14, jl_15, jl_16, jl_17, jl_18, jl_19, jl_20, jl_21, jl_22, jl_23, jl_24, jl_25, jl_26, jl_27, jl_28, jl_29, jl_30, jl_31, jl_32, jl_33, jl_34, jl_35, jl_36, jl_37, jl_38, jl_39, jl_40, jl_41, jl_42, jl_43, jl_44, jl_45, jl_46, jl_47, jl_48, jl_49, jl_50, jl_51, jl_52, jl_53, jl_54, jl_55, jl_56, jl_57, jl_58, jl_59, jl_60, jl_61, jl_62, jl_63, jl_64, jl_97, jl_99, jl_100, jl_112, jl_122, jl_127, jl_240, jl_273, jl_274, jl_275, jl_280, jl_316, jl_317, jl_320, jl_400, jl_m1, jl_m4, dI_s2, nI_add, pk_mul, nI_clamp, nI_leI, nI_ltI, nI_eq, vn_in, pk_rem, jb_0, jb_1, jl_n40, jl_n40', true_and, and_true, true_implies, false_implies, not_true_eq_false, not_false_eq_true, implies_true, jl_z1, Nat.reduceEqDiff, Nat.reduceLeDiff, Nat.reduceLT, Nat.le_refl, Nat.lt_irrefl, Nat.zero_le, Nat.not_lt_zero, eq_self, Decidable.not_not, e2]
    refine ⟨by omega, fun _ => ?_, fun c => absurd b2.1 c⟩
    refine c_lacking hK hk hB hR hw hs ht hg ?_
    simp (disch := omega) only [jl_0, jl_1, jl_2, jl_3, jl_4, jl_5, jl_6, jl_7, jl_8, jl_9, jl_10, jl_11, jl_12, jl_13, jl_14, jl_15, jl_16, jl_17, jl_18, jl_19, jl_20, jl_21, jl_22, jl_23, jl_24, jl_25, jl_26, jl_27, jl_28, jl_29, jl_30, jl_31, jl_32, jl_33, jl_34, jl_35, jl_36, jl_37, jl_38, jl_39, jl_40, jl_41, jl_42, jl_43, jl_44, jl_45, jl_46, jl_47, jl_48, jl_49, jl_50, jl_51, jl_52, jl_53, jl_54, jl_55, jl_56, jl_57, jl_58, jl_59, jl_60, jl_61, jl_62, jl_63, jl_64, jl_97, jl_99, jl_100, jl_112, jl_122, jl_127, jl_240, jl_273, jl_274, jl_275, jl_280, jl_316, jl_317, jl_320, jl_400, jl_m1, jl_m4, dI_s2, nI_add, pk_mul, nI_clamp, nI_leI, nI_ltI, nI_eq, vn_in, pk_rem, jb_0, jb_1, jl_n40, jl_n40', true_and, and_true, true_implies, false_implies, not_true_eq_false, not_false_eq_true, implies_true, jl_z1, Nat.reduceEqDiff, Nat.reduceLeDiff, Nat.reduceLT, Nat.le_refl, Nat.lt_irrefl, Nat.zero_le, Nat.not_lt_zero, eq_self, Decidable.not_not, e2, pk_sub, pk_div]
    exact ⟨by omega, by omega, by omega, h⟩
theorem c_whyNot {μ : Mem} {b r s g B D : Nat} {κ : KA} {ρ : RA} {Q : Int32 → Mem → Prop} (hK : KC μ b κ) (hk : KW κ B D) (hB : B ≤ 100000) (hD : D ≤ 100000) (hR : CR μ r ρ) (hw : RW ρ) (hs : s < 9) (hg : g ≤ 1) (h : Q (nI (whyN ρ κ s g)) μ) : PX0_whyNot b r (nI s) (nI g) μ Q := by
  have hd := hk.2.1
  have t6 := hw.1
  have el := hK.2.1 s hs
  have bg := hw.2.2.1
  unfold whyN at h
  intro S hS
  rw [hK.2.2.1]
  refine c_isOut hR hw (by omega) (fun d => ?_) (fun d => ?_)
  · rw [if_neg d] at h
    simp (disch := omega) only [jl_0, jl_1, jl_2, jl_3, jl_4, jl_5, jl_6, jl_7, jl_8, jl_9, jl_10, jl_11, jl_12, jl_13, jl_14, jl_15, jl_16, jl_17, jl_18, jl_19, jl_20, jl_21, jl_22, jl_23, jl_24, jl_25, jl_26, jl_27, jl_28, jl_29, jl_30, jl_31, jl_32, jl_33, jl_34, jl_35, jl_36, jl_37, jl_38, jl_39, jl_40, jl_41, jl_42, jl_43, jl_44, jl_45, jl_46, jl_47, jl_48, jl_49, jl_50, jl_51, jl_52, jl_53, jl_54, jl_55, jl_56, jl_57, jl_58, jl_59, jl_60, jl_61, jl_62, jl_63, jl_64, jl_97, jl_99, jl_100, jl_112, jl_122, jl_127, jl_240, jl_273, jl_274, jl_275, jl_280, jl_316, jl_317, jl_320, jl_400, jl_m1, jl_m4, dI_s2, nI_add, pk_mul, nI_clamp, nI_leI, nI_ltI, nI_eq, vn_in, pk_rem, jb_0, jb_1, jl_n40, jl_n40', true_and, and_true, true_implies, false_implies, not_true_eq_false, not_false_eq_true, implies_true, jl_z1, Nat.reduceEqDiff, Nat.reduceLeDiff, Nat.reduceLT, Nat.le_refl, Nat.lt_irrefl, Nat.zero_le, Nat.not_lt_zero, eq_self, Decidable.not_not]
    refine ⟨hs, ?_⟩
    have key : ¬ (∃ d : Nat, κ.la s = some d ∧ κ.date < d + ρ 0 12) → nX0_whyNot_44 b r (nI s) (nI g) Q S μ := by
      intro c
      rw [if_neg c] at h
      unfold nX0_whyNot_44
      have key : ∀ a, a ≤ ρ 0 0 → (∀ t, t < a → ¬ badN ρ κ s g t) → S (nI a) μ := by
        refine up_pure ?_ ?_
        · intro a ha ih hb
          have bl := lack_le (κ := κ) (s := s) (t := a) hw hg
          apply hS
          unfold nX0_whyNot_47 nX0_whyNot_84
          rw [hR.1]
          simp (disch := omega) only [jl_0, jl_1, jl_2, jl_3, jl_4, jl_5, jl_6, jl_7, jl_8, jl_9, jl_10, jl_11, jl_12, jl_13, jl_14, jl_15, jl_16, jl_17, jl_18, jl_19, jl_20, jl_21, jl_22, jl_23, jl_24, jl_25, jl_26, jl_27, jl_28, jl_29, jl_30, jl_31, jl_32, jl_33, jl_34, jl_35, jl_36, jl_37, jl_38, jl_39, jl_40, jl_41, jl_42, jl_43, jl_44, jl_45, jl_46, jl_47, jl_48, jl_49, jl_50, jl_51, jl_52, jl_53, jl_54, jl_55, jl_56, jl_57, jl_58, jl_59, jl_60, jl_61, jl_62, jl_63, jl_64, jl_97, jl_99, jl_100, jl_112, jl_122, jl_127, jl_240, jl_273, jl_274, jl_275, jl_280, jl_316, jl_317, jl_320, jl_400, jl_m1, jl_m4, dI_s2, nI_add, pk_mul, nI_clamp, nI_leI, nI_ltI, nI_eq, vn_in, pk_rem, jb_0, jb_1, jl_n40, jl_n40', true_and, and_true, true_implies, false_implies, not_true_eq_false, not_false_eq_true, implies_true, jl_z1, Nat.reduceEqDiff, Nat.reduceLeDiff, Nat.reduceLT, Nat.le_refl, Nat.lt_irrefl, Nat.zero_le, Nat.not_lt_zero, eq_self, Decidable.not_not]
          refine ⟨fun q => absurd q (by omega), fun _ => ?_⟩
          refine c_lacking hK hk hB hR hw hs ha hg ?_
          simp (disch := omega) only [jl_0, jl_1, jl_2, jl_3, jl_4, jl_5, jl_6, jl_7, jl_8, jl_9, jl_10, jl_11, jl_12, jl_13, jl_14, jl_15, jl_16, jl_17, jl_18, jl_19, jl_20, jl_21, jl_22, jl_23, jl_24, jl_25, jl_26, jl_27, jl_28, jl_29, jl_30, jl_31, jl_32, jl_33, jl_34, jl_35, jl_36, jl_37, jl_38, jl_39, jl_40, jl_41, jl_42, jl_43, jl_44, jl_45, jl_46, jl_47, jl_48, jl_49, jl_50, jl_51, jl_52, jl_53, jl_54, jl_55, jl_56, jl_57, jl_58, jl_59, jl_60, jl_61, jl_62, jl_63, jl_64, jl_97, jl_99, jl_100, jl_112, jl_122, jl_127, jl_240, jl_273, jl_274, jl_275, jl_280, jl_316, jl_317, jl_320, jl_400, jl_m1, jl_m4, dI_s2, nI_add, pk_mul, nI_clamp, nI_leI, nI_ltI, nI_eq, vn_in, pk_rem, jb_0, jb_1, jl_n40, jl_n40', true_and, and_true, true_implies, false_implies, not_true_eq_false, not_false_eq_true, implies_true, jl_z1, Nat.reduceEqDiff, Nat.reduceLeDiff, Nat.reduceLT, Nat.le_refl, Nat.lt_irrefl, Nat.zero_le, Nat.not_lt_zero, eq_self, Decidable.not_not, hK.2.2.1]
          refine ⟨fun c => ih (fun t ht => ?_), fun c => ?_⟩
          · by_cases q : t < a
            · exact hb t q
            · have : t = a := by omega
              subst this
              exact fun w => by have := w.1; omega
          · refine c_isBought hR hw (by omega) hs ha (fun d => ?_) (fun d => ?_)
            · simp (disch := omega) only [jl_0, jl_1, jl_2, jl_3, jl_4, jl_5, jl_6, jl_7, jl_8, jl_9, jl_10, jl_11, jl_12, jl_13, jl_14, jl_15, jl_16, jl_17, jl_18, jl_19, jl_20, jl_21, jl_22, jl_23, jl_24, jl_25, jl_26, jl_27, jl_28, jl_29, jl_30, jl_31, jl_32, jl_33, jl_34, jl_35, jl_36, jl_37, jl_38, jl_39, jl_40, jl_41, jl_42, jl_43, jl_44, jl_45, jl_46, jl_47, jl_48, jl_49, jl_50, jl_51, jl_52, jl_53, jl_54, jl_55, jl_56, jl_57, jl_58, jl_59, jl_60, jl_61, jl_62, jl_63, jl_64, jl_97, jl_99, jl_100, jl_112, jl_122, jl_127, jl_240, jl_273, jl_274, jl_275, jl_280, jl_316, jl_317, jl_320, jl_400, jl_m1, jl_m4, dI_s2, nI_add, pk_mul, nI_clamp, nI_leI, nI_ltI, nI_eq, vn_in, pk_rem, jb_0, jb_1, jl_n40, jl_n40', true_and, and_true, true_implies, false_implies, not_true_eq_false, not_false_eq_true, implies_true, jl_z1, Nat.reduceEqDiff, Nat.reduceLeDiff, Nat.reduceLT, Nat.le_refl, Nat.lt_irrefl, Nat.zero_le, Nat.not_lt_zero, eq_self, Decidable.not_not]
              rw [if_pos ⟨a, ha, by omega, d⟩] at h
              exact h
            · simp (disch := omega) only [jl_0, jl_1, jl_2, jl_3, jl_4, jl_5, jl_6, jl_7, jl_8, jl_9, jl_10, jl_11, jl_12, jl_13, jl_14, jl_15, jl_16, jl_17, jl_18, jl_19, jl_20, jl_21, jl_22, jl_23, jl_24, jl_25, jl_26, jl_27, jl_28, jl_29, jl_30, jl_31, jl_32, jl_33, jl_34, jl_35, jl_36, jl_37, jl_38, jl_39, jl_40, jl_41, jl_42, jl_43, jl_44, jl_45, jl_46, jl_47, jl_48, jl_49, jl_50, jl_51, jl_52, jl_53, jl_54, jl_55, jl_56, jl_57, jl_58, jl_59, jl_60, jl_61, jl_62, jl_63, jl_64, jl_97, jl_99, jl_100, jl_112, jl_122, jl_127, jl_240, jl_273, jl_274, jl_275, jl_280, jl_316, jl_317, jl_320, jl_400, jl_m1, jl_m4, dI_s2, nI_add, pk_mul, nI_clamp, nI_leI, nI_ltI, nI_eq, vn_in, pk_rem, jb_0, jb_1, jl_n40, jl_n40', true_and, and_true, true_implies, false_implies, not_true_eq_false, not_false_eq_true, implies_true, jl_z1, Nat.reduceEqDiff, Nat.reduceLeDiff, Nat.reduceLT, Nat.le_refl, Nat.lt_irrefl, Nat.zero_le, Nat.not_lt_zero, eq_self, Decidable.not_not]
              refine ih (fun t ht => ?_)
              by_cases q : t < a
              · exact hb t q
              · have : t = a := by omega
                subst this
                exact fun w => w.2 d
        · intro hb
          apply hS
          unfold nX0_whyNot_47
          rw [hR.1]
          rw [if_neg (fun w => by obtain ⟨t, h1, h2⟩ := w; exact hb t h1 h2)] at h
          exact ⟨fun _ => h, fun c => absurd (nI_le (Nat.le_refl _) (by omega)) c⟩
      exact key 0 (Nat.zero_le _) (fun t ht => absurd ht (Nat.not_lt_zero _))
    rcases hla : κ.la s with _ | e
    · rw [hla] at el
      rw [el]
      exact ⟨fun _ => key (fun c => by obtain ⟨d, h1, _⟩ := c; rw [hla] at h1; cases h1), fun c => absurd rfl c⟩
    · have he := hk.2.2 s e hla
      rw [hla] at el
      have el2 : μ.1 (b + 2) s = nI e := el
      simp (disch := omega) only [jl_0, jl_1, jl_2, jl_3, jl_4, jl_5, jl_6, jl_7, jl_8, jl_9, jl_10, jl_11, jl_12, jl_13, jl_14, jl_15, jl_16, jl_17, jl_18, jl_19, jl_20, jl_21, jl_22, jl_23, jl_24, jl_25, jl_26, jl_27, jl_28, jl_29, jl_30, jl_31, jl_32, jl_33, jl_34, jl_35, jl_36, jl_37, jl_38, jl_39, jl_40, jl_41, jl_42, jl_43, jl_44, jl_45, jl_46, jl_47, jl_48, jl_49, jl_50, jl_51, jl_52, jl_53, jl_54, jl_55, jl_56, jl_57, jl_58, jl_59, jl_60, jl_61, jl_62, jl_63, jl_64, jl_97, jl_99, jl_100, jl_112, jl_122, jl_127, jl_240, jl_273, jl_274, jl_275, jl_280, jl_316, jl_317, jl_320, jl_400, jl_m1, jl_m4, dI_s2, nI_add, pk_mul, nI_clamp, nI_leI, nI_ltI, nI_eq, vn_in, pk_rem, jb_0, jb_1, jl_n40, jl_n40', true_and, and_true, true_implies, false_implies, not_true_eq_false, not_false_eq_true, implies_true, jl_z1, Nat.reduceEqDiff, Nat.reduceLeDiff, Nat.reduceLT, Nat.le_refl, Nat.lt_irrefl, Nat.zero_le, Nat.not_lt_zero, eq_self, Decidable.not_not, el2, hK.2.2.1, hR.2.2.1, pk_sub]
      refine ⟨hs, fun c => key (fun q => ?_), fun c => ?_⟩
      · obtain ⟨d, h1, h2⟩ := q
        rw [hla] at h1
        cases h1
        omega
      · rw [if_pos ⟨e, hla, by omega⟩] at h
        exact h
  · rw [if_pos d] at h
    simp (disch := omega) only [jl_0, jl_1, jl_2, jl_3, jl_4, jl_5, jl_6, jl_7, jl_8, jl_9, jl_10, jl_11, jl_12, jl_13, jl_14, jl_15, jl_16, jl_17, jl_18, jl_19, jl_20, jl_21, jl_22, jl_23, jl_24, jl_25, jl_26, jl_27, jl_28, jl_29, jl_30, jl_31, jl_32, jl_33, jl_34, jl_35, jl_36, jl_37, jl_38, jl_39, jl_40, jl_41, jl_42, jl_43, jl_44, jl_45, jl_46, jl_47, jl_48, jl_49, jl_50, jl_51, jl_52, jl_53, jl_54, jl_55, jl_56, jl_57, jl_58, jl_59, jl_60, jl_61, jl_62, jl_63, jl_64, jl_97, jl_99, jl_100, jl_112, jl_122, jl_127, jl_240, jl_273, jl_274, jl_275, jl_280, jl_316, jl_317, jl_320, jl_400, jl_m1, jl_m4, dI_s2, nI_add, pk_mul, nI_clamp, nI_leI, nI_ltI, nI_eq, vn_in, pk_rem, jb_0, jb_1, jl_n40, jl_n40', true_and, and_true, true_implies, false_implies, not_true_eq_false, not_false_eq_true, implies_true, jl_z1, Nat.reduceEqDiff, Nat.reduceLeDiff, Nat.reduceLT, Nat.le_refl, Nat.lt_irrefl, Nat.zero_le, Nat.not_lt_zero, eq_self, Decidable.not_not]
    exact h
