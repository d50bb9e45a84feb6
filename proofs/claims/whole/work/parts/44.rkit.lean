set_option maxHeartbeats 2000000 in
theorem r_eats {μ : Mem} {B s g B' D : Nat} {κ : KA} {ρ : RA} {Q : Int32 → Mem → Prop} (hK : KM μ B κ) (hB : B ≤ 360) (hk : KW κ B' D) (hB' : B' ≤ 90000) (hD : D ≤ 100000) (hR : MR μ ρ) (hw : RW ρ) (hs : s < ρ 0 4) (hg : g ≤ 1) (h : ∀ m : Mem, KM m B (servN ρ κ s g) → FM B (B + 40) μ m → Q (nI (costN ρ κ s g (ρ 0 0))) m) : PX7_eats 100 (nI B) (nI s) (nI g) μ Q := by
  have t6 := hw.1
  have s9 := hw.2.1
  intro S13 S105 S117 h13 h105 h117
  refine r_findTaken hK hB hk (by omega) hR hw hs hg (fun m0 f0 ht0 => ?_)
  have write : ∀ t m, t ≤ ρ 0 0 → (KM m B (midU κ.u (servU ρ κ s g) t, κ.2) ∧ (∀ q a : Nat, q < ρ 0 0 → a < 4 → m.1 116 (4 * q + a) = nI (takA ρ κ s g q a)) ∧ (∀ q : Nat, q < ρ 0 0 → m.1 117 q = nI (restN ρ κ s g q)) ∧ FM B (B + 40) μ m) → S105 (nI (costN ρ κ s g (ρ 0 0))) (nI t) m := by
    refine up_loop ?_ ?_
    · intro t m ht ⟨hKm, htk, hbo, hf⟩ ih
      have ages : ∀ a m, a ≤ 4 → (KM m B (fun i => if i / 4 = t ∧ i % 4 < a then κ.u i - takA ρ κ s g t (i % 4) else midU κ.u (servU ρ κ s g) t i, κ.2) ∧ (∀ q a : Nat, q < ρ 0 0 → a < 4 → m.1 116 (4 * q + a) = nI (takA ρ κ s g q a)) ∧ (∀ q : Nat, q < ρ 0 0 → m.1 117 q = nI (restN ρ κ s g q)) ∧ FM B (B + 40) μ m) → S117 (nI (costN ρ κ s g (ρ 0 0))) (nI t) (nI a) m := by
        refine up_loop ?_ ?_
        · intro a m ha ⟨hKm, htk, hbo, hf⟩ ih2
          have e1 : m.1 114 (B + (4 * t + a)) = nI (κ.u (4 * t + a)) := by
            have := hKm.1 (4 * t + a) (by omega)
            change _ = nI (if (4 * t + a) / 4 = t ∧ (4 * t + a) % 4 < a then _ else midU κ.u (servU ρ κ s g) t (4 * t + a)) at this
            rw [if_neg (by omega)] at this
            unfold midU at this
            rw [if_neg (by omega)] at this
            exact this
          have e2 := htk t a ht ha
          have b1 := takA_le (ρ := ρ) (s := s) (g := g) (t := t) (a := a) hk
          apply h117
          unfold nX7_eats_117
          have e4 : nI B + (4 : Int32) * nI t + nI a = nI (B + (4 * t + a)) := by rw [show (4 : Int32) = nI 4 from rfl, pk_mul, nI_add, nI_add, Nat.add_assoc]
          have e5 : (4 : Int32) * nI t + nI a = nI (4 * t + a) := by rw [show (4 : Int32) = nI 4 from rfl, pk_mul, nI_add]
          rw [e4, e5, nI_clamp (n := B + (4 * t + a)) (by omega), nI_clamp (n := 4 * t + a) (by omega), e1, e2, pk_sub b1, nI_1 a]
          refine ⟨fun c => absurd c (nI_ge (b := 4) ha (by omega)), fun _ => ⟨vp_in_nI (by omega) (by omega), vp_in_nI (by omega) (by omega), vp_in_nI (by omega) (by omega), fun m2 hm2 => ?_⟩⟩
          have hKu := KM_u (v := κ.u (4 * t + a) - takA ρ κ s g t a) hKm (show 4 * t + a < 24 by omega)
          have hm2' : m2 = ms m 114 (B + (4 * t + a)) (nI (κ.u (4 * t + a) - takA ρ κ s g t a)) := hm2
          rw [← hm2'] at hKu
          refine ih2 m2 ⟨KM_ext2 hKu (fun i hi => ?_) rfl, fun q a hq ha => ?_, fun q hq => ?_, FM_trans hf (by rw [hm2']; exact FM_st (by omega) (by omega))⟩
          · show (if i = 4 * t + a then κ.u (4 * t + a) - takA ρ κ s g t a else if i / 4 = t ∧ i % 4 < a then κ.u i - takA ρ κ s g t (i % 4) else midU κ.u (servU ρ κ s g) t i) = (if i / 4 = t ∧ i % 4 < a + 1 then κ.u i - takA ρ κ s g t (i % 4) else midU κ.u (servU ρ κ s g) t i)
            by_cases c : i = 4 * t + a
            · rw [if_pos c, if_pos (by omega), show i % 4 = a by omega, c]
            · rw [if_neg c]
              by_cases c2 : i / 4 = t ∧ i % 4 < a
              · rw [if_pos c2, if_pos (by omega)]
              · rw [if_neg c2, if_neg (by omega)]
          · rw [hm2', ms_1, if_neg (by decide)]; exact htk q a hq ha
          · rw [hm2', ms_1, if_neg (by decide)]; exact hbo q hq
        · intro m ⟨hKm, htk, hbo, hf⟩
          have hRm := MR_fr hR hf
          have e1 : m.1 114 (B + 4 * t) = nI (κ.u (4 * t) - takA ρ κ s g t 0) := by
            have := hKm.1 (4 * t) (by omega)
            change _ = nI (if (4 * t) / 4 = t ∧ (4 * t) % 4 < 4 then _ else midU κ.u (servU ρ κ s g) t (4 * t)) at this
            rw [if_pos (by omega), show 4 * t % 4 = 0 by omega] at this
            exact this
          have e2 := hbo t ht
          have e3 := (hRm.2.2.2.2.2.2.2.1 (6 * s + t) (by omega)).2
          apply h117
          unfold nX7_eats_117
          refine ⟨fun _ => ?_, fun c => absurd (by decide) c⟩
          have e4 : nI B + (4 : Int32) * nI t = nI (B + 4 * t) := by rw [show (4 : Int32) = nI 4 from rfl, pk_mul, nI_add]
          have e5 : (6 : Int32) * nI s + nI t = nI (6 * s + t) := by rw [show (6 : Int32) = nI 6 from rfl, pk_mul, nI_add]
          rw [e4, e5, nI_clamp (n := B + 4 * t) (by omega), nI_clamp (n := t) (by omega), nI_clamp (n := 6 * s + t) (by omega), e1, e2, e3, nI_add, nI_add, nI_1 t]
          refine ⟨vp_in_nI (by omega) (by omega), vp_in_nI (by omega) (by omega), vp_in_nI (by omega) (by omega), vp_in_nI (by omega) (by omega), fun m2 hm2 => ?_⟩
          have hKu := KM_u (v := κ.u (4 * t) - takA ρ κ s g t 0 + (restN ρ κ s g t + ρ 10 (6 * s + t))) hKm (show 4 * t < 24 by omega)
          have hm2' : m2 = ms m 114 (B + 4 * t) (nI (κ.u (4 * t) - takA ρ κ s g t 0 + (restN ρ κ s g t + ρ 10 (6 * s + t)))) := hm2
          rw [← hm2'] at hKu
          refine ih m2 ⟨KM_ext2 hKu (fun i hi => ?_) rfl, fun q a hq ha => ?_, fun q hq => ?_, FM_trans hf (by rw [hm2']; exact FM_st (by omega) (by omega))⟩
          · show (if i = 4 * t then κ.u (4 * t) - takA ρ κ s g t 0 + (restN ρ κ s g t + ρ 10 (6 * s + t)) else if i / 4 = t ∧ i % 4 < 4 then κ.u i - takA ρ κ s g t (i % 4) else midU κ.u (servU ρ κ s g) t i) = midU κ.u (servU ρ κ s g) (t + 1) i
            by_cases c : i / 4 = t
            · have em : midU κ.u (servU ρ κ s g) (t + 1) i = κ.u i - takA ρ κ s g t (i % 4) + (if i % 4 = 0 then restN ρ κ s g t + ρ 10 (6 * s + t) else 0) := by
                unfold midU servU; rw [if_pos (by omega), if_pos (by omega), c]
              rw [em]
              by_cases c2 : i = 4 * t
              · rw [if_pos c2, if_pos (by omega), show i % 4 = 0 by omega, ← c2]
              · rw [if_neg c2, if_pos (by omega), if_neg (by omega), Nat.add_zero]
            · rw [if_neg (by omega), if_neg (by omega)]
              unfold midU
              by_cases c3 : i / 4 < t
              · rw [if_pos c3, if_pos (by omega)]
              · rw [if_neg c3, if_neg (by omega)]
          · rw [hm2', ms_1, if_neg (by decide)]; exact htk q a hq ha
          · rw [hm2', ms_1, if_neg (by decide)]; exact hbo q hq
      have hRm := MR_fr hR hf
      apply h105
      unfold nX7_eats_105
      rw [hRm.1]
      refine ⟨fun c => absurd c (nI_ge ht (by omega)), fun _ => ?_⟩
      refine ages 0 m (by omega) ⟨KM_ext2 hKm (fun i hi => ?_) rfl, htk, hbo, hf⟩
      show _ = (if i / 4 = t ∧ i % 4 < 0 then κ.u i - takA ρ κ s g t (i % 4) else midU κ.u (servU ρ κ s g) t i)
      rw [if_neg (by omega)]
    · intro m ⟨hKm, htk, hbo, hf⟩
      have hRm := MR_fr hR hf
      have hKe := KM_ext2 (κ' := (servU ρ κ s g, κ.2)) hKm (fun i hi => by
        show midU κ.u (servU ρ κ s g) (ρ 0 0) i = servU ρ κ s g i
        unfold midU
        by_cases c : i / 4 < ρ 0 0
        · rw [if_pos c]
        · rw [if_neg c]; unfold servU; rw [if_neg c]) rfl
      obtain ⟨q1, q2, q3, q4, q5, q6, q7⟩ := hKe
      have el := (hRm.2.2.2.2.2.2.1 s hs).2.1
      apply h105
      unfold nX7_eats_105
      rw [hRm.1]
      refine ⟨fun _ => ?_, fun c => absurd (nI_le (Nat.le_refl _) (by omega)) c⟩
      simp (disch := omega) only [jl_0, jl_1, jl_2, jl_3, jl_4, jl_5, jl_6, jl_7, jl_8, jl_9, jl_10, jl_11, jl_12, jl_13, jl_14, jl_15, jl_16, jl_17, jl_18, jl_19, jl_20, jl_21, jl_22, jl_23, jl_24, jl_25, jl_26, jl_27, jl_28, jl_29, jl_30, jl_31, jl_32, jl_33, jl_34, jl_35, jl_36, jl_37, jl_38, jl_39, jl_40, jl_41, jl_42, jl_43, jl_44, jl_45, jl_46, jl_47, jl_48, jl_49, jl_50, jl_51, jl_52, jl_53, jl_54, jl_55, jl_56, jl_57, jl_58, jl_59, jl_60, jl_61, jl_62, jl_63, jl_64, jl_97, jl_99, jl_100, jl_112, jl_122, jl_127, jl_240, jl_273, jl_274, jl_275, jl_280, jl_316, jl_317, jl_320, jl_400, jl_m1, jl_m4, dI_s2, nI_add, pk_mul, nI_clamp, nI_leI, nI_ltI, nI_eq, vn_in, pk_rem, jb_0, jb_1, jl_n40, jl_n40', true_and, and_true, true_implies, false_implies, not_true_eq_false, not_false_eq_true, implies_true, jl_z1, Nat.reduceEqDiff, Nat.reduceLeDiff, Nat.reduceLT, Nat.le_refl, Nat.lt_irrefl, Nat.zero_le, Nat.not_lt_zero, eq_self, Decidable.not_not, Nat.reduceAdd, q3]
      refine ⟨by omega, by omega, fun m2 hm2 => ⟨by omega, by omega, by omega, fun m3 hm3 => ⟨by omega, by omega, by omega, fun m4 hm4 => ?_⟩⟩⟩
      have a3 : (ms m2 114 (B + 37) (nI s)).1 114 (B + 33) = nI κ.paid := by
        rw [ms_1, if_pos rfl, if_neg (by omega), hm2, ms_1, if_pos rfl, if_neg (by omega)]; exact q5
      rw [a3, nI_add] at hm3
      have a4 : m3.1 114 (B + 35) = nI κ.lik := by
        rw [hm3]
        simp (disch := omega) only [ms_1, if_neg, if_pos]
        rw [hm2]
        simp (disch := omega) only [ms_1, if_neg, if_pos]
        exact q7
      have a5 : m3.1 102 (5 * s + 1) = nI (ρ 5 s) := by
        rw [hm3]
        simp (disch := omega) only [ms_1, if_neg]
        rw [hm2]
        simp (disch := omega) only [ms_1, if_neg]
        exact el
      rw [a4, a5, nI_add] at hm4
      refine h m4 ?_ ?_
      · subst hm4; subst hm3; subst hm2
        refine ⟨fun i hi => ?_, fun q hq => ?_, ?_, ?_, ?_, ?_, ?_⟩
        · simp (disch := omega) only [ms_1, if_neg, if_pos]; exact q1 i hi
        · simp (disch := omega) only [ms_1, if_neg, if_pos]
          show _ = oI (if q = s then some κ.date else κ.la q)
          by_cases c : q = s
          · subst c; rw [if_pos rfl, if_pos rfl]; rfl
          · rw [if_neg (show ¬ B + 24 + q = B + 24 + s by omega), if_neg c]; exact q2 q hq
        · simp (disch := omega) only [ms_1, if_neg, if_pos]; exact q3
        · simp (disch := omega) only [ms_1, if_neg, if_pos]; rfl
        · simp (disch := omega) only [ms_1, if_neg, if_pos]; rfl
        · simp (disch := omega) only [ms_1, if_neg, if_pos]; exact q6
        · simp (disch := omega) only [ms_1, if_neg, if_pos]; rfl
      · refine FM_trans hf ?_
        subst hm4; subst hm3; subst hm2
        exact FM_trans (FM_trans (FM_st (by omega) (by omega)) (FM_st (by omega) (by omega))) (FM_trans (FM_st (by omega) (by omega)) (FM_st (by omega) (by omega)))
  have buy : ∀ t m, t ≤ ρ 0 0 → ((∀ q : Nat, q < t → m.1 117 q = nI (restN ρ κ s g q)) ∧ (∀ q a : Nat, q < ρ 0 0 → a < 4 → m.1 116 (4 * q + a) = nI (takA ρ κ s g q a)) ∧ FM 0 0 μ m) → S13 (nI (costN ρ κ s g t)) (nI t) m := by
    refine up_loop ?_ ?_
    · intro t m ht ⟨hbo, htk, hf⟩ ih
      have hRm := MR_fr hR hf
      have hKm := KM_fr hK hf (by omega)
      have bp := pack_le (κ := κ) (s := s) (t := t) hw hg ht
      have e2 := (hRm.2.2.2.2.2.1 t ht).2.1
      have e3 := (hRm.2.2.2.2.2.1 t ht).2.2
      have tail : nX7_eats_65 100 (nI B) (nI s) (nI g) Q S13 S105 S117 (nI (costN ρ κ s g t)) (nI t) (nI (packN ρ κ s g t)) (nI (if packN ρ κ s g t = 0 then 0 else lackN ρ κ s g t)) (nI (packN ρ κ s g t * ρ 2 t)) m := by
        unfold nX7_eats_65
        have er : nI (packN ρ κ s g t * ρ 2 t) - nI (if packN ρ κ s g t = 0 then 0 else lackN ρ κ s g t) = nI (restN ρ κ s g t) := by
          unfold restN
          by_cases c : packN ρ κ s g t = 0
          · rw [if_pos c, if_pos c, c, Nat.zero_mul]; rfl
          · rw [if_neg c, if_neg c]
            exact pk_sub (pack_ge hw ht c).1
        rw [er]
        simp (disch := omega) only [jl_0, jl_1, jl_2, jl_3, jl_4, jl_5, jl_6, jl_7, jl_8, jl_9, jl_10, jl_11, jl_12, jl_13, jl_14, jl_15, jl_16, jl_17, jl_18, jl_19, jl_20, jl_21, jl_22, jl_23, jl_24, jl_25, jl_26, jl_27, jl_28, jl_29, jl_30, jl_31, jl_32, jl_33, jl_34, jl_35, jl_36, jl_37, jl_38, jl_39, jl_40, jl_41, jl_42, jl_43, jl_44, jl_45, jl_46, jl_47, jl_48, jl_49, jl_50, jl_51, jl_52, jl_53, jl_54, jl_55, jl_56, jl_57, jl_58, jl_59, jl_60, jl_61, jl_62, jl_63, jl_64, jl_97, jl_99, jl_100, jl_112, jl_122, jl_127, jl_240, jl_273, jl_274, jl_275, jl_280, jl_316, jl_317, jl_320, jl_400, jl_m1, jl_m4, dI_s2, nI_add, pk_mul, nI_clamp, nI_leI, nI_ltI, nI_eq, vn_in, pk_rem, jb_0, jb_1, jl_n40, jl_n40', true_and, and_true, true_implies, false_implies, not_true_eq_false, not_false_eq_true, implies_true, jl_z1, Nat.reduceEqDiff, Nat.reduceLeDiff, Nat.reduceLT, Nat.le_refl, Nat.lt_irrefl, Nat.zero_le, Nat.not_lt_zero, eq_self, Decidable.not_not, Nat.reduceAdd, e3]
        refine ⟨by omega, fun x hx => ⟨by omega, ?_⟩⟩
        rw [hx]
        refine ih _ ⟨fun q hq => ?_, fun q a hq ha => ?_, FM_trans hf FM_bo⟩
        · rw [ms_1, if_pos rfl]
          by_cases c : q = t
          · rw [if_pos c, c]
          · rw [if_neg c]; exact hbo q (by omega)
        · rw [ms_1, if_neg (by decide)]; exact htk q a hq ha
      apply h13
      unfold nX7_eats_13
      rw [hRm.1]
      refine ⟨fun c => absurd c (nI_ge ht (by omega)), fun _ => ?_⟩
      refine r_packsOf hKm hB hk (by omega) hD hRm hw hs ht hg ?_
      have e4 : (3 : Int32) * nI t + (1 : Int32) = nI (3 * t + 1) := by rw [show (3 : Int32) = nI 3 from rfl, pk_mul, nI_1]
      rw [e4, nI_clamp (by omega)]
      have e2' : m.1 (100 + 1) (3 * t + 1) = nI (ρ 2 t) := e2
      rw [e2', pk_mul]
      refine ⟨vp_in_nI (by omega) (by omega), fun c => ?_, fun c => ?_⟩
      · have c2 : packN ρ κ s g t = 0 := by
          have := (nI_leI (b := 0) (by omega) (by omega)).1 c
          omega
        rw [if_pos c2] at tail
        exact tail
      · have c2 : packN ρ κ s g t ≠ 0 := fun q => c (by rw [q]; decide)
        rw [if_neg c2] at tail
        exact r_lackOf hKm hB hk (by omega) hRm hw hs ht hg tail
    · intro m ⟨hbo, htk, hf⟩
      have hRm := MR_fr hR hf
      have hKm := KM_fr hK hf (by omega)
      apply h13
      unfold nX7_eats_13
      rw [hRm.1]
      refine ⟨fun _ => ?_, fun c => absurd (nI_le (Nat.le_refl _) (by omega)) c⟩
      exact write 0 m (Nat.zero_le _) ⟨KM_ext2 hKm (fun i _ => mid_0 (f := servU ρ κ s g) i) rfl, htk, hbo, FM_zero hf⟩
  exact buy 0 m0 (Nat.zero_le _) ⟨fun q hq => absurd hq (Nat.not_lt_zero _), ht0, f0⟩
set_option maxHeartbeats 1000000 in
theorem r_nights {μ : Mem} {B : Nat} {κ : KA} {ρ : RA} {Q : Int32 → Mem → Prop} (hK : KM μ B κ) (hB : B ≤ 360) (hR : MR μ ρ) (hw : RW ρ) (h : ∀ m : Mem, KM m B (nightN ρ κ) → FM B (B + 40) μ m → Q (nI (ngT ρ κ.u (ρ 0 0)).2) m) : PX7_nights 100 (nI B) μ Q := by
  intro S4 S15 h4 h15
  have t6 := hw.1
  have inner : ∀ t : Nat, t < ρ 0 0 → ∀ n : Nat, n ≤ 4 → ∀ (x : (Nat → Nat) × Nat) (m : Mem), KM m B (x.1, κ.2) → FM B (B + 40) μ m → (∀ m' : Mem, KM m' B ((ngA ρ t n x).1, κ.2) → FM B (B + 40) μ m' → S4 (nI (ngA ρ t n x).2) (nI (t + 1)) m') → S15 (nI x.2) (nI t) (dI n) m := by
    intro t ht n
    have k4 := (hw.2.2.2.2.2.1 t ht).1
    induction n with
    | zero =>
      intro _ x m hKm hf hx
      apply h15
      unfold nX7_nights_15
      refine ⟨fun _ => ?_, fun c => absurd dI_neg c⟩
      rw [nI_1]; exact hx m hKm hf
    | succ n ih =>
      intro hn x m hKm hf hx
      have e1 : m.1 114 (B + (4 * t + n)) = nI (x.1 (4 * t + n)) := hKm.1 (4 * t + n) (by omega)
      have hK1 := KM_u (v := 0) hKm (show 4 * t + n < 24 by omega)
      have hf1 : FM B (B + 40) m (ms m 114 (B + (4 * t + n)) (nI 0)) := FM_st (by omega) (by omega)
      have hRm := MR_fr (MR_fr hR hf) hf1
      apply h15
      unfold nX7_nights_15 nX7_nights_86
      refine ⟨fun c => absurd c (dI_pos (by omega)), fun _ => ?_⟩
      rw [show dI (n + 1) = nI n from rfl]
      have e4 : nI B + (4 : Int32) * nI t + nI n = nI (B + (4 * t + n)) := by rw [show (4 : Int32) = nI 4 from rfl, pk_mul, nI_add, nI_add, Nat.add_assoc]
      rw [e4, nI_clamp (by omega), dI_s, nI_1, nI_1, nI_clamp (by omega)]
      refine ⟨vp_in_nI (by omega) (by omega), fun v hv => ⟨vp_in_nI (by omega) (by omega), ?_⟩⟩
      have hv' : v = nI (x.1 (4 * t + n)) := hv.trans e1
      refine r_keeps hRm hw ht ⟨fun c => ⟨vp_in_nI (by omega) (by omega), fun m5 hm5 => ?_⟩, fun c => ?_⟩
      · have c2 := (nI_ltI (by omega) (by omega)).1 c
        have ex : ngA ρ t (n + 1) x = ngA ρ t n (fun i => if i = 4 * t + n + 1 then x.1 (4 * t + n) else if i = 4 * t + n then 0 else x.1 i, x.2) := by rw [ngA, if_pos (by omega)]
        rw [ex] at hx
        have hK2 := KM_u (v := x.1 (4 * t + n)) hK1 (show 4 * t + n + 1 < 24 by omega)
        have hm5' : m5 = ms (ms m 114 (B + (4 * t + n)) (nI 0)) 114 (B + (4 * t + n + 1)) (nI (x.1 (4 * t + n))) := by rw [hm5, hv']; rfl
        rw [← hm5'] at hK2
        exact ih (by omega) (fun i => if i = 4 * t + n + 1 then x.1 (4 * t + n) else if i = 4 * t + n then 0 else x.1 i, x.2) _ hK2 (FM_trans (FM_trans hf hf1) (by rw [hm5']; exact FM_st (by omega) (by omega))) hx
      · have c2 : ¬ n + 1 < ρ 1 t := fun z => c ((nI_ltI (by omega) (by omega)).2 z)
        have ex : ngA ρ t (n + 1) x = ngA ρ t n (fun i => if i = 4 * t + n then 0 else x.1 i, x.2 + x.1 (4 * t + n)) := by rw [ngA, if_neg (by omega)]
        rw [ex] at hx
        rw [hv', nI_add]
        exact ih (by omega) (fun i => if i = 4 * t + n then 0 else x.1 i, x.2 + x.1 (4 * t + n)) _ hK1 (FM_trans hf hf1) hx
  have key : ∀ t m, t ≤ ρ 0 0 → (KM m B ((ngT ρ κ.u t).1, κ.2) ∧ FM B (B + 40) μ m) → S4 (nI (ngT ρ κ.u t).2) (nI t) m := by
    refine up_loop ?_ ?_
    · intro t m ht ⟨hKm, hf⟩ ih
      have hRm := MR_fr hR hf
      apply h4
      unfold nX7_nights_4
      rw [hRm.1]
      refine ⟨fun c => absurd c (nI_ge ht (by omega)), fun _ => ?_⟩
      exact inner t ht 4 (Nat.le_refl _) (ngT ρ κ.u t) m hKm hf (fun m' h1 h2 => ih m' ⟨h1, h2⟩)
    · intro m ⟨hKm, hf⟩
      have hRm := MR_fr hR hf
      obtain ⟨q1, q2, q3, q4, q5, q6, q7⟩ := hKm
      apply h4
      unfold nX7_nights_4
      rw [hRm.1]
      refine ⟨fun _ => ?_, fun c => absurd (nI_le (Nat.le_refl _) (by omega)) c⟩
      simp (disch := omega) only [jl_0, jl_1, jl_2, jl_3, jl_4, jl_5, jl_6, jl_7, jl_8, jl_9, jl_10, jl_11, jl_12, jl_13, jl_14, jl_15, jl_16, jl_17, jl_18, jl_19, jl_20, jl_21, jl_22, jl_23, jl_24, jl_25, jl_26, jl_27, jl_28, jl_29, jl_30, jl_31, jl_32, jl_33, jl_34, jl_35, jl_36, jl_37, jl_38, jl_39, jl_40, jl_41, jl_42, jl_43, jl_44, jl_45, jl_46, jl_47, jl_48, jl_49, jl_50, jl_51, jl_52, jl_53, jl_54, jl_55, jl_56, jl_57, jl_58, jl_59, jl_60, jl_61, jl_62, jl_63, jl_64, jl_97, jl_99, jl_100, jl_112, jl_122, jl_127, jl_240, jl_273, jl_274, jl_275, jl_280, jl_316, jl_317, jl_320, jl_400, jl_m1, jl_m4, dI_s2, nI_add, pk_mul, nI_clamp, nI_leI, nI_ltI, nI_eq, vn_in, pk_rem, jb_0, jb_1, jl_n40, jl_n40', true_and, and_true, true_implies, false_implies, not_true_eq_false, not_false_eq_true, implies_true, jl_z1, Nat.reduceEqDiff, Nat.reduceLeDiff, Nat.reduceLT, Nat.le_refl, Nat.lt_irrefl, Nat.zero_le, Nat.not_lt_zero, eq_self, Decidable.not_not, Nat.reduceAdd, q6]
      refine ⟨by omega, by omega, fun m2 hm2 => ⟨by omega, by omega, fun m3 hm3 => ⟨by omega, ?_⟩⟩⟩
      have a3 : m2.1 114 (B + 36) = nI κ.date := by
        rw [hm2, ms_1, if_pos rfl, if_neg (by omega)]; exact q3
      rw [a3, nI_add] at hm3
      refine h _ ?_ ?_
      · subst hm3; subst hm2
        refine ⟨fun i hi => ?_, fun q hq => ?_, ?_, ?_, ?_, ?_, ?_⟩
        · simp (disch := omega) only [ms_1, if_neg, if_pos]; exact q1 i hi
        · simp (disch := omega) only [ms_1, if_neg, if_pos]; exact q2 q hq
        · simp (disch := omega) only [ms_1, if_neg, if_pos]; rfl
        · simp (disch := omega) only [ms_1, if_neg, if_pos]; rfl
        · simp (disch := omega) only [ms_1, if_neg, if_pos]; exact q5
        · simp (disch := omega) only [ms_1, if_neg, if_pos]; rfl
        · simp (disch := omega) only [ms_1, if_neg, if_pos]; exact q7
      · refine FM_trans hf ?_
        subst hm3; subst hm2
        exact FM_trans (FM_trans (FM_st (by omega) (by omega)) (FM_st (by omega) (by omega))) (FM_st (by omega) (by omega))
  exact key 0 μ (Nat.zero_le _) ⟨hK, FM_refl⟩
theorem r_copies {μ : Mem} {B C : Nat} {κ : KA} {Q : Mem → Prop} (hK : KM μ C κ) (hd : B + 40 ≤ C ∨ C + 40 ≤ B) (hB : B ≤ 360) (hC : C ≤ 360) (h : ∀ m : Mem, KM m B κ → FM B (B + 40) μ m → Q m) : PX7_copies 100 (nI B) (nI C) μ Q := by
  intro S hS
  have key : ∀ k m, k ≤ 40 → ((∀ j : Nat, j < k → m.1 114 (B + j) = μ.1 114 (C + j)) ∧ FM B (B + 40) μ m) → S (nI k) m := by
    refine up_loop ?_ ?_
    · intro k m hk ⟨hj, hf⟩ ih
      have e : m.1 114 (C + k) = μ.1 114 (C + k) := hf.1 _ _ (by decide) (by decide) (fun _ => by omega)
      apply hS
      unfold nX7_copies_2
      simp (disch := omega) only [jl_0, jl_1, jl_2, jl_3, jl_4, jl_5, jl_6, jl_7, jl_8, jl_9, jl_10, jl_11, jl_12, jl_13, jl_14, jl_15, jl_16, jl_17, jl_18, jl_19, jl_20, jl_21, jl_22, jl_23, jl_24, jl_25, jl_26, jl_27, jl_28, jl_29, jl_30, jl_31, jl_32, jl_33, jl_34, jl_35, jl_36, jl_37, jl_38, jl_39, jl_40, jl_41, jl_42, jl_43, jl_44, jl_45, jl_46, jl_47, jl_48, jl_49, jl_50, jl_51, jl_52, jl_53, jl_54, jl_55, jl_56, jl_57, jl_58, jl_59, jl_60, jl_61, jl_62, jl_63, jl_64, jl_97, jl_99, jl_100, jl_112, jl_122, jl_127, jl_240, jl_273, jl_274, jl_275, jl_280, jl_316, jl_317, jl_320, jl_400, jl_m1, jl_m4, dI_s2, nI_add, pk_mul, nI_clamp, nI_leI, nI_ltI, nI_eq, vn_in, pk_rem, jb_0, jb_1, jl_n40, jl_n40', true_and, and_true, true_implies, false_implies, not_true_eq_false, not_false_eq_true, implies_true, jl_z1, Nat.reduceEqDiff, Nat.reduceLeDiff, Nat.reduceLT, Nat.le_refl, Nat.lt_irrefl, Nat.zero_le, Nat.not_lt_zero, eq_self, Decidable.not_not, Nat.reduceAdd, e]
      refine ⟨fun c => absurd c (by omega), fun _ => ⟨by omega, by omega, ih _ ⟨fun j hj2 => ?_, FM_trans hf (FM_st (by omega) (by omega))⟩⟩⟩
      rw [ms_1, if_pos rfl]
      by_cases c : j = k
      · rw [c, if_pos rfl]
      · rw [if_neg (by omega)]; exact hj j (by omega)
    · intro m ⟨hj, hf⟩
      apply hS
      unfold nX7_copies_2
      refine ⟨fun _ => h m ?_ hf, fun c => absurd (by decide) c⟩
      obtain ⟨q1, q2, q3, q4, q5, q6, q7⟩ := hK
      refine ⟨fun i hi => (hj i (by omega)).trans (q1 i hi), fun s hs => ?_, (hj _ (by omega)).trans q3, (hj _ (by omega)).trans q4, (hj _ (by omega)).trans q5, (hj _ (by omega)).trans q6, (hj _ (by omega)).trans q7⟩
      have := hj (24 + s) (by omega)
      rw [← Nat.add_assoc, ← Nat.add_assoc] at this
      exact this.trans (q2 s hs)
  exact key 0 μ (by omega) ⟨fun j hj => absurd hj (Nat.not_lt_zero _), FM_refl⟩
theorem r_begins {μ : Mem} {B : Nat} {κ : KA} {Q : Mem → Prop} (hK : KM μ 280 κ) (hB : B ≤ 240) (h : ∀ m : Mem, KM m B (begK κ) → FM B (B + 40) μ m → Q m) : PX7_begins 100 (nI B) μ Q := by
  unfold PX7_begins
  rw [show (280 : Int32) = nI 280 from rfl]
  refine r_copies hK (by omega) (by omega) (by omega) (fun m hKm hf => ?_)
  obtain ⟨q1, q2, q3, q4, q5, q6, q7⟩ := hKm
  simp (disch := omega) only [jl_0, jl_1, jl_2, jl_3, jl_4, jl_5, jl_6, jl_7, jl_8, jl_9, jl_10, jl_11, jl_12, jl_13, jl_14, jl_15, jl_16, jl_17, jl_18, jl_19, jl_20, jl_21, jl_22, jl_23, jl_24, jl_25, jl_26, jl_27, jl_28, jl_29, jl_30, jl_31, jl_32, jl_33, jl_34, jl_35, jl_36, jl_37, jl_38, jl_39, jl_40, jl_41, jl_42, jl_43, jl_44, jl_45, jl_46, jl_47, jl_48, jl_49, jl_50, jl_51, jl_52, jl_53, jl_54, jl_55, jl_56, jl_57, jl_58, jl_59, jl_60, jl_61, jl_62, jl_63, jl_64, jl_97, jl_99, jl_100, jl_112, jl_122, jl_127, jl_240, jl_273, jl_274, jl_275, jl_280, jl_316, jl_317, jl_320, jl_400, jl_m1, jl_m4, dI_s2, nI_add, pk_mul, nI_clamp, nI_leI, nI_ltI, nI_eq, vn_in, pk_rem, jb_0, jb_1, jl_n40, jl_n40', true_and, and_true, true_implies, false_implies, not_true_eq_false, not_false_eq_true, implies_true, jl_z1, Nat.reduceEqDiff, Nat.reduceLeDiff, Nat.reduceLT, Nat.le_refl, Nat.lt_irrefl, Nat.zero_le, Nat.not_lt_zero, eq_self, Decidable.not_not, Nat.reduceAdd]
  refine ⟨by omega, by omega, fun m3 hm3 => ⟨by omega, by omega, fun m4 hm4 => ?_⟩⟩
  refine h m4 ?_ (FM_trans hf ?_)
  · subst hm4; subst hm3
    refine ⟨fun i hi => ?_, fun q hq => ?_, ?_, ?_, ?_, ?_, ?_⟩
    · simp (disch := omega) only [ms_1, if_neg, if_pos]; exact q1 i hi
    · simp (disch := omega) only [ms_1, if_neg, if_pos]; exact q2 q hq
    · simp (disch := omega) only [ms_1, if_neg, if_pos]; exact q3
    · simp (disch := omega) only [ms_1, if_neg, if_pos]; rfl
    · simp (disch := omega) only [ms_1, if_neg, if_pos]; rfl
    · simp (disch := omega) only [ms_1, if_neg, if_pos]; rfl
    · simp (disch := omega) only [ms_1, if_neg, if_pos]; rfl
  · subst hm4; subst hm3
    exact FM_trans (FM_trans (FM_st (by omega) (by omega)) (FM_st (by omega) (by omega))) (FM_trans (FM_st (by omega) (by omega)) (FM_st (by omega) (by omega)))
theorem r_isSameLarder {μ : Mem} {B C D C' D' : Nat} {κ κ' : KA} {Q : Int32 → Mem → Prop} (hK : KM μ B κ) (hK' : KM μ 280 κ') (hB : B ≤ 360) (hk : KW κ C D) (hk' : KW κ' C' D') (hC : C ≤ 1000000) (hC' : C' ≤ 1000000) (h1 : sameU κ κ' → Q (nI 1) μ) (h0 : ¬ sameU κ κ' → Q (nI 0) μ) : PX7_isSameLarder 100 (nI B) μ Q := by
  intro S hS
  have key0 : ¬ sameU κ κ' → ∀ i : Nat, i ≤ 24 → S (nI 0) (nI i) μ := by
    intro c
    refine up_pure ?_ ?_
    · intro i hi ih
      apply hS
      unfold nX7_isSameLarder_4 nX7_isSameLarder_39 nX7_isSameLarder_40
      rw [nI_1]
      exact ⟨fun c => absurd c (nI_ge (b := 24) hi (by omega)), fun _ => ⟨fun _ => ih, fun c => absurd rfl c⟩⟩
    · apply hS
      unfold nX7_isSameLarder_4
      exact ⟨fun _ => ⟨nz0, h0 c⟩, fun c => absurd (by decide) c⟩
  have key : ∀ i : Nat, i ≤ 24 → (∀ j : Nat, j < i → κ.u j = κ'.u j) → S (nI 1) (nI i) μ := by
    refine up_pure ?_ ?_
    · intro i hi ih hj
      have e1 := hK.1 i hi
      have e2 := hK'.1 i hi
      have b1 := hk.1 i
      have b2 := hk'.1 i
      apply hS
      unfold nX7_isSameLarder_4 nX7_isSameLarder_39 nX7_isSameLarder_40
      simp (disch := omega) only [jl_0, jl_1, jl_2, jl_3, jl_4, jl_5, jl_6, jl_7, jl_8, jl_9, jl_10, jl_11, jl_12, jl_13, jl_14, jl_15, jl_16, jl_17, jl_18, jl_19, jl_20, jl_21, jl_22, jl_23, jl_24, jl_25, jl_26, jl_27, jl_28, jl_29, jl_30, jl_31, jl_32, jl_33, jl_34, jl_35, jl_36, jl_37, jl_38, jl_39, jl_40, jl_41, jl_42, jl_43, jl_44, jl_45, jl_46, jl_47, jl_48, jl_49, jl_50, jl_51, jl_52, jl_53, jl_54, jl_55, jl_56, jl_57, jl_58, jl_59, jl_60, jl_61, jl_62, jl_63, jl_64, jl_97, jl_99, jl_100, jl_112, jl_122, jl_127, jl_240, jl_273, jl_274, jl_275, jl_280, jl_316, jl_317, jl_320, jl_400, jl_m1, jl_m4, dI_s2, nI_add, pk_mul, nI_clamp, nI_leI, nI_ltI, nI_eq, vn_in, pk_rem, jb_0, jb_1, jl_n40, jl_n40', true_and, and_true, true_implies, false_implies, not_true_eq_false, not_false_eq_true, implies_true, jl_z1, Nat.reduceEqDiff, Nat.reduceLeDiff, Nat.reduceLT, Nat.le_refl, Nat.lt_irrefl, Nat.zero_le, Nat.not_lt_zero, eq_self, Decidable.not_not, Nat.reduceAdd, e1, e2]
      refine ⟨fun c => absurd c (by omega), fun _ => ⟨by omega, by omega, fun c => ?_, fun c => ?_⟩⟩
      · exact key0 (fun z => c (z i hi)) (i + 1) (by omega)
      · exact ih (fun j hj2 => by
          by_cases q : j = i
          · subst q; exact c
          · exact hj j (by omega))
    · intro hj
      apply hS
      unfold nX7_isSameLarder_4
      exact ⟨fun _ => ⟨nz1, h1 hj⟩, fun c => absurd (by decide) c⟩
  exact key 0 (by omega) (fun j hj => absurd hj (Nat.not_lt_zero _))
