theorem KC_ext2 {b : Nat} {κ κ' : KA} {μ : Mem} (h : KC μ b κ) (e : ∀ i : Nat, i < 24 → κ.u i = κ'.u i) (e2 : κ.2 = κ'.2) : KC μ b κ' := by
  have := KC_ext h e
  rw [e2] at this
  exact this
set_option maxHeartbeats 1000000 in
theorem c_serve {μ : Mem} {b r s g B D : Nat} {κ : KA} {ρ : RA} {Q : Int32 → Mem → Prop} (hK : KC μ b κ) (hk : KW κ B D) (hB : B ≤ 90000) (hD : D ≤ 100000) (hR : CR μ r ρ) (hw : RW ρ) (hrb : r + 12 ≤ b) (hs : s < 9) (hg : g ≤ 1) (h : ∀ m : Mem, KC m b (servN ρ κ s g) → FI b (b + 4) μ m → Q (nI (costN ρ κ s g (ρ 0 0))) m) : PX0_serve b r (nI s) (nI g) μ Q := by
  intro S hS
  have t6 := hw.1
  refine c_findTaken hK hk (by omega) hR hw hrb hs hg (fun m0 f0 ht0 => ?_)
  have key : ∀ t m, t ≤ ρ 0 0 → (KC m b (midU κ.u (servU ρ κ s g) t, κ.2) ∧ (∀ q : Nat, q < ρ 0 0 → m.1 (b + 3) q = nI (takN ρ κ s g q)) ∧ FI (b + 1) (b + 4) μ m) → S (nI (costN ρ κ s g t)) (nI t) m := by
    refine up_loop ?_ ?_
    · intro t m ht ⟨hKm, htk, hf⟩ ih
      have hRm := CR_fr hR hf (by omega)
      have hkm : KW (midU κ.u (servU ρ κ s g) t, κ.2) (B + 6) D := by
        refine ⟨fun i => ?_, hk.2⟩
        show midU κ.u (servU ρ κ s g) t i ≤ B + 6
        have := hk.1 i
        have := servU_le (s := s) (g := g) (i := i) hw hk
        unfold midU; split <;> omega
      have emid : ∀ a : Nat, a < 4 → midU κ.u (servU ρ κ s g) t (4 * t + a) = κ.u (4 * t + a) := fun a ha => by
        unfold midU; rw [if_neg (by omega)]
      have ep : packN ρ (midU κ.u (servU ρ κ s g) t, κ.2) s g t = packN ρ κ s g t := pack_mid emid
      have bp := pack_le (κ := κ) (s := s) (t := t) hw hg ht
      have bt := takN_le (ρ := ρ) (s := s) (g := g) (t := t) hk
      have tail : nX0_serve_62 b r (nI s) (nI g) Q S (nI (costN ρ κ s g t)) (nI t) (nI (packN ρ κ s g t)) (nI (restN ρ κ s g t)) m := by
        unfold nX0_serve_62
        refine ⟨vp_in_nI (by omega) (by omega), ?_⟩
        rw [nI_clamp (by omega), htk t ht]
        refine c_takeOldest (B := B + 6) (by omega) (by omega) (by omega) hKm hkm.1 (fun m2 hK2 hf2 => ?_)
        have hRm2 := CR_fr hRm hf2 (by omega)
        have e1 := hK2.1 (t * 4) (by omega)
        have e2 := (hRm2.2.2.2.2.2.2.2.1 (s * 6 + t) (by omega)).2
        simp (disch := omega) only [jl_0, jl_1, jl_2, jl_3, jl_4, jl_5, jl_6, jl_7, jl_8, jl_9, jl_10, jl_11, jl_12, jl_13, jl_14, jl_15, jl_16, jl_17, jl_18, jl_19, jl_20, jl_21, jl_22, jl_23, jl_24, jl_25, jl_26, jl_27, jl_28, jl_29, jl_30, jl_31, jl_32, jl_33, jl_34, jl_35, jl_36, jl_37, jl_38, jl_39, jl_40, jl_41, jl_42, jl_43, jl_44, jl_45, jl_46, jl_47, jl_48, jl_49, jl_50, jl_51, jl_52, jl_53, jl_54, jl_55, jl_56, jl_57, jl_58, jl_59, jl_60, jl_61, jl_62, jl_63, jl_64, jl_97, jl_99, jl_100, jl_112, jl_122, jl_127, jl_240, jl_273, jl_274, jl_275, jl_280, jl_316, jl_317, jl_320, jl_400, jl_m1, jl_m4, dI_s2, nI_add, pk_mul, nI_clamp, nI_leI, nI_ltI, nI_eq, vn_in, pk_rem, jb_0, jb_1, jl_n40, jl_n40', true_and, and_true, true_implies, false_implies, not_true_eq_false, not_false_eq_true, implies_true, jl_z1, Nat.reduceEqDiff, Nat.reduceLeDiff, Nat.reduceLT, Nat.le_refl, Nat.lt_irrefl, Nat.zero_le, Nat.not_lt_zero, eq_self, Decidable.not_not, e1, e2]
        refine ⟨by omega, by omega, by omega, fun m3 hm3 => ⟨by omega, ?_⟩⟩
        have hKu := KC_u (v := tkU t 4 (takN ρ κ s g t) (midU κ.u (servU ρ κ s g) t) (t * 4) + (restN ρ κ s g t + ρ 10 (s * 6 + t))) hK2 (show t * 4 < 24 by omega)
        rw [← hm3] at hKu
        have hf3 : FI (b + 1) (b + 4) m m3 := FI_trans (FI_mono hf2 (by omega) (by omega)) (by rw [hm3]; exact FI_ms (by omega) (by omega))
        have hRm3 := CR_fr hRm hf3 (by omega)
        have e3 := (hRm3.2.2.2.2.2.1 t ht).2.2
        rw [e3, pk_mul, nI_add]
        refine ih m3 ⟨?_, fun q hq => ?_, FI_trans hf hf3⟩
        · refine KC_ext2 hKu (fun i hi => ?_) rfl
          show (if i = t * 4 then _ else tkU t 4 (takN ρ κ s g t) (midU κ.u (servU ρ κ s g) t) i) = midU κ.u (servU ρ κ s g) (t + 1) i
          by_cases c : i / 4 = t
          · have em : midU κ.u (servU ρ κ s g) (t + 1) i = κ.u i - takA ρ κ s g t (i % 4) + (if i % 4 = 0 then restN ρ κ s g t + ρ 10 (6 * s + t) else 0) := by
              unfold midU servU; rw [if_pos (by omega), if_pos (by omega), c]
            rw [em]
            by_cases c2 : i = t * 4
            · rw [if_pos c2, if_pos (by omega), ← c2, take_mid emid i c, take_same ht i c, Nat.mul_comm 6 s]
            · rw [if_neg c2, if_neg (by omega), take_mid emid i c, take_same ht i c, Nat.add_zero]
          · rw [if_neg (by omega), take_out i c]
            unfold midU
            by_cases c3 : i / 4 < t
            · rw [if_pos c3, if_pos (by omega)]
            · rw [if_neg c3, if_neg (by omega)]
        · rw [hm3, ms_1, if_neg (by omega), hf2.1 (b + 3) (by omega)]
          exact htk q hq
      apply hS
      unfold nX0_serve_13
      rw [hRm.1]
      refine ⟨fun c => absurd c (nI_ge ht (by omega)), fun _ => ?_⟩
      refine c_packs hKm hkm (by omega) hD hRm hw hs ht hg ?_
      rw [ep]
      refine ⟨fun c => ⟨vp_in_nI (by omega) (by omega), ?_⟩, fun c => ?_⟩
      · have cp : packN ρ κ s g t ≠ 0 := fun q => c (by rw [q]; rfl)
        refine c_lacking hKm hkm (by omega) hRm hw hs ht hg ?_
        have h3 : ρ 4 s ≠ 3 := by
          intro q
          have : ¬ buyN ρ κ.date s t := fun z => by have := z.2.2; omega
          apply cp; unfold packN; rw [if_neg this]
        rw [lack_mid h3 emid, nI_clamp (by omega), (hRm.2.2.2.2.2.1 t ht).2.1, pk_mul]
        have hge := pack_ge hw ht cp
        rw [pk_sub hge.1]
        have er : restN ρ κ s g t = packN ρ κ s g t * ρ 2 t - lackN ρ κ s g t := by unfold restN; rw [if_neg cp]
        rw [← er]
        exact tail
      · have cp : packN ρ κ s g t = 0 := (nI_eq (by omega) (by omega)).1 c
        have er : restN ρ κ s g t = 0 := by unfold restN; rw [if_pos cp]
        rw [er] at tail
        exact tail
    · intro m ⟨hKm, htk, hf⟩
      have hRm := CR_fr hR hf (by omega)
      apply hS
      unfold nX0_serve_13
      rw [hRm.1]
      refine ⟨fun _ => ?_, fun c => absurd (nI_le (Nat.le_refl _) (by omega)) c⟩
      have hKe := KC_ext hKm (f := servU ρ κ s g) (fun i hi => by
        show midU κ.u (servU ρ κ s g) (ρ 0 0) i = servU ρ κ s g i
        unfold midU
        by_cases c : i / 4 < ρ 0 0
        · rw [if_pos c]
        · rw [if_neg c]; unfold servU; rw [if_neg c])
      refine ⟨vp_in_nI (by omega) (by omega), fun m4 hm4 => ⟨vp_in_nI (by omega) (by omega), fun m5 hm5 => ?_⟩⟩
      rw [nI_clamp (by omega)] at hm4 hm5
      obtain ⟨h1, h2, h3, h4, h5, h6, h7⟩ := hKe
      have hl := (hRm.2.2.2.2.2.2.1 s hs).2.1
      have el : (ms m4 b 4 ((m4.1 b 4) + nI (costN ρ κ s g (ρ 0 0)))).1 (r + 5) s = nI (ρ 5 s) := by
        rw [ms_1, if_neg (by omega), hm4, ms_1, if_neg (by omega), ms_1, if_neg (by omega)]; exact hl
      rw [el] at hm5
      refine h m5 ?_ ?_
      · subst hm5; subst hm4
        refine ⟨fun i hi => ?_, fun q hq => ?_, ?_, ?_, ?_, ?_, ?_⟩
        · simp (disch := omega) only [ms_1, if_neg]; exact h1 i hi
        · simp (disch := omega) only [ms_1, if_neg, if_pos]
          show (if q = s then m.1 b 2 else m.1 (b + 2) q) = oI (if q = s then some κ.date else κ.la q)
          by_cases c : q = s
          · rw [if_pos c, if_pos c, h3]; rfl
          · rw [if_neg c, if_neg c]; exact h2 q hq
        · simp (disch := omega) only [ms_1, if_neg, if_pos]; exact h3
        · simp (disch := omega) only [ms_1, if_neg, if_pos]; rfl
        · simp (disch := omega) only [ms_1, if_neg, if_pos]; rw [h5, nI_add]; rfl
        · simp (disch := omega) only [ms_1, if_neg, if_pos]; exact h6
        · simp (disch := omega) only [ms_1, if_neg, if_pos]; rw [h7, nI_add]; rfl
      · refine FI_trans (FI_mono hf (by omega) (by omega)) ?_
        subst hm5; subst hm4
        exact FI_trans (FI_trans (FI_ms (by omega) (by omega)) (FI_ms (by omega) (by omega))) (FI_trans (FI_ms (by omega) (by omega)) (FI_ms (by omega) (by omega)))
  refine key 0 m0 (Nat.zero_le _) ⟨?_, ht0, FI_mono f0 (by omega) (by omega)⟩
  exact KC_ext (KC_fr hK f0 (by omega)) (fun i _ => mid_0 i)
