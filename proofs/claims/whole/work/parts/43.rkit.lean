/-- nothing changed but the reference's row st from lo to hi, what is taken, what is bought -/
def FM (lo hi : Nat) (μ m : Mem) : Prop := (∀ a j : Nat, a ≠ 116 → a ≠ 117 → (a = 114 → j < lo ∨ hi ≤ j) → m.1 a j = μ.1 a j) ∧ m.2 = μ.2
theorem FM_refl {lo hi : Nat} {μ : Mem} : FM lo hi μ μ := ⟨fun _ _ _ _ _ => rfl, rfl⟩
theorem FM_trans {lo hi : Nat} {μ m n : Mem} (h : FM lo hi μ m) (h2 : FM lo hi m n) : FM lo hi μ n := ⟨fun a j h1 h3 h4 => (h2.1 a j h1 h3 h4).trans (h.1 a j h1 h3 h4), h2.2.trans h.2⟩
theorem FM_mono {lo hi lo' hi' : Nat} {μ m : Mem} (h : FM lo hi μ m) (h1 : lo' ≤ lo) (h2 : hi ≤ hi') : FM lo' hi' μ m := ⟨fun a j h3 h4 h5 => h.1 a j h3 h4 (fun c => by have := h5 c; omega), h.2⟩
theorem FM_zero {lo hi z : Nat} {μ m : Mem} (h : FM z z μ m) : FM lo hi μ m := ⟨fun a j h3 h4 h5 => h.1 a j h3 h4 (fun c => by omega), h.2⟩
theorem FM_st {lo hi j : Nat} {v : Int32} {μ : Mem} (h1 : lo ≤ j) (h2 : j < hi) : FM lo hi μ (ms μ 114 j v) := ⟨fun a i h3 h4 h5 => by
  rw [ms_1]
  by_cases c : a = 114
  · rw [if_pos c, if_neg (by have := h5 c; omega)]
  · rw [if_neg c], rfl⟩
theorem FM_tk {lo hi j : Nat} {v : Int32} {μ : Mem} : FM lo hi μ (ms μ 116 j v) := ⟨fun a i h3 h4 h5 => by rw [ms_1, if_neg h3], rfl⟩
theorem FM_bo {lo hi j : Nat} {v : Int32} {μ : Mem} : FM lo hi μ (ms μ 117 j v) := ⟨fun a i h3 h4 h5 => by rw [ms_1, if_neg h4], rfl⟩
theorem MR_fr {lo hi : Nat} {ρ : RA} {μ m : Mem} (h : MR μ ρ) (f : FM lo hi μ m) : MR m ρ := by
  have e : ∀ a j : Nat, a ≠ 114 → a ≠ 116 → a ≠ 117 → m.1 a j = μ.1 a j := fun a j h1 h2 h3 => f.1 a j h2 h3 (fun c => absurd c h1)
  obtain ⟨h1, h2, h3, h4, h5, h6, h7, h8, h9⟩ := h
  refine ⟨(e _ _ (by decide) (by decide) (by decide)).trans h1, (e _ _ (by decide) (by decide) (by decide)).trans h2, (e _ _ (by decide) (by decide) (by decide)).trans h3, (e _ _ (by decide) (by decide) (by decide)).trans h4, (e _ _ (by decide) (by decide) (by decide)).trans h5, fun t ht => ?_, fun s hs => ?_, fun i hi => ?_, fun w hw => ?_⟩
  · obtain ⟨q1, q2, q3⟩ := h6 t ht
    exact ⟨(e _ _ (by decide) (by decide) (by decide)).trans q1, (e _ _ (by decide) (by decide) (by decide)).trans q2, (e _ _ (by decide) (by decide) (by decide)).trans q3⟩
  · obtain ⟨q1, q2, q3, q4, q5⟩ := h7 s hs
    exact ⟨(e _ _ (by decide) (by decide) (by decide)).trans q1, (e _ _ (by decide) (by decide) (by decide)).trans q2, (e _ _ (by decide) (by decide) (by decide)).trans q3, (e _ _ (by decide) (by decide) (by decide)).trans q4, (e _ _ (by decide) (by decide) (by decide)).trans q5⟩
  · obtain ⟨q1, q2⟩ := h8 i hi
    exact ⟨(e _ _ (by decide) (by decide) (by decide)).trans q1, (e _ _ (by decide) (by decide) (by decide)).trans q2⟩
  · exact (e _ _ (by decide) (by decide) (by decide)).trans (h9 w hw)
theorem KM_fr {lo hi B : Nat} {κ : KA} {μ m : Mem} (h : KM μ B κ) (f : FM lo hi μ m) (hr : B + 40 ≤ lo ∨ hi ≤ B ∨ hi ≤ lo) : KM m B κ := by
  have e : ∀ j : Nat, j < 40 → m.1 114 (B + j) = μ.1 114 (B + j) := fun j hj => f.1 _ _ (by decide) (by decide) (fun _ => by omega)
  obtain ⟨h1, h2, h3, h4, h5, h6, h7⟩ := h
  refine ⟨fun i hi => (e _ (by omega)).trans (h1 i hi), fun s hs => ?_, (e _ (by omega)).trans h3, (e _ (by omega)).trans h4, (e _ (by omega)).trans h5, (e _ (by omega)).trans h6, (e _ (by omega)).trans h7⟩
  have := e (24 + s) (by omega)
  rw [← Nat.add_assoc] at this
  exact this.trans (h2 s hs)
theorem KM_u {B i v : Nat} {κ : KA} {μ : Mem} (h : KM μ B κ) (hi : i < 24) : KM (ms μ 114 (B + i) (nI v)) B (fun j => if j = i then v else κ.u j, κ.2) := by
  obtain ⟨h1, h2, h3, h4, h5, h6, h7⟩ := h
  refine ⟨fun j hj => ?_, fun s hs => ?_, ?_, ?_, ?_, ?_, ?_⟩
  · rw [ms_1, if_pos rfl]
    show _ = nI (if j = i then v else κ.u j)
    by_cases c : j = i
    · rw [if_pos c, if_pos (by omega)]
    · rw [if_neg c, if_neg (by omega)]; exact h1 j hj
  · rw [ms_1, if_pos rfl, if_neg (by omega)]; exact h2 s hs
  all_goals (rw [ms_1, if_pos rfl, if_neg (by omega)]; assumption)
theorem KM_ext2 {B : Nat} {κ κ' : KA} {μ : Mem} (h : KM μ B κ) (e : ∀ i : Nat, i < 24 → κ.u i = κ'.u i) (e2 : κ.2 = κ'.2) : KM μ B κ' := by
  obtain ⟨h1, h2⟩ := h
  refine ⟨fun i hi => by rw [h1 i hi, e i hi], ?_⟩
  have e3 : κ'.2 = κ.2 := e2.symm
  unfold KA.la KA.date KA.tod KA.paid KA.thr KA.lik at *
  rw [e3]; exact h2
theorem r_keeps {μ : Mem} {t : Nat} {ρ : RA} {Q : Int32 → Mem → Prop} (hR : MR μ ρ) (hw : RW ρ) (ht : t < ρ 0 0) (h : Q (nI (ρ 1 t)) μ) : PX7_keeps 100 (nI t) μ Q := by
  have t6 := hw.1
  have e := (hR.2.2.2.2.2.1 t ht).1
  unfold PX7_keeps
  simp (disch := omega) only [jl_0, jl_1, jl_2, jl_3, jl_4, jl_5, jl_6, jl_7, jl_8, jl_9, jl_10, jl_11, jl_12, jl_13, jl_14, jl_15, jl_16, jl_17, jl_18, jl_19, jl_20, jl_21, jl_22, jl_23, jl_24, jl_25, jl_26, jl_27, jl_28, jl_29, jl_30, jl_31, jl_32, jl_33, jl_34, jl_35, jl_36, jl_37, jl_38, jl_39, jl_40, jl_41, jl_42, jl_43, jl_44, jl_45, jl_46, jl_47, jl_48, jl_49, jl_50, jl_51, jl_52, jl_53, jl_54, jl_55, jl_56, jl_57, jl_58, jl_59, jl_60, jl_61, jl_62, jl_63, jl_64, jl_97, jl_99, jl_100, jl_112, jl_122, jl_127, jl_240, jl_273, jl_274, jl_275, jl_280, jl_316, jl_317, jl_320, jl_400, jl_m1, jl_m4, dI_s2, nI_add, pk_mul, nI_clamp, nI_leI, nI_ltI, nI_eq, vn_in, pk_rem, jb_0, jb_1, jl_n40, jl_n40', true_and, and_true, true_implies, false_implies, not_true_eq_false, not_false_eq_true, implies_true, jl_z1, Nat.reduceEqDiff, Nat.reduceLeDiff, Nat.reduceLT, Nat.le_refl, Nat.lt_irrefl, Nat.zero_le, Nat.not_lt_zero, eq_self, Decidable.not_not, Nat.reduceAdd, e]
  exact ⟨by omega, h⟩
theorem takA_3 {ρ : RA} {κ : KA} {s g t k : Nat} (h3 : ρ 4 s ≠ 3) (hk : k < 4) : takA ρ κ s g t (3 - k) = min (wantN ρ s g t - sumN (fun j => κ.u (4 * t + (3 - j))) k) (κ.u (4 * t + (3 - k))) := by
  unfold takA
  rw [if_neg h3, show 3 - (3 - k) = k by omega]
theorem takA_s {ρ : RA} {κ : KA} {s g t k : Nat} (h3 : ρ 4 s = 3) (hk : k < 4) : takA ρ κ s g t (3 - k) = min (soupN ρ s g - (oldS ρ κ s k + rowS ρ κ s (3 - k) t)) (inU ρ κ s t (3 - k)) := by
  unfold takA
  rw [if_pos h3, show 3 - (3 - k) = k by omega]
set_option maxHeartbeats 2000000 in
theorem r_findTaken {μ : Mem} {B s g B' D : Nat} {κ : KA} {ρ : RA} {Q : Mem → Prop} (hK : KM μ B κ) (hB : B ≤ 360) (hk : KW κ B' D) (hB' : B' ≤ 100000) (hR : MR μ ρ) (hw : RW ρ) (hs : s < ρ 0 4) (hg : g ≤ 1) (h : ∀ m : Mem, FM 0 0 μ m → (∀ t a : Nat, t < ρ 0 0 → a < 4 → m.1 116 (4 * t + a) = nI (takA ρ κ s g t a)) → Q m) : PX7_findTaken 100 (nI B) (nI s) (nI g) μ Q := by
  have t6 := hw.1
  have s9 := hw.2.1
  have hsp := soup_le (s := s) hw hg
  intro S11 S35 S66 S145 S162 h11 h35 h66 h145 h162
  have soup : ρ 4 s = 3 → ∀ d k : Nat, k + d = 4 → ∀ m : Mem, (FM 0 0 μ m ∧ ∀ q a : Nat, q < ρ 0 0 → a < 4 → 4 - k ≤ a → m.1 116 (4 * q + a) = nI (takA ρ κ s g q a)) → S145 (nI (soupN ρ s g - oldS ρ κ s k)) (dI d) m := by
    intro h3 d
    induction d with
    | zero =>
      intro k hkd m ⟨hf, ht⟩
      have : k = 4 := by omega
      subst this
      apply h145
      unfold nX7_findTaken_145
      exact ⟨fun _ => h m hf (fun t a q1 q2 => ht t a q1 q2 (by omega)), fun c => absurd dI_neg c⟩
    | succ d ih =>
      intro k hkd m ⟨hf, ht⟩
      have hd : d = 3 - k := by omega
      subst hd
      have row : ∀ t m, t ≤ ρ 0 0 → (FM 0 0 μ m ∧ ∀ q a : Nat, q < ρ 0 0 → a < 4 → (4 - k ≤ a ∨ (a = 3 - k ∧ q < t)) → m.1 116 (4 * q + a) = nI (takA ρ κ s g q a)) → S162 (nI (soupN ρ s g - (oldS ρ κ s k + rowS ρ κ s (3 - k) t))) (nI (3 - k)) (nI t) m := by
        refine up_loop ?_ ?_
        · intro t m ht ⟨hf, hj⟩ ih2
          have hRm := MR_fr hR hf
          have hKm := KM_fr hK hf (by omega)
          have eta := takA_s (κ := κ) (g := g) (t := t) h3 (show k < 4 by omega)
          have erow : rowS ρ κ s (3 - k) (t + 1) = rowS ρ κ s (3 - k) t + inU ρ κ s t (3 - k) := rfl
          have biu := inU_le (ρ := ρ) (s := s) (t := t) (a := 3 - k) hk
          have fin : nX7_findTaken_199 100 (nI B) (nI s) (nI g) Q S11 S35 S66 S145 S162 (nI (soupN ρ s g - (oldS ρ κ s k + rowS ρ κ s (3 - k) t))) (nI (3 - k)) (nI t) (nI (inU ρ κ s t (3 - k))) m := by
            have fin2 : nX7_findTaken_226 100 (nI B) (nI s) (nI g) Q S11 S35 S66 S145 S162 (nI (soupN ρ s g - (oldS ρ κ s k + rowS ρ κ s (3 - k) t))) (nI (3 - k)) (nI t) (nI (takA ρ κ s g t (3 - k))) (nI (4 * t + (3 - k))) m := by
              unfold nX7_findTaken_226
              have e0 : (ms m 116 (4 * t + (3 - k)) (nI (takA ρ κ s g t (3 - k)))).1 116 (4 * t + (3 - k)) = nI (takA ρ κ s g t (3 - k)) := by rw [ms_1, if_pos rfl, if_pos rfl]
              simp (disch := omega) only [jl_0, jl_1, jl_2, jl_3, jl_4, jl_5, jl_6, jl_7, jl_8, jl_9, jl_10, jl_11, jl_12, jl_13, jl_14, jl_15, jl_16, jl_17, jl_18, jl_19, jl_20, jl_21, jl_22, jl_23, jl_24, jl_25, jl_26, jl_27, jl_28, jl_29, jl_30, jl_31, jl_32, jl_33, jl_34, jl_35, jl_36, jl_37, jl_38, jl_39, jl_40, jl_41, jl_42, jl_43, jl_44, jl_45, jl_46, jl_47, jl_48, jl_49, jl_50, jl_51, jl_52, jl_53, jl_54, jl_55, jl_56, jl_57, jl_58, jl_59, jl_60, jl_61, jl_62, jl_63, jl_64, jl_97, jl_99, jl_100, jl_112, jl_122, jl_127, jl_240, jl_273, jl_274, jl_275, jl_280, jl_316, jl_317, jl_320, jl_400, jl_m1, jl_m4, dI_s2, nI_add, pk_mul, nI_clamp, nI_leI, nI_ltI, nI_eq, vn_in, pk_rem, jb_0, jb_1, jl_n40, jl_n40', true_and, and_true, true_implies, false_implies, not_true_eq_false, not_false_eq_true, implies_true, jl_z1, Nat.reduceEqDiff, Nat.reduceLeDiff, Nat.reduceLT, Nat.le_refl, Nat.lt_irrefl, Nat.zero_le, Nat.not_lt_zero, eq_self, Decidable.not_not, Nat.reduceAdd, e0, pk_sub]
              refine ⟨by omega, by omega, fun x hx => ?_⟩
              rw [hx, show soupN ρ s g - (oldS ρ κ s k + rowS ρ κ s (3 - k) t) - takA ρ κ s g t (3 - k) = soupN ρ s g - (oldS ρ κ s k + rowS ρ κ s (3 - k) (t + 1)) by omega]
              refine ih2 _ ⟨FM_trans hf FM_tk, fun q a hq ha hc => ?_⟩
              rw [ms_1, if_pos rfl]
              by_cases c : 4 * q + a = 4 * t + (3 - k)
              · have e1 : q = t := by omega
                have e2 : a = 3 - k := by omega
                subst e1; subst e2
                rw [if_pos rfl]
              · rw [if_neg c]
                exact hj q a hq ha (by omega)
            unfold nX7_findTaken_199
            have e4 : (4 : Int32) * nI t + nI (3 - k) = nI (4 * t + (3 - k)) := by rw [show (4 : Int32) = nI 4 from rfl, pk_mul, nI_add]
            rw [e4]
            refine ⟨fun c => ?_, fun c => ?_⟩
            · have c2 := (nI_leI (by omega) (by omega)).1 c
              have : takA ρ κ s g t (3 - k) = soupN ρ s g - (oldS ρ κ s k + rowS ρ κ s (3 - k) t) := by omega
              rw [this] at fin2
              exact fin2
            · have c2 : ¬ _ := fun z => c ((nI_leI (by omega) (by omega)).2 z)
              have : takA ρ κ s g t (3 - k) = inU ρ κ s t (3 - k) := by omega
              rw [this] at fin2
              exact fin2
          apply h162
          unfold nX7_findTaken_162
          rw [hRm.1]
          refine ⟨fun c => absurd c (nI_ge ht (by omega)), fun _ => ?_⟩
          refine r_isAmong hRm hw hs h3 (by omega) (fun d => ?_) (fun d => ?_)
          · refine ⟨fun _ => ?_, fun c => absurd rfl c⟩
            have : inU ρ κ s t (3 - k) = 0 := by unfold inU; rw [if_neg d]
            rw [this] at fin
            exact fin
          · refine ⟨fun c => absurd c (by decide), fun _ => ?_⟩
            have e1 := hKm.1 (4 * t + (3 - k)) (by omega)
            have e3 : inU ρ κ s t (3 - k) = κ.u (4 * t + (3 - k)) := by unfold inU; rw [if_pos d]
            have e4 : nI B + (4 : Int32) * nI t + nI (3 - k) = nI (B + (4 * t + (3 - k))) := by rw [show (4 : Int32) = nI 4 from rfl, pk_mul, nI_add, nI_add, Nat.add_assoc]
            rw [e4, nI_clamp (by omega), e1, ← e3]
            exact ⟨vp_in_nI (by omega) (by omega), fin⟩
        · intro m ⟨hf, hj⟩
          have hRm := MR_fr hR hf
          apply h162
          unfold nX7_findTaken_162
          rw [hRm.1]
          refine ⟨fun _ => ?_, fun c => absurd (nI_le (Nat.le_refl _) (by omega)) c⟩
          rw [dI_s]
          exact ih (k + 1) (by omega) m ⟨hf, fun q a hq ha hc => hj q a hq ha (by omega)⟩
      have hRm := MR_fr hR hf
      apply h145
      unfold nX7_findTaken_145
      refine ⟨fun c => absurd c (dI_pos (by omega)), fun _ => ?_⟩
      refine r_kind hRm hw hs ⟨fun c => absurd (by rw [h3]; rfl) c, fun _ => ?_⟩
      exact row 0 m (Nat.zero_le _) ⟨hf, fun q a hq ha hc => ht q a hq ha (by omega)⟩
  have things : ρ 4 s ≠ 3 → ∀ t m, t ≤ ρ 0 0 → (FM 0 0 μ m ∧ ∀ q a : Nat, q < t → a < 4 → m.1 116 (4 * q + a) = nI (takA ρ κ s g q a)) → S35 (nI (soupN ρ s g)) (nI t) m := by
    intro h3
    refine up_loop ?_ ?_
    · intro t m ht ⟨hf, hj⟩ ih
      have inner : ∀ d k : Nat, k + d = 4 → ∀ m : Mem, (FM 0 0 μ m ∧ ∀ q a : Nat, (q < t ∨ (q = t ∧ 4 - k ≤ a)) → a < 4 → m.1 116 (4 * q + a) = nI (takA ρ κ s g q a)) → S66 (nI (soupN ρ s g)) (nI t) (nI (wantN ρ s g t - sumN (fun j => κ.u (4 * t + (3 - j))) k)) (dI d) m := by
        intro d
        induction d with
        | zero =>
          intro k hkd m ⟨hf, hj⟩
          apply h66
          unfold nX7_findTaken_66
          refine ⟨fun _ => ?_, fun c => absurd dI_neg c⟩
          rw [nI_1]
          exact ih m ⟨hf, fun q a hq ha => hj q a (by omega) ha⟩
        | succ d ih2 =>
          intro k hkd m ⟨hf, hj⟩
          have hd : d = 3 - k := by omega
          subst hd
          have hKm := KM_fr hK hf (by omega)
          have e1 := hKm.1 (4 * t + (3 - k)) (by omega)
          have b1 := hk.1 (4 * t + (3 - k))
          have bw := want_le (s := s) (g := g) (t := t) hw
          have eta := takA_3 (κ := κ) (g := g) (t := t) h3 (show k < 4 by omega)
          have esum : sumN (fun j => κ.u (4 * t + (3 - j))) (k + 1) = sumN (fun j => κ.u (4 * t + (3 - j))) k + κ.u (4 * t + (3 - k)) := rfl
          have fin2 : nX7_findTaken_112 100 (nI B) (nI s) (nI g) Q S11 S35 S66 S145 S162 (nI (soupN ρ s g)) (nI t) (nI (wantN ρ s g t - sumN (fun j => κ.u (4 * t + (3 - j))) k)) (nI (3 - k)) (nI (takA ρ κ s g t (3 - k))) (nI (4 * t + (3 - k))) m := by
            unfold nX7_findTaken_112
            have e0 : (ms m 116 (4 * t + (3 - k)) (nI (takA ρ κ s g t (3 - k)))).1 116 (4 * t + (3 - k)) = nI (takA ρ κ s g t (3 - k)) := by rw [ms_1, if_pos rfl, if_pos rfl]
            simp (disch := omega) only [jl_0, jl_1, jl_2, jl_3, jl_4, jl_5, jl_6, jl_7, jl_8, jl_9, jl_10, jl_11, jl_12, jl_13, jl_14, jl_15, jl_16, jl_17, jl_18, jl_19, jl_20, jl_21, jl_22, jl_23, jl_24, jl_25, jl_26, jl_27, jl_28, jl_29, jl_30, jl_31, jl_32, jl_33, jl_34, jl_35, jl_36, jl_37, jl_38, jl_39, jl_40, jl_41, jl_42, jl_43, jl_44, jl_45, jl_46, jl_47, jl_48, jl_49, jl_50, jl_51, jl_52, jl_53, jl_54, jl_55, jl_56, jl_57, jl_58, jl_59, jl_60, jl_61, jl_62, jl_63, jl_64, jl_97, jl_99, jl_100, jl_112, jl_122, jl_127, jl_240, jl_273, jl_274, jl_275, jl_280, jl_316, jl_317, jl_320, jl_400, jl_m1, jl_m4, dI_s2, nI_add, pk_mul, nI_clamp, nI_leI, nI_ltI, nI_eq, vn_in, pk_rem, jb_0, jb_1, jl_n40, jl_n40', true_and, and_true, true_implies, false_implies, not_true_eq_false, not_false_eq_true, implies_true, jl_z1, Nat.reduceEqDiff, Nat.reduceLeDiff, Nat.reduceLT, Nat.le_refl, Nat.lt_irrefl, Nat.zero_le, Nat.not_lt_zero, eq_self, Decidable.not_not, Nat.reduceAdd, e0, pk_sub]
            refine ⟨by omega, by omega, fun x hx => ?_⟩
            rw [hx, show wantN ρ s g t - sumN (fun j => κ.u (4 * t + (3 - j))) k - takA ρ κ s g t (3 - k) = wantN ρ s g t - sumN (fun j => κ.u (4 * t + (3 - j))) (k + 1) by omega]
            refine ih2 (k + 1) (by omega) _ ⟨FM_trans hf FM_tk, fun q a hq ha => ?_⟩
            rw [ms_1, if_pos rfl]
            by_cases c : 4 * q + a = 4 * t + (3 - k)
            · have e1 : q = t := by omega
              have e2 : a = 3 - k := by omega
              subst e1; subst e2
              rw [if_pos rfl]
            · rw [if_neg c]
              exact hj q a (by omega) ha
          apply h66
          unfold nX7_findTaken_66
          refine ⟨fun c => absurd c (dI_pos (by omega)), fun _ => ?_⟩
          rw [show dI (3 - k + 1) = nI (3 - k) from rfl]
          have e4 : nI B + (4 : Int32) * nI t + nI (3 - k) = nI (B + (4 * t + (3 - k))) := by rw [show (4 : Int32) = nI 4 from rfl, pk_mul, nI_add, nI_add, Nat.add_assoc]
          have e5 : (4 : Int32) * nI t + nI (3 - k) = nI (4 * t + (3 - k)) := by rw [show (4 : Int32) = nI 4 from rfl, pk_mul, nI_add]
          rw [e4, e5, nI_clamp (by omega)]
          refine ⟨vp_in_nI (by omega) (by omega), fun x hx => ?_⟩
          rw [e1] at hx
          rw [hx]
          refine ⟨fun c => ?_, fun c => ?_⟩
          · have c2 := (nI_leI (by omega) (by omega)).1 c
            have : takA ρ κ s g t (3 - k) = wantN ρ s g t - sumN (fun j => κ.u (4 * t + (3 - j))) k := by omega
            rw [this] at fin2
            exact fin2
          · have c2 : ¬ _ := fun z => c ((nI_leI (by omega) (by omega)).2 z)
            have : takA ρ κ s g t (3 - k) = κ.u (4 * t + (3 - k)) := by omega
            rw [this] at fin2
            exact fin2
      have hRm := MR_fr hR hf
      apply h35
      unfold nX7_findTaken_35
      rw [hRm.1]
      refine ⟨fun c => absurd c (nI_ge ht (by omega)), fun _ => ?_⟩
      have b2 := (hw.2.2.2.2.2.2.1 s).1
      refine r_kind hRm hw hs ⟨fun c => ?_, fun _ => ?_⟩
      · exact absurd ((nI_eq (a := ρ 4 s) (b := 3) (by omega) (by omega)).1 c) h3
      · refine r_wantOf hRm hw hs (by omega) hg ?_
        exact inner 4 0 rfl m ⟨hf, fun q a hq ha => hj q a (by omega) ha⟩
    · intro m ⟨hf, hj⟩
      have hRm := MR_fr hR hf
      have b2 := (hw.2.2.2.2.2.2.1 s).1
      apply h35
      unfold nX7_findTaken_35
      rw [hRm.1]
      refine ⟨fun _ => ?_, fun c => absurd (nI_le (Nat.le_refl _) (by omega)) c⟩
      unfold nX7_findTaken_142
      apply h145
      unfold nX7_findTaken_145
      refine ⟨fun c => absurd c (by decide), fun _ => ?_⟩
      refine r_kind hRm hw hs ⟨fun c => h m hf (fun t a ht ha => hj t a ht ha), fun c => ?_⟩
      exact absurd ((nI_eq (a := ρ 4 s) (b := 3) (by omega) (by omega)).1 c) h3
  have zero : ∀ i m, i ≤ 24 → FM 0 0 μ m → S11 (nI (soupN ρ s g)) (nI i) m := by
    refine up_loop ?_ ?_
    · intro i m hi hf ih
      apply h11
      unfold nX7_findTaken_11
      simp (disch := omega) only [jl_0, jl_1, jl_2, jl_3, jl_4, jl_5, jl_6, jl_7, jl_8, jl_9, jl_10, jl_11, jl_12, jl_13, jl_14, jl_15, jl_16, jl_17, jl_18, jl_19, jl_20, jl_21, jl_22, jl_23, jl_24, jl_25, jl_26, jl_27, jl_28, jl_29, jl_30, jl_31, jl_32, jl_33, jl_34, jl_35, jl_36, jl_37, jl_38, jl_39, jl_40, jl_41, jl_42, jl_43, jl_44, jl_45, jl_46, jl_47, jl_48, jl_49, jl_50, jl_51, jl_52, jl_53, jl_54, jl_55, jl_56, jl_57, jl_58, jl_59, jl_60, jl_61, jl_62, jl_63, jl_64, jl_97, jl_99, jl_100, jl_112, jl_122, jl_127, jl_240, jl_273, jl_274, jl_275, jl_280, jl_316, jl_317, jl_320, jl_400, jl_m1, jl_m4, dI_s2, nI_add, pk_mul, nI_clamp, nI_leI, nI_ltI, nI_eq, vn_in, pk_rem, jb_0, jb_1, jl_n40, jl_n40', true_and, and_true, true_implies, false_implies, not_true_eq_false, not_false_eq_true, implies_true, jl_z1, Nat.reduceEqDiff, Nat.reduceLeDiff, Nat.reduceLT, Nat.le_refl, Nat.lt_irrefl, Nat.zero_le, Nat.not_lt_zero, eq_self, Decidable.not_not, Nat.reduceAdd]
      exact ⟨fun c => absurd c (by omega), fun _ => ⟨by omega, ih _ (FM_trans hf FM_tk)⟩⟩
    · intro m hf
      apply h11
      unfold nX7_findTaken_11
      refine ⟨fun _ => ?_, fun c => absurd (by decide) c⟩
      by_cases c : ρ 4 s = 3
      · have hRm := MR_fr hR hf
        have go : S145 (nI (soupN ρ s g)) (3 : Int32) m := soup c 4 0 rfl m ⟨hf, fun q a hq ha hc => by omega⟩
        apply h35
        unfold nX7_findTaken_35 nX7_findTaken_142
        refine ⟨fun _ => go, fun _ => ?_⟩
        refine r_kind hRm hw hs ⟨fun _ => go, fun q => absurd (by rw [c]; rfl) q⟩
      · exact things c 0 m (Nat.zero_le _) ⟨hf, fun q a hq ha => by omega⟩
  exact r_anyOf hR hw hs hg (zero 0 μ (by omega) FM_refl)
