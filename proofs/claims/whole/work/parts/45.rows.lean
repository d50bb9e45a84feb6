theorem why_wt {ρ : RA} {κ : KA} {o : Option Nat} {s g : Nat} : whyN ρ (wt κ o) s g = whyN ρ κ s g := rfl
theorem serv_wt {ρ : RA} {κ : KA} {o : Option Nat} {s g : Nat} : servN ρ (wt κ o) s g = servN ρ κ s g := rfl
theorem night_wt {ρ : RA} {κ : KA} {o : Option Nat} : nightN ρ (wt κ o) = nightN ρ κ := rfl
theorem KCx_of {μ : Mem} {b : Nat} {κ : KA} (h : KC μ b κ) : KCx μ b κ := ⟨κ.tod, h⟩
theorem KW_wt {κ : KA} {o : Option Nat} {B D : Nat} (h : KW κ B D) : KW (wt κ o) B D := h
theorem jsh {n : Nat} (hn : n < 31) : nI 1 <<< (nI n &&& nI 31) = nI (2 ^ n) := by
  have h1 := (by decide +kernel : ∀ n : Nat, n < 32 → ((nI n &&& nI 31).toBitVec.smod 32).toNat = n) n (by omega)
  have h2 : 2 ^ n ≤ 2 ^ 31 := Nat.pow_le_pow_right (by decide) (by omega)
  have := pk_shlN (n := 1) (nI n &&& nI 31) n h1 (by omega)
  rw [Nat.one_mul] at this
  exact this
/-- the state as day i of a row begins -/
noncomputable def kAt (ρ : RA) (κ : KA) (R : Nat → Option Nat) (g : Nat) : Nat → KA
  | 0 => begK κ
  | i + 1 => stepK ρ (kAt ρ κ R g i) (R i) (bitN g i)
noncomputable def whyAt (ρ : RA) (κ : KA) (R : Nat → Option Nat) (g i : Nat) : Nat := match R i with
  | none => 0
  | some s => whyN ρ (kAt ρ κ R g i) s (bitN g i)
noncomputable def goF (ρ : RA) (κ : KA) (R : Nat → Option Nat) (g : Nat) : Nat → Nat → Nat
  | 0, i => i
  | f + 1, i => if whyAt ρ κ R g i = 0 then goF ρ κ R g f (i + 1) else i
/-- how many days go well -/
noncomputable def goN (ρ : RA) (κ : KA) (R : Nat → Option Nat) (g n : Nat) : Nat := goF ρ κ R g n 0
noncomputable def whyE (ρ : RA) (κ : KA) (R : Nat → Option Nat) (g n : Nat) : Nat := if goN ρ κ R g n < n then whyAt ρ κ R g (goN ρ κ R g n) else 0
theorem goF_le {ρ : RA} {κ : KA} {R : Nat → Option Nat} {g : Nat} : ∀ f i : Nat, i ≤ goF ρ κ R g f i ∧ goF ρ κ R g f i ≤ i + f
  | 0, i => by simp [goF]
  | f + 1, i => by
    have := goF_le (ρ := ρ) (κ := κ) (R := R) (g := g) f (i + 1)
    unfold goF
    split <;> omega
theorem goN_le {ρ : RA} {κ : KA} {R : Nat → Option Nat} {g n : Nat} : goN ρ κ R g n ≤ n := by
  have := goF_le (ρ := ρ) (κ := κ) (R := R) (g := g) n 0
  unfold goN; omega
theorem beg_KW {κ : KA} {B D : Nat} (h : KW κ B D) : KW (begK κ) B D := h
theorem kAt_KW {ρ : RA} {κ : KA} {R : Nat → Option Nat} {g B D : Nat} (hw : RW ρ) (h : KW κ B D) : ∀ i : Nat, KW (kAt ρ κ R g i) (B + 6 * i) (D + i)
  | 0 => beg_KW h
  | i + 1 => by
    have := step_KW (g := bitN g i) (o := R i) hw (kAt_KW (R := R) (g := g) hw h i)
    exact this
theorem why_le {ρ : RA} {κ : KA} {s g : Nat} : whyN ρ κ s g ≤ 3 := by
  unfold whyN
  split
  · omega
  · split
    · omega
    · split <;> omega
theorem whyAt_le {ρ : RA} {κ : KA} {R : Nat → Option Nat} {g i : Nat} : whyAt ρ κ R g i ≤ 3 := by
  unfold whyAt
  split
  · omega
  · exact why_le
theorem jl_n41 {o : Option Nat} {x : Int32} (h : x = oI o) (hb : ∀ s : Nat, o = some s → s < 2 ^ 31) : x = oI none ↔ o = none := by
  rw [h]; exact oI_eq hb
set_option maxHeartbeats 1000000 in
theorem c_go {μ : Mem} {b r k a n n3 g B D : Nat} {κ : KA} {ρ : RA} {R : Nat → Option Nat} {Q : Int32 → Mem → Prop} (hK : KC μ k κ) (hk : KW κ B D) (hB : B ≤ 80000) (hD : D ≤ 90000) (hR : CR μ r ρ) (hw : RW ρ) (hn : n ≤ n3) (hn3 : n3 ≤ 7) (hg : g < 2 ^ 31) (hrow : ∀ i : Nat, i < n → μ.1 a i = oI (R i)) (hrs : ∀ i s : Nat, i < n → R i = some s → s < 9) (hrb : r + 12 ≤ b) (hkb : k + 4 ≤ b) (hab : a < b) (h : ∀ m : Mem, FI b (b + 5) μ m → KCx m (b + 1) (kAt ρ κ R g (goN ρ κ R g n)) → m.1 b 1 = nI (whyE ρ κ R g n) → Q (nI (goN ρ κ R g n)) m) : PX5_go b r k a n3 (nI n) (nI g) μ Q := by
  intro S hS
  have key : ∀ f i m, i + f = n → (goF ρ κ R g f i = goN ρ κ R g n) → KCx m (b + 1) (kAt ρ κ R g i) → FI b (b + 5) μ m → m.1 b 1 = nI 0 → S (nI i) m := by
    intro f
    induction f with
    | zero =>
      intro i m hi hgo hx hf h0
      have : i = n := by omega
      subst this
      apply hS
      unfold nX5_go_16
      refine ⟨fun _ => ?_, fun c => absurd (nI_le (Nat.le_refl _) (by omega)) c⟩
      have e1 : goN ρ κ R g i = i := hgo.symm
      have e2 : whyE ρ κ R g i = 0 := by unfold whyE; rw [e1, if_neg (Nat.lt_irrefl _)]
      have h' := h m hf
      rw [e1, e2] at h'
      exact h' hx h0
    | succ f ih =>
      intro i m hi hgo hx hf h0
      have hRm := CR_fr hR hf (by omega)
      have er : m.1 a i = oI (R i) := (hf.1 a (by omega) i).trans (hrow i (by omega))
      have hki := kAt_KW (R := R) (g := g) (B := B) (D := D) hw hk i
      obtain ⟨o, hKm⟩ := hx
      apply hS
      unfold nX5_go_16
      refine ⟨fun c => absurd c (nI_ge (by omega) (by omega)), fun _ => ⟨vp_in_nI (by omega) (by omega), ?_⟩⟩
      rw [nI_clamp (by omega), er]
      cases e : R i with
      | none =>
        refine ⟨fun _ => ?_, fun c => absurd rfl c⟩
        unfold nX5_go_92
        refine c_passNight hKm hRm hw (by omega) (fun m2 hK2 hf2 => ?_)
        rw [nI_1]
        have ew : whyAt ρ κ R g i = 0 := by unfold whyAt; rw [e]
        refine ih (i + 1) m2 (by omega) ?_ ?_ (FI_trans hf (FI_mono hf2 (by omega) (by omega))) ?_
        · rw [← hgo]; conv => rhs; unfold goF
          rw [if_pos ew]
        · refine KCx_of ?_
          rw [night_wt] at hK2
          show KC m2 (b + 1) (stepK ρ (kAt ρ κ R g i) (R i) (bitN g i))
          rw [e]; exact hK2
        · rw [hf2.1 b (by omega)]; exact h0
      | some s =>
        have hs9 := hrs i s (by omega) e
        refine ⟨fun c => absurd c (nI_ne4 (by omega)), fun _ => ?_⟩
        have ew : whyAt ρ κ R g i = whyN ρ (kAt ρ κ R g i) s (bitN g i) := by unfold whyAt; rw [e]
        have bb := bitN_le g i
        have main : nX5_go_47 b r k a n3 (nI n) (nI g) Q S (nI i) (nI (bitN g i)) m := by
          unfold nX5_go_47
          refine ⟨vp_in_nI (by omega) (by omega), ?_⟩
          rw [nI_clamp (by omega), er, e]
          refine c_whyNot hKm (KW_wt hki) (by omega) (by omega) hRm hw hs9 (by omega) ?_
          rw [why_wt, ← ew]
          have bw := whyAt_le (ρ := ρ) (κ := κ) (R := R) (g := g) (i := i)
          have e1 : (ms m b 1 (nI (whyAt ρ κ R g i))).1 b 1 = nI (whyAt ρ κ R g i) := by rw [ms_1, if_pos rfl, if_pos rfl]
          have f1 : FI b (b + 1) m (ms m b 1 (nI (whyAt ρ κ R g i))) := FI_ms (by omega) (by omega)
          have e2 : (ms m b 1 (nI (whyAt ρ κ R g i))).1 a i = nI s := by rw [ms_1, if_neg (by omega), er, e]; rfl
          rw [e1, e2]
          refine ⟨fun c => ⟨vp_in_nI (by omega) (by omega), ?_⟩, fun c => ?_⟩
          · have c2 : whyAt ρ κ R g i = 0 := (nI_eq (b := 0) (by omega) (by omega)).1 c
            refine c_serve (KC_fr hKm f1 (by omega)) (KW_wt hki) (by omega) (by omega) (CR_fr hRm f1 (by omega)) hw (by omega) hs9 (by omega) (fun m2 hK2 hf2 => ?_)
            have g2 : FI b (b + 5) m m2 := FI_trans (FI_mono f1 (by omega) (by omega)) (FI_mono hf2 (by omega) (by omega))
            have hR2 := CR_fr hRm g2 (by omega)
            unfold nX5_go_92
            refine c_passNight hK2 hR2 hw (by omega) (fun m3 hK3 hf3 => ?_)
            rw [nI_1]
            refine ih (i + 1) m3 (by omega) ?_ ?_ (FI_trans hf (FI_trans g2 (FI_mono hf3 (by omega) (by omega)))) ?_
            · rw [← hgo]; conv => rhs; unfold goF
              rw [if_pos c2]
            · refine KCx_of ?_
              rw [serv_wt] at hK3
              show KC m3 (b + 1) (stepK ρ (kAt ρ κ R g i) (R i) (bitN g i))
              rw [e]; exact hK3
            · rw [hf3.1 b (by omega), hf2.1 b (by omega), e1, c2]
          · have c2 : whyAt ρ κ R g i ≠ 0 := fun q => c (by rw [q]; rfl)
            have e3 : goN ρ κ R g n = i := by rw [← hgo]; unfold goF; rw [if_neg c2]
            have e4 : whyE ρ κ R g n = whyAt ρ κ R g i := by unfold whyE; rw [e3, if_pos (by omega)]
            have h' := h (ms m b 1 (nI (whyAt ρ κ R g i))) (FI_trans hf (FI_mono f1 (by omega) (by omega)))
            rw [e3, e4] at h'
            exact h' ⟨o, KC_fr hKm f1 (by omega)⟩ e1
        simp (disch := omega) only [jl_0, jl_1, jl_2, jl_3, jl_4, jl_5, jl_6, jl_7, jl_8, jl_9, jl_10, jl_11, jl_12, jl_13, jl_14, jl_15, jl_16, jl_17, jl_18, jl_19, jl_20, jl_21, jl_22, jl_23, jl_24, jl_25, jl_26, jl_27, jl_28, jl_29, jl_30, jl_31, jl_32, jl_33, jl_34, jl_35, jl_36, jl_37, jl_38, jl_39, jl_40, jl_41, jl_42, jl_43, jl_44, jl_45, jl_46, jl_47, jl_48, jl_49, jl_50, jl_51, jl_52, jl_53, jl_54, jl_55, jl_56, jl_57, jl_58, jl_59, jl_60, jl_61, jl_62, jl_63, jl_64, jl_97, jl_99, jl_100, jl_112, jl_122, jl_127, jl_240, jl_273, jl_274, jl_275, jl_280, jl_316, jl_317, jl_320, jl_400, jl_m1, jl_m4, dI_s2, nI_add, pk_mul, nI_clamp, nI_leI, nI_ltI, nI_eq, vn_in, pk_rem, jb_0, jb_1, jl_n40, jl_n40', true_and, and_true, true_implies, false_implies, not_true_eq_false, not_false_eq_true, implies_true, jl_z1, Nat.reduceEqDiff, Nat.reduceLeDiff, Nat.reduceLT, Nat.le_refl, Nat.lt_irrefl, Nat.zero_le, Nat.not_lt_zero, eq_self, Decidable.not_not] at main ⊢
        refine ⟨fun c => ?_, fun c => ?_⟩
        · have : bitN g i = 0 := by omega
          rw [this] at main
          exact main
        · rw [c] at main
          exact main
  refine c_beginRow hK (by omega) (fun m hKm hf => ?_)
  refine key n 0 _ (by omega) rfl ⟨κ.tod, KC_fr hKm (FI_ms (lo := b) (hi := b + 1) (by omega) (by omega)) (by omega)⟩ (FI_trans (FI_mono hf (by omega) (by omega)) (FI_ms (by omega) (by omega))) ?_
  rw [ms_1, if_pos rfl, if_pos rfl]; rfl
/-- nothing changed but what runs writes -/
def FR (μ m : Mem) : Prop := (∀ a j : Nat, a ≠ 116 → a ≠ 117 → (a = 100 → j ≠ 39) → (a = 114 → j < 240 ∨ 280 ≤ j) → m.1 a j = μ.1 a j) ∧ m.2 = μ.2
theorem FR_refl {μ : Mem} : FR μ μ := ⟨fun _ _ _ _ _ _ => rfl, rfl⟩
theorem FR_trans {μ m n : Mem} (h : FR μ m) (h2 : FR m n) : FR μ n := ⟨fun a j h1 h3 h4 h5 => (h2.1 a j h1 h3 h4 h5).trans (h.1 a j h1 h3 h4 h5), h2.2.trans h.2⟩
theorem FR_M {μ m : Mem} (h : FM 240 (240 + 40) μ m) : FR μ m := ⟨fun a j h1 h3 _ h5 => h.1 a j h1 h3 h5, h.2⟩
theorem FR_w {μ : Mem} {v : Int32} : FR μ (ms μ 100 39 v) := ⟨fun a j _ _ h4 _ => by
  rw [ms_1]
  by_cases c : a = 100
  · rw [if_pos c, if_neg (h4 c), c]
  · rw [if_neg c], rfl⟩
theorem MR_r {ρ : RA} {μ m : Mem} (h : MR μ ρ) (f : FR μ m) : MR m ρ := by
  have e : ∀ a j : Nat, a ≠ 114 → a ≠ 116 → a ≠ 117 → (a = 100 → j ≠ 39) → m.1 a j = μ.1 a j := fun a j h1 h2 h3 h4 => f.1 a j h2 h3 h4 (fun c => absurd c h1)
  obtain ⟨h1, h2, h3, h4, h5, h6, h7, h8, h9⟩ := h
  refine ⟨(e _ _ (by decide) (by decide) (by decide) (by decide)).trans h1, (e _ _ (by decide) (by decide) (by decide) (by decide)).trans h2, (e _ _ (by decide) (by decide) (by decide) (by decide)).trans h3, (e _ _ (by decide) (by decide) (by decide) (by decide)).trans h4, (e _ _ (by decide) (by decide) (by decide) (by decide)).trans h5, fun t ht => ?_, fun s hs => ?_, fun i hi => ?_, fun w hw => ?_⟩
  · obtain ⟨q1, q2, q3⟩ := h6 t ht
    exact ⟨(e _ _ (by decide) (by decide) (by decide) (by simp)).trans q1, (e _ _ (by decide) (by decide) (by decide) (by simp)).trans q2, (e _ _ (by decide) (by decide) (by decide) (by simp)).trans q3⟩
  · obtain ⟨q1, q2, q3, q4, q5⟩ := h7 s hs
    exact ⟨(e _ _ (by decide) (by decide) (by decide) (by simp)).trans q1, (e _ _ (by decide) (by decide) (by decide) (by simp)).trans q2, (e _ _ (by decide) (by decide) (by decide) (by simp)).trans q3, (e _ _ (by decide) (by decide) (by decide) (by simp)).trans q4, (e _ _ (by decide) (by decide) (by decide) (by simp)).trans q5⟩
  · obtain ⟨q1, q2⟩ := h8 i hi
    exact ⟨(e _ _ (by decide) (by decide) (by decide) (by simp)).trans q1, (e _ _ (by decide) (by decide) (by decide) (by simp)).trans q2⟩
  · exact (e _ _ (by decide) (by decide) (by decide) (by simp)).trans (h9 w hw)
theorem KM_r {κ : KA} {B : Nat} {μ m : Mem} (h : KM μ B κ) (f : FR μ m) (hB : B + 40 ≤ 240 ∨ 280 ≤ B) : KM m B κ := by
  have e : ∀ j : Nat, j < 40 → m.1 114 (B + j) = μ.1 114 (B + j) := fun j hj => f.1 _ _ (by decide) (by decide) (by simp) (fun _ => by omega)
  obtain ⟨h1, h2, h3, h4, h5, h6, h7⟩ := h
  refine ⟨fun i hi => (e _ (by omega)).trans (h1 i hi), fun s hs => ?_, (e _ (by omega)).trans h3, (e _ (by omega)).trans h4, (e _ (by omega)).trans h5, (e _ (by omega)).trans h6, (e _ (by omega)).trans h7⟩
  have := e (24 + s) (by omega)
  rw [← Nat.add_assoc] at this
  exact this.trans (h2 s hs)
theorem KM_w {κ : KA} {B j : Nat} {v : Int32} {μ : Mem} (h : KM μ B κ) : KM (ms μ 100 j v) B κ := by
  obtain ⟨h1, h2, h3, h4, h5, h6, h7⟩ := h
  refine ⟨fun i hi => ?_, fun s hs => ?_, ?_, ?_, ?_, ?_, ?_⟩
  · rw [ms_1, if_neg (by decide)]; exact h1 i hi
  · rw [ms_1, if_neg (by decide)]; exact h2 s hs
  all_goals (rw [ms_1, if_neg (by decide)]; assumption)
set_option maxHeartbeats 1000000 in
theorem r_runs {μ : Mem} {n g B D : Nat} {κ : KA} {ρ : RA} {R : Nat → Option Nat} {Q : Int32 → Mem → Prop} (hK : KM μ 280 κ) (hk : KW κ B D) (hB : B ≤ 80000) (hD : D ≤ 90000) (hR : MR μ ρ) (hw : RW ρ) (hn : n ≤ 7) (hl : μ.1 100 37 = nI n) (hg : g < 2 ^ 31) (hrow : ∀ i : Nat, i < n → μ.1 118 i = oI (R i)) (hrs : ∀ i s : Nat, i < n → R i = some s → s < ρ 0 4) (h : ∀ m : Mem, FR μ m → KMx m 240 (kAt ρ κ R g (goN ρ κ R g n)) → m.1 100 39 = nI (whyE ρ κ R g n) → Q (nI (goN ρ κ R g n)) m) : PX7_runs 100 (nI g) μ Q := by
  intro S hS
  have s9 := hw.2.1
  have key : ∀ f i m, i + f = n → (goF ρ κ R g f i = goN ρ κ R g n) → KMx m 240 (kAt ρ κ R g i) → FR μ m → m.1 100 39 = nI 0 → S (nI i) m := by
    intro f
    induction f with
    | zero =>
      intro i m hi hgo hx hf h0
      have : i = n := by omega
      subst this
      have el : m.1 100 37 = nI i := (hf.1 100 37 (by decide) (by decide) (by decide) (by decide)).trans hl
      apply hS
      unfold nX7_runs_14
      rw [el]
      refine ⟨fun _ => ?_, fun c => absurd (nI_le (Nat.le_refl _) (by omega)) c⟩
      have e1 : goN ρ κ R g i = i := hgo.symm
      have e2 : whyE ρ κ R g i = 0 := by unfold whyE; rw [e1, if_neg (Nat.lt_irrefl _)]
      have h' := h m hf
      rw [e1, e2] at h'
      exact h' hx h0
    | succ f ih =>
      intro i m hi hgo hx hf h0
      have hRm := MR_r hR hf
      have el : m.1 100 37 = nI n := (hf.1 100 37 (by decide) (by decide) (by decide) (by decide)).trans hl
      have er : m.1 118 i = oI (R i) := (hf.1 118 i (by decide) (by decide) (by simp) (by simp)).trans (hrow i (by omega))
      have hki := kAt_KW (R := R) (g := g) (B := B) (D := D) hw hk i
      obtain ⟨o, hKm⟩ := hx
      apply hS
      unfold nX7_runs_14
      rw [el]
      refine ⟨fun c => absurd c (nI_ge (by omega) (by omega)), fun _ => ⟨vp_in_nI (by omega) (by omega), ?_⟩⟩
      rw [nI_clamp (by omega), er]
      cases e : R i with
      | none =>
        refine ⟨fun _ => ?_, fun c => absurd rfl c⟩
        unfold nX7_runs_101
        rw [show (240 : Int32) = nI 240 from rfl]
        refine r_nights hKm (by omega) hRm hw (fun m2 hK2 hf2 => ?_)
        rw [nI_1]
        have ew : whyAt ρ κ R g i = 0 := by unfold whyAt; rw [e]
        refine ih (i + 1) m2 (by omega) ?_ ?_ (FR_trans hf (FR_M hf2)) ?_
        · rw [← hgo]; conv => rhs; unfold goF
          rw [if_pos ew]
        · refine ⟨none, ?_⟩
          rw [night_wt] at hK2
          show KM m2 240 (wt (stepK ρ (kAt ρ κ R g i) (R i) (bitN g i)) none)
          rw [e]; exact hK2
        · rw [hf2.1 100 39 (by decide) (by decide) (by decide)]; exact h0
      | some s =>
        have hs4 := hrs i s (by omega) e
        refine ⟨fun c => absurd c (nI_ne4 (by omega)), fun _ => ⟨vp_in_nI (by omega) (by omega), ?_⟩⟩
        have ew : whyAt ρ κ R g i = whyN ρ (kAt ρ κ R g i) s (bitN g i) := by unfold whyAt; rw [e]
        have bb := bitN_le g i
        have main : nX7_runs_58 100 (nI g) Q S (nI i) (nI (bitN g i)) (nI s) (nI 240) m := by
          unfold nX7_runs_58
          refine r_whyNot hKm (by omega) (KW_wt hki) (by omega) (by omega) hRm hw hs4 (by omega) ?_
          rw [why_wt, ← ew]
          have bw := whyAt_le (ρ := ρ) (κ := κ) (R := R) (g := g) (i := i)
          have e1 : (ms m 100 39 (nI (whyAt ρ κ R g i))).1 100 39 = nI (whyAt ρ κ R g i) := by rw [ms_1, if_pos rfl, if_pos rfl]
          have f1 : FR m (ms m 100 39 (nI (whyAt ρ κ R g i))) := FR_w
          have e2 : (ms m 100 39 (nI (whyAt ρ κ R g i))).1 118 i = nI s := by rw [ms_1, if_neg (by decide), er, e]; rfl
          rw [e1]
          refine ⟨fun c => ⟨vp_in_nI (by omega) (by omega), ?_⟩, fun c => ?_⟩
          · have c2 : whyAt ρ κ R g i = 0 := by
              have := (nI_leI (b := 0) (by omega) (by omega)).1 c
              omega
            have e2' : (ms m 100 39 (nI (whyAt ρ κ R g i))).1 (100 + 18) (nI i).toNatClampNeg = nI s := by rw [nI_clamp (by omega)]; exact e2
            rw [e2']
            have main2 : nX7_runs_97 100 (nI g) Q S (nI i) (nI (bitN g i)) (nI s) (nI 240) (ms m 100 39 (nI (whyAt ρ κ R g i))) := by
              unfold nX7_runs_97
              refine r_eats (KM_w hKm) (by omega) (KW_wt hki) (by omega) (by omega) (MR_r hRm f1) hw hs4 (by omega) (fun m2 hK2 hf2 => ?_)
              have g2 : FR m m2 := FR_trans f1 (FR_M hf2)
              have hR2 := MR_r hRm g2
              unfold nX7_runs_101
              rw [show (240 : Int32) = nI 240 from rfl]
              refine r_nights hK2 (by omega) hR2 hw (fun m3 hK3 hf3 => ?_)
              rw [nI_1]
              refine ih (i + 1) m3 (by omega) ?_ ?_ (FR_trans hf (FR_trans g2 (FR_M hf3))) ?_
              · rw [← hgo]; conv => rhs; unfold goF
                rw [if_pos c2]
              · refine ⟨none, ?_⟩
                rw [serv_wt] at hK3
                show KM m3 240 (wt (stepK ρ (kAt ρ κ R g i) (R i) (bitN g i)) none)
                rw [e]; exact hK3
              · rw [hf3.1 100 39 (by decide) (by decide) (by decide), hf2.1 100 39 (by decide) (by decide) (by decide), e1, c2]
            simp (disch := omega) only [jl_0, jl_1, jl_2, jl_3, jl_4, jl_5, jl_6, jl_7, jl_8, jl_9, jl_10, jl_11, jl_12, jl_13, jl_14, jl_15, jl_16, jl_17, jl_18, jl_19, jl_20, jl_21, jl_22, jl_23, jl_24, jl_25, jl_26, jl_27, jl_28, jl_29, jl_30, jl_31, jl_32, jl_33, jl_34, jl_35, jl_36, jl_37, jl_38, jl_39, jl_40, jl_41, jl_42, jl_43, jl_44, jl_45, jl_46, jl_47, jl_48, jl_49, jl_50, jl_51, jl_52, jl_53, jl_54, jl_55, jl_56, jl_57, jl_58, jl_59, jl_60, jl_61, jl_62, jl_63, jl_64, jl_97, jl_99, jl_100, jl_112, jl_122, jl_127, jl_240, jl_273, jl_274, jl_275, jl_280, jl_316, jl_317, jl_320, jl_400, jl_m1, jl_m4, dI_s2, nI_add, pk_mul, nI_clamp, nI_leI, nI_ltI, nI_eq, vn_in, pk_rem, jb_0, jb_1, jl_n40, jl_n40', true_and, and_true, true_implies, false_implies, not_true_eq_false, not_false_eq_true, implies_true, jl_z1, Nat.reduceEqDiff, Nat.reduceLeDiff, Nat.reduceLT, Nat.le_refl, Nat.lt_irrefl, Nat.zero_le, Nat.not_lt_zero, eq_self, Decidable.not_not] at main2 ⊢
            refine ⟨fun c => ?_, fun c => ?_⟩
            · have : bitN g i = 0 := by omega
              rw [this] at main2
              exact main2
            · rw [c] at main2
              exact main2
          · have c2 : whyAt ρ κ R g i ≠ 0 := fun q => c (by rw [q]; decide)
            have e3 : goN ρ κ R g n = i := by rw [← hgo]; unfold goF; rw [if_neg c2]
            have e4 : whyE ρ κ R g n = whyAt ρ κ R g i := by unfold whyE; rw [e3, if_pos (by omega)]
            have h' := h (ms m 100 39 (nI (whyAt ρ κ R g i))) (FR_trans hf f1)
            rw [e3, e4] at h'
            exact h' ⟨o, KM_w hKm⟩ e1
        have e5 : oI (some s) = nI s := rfl
        rw [e5]
        simp (disch := omega) only [jl_0, jl_1, jl_2, jl_3, jl_4, jl_5, jl_6, jl_7, jl_8, jl_9, jl_10, jl_11, jl_12, jl_13, jl_14, jl_15, jl_16, jl_17, jl_18, jl_19, jl_20, jl_21, jl_22, jl_23, jl_24, jl_25, jl_26, jl_27, jl_28, jl_29, jl_30, jl_31, jl_32, jl_33, jl_34, jl_35, jl_36, jl_37, jl_38, jl_39, jl_40, jl_41, jl_42, jl_43, jl_44, jl_45, jl_46, jl_47, jl_48, jl_49, jl_50, jl_51, jl_52, jl_53, jl_54, jl_55, jl_56, jl_57, jl_58, jl_59, jl_60, jl_61, jl_62, jl_63, jl_64, jl_97, jl_99, jl_100, jl_112, jl_122, jl_127, jl_240, jl_273, jl_274, jl_275, jl_280, jl_316, jl_317, jl_320, jl_400, jl_m1, jl_m4, dI_s2, nI_add, pk_mul, nI_clamp, nI_leI, nI_ltI, nI_eq, vn_in, pk_rem, jb_0, jb_1, jl_n40, jl_n40', true_and, and_true, true_implies, false_implies, not_true_eq_false, not_false_eq_true, implies_true, jl_z1, Nat.reduceEqDiff, Nat.reduceLeDiff, Nat.reduceLT, Nat.le_refl, Nat.lt_irrefl, Nat.zero_le, Nat.not_lt_zero, eq_self, Decidable.not_not] at main ⊢
        refine ⟨fun c => ?_, fun c => ?_⟩
        · have : bitN g i = 0 := by omega
          rw [this] at main
          exact main
        · rw [c] at main
          exact main
  unfold PX7_begins at *
  refine r_begins (B := 240) hK (by omega) (fun m hKm hf => ?_)
  refine key n 0 _ (by omega) rfl ⟨none, KM_w hKm⟩ (FR_trans (FR_M hf) FR_w) ?_
  rw [ms_1, if_pos rfl, if_pos rfl]; rfl
