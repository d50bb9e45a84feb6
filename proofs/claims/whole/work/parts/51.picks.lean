/-- nothing changed but what picks writes -/
def FPk (d : Nat) (μ m : Mem) : Prop := ∀ a j : Nat, a ≠ 116 → a ≠ 117 → (a = 119 → j ≠ d) → (a = 114 → j < 40 * (d + 1) ∨ 40 * (d + 2) ≤ j) → m.1 a j = μ.1 a j
theorem FPk_trans {d : Nat} {μ m n : Mem} (h : FPk d μ m) (h2 : FPk d m n) : FPk d μ n := fun a j h1 h3 h4 h5 => (h2 a j h1 h3 h4 h5).trans (h a j h1 h3 h4 h5)
theorem FPk_M {d : Nat} {μ m : Mem} (h : FM (40 * (d + 1)) (40 * (d + 1) + 40) μ m) : FPk d μ m := fun a j h1 h3 _ h5 => h.1 a j h1 h3 (fun c => by have := h5 c; omega)
theorem FPk_p {d : Nat} {v : Int32} {μ : Mem} : FPk d μ (ms μ 119 d v) := fun a j _ _ h4 _ => by
  rw [ms_1]
  by_cases c : a = 119
  · rw [if_pos c, if_neg (h4 c), c]
  · rw [if_neg c]
theorem MR_of {ρ : RA} {μ m : Mem} (h : MR μ ρ) (f : ∀ a j : Nat, (a = 100 ∧ j < 9) ∨ (101 ≤ a ∧ a ≤ 105) → m.1 a j = μ.1 a j) : MR m ρ := by
  obtain ⟨h1, h2, h3, h4, h5, h6, h7, h8, h9⟩ := h
  refine ⟨(f _ _ (by omega)).trans h1, (f _ _ (by omega)).trans h2, (f _ _ (by omega)).trans h3, (f _ _ (by omega)).trans h4, (f _ _ (by omega)).trans h5, fun t ht => ?_, fun s hs => ?_, fun i hi => ?_, fun w hw => ?_⟩
  · obtain ⟨q1, q2, q3⟩ := h6 t ht
    exact ⟨(f _ _ (by omega)).trans q1, (f _ _ (by omega)).trans q2, (f _ _ (by omega)).trans q3⟩
  · obtain ⟨q1, q2, q3, q4, q5⟩ := h7 s hs
    exact ⟨(f _ _ (by omega)).trans q1, (f _ _ (by omega)).trans q2, (f _ _ (by omega)).trans q3, (f _ _ (by omega)).trans q4, (f _ _ (by omega)).trans q5⟩
  · obtain ⟨q1, q2⟩ := h8 i hi
    exact ⟨(f _ _ (by omega)).trans q1, (f _ _ (by omega)).trans q2⟩
  · exact (f _ _ (by omega)).trans (h9 w hw)
theorem KM_of {B : Nat} {κ : KA} {μ m : Mem} (h : KM μ B κ) (f : ∀ j : Nat, j < 40 → m.1 114 (B + j) = μ.1 114 (B + j)) : KM m B κ := by
  obtain ⟨h1, h2, h3, h4, h5, h6, h7⟩ := h
  refine ⟨fun i hi => (f _ (by omega)).trans (h1 i hi), fun s hs => ?_, (f _ (by omega)).trans h3, (f _ (by omega)).trans h4, (f _ (by omega)).trans h5, (f _ (by omega)).trans h6, (f _ (by omega)).trans h7⟩
  have := f (24 + s) (by omega)
  rw [← Nat.add_assoc] at this
  exact this.trans (h2 s hs)
theorem KMx_of {B : Nat} {κ : KA} {μ m : Mem} (h : KMx μ B κ) (f : ∀ j : Nat, j < 40 → m.1 114 (B + j) = μ.1 114 (B + j)) : KMx m B κ := by
  obtain ⟨o, h⟩ := h
  exact ⟨o, KM_of h f⟩
theorem MR_pk {ρ : RA} {d : Nat} {μ m : Mem} (h : MR μ ρ) (f : FPk d μ m) : MR m ρ := MR_of h (fun a j q => f a j (by omega) (by omega) (fun _ => by omega) (fun _ => by omega))
set_option maxHeartbeats 1000000 in
theorem r_picks {m : Mem} {d B D : Nat} {κ : KA} {ρ : RA} {Q : Int32 → Mem → Prop} (hR : MR m ρ) (hw : RW ρ) (hd : d < 5) (hK : KMx m (40 * d) κ) (hk : KW κ B D) (hB : B ≤ 90000) (hD : D ≤ 100000) (h1 : outN ρ κ.date → m.1 119 d = -1 → ∀ m' : Mem, FPk d m m' → m'.1 119 d = oI none → KMx m' (40 * (d + 1)) (stepK ρ κ none 0) → Q 1 m') (h2 : outN ρ κ.date → ¬ m.1 119 d = -1 → ∀ m' : Mem, FPk d m m' → Q 0 m') (h3 : ¬ outN ρ κ.date → ∃ p : Nat, p ≤ ρ 0 4 ∧ m.1 119 d = dI p ∧ ((∀ s : Nat, p ≤ s → s < ρ 0 4 → (∀ q : Nat, p ≤ q → q < s → whyN ρ κ q 0 ≠ 0) → whyN ρ κ s 0 = 0 → ∀ m' : Mem, FPk d m m' → m'.1 119 d = oI (some s) → KMx m' (40 * (d + 1)) (stepK ρ κ (some s) 0) → Q 1 m') ∧ ((∀ q : Nat, p ≤ q → q < ρ 0 4 → whyN ρ κ q 0 ≠ 0) → ∀ m' : Mem, FPk d m m' → Q 0 m'))) : PX7_picks 100 (nI d) m Q := by
  have s9 := hw.2.1
  obtain ⟨o, hK⟩ := hK
  intro S hS
  have hdate : κ.date ≤ 100000 := Nat.le_trans hk.2.1 hD
  have m7 : κ.date % 7 < 7 := Nat.mod_lt _ (by decide)
  have b14 := hw.2.2.2.2.1
  rw [show (40 : Int32) * nI d = nI (40 * d) from pk_mul 40 d]
  refine r_weekDay hK (by omega) (KW_wt hk) hD ?_
  have eo : m.1 100 8 = nI (ρ 0 14) := hR.2.2.2.2.1
  rw [eo]
  have e31 : (nI (ρ 0 14) >>> (nI (κ.date % 7) &&& 31) &&& (1 : Int32) = (1 : Int32)) ↔ bitN (ρ 0 14) (κ.date % 7) = 1 := jb_1 (by omega) (by omega)
  show (¬ (nI (ρ 0 14) >>> (nI (κ.date % 7) &&& 31) &&& (1 : Int32)) = (1 : Int32) → _) ∧ (nI (ρ 0 14) >>> (nI (κ.date % 7) &&& 31) &&& (1 : Int32) = (1 : Int32) → _)
  rw [e31]
  have ed : (nI d).toNatClampNeg = d := nI_clamp (by omega)
  have e40 : nI (40 * d) + (40 : Int32) = nI (40 * (d + 1)) := nI_add (40 * d) 40
  refine ⟨fun hout => ?_, fun hout => ?_⟩
  · obtain ⟨p, hp, ep, y1, y2⟩ := h3 hout
    have fin : ∀ (s : Nat) (m' : Mem), s < ρ 0 4 → FPk d m m' → m'.1 119 d = nI s → (∀ m2 : Mem, FPk d m m2 → m2.1 119 d = oI (some s) → KMx m2 (40 * (d + 1)) (stepK ρ κ (some s) 0) → Q 1 m2) → nX7_picks_133 100 (nI d) Q S (nI (40 * d)) m' := by
      intro s m' hs f es hq
      have hRm := MR_pk hR f
      have hKm := KM_of hK (m := m') (fun j hj => f 114 _ (by decide) (by decide) (by simp) (fun _ => by omega))
      have es' : m'.1 (100 + 19) d = nI s := es
      unfold nX7_picks_133
      rw [ed, es', hRm.2.1, e40]
      refine ⟨vp_in_nI (by omega) (by omega), fun c => absurd c (nI_ge hs (by omega)), fun _ => ?_⟩
      refine r_copies hKm (by omega) (by omega) (by omega) (fun m2 hK2 f2 => ⟨vp_in_nI (by omega) (by omega), ?_⟩)
      have g2 := FPk_trans f (FPk_M f2)
      have e2 : m2.1 (100 + 19) d = nI s := (f2.1 119 d (by decide) (by decide) (by simp)).trans es
      rw [e2]
      have hR2 := MR_pk hR g2
      refine r_eats (g := 0) hK2 (by omega) (KW_wt hk) hB hD hR2 hw hs (by omega) (fun m3 hK3 f3 => ?_)
      have g3 := FPk_trans g2 (FPk_M f3)
      have hR3 := MR_pk hR g3
      refine r_nights hK3 (by omega) hR3 hw (fun m4 hK4 f4 => ?_)
      have g4 := FPk_trans g3 (FPk_M f4)
      have e4 : m4.1 (100 + 19) d = nI s := (f4.1 119 d (by decide) (by decide) (by simp)).trans ((f3.1 119 d (by decide) (by decide) (by simp)).trans e2)
      have hR4 := MR_pk hR g4
      unfold nX7_picks_180
      rw [ed, e4, hR4.2.1]
      refine ⟨vp_in_nI (by omega) (by omega), fun c => absurd c (nI_ge hs (by omega)), fun _ => ?_⟩
      exact hq m4 g4 e4 ⟨none, hK4⟩
    have loop : ∀ (f q : Nat) (m' : Mem), q + f = ρ 0 4 → p ≤ q → (∀ z : Nat, p ≤ z → z < q → whyN ρ κ z 0 ≠ 0) → FPk d m m' → m'.1 119 d = nI q → S (nI (40 * d)) m' := by
      intro f
      induction f with
      | zero =>
        intro q m' hq hpq hz f eq
        have hq4 : q = ρ 0 4 := by omega
        have hRm := MR_pk hR f
        have eq' : m'.1 (100 + 19) d = nI (ρ 0 4) := eq.trans (by rw [hq4])
        apply hS
        unfold nX7_picks_92 nX7_picks_133 nX7_picks_180
        rw [ed, eq', hRm.2.1]
        have v7 : vp_in (nI d) 7 := vp_in_nI (by omega) (by omega)
        have le : nI (ρ 0 4) ≤ nI (ρ 0 4) := nI_le (Nat.le_refl _) (by omega)
        exact ⟨v7, fun _ => ⟨v7, fun _ => ⟨v7, fun _ => y2 (fun z z1 z2 => hz z z1 (by omega)) m' f, fun c => absurd le c⟩, fun c => absurd le c⟩, fun c => absurd le c⟩
      | succ f ih =>
        intro q m' hq hpq hz fr eq
        have hRm := MR_pk hR fr
        have hKm := KM_of hK (m := m') (fun j hj => fr 114 _ (by decide) (by decide) (by simp) (fun _ => by omega))
        have eq' : m'.1 (100 + 19) d = nI q := eq
        apply hS
        unfold nX7_picks_92
        rw [ed, eq', hRm.2.1]
        refine ⟨vp_in_nI (by omega) (by omega), fun c => absurd c (nI_ge (by omega) (by omega)), fun _ => ⟨vp_in_nI (by omega) (by omega), ?_⟩⟩
        refine r_whyNot (g := 0) hKm (by omega) (KW_wt hk) (by omega) hD hRm hw (by omega) (by omega) ?_
        rw [why_wt]
        have bw := why_le (ρ := ρ) (κ := κ) (s := q) (g := 0)
        refine ⟨fun z => ?_, fun z => ⟨vp_in_nI (by omega) (by omega), vp_in_nI (by omega) (by omega), fun m15 hm15 => ?_⟩⟩
        · have z2 : whyN ρ κ q 0 = 0 := by
            have := (nI_leI (b := 0) (by omega) (by omega)).1 z
            omega
          exact fin q m' (by omega) fr eq (fun m2 a1 a2 a3 => y1 q hpq (by omega) hz z2 m2 a1 a2 a3)
        · have z2 : whyN ρ κ q 0 ≠ 0 := fun y => z (by rw [y]; decide)
          rw [eq', nI_1] at hm15
          refine ih (q + 1) m15 (by omega) (by omega) (fun y y1 y3 => ?_) (FPk_trans fr (by rw [hm15]; exact FPk_p)) (by rw [hm15]; show (ms m' 119 d (nI (q + 1))).1 119 d = _; rw [ms_1, if_pos rfl, if_pos rfl])
          by_cases y4 : y = q
          · rw [y4]; exact z2
          · exact hz y y1 (by omega)
    unfold nX7_picks_26
    have ep' : m.1 (100 + 19) d = dI p := ep
    have edp : dI p + (1 : Int32) = nI p := by
      cases p with
      | zero => rfl
      | succ p => exact nI_1 p
    rw [ed, ep', edp]
    refine ⟨fun _ => ⟨vp_in_nI (by omega) (by omega), vp_in_nI (by omega) (by omega), ?_⟩, fun c => absurd rfl c⟩
    refine loop (ρ 0 4 - p) p _ (by omega) (Nat.le_refl _) (fun z z1 z2 => by omega) FPk_p ?_
    show (ms m 119 d (nI p)).1 119 d = _
    rw [ms_1, if_pos rfl, if_pos rfl]
  · unfold nX7_picks_26 nX7_picks_46
    rw [ed, e40]
    refine ⟨fun c => absurd c (by decide), fun _ => ⟨vp_in_nI (by omega) (by omega), fun c => ⟨vp_in_nI (by omega) (by omega), fun _ => ⟨nz0, h2 hout c _ FPk_p⟩, fun z => absurd rfl z⟩, fun c => ⟨vp_in_nI (by omega) (by omega), fun z => absurd z (by decide), fun _ => ?_⟩⟩⟩
    have f0 : FPk d m (ms m 119 d (-4)) := FPk_p
    have hK0 := KM_of hK (m := ms m 119 d (-4)) (fun j hj => by rw [ms_1, if_neg (by decide)])
    refine r_copies hK0 (by omega) (by omega) (by omega) (fun m2 hK2 f2 => ?_)
    have g2 := FPk_trans f0 (FPk_M f2)
    have hR2 := MR_pk hR g2
    refine r_nights hK2 (by omega) hR2 hw (fun m3 hK3 f3 => ⟨nz1, ?_⟩)
    have g3 := FPk_trans g2 (FPk_M f3)
    refine h1 hout c m3 g3 ?_ ⟨none, hK3⟩
    rw [f3.1 119 d (by decide) (by decide) (by simp), f2.1 119 d (by decide) (by decide) (by simp), ms_1, if_pos rfl, if_pos rfl]
    rfl
