/-- nothing changed but the objects and rows from lo to hi -/
def FI (lo hi : Nat) (μ m : Mem) : Prop := (∀ a : Nat, (a < lo ∨ hi ≤ a) → ∀ j : Nat, m.1 a j = μ.1 a j) ∧ m.2 = μ.2
theorem FI_refl {lo hi : Nat} {μ : Mem} : FI lo hi μ μ := ⟨fun _ _ _ => rfl, rfl⟩
theorem FI_trans {lo hi : Nat} {μ m n : Mem} (h : FI lo hi μ m) (h2 : FI lo hi m n) : FI lo hi μ n := ⟨fun a ha j => (h2.1 a ha j).trans (h.1 a ha j), h2.2.trans h.2⟩
theorem FI_mono {lo hi lo' hi' : Nat} {μ m : Mem} (h : FI lo hi μ m) (h1 : lo' ≤ lo) (h2 : hi ≤ hi') : FI lo' hi' μ m := ⟨fun a ha j => h.1 a (by omega) j, h.2⟩
theorem FI_ms {lo hi a j : Nat} {v : Int32} {μ : Mem} (h1 : lo ≤ a) (h2 : a < hi) : FI lo hi μ (ms μ a j v) := ⟨fun c hc i => by rw [ms_1, if_neg (by omega)], rfl⟩
theorem FI_mr {lo hi a : Nat} {f : Nat → Int32} {μ : Mem} (h1 : lo ≤ a) (h2 : a < hi) : FI lo hi μ (mr μ a f) := ⟨fun c hc i => by rw [mr_1, if_neg (by omega)], rfl⟩
theorem CR_fr {lo hi r : Nat} {ρ : RA} {μ m : Mem} (h : CR μ r ρ) (f : FI lo hi μ m) (hr : r + 12 ≤ lo ∨ hi ≤ r) : CR m r ρ := by
  have e : ∀ k j : Nat, k < 12 → m.1 (r + k) j = μ.1 (r + k) j := fun k j hk => f.1 _ (by omega) j
  have e0 : ∀ j : Nat, m.1 r j = μ.1 r j := fun j => e 0 j (by omega)
  obtain ⟨h1, h2, h3, h4, h5, h6, h7, h8, h9⟩ := h
  refine ⟨(e0 _).trans h1, (e0 _).trans h2, (e0 _).trans h3, (e0 _).trans h4, (e0 _).trans h5, fun t ht => ?_, fun s hs => ?_, fun i hi => ?_, fun w hw => ?_⟩
  · exact ⟨(e 1 _ (by omega)).trans (h6 t ht).1, (e 2 _ (by omega)).trans (h6 t ht).2.1, (e 3 _ (by omega)).trans (h6 t ht).2.2⟩
  · obtain ⟨q1, q2, q3, q4, q5⟩ := h7 s hs
    exact ⟨(e 4 _ (by omega)).trans q1, (e 5 _ (by omega)).trans q2, (e 6 _ (by omega)).trans q3, (e 7 _ (by omega)).trans q4, (e 8 _ (by omega)).trans q5⟩
  · exact ⟨(e 9 _ (by omega)).trans (h8 i hi).1, (e 10 _ (by omega)).trans (h8 i hi).2⟩
  · exact (e 11 _ (by omega)).trans (h9 w hw)
theorem KC_fr {lo hi b : Nat} {κ : KA} {μ m : Mem} (h : KC μ b κ) (f : FI lo hi μ m) (hr : b + 3 ≤ lo ∨ hi ≤ b) : KC m b κ := by
  have e : ∀ k j : Nat, k < 3 → m.1 (b + k) j = μ.1 (b + k) j := fun k j hk => f.1 _ (by omega) j
  have e0 : ∀ j : Nat, m.1 b j = μ.1 b j := fun j => e 0 j (by omega)
  obtain ⟨h1, h2, h3, h4, h5, h6, h7⟩ := h
  exact ⟨fun i hi => (e 1 _ (by omega)).trans (h1 i hi), fun s hs => (e 2 _ (by omega)).trans (h2 s hs), (e0 _).trans h3, (e0 _).trans h4, (e0 _).trans h5, (e0 _).trans h6, (e0 _).trans h7⟩
theorem KC_ext {b : Nat} {κ : KA} {μ : Mem} {f : Nat → Nat} (h : KC μ b κ) (e : ∀ i : Nat, i < 24 → κ.u i = f i) : KC μ b (f, κ.2) := by
  obtain ⟨h1, h2⟩ := h
  exact ⟨fun i hi => by rw [h1 i hi, e i hi], h2⟩
theorem KC_u {b i v : Nat} {κ : KA} {μ : Mem} (h : KC μ b κ) (hi : i < 24) : KC (ms μ (b + 1) i (nI v)) b (fun j => if j = i then v else κ.u j, κ.2) := by
  obtain ⟨h1, h2, h3, h4, h5, h6, h7⟩ := h
  refine ⟨fun j hj => ?_, fun s hs => ?_, ?_, ?_, ?_, ?_, ?_⟩
  · rw [ms_1, if_pos rfl]
    by_cases c : j = i
    · rw [if_pos c]; show nI v = nI (if j = i then v else κ.u j); rw [if_pos c]
    · rw [if_neg c]; show _ = nI (if j = i then v else κ.u j); rw [if_neg c]; exact h1 j hj
  · rw [ms_1, if_neg (by omega)]; exact h2 s hs
  all_goals (rw [ms_1, if_neg (by omega)]; assumption)
-- what a soup takes
def inU (ρ : RA) (κ : KA) (s t a : Nat) : Nat := if bitN (ρ 8 s) t = 1 then κ.u (4 * t + a) else 0
/-- what lies of one age in things ahead of t -/
def rowS (ρ : RA) (κ : KA) (s a t : Nat) : Nat := sumN (fun q => inU ρ κ s q a) t
/-- what lies in the n oldest ages -/
def oldS (ρ : RA) (κ : KA) (s n : Nat) : Nat := sumN (fun k => rowS ρ κ s (3 - k) (ρ 0 0)) n
def takA (ρ : RA) (κ : KA) (s g t a : Nat) : Nat := if ρ 4 s = 3 then min (soupN ρ s g - (oldS ρ κ s (3 - a) + rowS ρ κ s a t)) (inU ρ κ s t a) else min (wantN ρ s g t - sumN (fun k => κ.u (4 * t + (3 - k))) (3 - a)) (κ.u (4 * t + a))
def takS (ρ : RA) (κ : KA) (s g t n : Nat) : Nat := sumN (fun k => takA ρ κ s g t (3 - k)) n
def takN (ρ : RA) (κ : KA) (s g t : Nat) : Nat := if ρ 4 s = 3 then takS ρ κ s g t 4 else min (wantN ρ s g t) (untN κ t)
theorem inU_le {ρ : RA} {κ : KA} {B D s t a : Nat} (h : KW κ B D) : inU ρ κ s t a ≤ B := by
  have := h.1 (4 * t + a)
  unfold inU; split <;> omega
theorem takA_le {ρ : RA} {κ : KA} {B D s g t a : Nat} (h : KW κ B D) : takA ρ κ s g t a ≤ κ.u (4 * t + a) := by
  unfold takA inU; split
  · split <;> omega
  · omega
theorem takS_le {ρ : RA} {κ : KA} {B D s g t n : Nat} (h : KW κ B D) : takS ρ κ s g t n ≤ n * B := sumN_le (fun i _ => Nat.le_trans (takA_le h) (h.1 _))
theorem takN_le {ρ : RA} {κ : KA} {B D s g t : Nat} (h : KW κ B D) : takN ρ κ s g t ≤ 4 * B := by
  have h1 := takS_le (ρ := ρ) (s := s) (g := g) (t := t) (n := 4) h
  have h2 := unt_le (t := t) h
  unfold takN; split <;> omega
theorem c_soup {μ : Mem} {b r s g B D : Nat} {κ : KA} {ρ : RA} {Q : Mem → Prop} (hK : KC μ b κ) (hk : KW κ B D) (hB : B ≤ 100000) (hR : CR μ r ρ) (hw : RW ρ) (hrb : r + 12 ≤ b) (hs : s < 9) (hg : g ≤ 1) (h3 : ρ 4 s = 3) (hz : ∀ t : Nat, t < ρ 0 0 → μ.1 (b + 3) t = nI 0) (h : ∀ m : Mem, FI (b + 3) (b + 4) μ m → (∀ t : Nat, t < ρ 0 0 → m.1 (b + 3) t = nI (takS ρ κ s g t 4)) → Q m) : PX0_findTakenBySoup b r (nI s) (nI g) μ Q := by
  have t6 := hw.1
  have hsp := soup_le (s := s) hw hg
  intro S11 S19 h11 h19
  have inner : ∀ n : Nat, n < 4 → (∀ m : Mem, FI (b + 3) (b + 4) μ m → (∀ t : Nat, t < ρ 0 0 → m.1 (b + 3) t = nI (takS ρ κ s g t (n + 1))) → S11 (nI (soupN ρ s g - oldS ρ κ s (n + 1))) (dI (3 - n)) m) → ∀ t m, t ≤ ρ 0 0 → (FI (b + 3) (b + 4) μ m ∧ ∀ q : Nat, q < ρ 0 0 → m.1 (b + 3) q = nI (takS ρ κ s g q (if q < t then n + 1 else n))) → S19 (nI (soupN ρ s g - (oldS ρ κ s n + rowS ρ κ s (3 - n) t))) (nI (3 - n)) (nI t) m := by
    intro n hn hnx
    refine up_loop ?_ ?_
    · intro t m ht hj ih
      have hRm := CR_fr hR hj.1 (by omega)
      have hKm := KC_fr hK hj.1 (by omega)
      have e1 := hKm.1 (t * 4 + (3 - n)) (by omega)
      have b1 := hk.1 (t * 4 + (3 - n))
      have e2 := hj.2 t ht
      rw [if_neg (Nat.lt_irrefl t)] at e2
      have hts := takS_le (ρ := ρ) (s := s) (g := g) (t := t) (n := n) hk
      have eta : takA ρ κ s g t (3 - n) = min (soupN ρ s g - (oldS ρ κ s n + rowS ρ κ s (3 - n) t)) (inU ρ κ s t (3 - n)) := by
        unfold takA; rw [if_pos h3, show 3 - (3 - n) = n by omega]
      have ets : takS ρ κ s g t (n + 1) = takS ρ κ s g t n + takA ρ κ s g t (3 - n) := rfl
      have erow : rowS ρ κ s (3 - n) (t + 1) = rowS ρ κ s (3 - n) t + inU ρ κ s t (3 - n) := rfl
      have fin : ∀ v : Nat, v = takA ρ κ s g t (3 - n) → nX0_findTakenBySoup_59 b r (nI s) (nI g) Q S11 S19 (nI (soupN ρ s g - (oldS ρ κ s n + rowS ρ κ s (3 - n) t))) (nI (3 - n)) (nI t) (nI v) m := by
        intro v hv
        unfold nX0_findTakenBySoup_59
        simp (disch := omega) only [jl_0, jl_1, jl_2, jl_3, jl_4, jl_5, jl_6, jl_7, jl_8, jl_9, jl_10, jl_11, jl_12, jl_13, jl_14, jl_15, jl_16, jl_17, jl_18, jl_19, jl_20, jl_21, jl_22, jl_23, jl_24, jl_25, jl_26, jl_27, jl_28, jl_29, jl_30, jl_31, jl_32, jl_33, jl_34, jl_35, jl_36, jl_37, jl_38, jl_39, jl_40, jl_41, jl_42, jl_43, jl_44, jl_45, jl_46, jl_47, jl_48, jl_49, jl_50, jl_51, jl_52, jl_53, jl_54, jl_55, jl_56, jl_57, jl_58, jl_59, jl_60, jl_61, jl_62, jl_63, jl_64, jl_97, jl_99, jl_100, jl_112, jl_122, jl_127, jl_240, jl_273, jl_274, jl_275, jl_280, jl_316, jl_317, jl_320, jl_400, jl_m1, jl_m4, dI_s2, nI_add, pk_mul, nI_clamp, nI_leI, nI_ltI, nI_eq, vn_in, pk_rem, jb_0, jb_1, jl_n40, jl_n40', true_and, and_true, true_implies, false_implies, not_true_eq_false, not_false_eq_true, implies_true, jl_z1, Nat.reduceEqDiff, Nat.reduceLeDiff, Nat.reduceLT, Nat.le_refl, Nat.lt_irrefl, Nat.zero_le, Nat.not_lt_zero, eq_self, Decidable.not_not, e2, pk_sub]
        refine ⟨by omega, by omega, ?_⟩
        have e3 : soupN ρ s g - (oldS ρ κ s n + rowS ρ κ s (3 - n) t) - v = soupN ρ s g - (oldS ρ κ s n + rowS ρ κ s (3 - n) (t + 1)) := by omega
        rw [e3]
        refine ih _ ⟨FI_trans hj.1 (FI_ms (by omega) (by omega)), fun q hq => ?_⟩
        rw [ms_1, if_pos rfl]
        by_cases c : q = t
        · subst c
          rw [if_pos rfl, if_pos (by omega), ets, hv]
        · rw [if_neg c, hj.2 q hq]
          by_cases c2 : q < t
          · rw [if_pos c2, if_pos (by omega)]
          · rw [if_neg c2, if_neg (by omega)]
      apply h19
      unfold nX0_findTakenBySoup_19
      rw [hRm.1]
      refine ⟨fun q => absurd q (nI_ge ht (by omega)), fun _ => ?_⟩
      refine c_isInSoup hRm hw hs (by omega) (fun d => ?_) (fun d => ?_)
      · refine ⟨fun _ => fin 0 ?_, fun q => absurd rfl q⟩
        rw [eta]; unfold inU; rw [if_neg d]; omega
      · refine ⟨fun q => absurd q (by decide), fun _ => ?_⟩
        have ei : nI t * (4 : Int32) + nI (3 - n) = nI (t * 4 + (3 - n)) := by
          rw [show (4 : Int32) = nI 4 from rfl, pk_mul, nI_add]
        rw [ei, nI_clamp (by omega), e1]
        refine ⟨vp_in_nI (by omega) (by omega), fun x hx => ?_⟩
        rw [mn (by omega) (by omega)] at hx
        rw [hx]
        refine fin _ ?_
        rw [eta]; unfold inU; rw [if_pos d, Nat.mul_comm 4 t]; omega
    · intro m hj
      have hRm := CR_fr hR hj.1 (by omega)
      apply h19
      unfold nX0_findTakenBySoup_19
      rw [hRm.1]
      refine ⟨fun _ => ?_, fun q => absurd (nI_le (Nat.le_refl _) (by omega)) q⟩
      rw [dI_s]
      refine hnx m hj.1 (fun t ht => ?_)
      have := hj.2 t ht
      rw [if_pos ht] at this
      exact this
  have outer : ∀ d n : Nat, n + d = 4 → ∀ m : Mem, FI (b + 3) (b + 4) μ m → (∀ t : Nat, t < ρ 0 0 → m.1 (b + 3) t = nI (takS ρ κ s g t n)) → S11 (nI (soupN ρ s g - oldS ρ κ s n)) (dI d) m := by
    intro d
    induction d with
    | zero =>
      intro n hn m hf ht
      have : n = 4 := by omega
      subst this
      apply h11
      unfold nX0_findTakenBySoup_11
      exact ⟨fun _ => h m hf ht, fun c => absurd dI_neg c⟩
    | succ d ih =>
      intro n hn m hf ht
      apply h11
      unfold nX0_findTakenBySoup_11
      refine ⟨fun c => absurd c (dI_pos (by omega)), fun _ => ?_⟩
      have e : dI (d + 1) = nI (3 - n) := by show nI d = nI (3 - n); rw [show d = 3 - n by omega]
      rw [e]
      refine inner n (by omega) (fun m2 hf2 ht2 => ?_) 0 m (Nat.zero_le _) ⟨hf, fun q hq => ?_⟩
      · rw [show 3 - n = d by omega]
        exact ih (n + 1) (by omega) m2 hf2 ht2
      · rw [if_neg (Nat.not_lt_zero _)]; exact ht q hq
  refine c_soupWanted hR hs hg ?_
  exact outer 4 0 rfl μ FI_refl (fun t ht => hz t ht)
theorem c_findTaken {μ : Mem} {b r s g B D : Nat} {κ : KA} {ρ : RA} {Q : Mem → Prop} (hK : KC μ b κ) (hk : KW κ B D) (hB : B ≤ 100000) (hR : CR μ r ρ) (hw : RW ρ) (hrb : r + 12 ≤ b) (hs : s < 9) (hg : g ≤ 1) (h : ∀ m : Mem, FI (b + 3) (b + 4) μ m → (∀ t : Nat, t < ρ 0 0 → m.1 (b + 3) t = nI (takN ρ κ s g t)) → Q m) : PX0_findTaken b r (nI s) (nI g) μ Q := by
  have t6 := hw.1
  have b2 := (hw.2.2.2.2.2.2.1 s).1
  intro S3 S47 h3 h47
  have key : ∀ t m, t ≤ ρ 0 0 → (FI (b + 3) (b + 4) μ m ∧ ∀ q : Nat, q < t → m.1 (b + 3) q = nI 0) → S3 (nI t) m := by
    refine up_loop ?_ ?_
    · intro t m ht hj ih
      have hRm := CR_fr hR hj.1 (by omega)
      apply h3
      unfold nX0_findTaken_3
      rw [hRm.1]
      simp (disch := omega) only [jl_0, jl_1, jl_2, jl_3, jl_4, jl_5, jl_6, jl_7, jl_8, jl_9, jl_10, jl_11, jl_12, jl_13, jl_14, jl_15, jl_16, jl_17, jl_18, jl_19, jl_20, jl_21, jl_22, jl_23, jl_24, jl_25, jl_26, jl_27, jl_28, jl_29, jl_30, jl_31, jl_32, jl_33, jl_34, jl_35, jl_36, jl_37, jl_38, jl_39, jl_40, jl_41, jl_42, jl_43, jl_44, jl_45, jl_46, jl_47, jl_48, jl_49, jl_50, jl_51, jl_52, jl_53, jl_54, jl_55, jl_56, jl_57, jl_58, jl_59, jl_60, jl_61, jl_62, jl_63, jl_64, jl_97, jl_99, jl_100, jl_112, jl_122, jl_127, jl_240, jl_273, jl_274, jl_275, jl_280, jl_316, jl_317, jl_320, jl_400, jl_m1, jl_m4, dI_s2, nI_add, pk_mul, nI_clamp, nI_leI, nI_ltI, nI_eq, vn_in, pk_rem, jb_0, jb_1, jl_n40, jl_n40', true_and, and_true, true_implies, false_implies, not_true_eq_false, not_false_eq_true, implies_true, jl_z1, Nat.reduceEqDiff, Nat.reduceLeDiff, Nat.reduceLT, Nat.le_refl, Nat.lt_irrefl, Nat.zero_le, Nat.not_lt_zero, eq_self, Decidable.not_not]
      refine ⟨fun q => absurd q (by omega), fun _ => ⟨by omega, ?_⟩⟩
      refine ih _ ⟨FI_trans hj.1 (FI_ms (by omega) (by omega)), fun q hq => ?_⟩
      rw [ms_1, if_pos rfl]
      by_cases c : q = t
      · rw [if_pos c]
      · rw [if_neg c]; exact hj.2 q (by omega)
    · intro m hj
      have hRm := CR_fr hR hj.1 (by omega)
      have hKm := KC_fr hK hj.1 (by omega)
      have e2 := (hRm.2.2.2.2.2.2.1 s hs).1
      apply h3
      unfold nX0_findTaken_3
      rw [hRm.1]
      simp (disch := omega) only [jl_0, jl_1, jl_2, jl_3, jl_4, jl_5, jl_6, jl_7, jl_8, jl_9, jl_10, jl_11, jl_12, jl_13, jl_14, jl_15, jl_16, jl_17, jl_18, jl_19, jl_20, jl_21, jl_22, jl_23, jl_24, jl_25, jl_26, jl_27, jl_28, jl_29, jl_30, jl_31, jl_32, jl_33, jl_34, jl_35, jl_36, jl_37, jl_38, jl_39, jl_40, jl_41, jl_42, jl_43, jl_44, jl_45, jl_46, jl_47, jl_48, jl_49, jl_50, jl_51, jl_52, jl_53, jl_54, jl_55, jl_56, jl_57, jl_58, jl_59, jl_60, jl_61, jl_62, jl_63, jl_64, jl_97, jl_99, jl_100, jl_112, jl_122, jl_127, jl_240, jl_273, jl_274, jl_275, jl_280, jl_316, jl_317, jl_320, jl_400, jl_m1, jl_m4, dI_s2, nI_add, pk_mul, nI_clamp, nI_leI, nI_ltI, nI_eq, vn_in, pk_rem, jb_0, jb_1, jl_n40, jl_n40', true_and, and_true, true_implies, false_implies, not_true_eq_false, not_false_eq_true, implies_true, jl_z1, Nat.reduceEqDiff, Nat.reduceLeDiff, Nat.reduceLT, Nat.le_refl, Nat.lt_irrefl, Nat.zero_le, Nat.not_lt_zero, eq_self, Decidable.not_not, e2]
      refine ⟨hs, fun c => ?_, fun c => ?_⟩
      · have key : ∀ t m, t ≤ ρ 0 0 → (FI (b + 3) (b + 4) μ m ∧ ∀ q : Nat, q < t → m.1 (b + 3) q = nI (takN ρ κ s g q)) → S47 (nI t) m := by
          refine up_loop ?_ ?_
          · intro t m ht hj ih
            have hRm := CR_fr hR hj.1 (by omega)
            have hKm := KC_fr hK hj.1 (by omega)
            have hu := unt_le (t := t) hk
            have hwt := want_le (s := s) (g := g) (t := t) hw
            apply h47
            unfold nX0_findTaken_47
            rw [hRm.1]
            refine ⟨fun q => absurd q (nI_ge ht (by omega)), fun _ => ?_⟩
            refine c_wanted hRm hw hs (by omega) hg (c_unitsOf' hKm (by omega) (fun x hx => ?_))
            rw [mn (by omega) (by omega)] at hx
            rw [hx]
            simp (disch := omega) only [jl_0, jl_1, jl_2, jl_3, jl_4, jl_5, jl_6, jl_7, jl_8, jl_9, jl_10, jl_11, jl_12, jl_13, jl_14, jl_15, jl_16, jl_17, jl_18, jl_19, jl_20, jl_21, jl_22, jl_23, jl_24, jl_25, jl_26, jl_27, jl_28, jl_29, jl_30, jl_31, jl_32, jl_33, jl_34, jl_35, jl_36, jl_37, jl_38, jl_39, jl_40, jl_41, jl_42, jl_43, jl_44, jl_45, jl_46, jl_47, jl_48, jl_49, jl_50, jl_51, jl_52, jl_53, jl_54, jl_55, jl_56, jl_57, jl_58, jl_59, jl_60, jl_61, jl_62, jl_63, jl_64, jl_97, jl_99, jl_100, jl_112, jl_122, jl_127, jl_240, jl_273, jl_274, jl_275, jl_280, jl_316, jl_317, jl_320, jl_400, jl_m1, jl_m4, dI_s2, nI_add, pk_mul, nI_clamp, nI_leI, nI_ltI, nI_eq, vn_in, pk_rem, jb_0, jb_1, jl_n40, jl_n40', true_and, and_true, true_implies, false_implies, not_true_eq_false, not_false_eq_true, implies_true, jl_z1, Nat.reduceEqDiff, Nat.reduceLeDiff, Nat.reduceLT, Nat.le_refl, Nat.lt_irrefl, Nat.zero_le, Nat.not_lt_zero, eq_self, Decidable.not_not]
            refine ⟨by omega, ih _ ⟨FI_trans hj.1 (FI_ms (by omega) (by omega)), fun q hq => ?_⟩⟩
            rw [ms_1, if_pos rfl]
            by_cases c3 : q = t
            · rw [if_pos c3, c3]; unfold takN; rw [if_neg c, Nat.min_comm]
            · rw [if_neg c3]; exact hj.2 q (by omega)
          · intro m hj
            have hRm := CR_fr hR hj.1 (by omega)
            apply h47
            unfold nX0_findTaken_47
            rw [hRm.1]
            exact ⟨fun _ => h m hj.1 hj.2, fun q => absurd (nI_le (Nat.le_refl _) (by omega)) q⟩
        exact key 0 m (Nat.zero_le _) ⟨hj.1, fun q hq => absurd hq (Nat.not_lt_zero _)⟩
      · refine c_soup hKm hk hB hRm hw hrb hs hg c hj.2 (fun m2 hf2 ht2 => ?_)
        refine h m2 (FI_trans hj.1 hf2) (fun t ht => ?_)
        rw [ht2 t ht]; unfold takN; rw [if_pos c]
  exact key 0 μ (Nat.zero_le _) ⟨FI_refl, fun q hq => absurd hq (Nat.not_lt_zero _)⟩
