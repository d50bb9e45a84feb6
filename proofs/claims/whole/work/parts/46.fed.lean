def fedN (ρ : RA) (R : Nat → Option Nat) (p n : Nat) : Nat := sumN (fun i => match R i with
  | none => 0
  | some s => if bitN (ρ 6 s) p = 1 then 0 else 1) n
theorem fed_le {ρ : RA} {R : Nat → Option Nat} {p n : Nat} : fedN ρ R p n ≤ n := by
  have := sumN_le (f := fun i => match R i with
    | none => 0
    | some s => if bitN (ρ 6 s) p = 1 then 0 else 1) (B := 1) (n := n) (fun i _ => by
      show (match R i with
        | none => 0
        | some s => if bitN (ρ 6 s) p = 1 then 0 else 1) ≤ 1
      split
      · omega
      · split <;> omega)
  unfold fedN; omega
theorem c_timesFed {μ : Mem} {r a n n3 p : Nat} {ρ : RA} {R : Nat → Option Nat} {Q : Int32 → Mem → Prop} (hR : CR μ r ρ) (hw : RW ρ) (hn : n ≤ n3) (hn3 : n3 ≤ 7) (hp : p < 4) (hrow : ∀ i : Nat, i < n → μ.1 a i = oI (R i)) (hrs : ∀ i s : Nat, i < n → R i = some s → s < 9) (h : Q (nI (fedN ρ R p n)) μ) : PX2_timesFed r a n3 (nI n) (nI p) μ Q := by
  intro S hS
  have key : ∀ i : Nat, i ≤ n → S (nI (fedN ρ R p i)) (nI i) μ := by
    refine up_pure ?_ ?_
    · intro i hi ih
      have er := hrow i hi
      apply hS
      unfold nX2_timesFed_6 nX2_timesFed_40
      rw [nI_clamp (by omega), er, nI_1 i]
      refine ⟨fun c => absurd c (nI_ge hi (by omega)), fun _ => ⟨vp_in_nI (by omega) (by omega), ?_⟩⟩
      have ef : fedN ρ R p (i + 1) = fedN ρ R p i + (match R i with
        | none => 0
        | some s => if bitN (ρ 6 s) p = 1 then 0 else 1) := rfl
      rw [ef] at ih
      cases e : R i with
      | none =>
        rw [e] at ih
        exact ⟨fun _ => ih, fun c => absurd rfl c⟩
      | some s =>
        rw [e] at ih
        have hs9 := hrs i s hi e
        refine ⟨fun c => absurd c (nI_ne4 (by omega)), fun _ => ⟨vp_in_nI (by omega) (by omega), vp_in_nI (n := s) (by omega) (by omega), ?_⟩⟩
        have e2 := (hR.2.2.2.2.2.2.1 s hs9).2.2.1
        have b2 := (hw.2.2.2.2.2.2.1 s).2.2.1
        rw [show oI (some s) = nI s from rfl, nI_clamp (by omega), e2]
        simp (disch := omega) only [jl_0, jl_1, jl_2, jl_3, jl_4, jl_5, jl_6, jl_7, jl_8, jl_9, jl_10, jl_11, jl_12, jl_13, jl_14, jl_15, jl_16, jl_17, jl_18, jl_19, jl_20, jl_21, jl_22, jl_23, jl_24, jl_25, jl_26, jl_27, jl_28, jl_29, jl_30, jl_31, jl_32, jl_33, jl_34, jl_35, jl_36, jl_37, jl_38, jl_39, jl_40, jl_41, jl_42, jl_43, jl_44, jl_45, jl_46, jl_47, jl_48, jl_49, jl_50, jl_51, jl_52, jl_53, jl_54, jl_55, jl_56, jl_57, jl_58, jl_59, jl_60, jl_61, jl_62, jl_63, jl_64, jl_97, jl_99, jl_100, jl_112, jl_122, jl_127, jl_240, jl_273, jl_274, jl_275, jl_280, jl_316, jl_317, jl_320, jl_400, jl_m1, jl_m4, dI_s2, nI_add, pk_mul, nI_clamp, nI_leI, nI_ltI, nI_eq, vn_in, pk_rem, jb_0, jb_1, jl_n40, jl_n40', true_and, and_true, true_implies, false_implies, not_true_eq_false, not_false_eq_true, implies_true, jl_z1, Nat.reduceEqDiff, Nat.reduceLeDiff, Nat.reduceLT, Nat.le_refl, Nat.lt_irrefl, Nat.zero_le, Nat.not_lt_zero, eq_self, Decidable.not_not]
        simp only [] at ih
        refine ⟨fun c => ?_, fun c => ?_⟩
        · rw [if_pos c, Nat.add_zero] at ih; exact ih
        · rw [if_neg c] at ih; exact ih
    · apply hS
      unfold nX2_timesFed_6
      exact ⟨fun _ => h, fun c => absurd (nI_le (Nat.le_refl _) (by omega)) c⟩
  exact key 0 (Nat.zero_le _)
theorem r_fedOf {μ : Mem} {n p : Nat} {ρ : RA} {R : Nat → Option Nat} {Q : Int32 → Mem → Prop} (hR : MR μ ρ) (hw : RW ρ) (hn : n ≤ 7) (hp : p < 4) (hrow : ∀ i : Nat, i < n → μ.1 119 i = oI (R i)) (hrs : ∀ i s : Nat, i < n → R i = some s → s < ρ 0 4) (h : Q (nI (fedN ρ R p n)) μ) : PX7_fedOf 100 (nI p) (nI n) μ Q := by
  have s9 := hw.2.1
  intro S hS
  have key : ∀ i : Nat, i ≤ n → S (nI (fedN ρ R p i)) (nI i) μ := by
    refine up_pure ?_ ?_
    · intro i hi ih
      have er : μ.1 (100 + 19) i = oI (R i) := hrow i hi
      apply hS
      unfold nX7_fedOf_5 nX7_fedOf_51 nX7_fedOf_52
      rw [nI_clamp (by omega), er, nI_1 i]
      refine ⟨fun c => absurd c (nI_ge hi (by omega)), fun _ => ⟨vp_in_nI (by omega) (by omega), ?_⟩⟩
      have ef : fedN ρ R p (i + 1) = fedN ρ R p i + (match R i with
        | none => 0
        | some s => if bitN (ρ 6 s) p = 1 then 0 else 1) := rfl
      rw [ef] at ih
      cases e : R i with
      | none =>
        rw [e] at ih
        refine ⟨fun _ => ?_, fun c => absurd rfl c⟩
        rw [show (0 : Int32) = nI 0 from rfl, nI_add]
        exact ih
      | some s =>
        rw [e] at ih
        have hs4 := hrs i s hi e
        refine ⟨fun c => absurd c (nI_ne4 (by omega)), fun _ => ⟨vp_in_nI (by omega) (by omega), ?_⟩⟩
        have e2 := (hR.2.2.2.2.2.2.1 s hs4).2.2.1
        have b2 := (hw.2.2.2.2.2.2.1 s).2.2.1
        have es : oI (some s) = nI s := rfl
        rw [es]
        simp (disch := omega) only [jl_0, jl_1, jl_2, jl_3, jl_4, jl_5, jl_6, jl_7, jl_8, jl_9, jl_10, jl_11, jl_12, jl_13, jl_14, jl_15, jl_16, jl_17, jl_18, jl_19, jl_20, jl_21, jl_22, jl_23, jl_24, jl_25, jl_26, jl_27, jl_28, jl_29, jl_30, jl_31, jl_32, jl_33, jl_34, jl_35, jl_36, jl_37, jl_38, jl_39, jl_40, jl_41, jl_42, jl_43, jl_44, jl_45, jl_46, jl_47, jl_48, jl_49, jl_50, jl_51, jl_52, jl_53, jl_54, jl_55, jl_56, jl_57, jl_58, jl_59, jl_60, jl_61, jl_62, jl_63, jl_64, jl_97, jl_99, jl_100, jl_112, jl_122, jl_127, jl_240, jl_273, jl_274, jl_275, jl_280, jl_316, jl_317, jl_320, jl_400, jl_m1, jl_m4, dI_s2, nI_add, pk_mul, nI_clamp, nI_leI, nI_ltI, nI_eq, vn_in, pk_rem, jb_0, jb_1, jl_n40, jl_n40', true_and, and_true, true_implies, false_implies, not_true_eq_false, not_false_eq_true, implies_true, jl_z1, Nat.reduceEqDiff, Nat.reduceLeDiff, Nat.reduceLT, Nat.le_refl, Nat.lt_irrefl, Nat.zero_le, Nat.not_lt_zero, eq_self, Decidable.not_not, Nat.reduceAdd, e2]
        simp only [] at ih
        refine ⟨by omega, fun c => ?_, fun c => ?_⟩
        · rw [if_pos c] at ih; exact ih
        · rw [if_neg c] at ih; exact ih
    · apply hS
      unfold nX7_fedOf_5
      exact ⟨fun _ => h, fun c => absurd (nI_le (Nat.le_refl _) (by omega)) c⟩
  exact key 0 (Nat.zero_le _)
def lfN (ρ : RA) (R : Nat → Option Nat) (n : Nat) : Nat → Nat
  | 0 => n
  | p + 1 => min (fedN ρ R p n) (lfN ρ R n p)
theorem lf_le {ρ : RA} {R : Nat → Option Nat} {n : Nat} : ∀ p : Nat, lfN ρ R n p ≤ n
  | 0 => Nat.le_refl _
  | p + 1 => by
    have := lf_le (ρ := ρ) (R := R) (n := n) p
    unfold lfN; omega
theorem c_timesFedLeast {μ : Mem} {r a n n3 : Nat} {ρ : RA} {R : Nat → Option Nat} {Q : Int32 → Mem → Prop} (hR : CR μ r ρ) (hw : RW ρ) (hn : n ≤ n3) (hn3 : n3 ≤ 7) (hrow : ∀ i : Nat, i < n → μ.1 a i = oI (R i)) (hrs : ∀ i s : Nat, i < n → R i = some s → s < 9) (h : Q (nI (lfN ρ R n 4)) μ) : PX2_timesFedLeast r a n3 (nI n) μ Q := by
  intro S hS
  have key : ∀ p : Nat, p ≤ 4 → S (nI (lfN ρ R n p)) (nI p) μ := by
    refine up_pure ?_ ?_
    · intro p hp ih
      have b1 := lf_le (ρ := ρ) (R := R) (n := n) p
      have b2 := fed_le (ρ := ρ) (R := R) (p := p) (n := n)
      apply hS
      unfold nX2_timesFedLeast_5
      refine ⟨fun c => absurd c (nI_ge (b := 4) hp (by omega)), fun _ => ?_⟩
      refine c_timesFed hR hw hn hn3 hp hrow hrs (fun x hx => ?_)
      rw [hx, mn (by omega) (by omega), nI_1]
      exact ih
    · apply hS
      unfold nX2_timesFedLeast_5
      exact ⟨fun _ => h, fun c => absurd (by decide) c⟩
  exact key 0 (Nat.zero_le _)
theorem r_leastFed {μ : Mem} {n : Nat} {ρ : RA} {R : Nat → Option Nat} {Q : Int32 → Mem → Prop} (hR : MR μ ρ) (hw : RW ρ) (hn : n ≤ 7) (hrow : ∀ i : Nat, i < n → μ.1 119 i = oI (R i)) (hrs : ∀ i s : Nat, i < n → R i = some s → s < ρ 0 4) (h : Q (nI (lfN ρ R n 4)) μ) : PX7_leastFed 100 (nI n) μ Q := by
  intro S hS
  have key : ∀ p : Nat, p ≤ 4 → S (nI (lfN ρ R n p)) (nI p) μ := by
    refine up_pure ?_ ?_
    · intro p hp ih
      have b1 := lf_le (ρ := ρ) (R := R) (n := n) p
      have b2 := fed_le (ρ := ρ) (R := R) (p := p) (n := n)
      apply hS
      unfold nX7_leastFed_4 nX7_leastFed_29
      refine ⟨fun c => absurd c (nI_ge (b := 4) hp (by omega)), fun _ => ?_⟩
      refine r_fedOf hR hw hn hp hrow hrs ?_
      rw [nI_1]
      refine ⟨fun c => ?_, fun c => ?_⟩
      · have c2 := (nI_leI (by omega) (by omega)).1 c
        have : lfN ρ R n (p + 1) = lfN ρ R n p := by show min _ _ = _; omega
        rw [this] at ih; exact ih
      · have c2 : ¬ lfN ρ R n p ≤ fedN ρ R p n := fun z => c ((nI_leI (by omega) (by omega)).2 z)
        have : lfN ρ R n (p + 1) = fedN ρ R p n := by show min _ _ = _; omega
        rw [this] at ih
        exact r_fedOf hR hw hn hp hrow hrs ih
    · apply hS
      unfold nX7_leastFed_4
      exact ⟨fun _ => h, fun c => absurd (by decide) c⟩
  exact key 0 (Nat.zero_le _)
/-- days on to the next place of the same supper -/
def dnF (R : Nat → Option Nat) (n i : Nat) : Nat → Nat → Nat
  | 0, on => on
  | f + 1, on => if R ((i + on) % n) = R i then on else dnF R n i f (on + 1)
def dnN (R : Nat → Option Nat) (n i : Nat) : Nat := dnF R n i (n - 1) 1
theorem dnF_le {R : Nat → Option Nat} {n i : Nat} : ∀ f on : Nat, dnF R n i f on ≤ on + f
  | 0, on => Nat.le_refl _
  | f + 1, on => by
    have := dnF_le (R := R) (n := n) (i := i) f (on + 1)
    unfold dnF
    split <;> omega
def closeR (ρ : RA) (R : Nat → Option Nat) (n : Nat) : Prop := ∀ i : Nat, i < n → R i ≠ none → ρ 0 12 ≤ dnN R n i
theorem c_daysToNext {μ : Mem} {a n n3 i : Nat} {R : Nat → Option Nat} {Q : Int32 → Mem → Prop} (hn : n ≤ n3) (hn3 : n3 ≤ 7) (hi : i < n) (hrow : ∀ i : Nat, i < n → μ.1 a i = oI (R i)) (hrs : ∀ i s : Nat, i < n → R i = some s → s < 9) (h : Q (nI (dnN R n i)) μ) : PX2_daysToNext a n3 (nI n) (nI i) μ Q := by
  intro S hS
  have key : ∀ f on : Nat, on + f = n → dnF R n i f on = dnN R n i → S (nI on) μ := by
    intro f
    induction f with
    | zero =>
      intro on ho hd
      have : on = n := by omega
      subst this
      apply hS
      unfold nX2_daysToNext_2
      refine ⟨fun _ => ?_, fun c => absurd (nI_le (Nat.le_refl _) (by omega)) c⟩
      rw [← hd] at h; exact h
    | succ f ih =>
      intro on ho hd
      have tail : nX2_daysToNext_25 a n3 (nI n) (nI i) Q S (nI on) (nI ((i + on) % n)) μ := by
        have hm : (i + on) % n < n := Nat.mod_lt _ (by omega)
        unfold nX2_daysToNext_25
        rw [nI_clamp (by omega), nI_clamp (by omega), hrow _ hm, hrow i hi, nI_1]
        have ei := oI_inj (o := R ((i + on) % n)) (o' := R i) (fun d e => by have := hrs _ d hm e; omega) (fun d e => by have := hrs _ d hi e; omega)
        refine ⟨vp_in_nI (by omega) (by omega), vp_in_nI (by omega) (by omega), fun c => ?_, fun c => ?_⟩
        · have c2 : ¬ R ((i + on) % n) = R i := fun z => c (ei.2 z)
          refine ih (on + 1) (by omega) ?_
          rw [← hd]; conv => rhs; unfold dnF
          rw [if_neg c2]
        · have c2 := ei.1 c
          have : dnN R n i = on := by rw [← hd]; unfold dnF; rw [if_pos c2]
          rw [this] at h; exact h
      apply hS
      unfold nX2_daysToNext_2
      rw [nI_add]
      refine ⟨fun c => absurd c (nI_ge (by omega) (by omega)), fun _ => ⟨fun c => ?_, fun c => ?_⟩⟩
      · have c2 := (nI_leI (by omega) (by omega)).1 c
        rw [pk_sub c2, show i + on - n = (i + on) % n by rw [Nat.mod_eq_sub_mod c2, Nat.mod_eq_of_lt (by omega)]]
        exact tail
      · have c2 : ¬ n ≤ i + on := fun z => c ((nI_leI (by omega) (by omega)).2 z)
        rw [Nat.mod_eq_of_lt (by omega)] at tail
        exact tail
  have h1 := key (n - 1) 1 (by omega) rfl
  exact h1
theorem c_mayFollow {μ : Mem} {r a n n3 : Nat} {ρ : RA} {R : Nat → Option Nat} {Q : Int32 → Mem → Prop} (hR : CR μ r ρ) (hw : RW ρ) (hn : n ≤ n3) (hn3 : n3 ≤ 7) (hrow : ∀ i : Nat, i < n → μ.1 a i = oI (R i)) (hrs : ∀ i s : Nat, i < n → R i = some s → s < 9) (h1 : closeR ρ R n → Q (nI 1) μ) (h0 : ¬ closeR ρ R n → Q (nI 0) μ) : PX2_mayFollowItself r a n3 (nI n) μ Q := by
  intro S hS
  have a7 := hw.2.2.1
  have key : ∀ i : Nat, i ≤ n → (∀ j : Nat, j < i → R j ≠ none → ρ 0 12 ≤ dnN R n j) → S (nI i) μ := by
    refine up_pure ?_ ?_
    · intro i hi ih hj
      have er := hrow i hi
      have bd := dnF_le (R := R) (n := n) (i := i) (n - 1) 1
      have bd2 : dnN R n i ≤ n := by unfold dnN; omega
      apply hS
      unfold nX2_mayFollowItself_2 nX2_mayFollowItself_30
      rw [nI_clamp (by omega), er, nI_1]
      refine ⟨fun c => absurd c (nI_ge hi (by omega)), fun _ => ⟨vp_in_nI (by omega) (by omega), ?_⟩⟩
      cases e : R i with
      | none =>
        refine ⟨fun _ => ih (fun j hj2 hn => ?_), fun c => absurd rfl c⟩
        by_cases q : j = i
        · rw [q, e] at hn; exact absurd rfl hn
        · exact hj j (by omega) hn
      | some s =>
        have hs9 := hrs i s hi e
        refine ⟨fun c => absurd c (nI_ne4 (by omega)), fun _ => ?_⟩
        refine c_daysToNext hn hn3 hi hrow hrs ?_
        rw [hR.2.2.1]
        refine ⟨fun c => ?_, fun c => ?_⟩
        · have c2 := (nI_leI (by omega) (by omega)).1 c
          refine ih (fun j hj2 hn => ?_)
          by_cases q : j = i
          · rw [q]; exact c2
          · exact hj j (by omega) hn
        · have c2 : ¬ ρ 0 12 ≤ dnN R n i := fun z => c ((nI_leI (by omega) (by omega)).2 z)
          exact h0 (fun z => c2 (z i hi (by rw [e]; exact Option.some_ne_none s)))
    · intro hj
      apply hS
      unfold nX2_mayFollowItself_2
      exact ⟨fun _ => h1 hj, fun c => absurd (nI_le (Nat.le_refl _) (by omega)) c⟩
  exact key 0 (Nat.zero_le _) (fun j hj => absurd hj (Nat.not_lt_zero _))
def closeN (ρ : RA) (κ κ' : KA) (R : Nat → Option Nat) (n : Nat) : Prop := κ'.thr = 0 ∧ sameU κ' κ ∧ closeR ρ R n
theorem c_isClosed {μ : Mem} {r k b a n n3 B D B' D' : Nat} {κ κ' : KA} {ρ : RA} {R : Nat → Option Nat} {Q : Int32 → Mem → Prop} (hR : CR μ r ρ) (hw : RW ρ) (hK : KC μ k κ) (hk : KW κ B D) (hB : B ≤ 1000000) (hK' : KCx μ b κ') (hk' : KW κ' B' D') (hB' : B' ≤ 1000000) (ht : κ'.thr < 2 ^ 31) (hn : n ≤ n3) (hn3 : n3 ≤ 7) (hrow : ∀ i : Nat, i < n → μ.1 a i = oI (R i)) (hrs : ∀ i s : Nat, i < n → R i = some s → s < 9) (h1 : closeN ρ κ κ' R n → Q (nI 1) μ) (h0 : ¬ closeN ρ κ κ' R n → Q (nI 0) μ) : PX2_isClosed r k b a n3 (nI n) μ Q := by
  obtain ⟨o, hK'⟩ := hK'
  unfold PX2_isClosed nX2_isClosed_29
  have et : μ.1 b 5 = nI κ'.thr := hK'.2.2.2.2.2.1
  rw [et]
  refine ⟨fun c => h0 (fun z => c (by rw [z.1]; rfl)), fun c => ?_⟩
  have c0 : κ'.thr = 0 := (nI_eq (b := 0) ht (by omega)).1 c
  refine c_hasSameLarder hK' hK (KW_wt hk') hk hB' hB (fun q => ⟨fun c => absurd c (by decide), fun _ => ?_⟩) (fun q => ⟨fun _ => h0 (fun z => q z.2.1), fun c => absurd rfl c⟩)
  refine c_mayFollow hR hw hn hn3 hrow hrs (fun z => ⟨fun c => absurd c (by decide), fun _ => h1 ⟨c0, q, z⟩⟩) (fun z => ⟨fun _ => h0 (fun y => z y.2.2), fun c => absurd rfl c⟩)
set_option maxHeartbeats 1000000 in
theorem r_isClosed {μ : Mem} {n C B D B' D' : Nat} {κ κ' : KA} {ρ : RA} {R : Nat → Option Nat} {Q : Int32 → Mem → Prop} (hR : MR μ ρ) (hw : RW ρ) (hK : KM μ 280 κ) (hk : KW κ B D) (hB : B ≤ 1000000) (hC : C ≤ 360) (hK' : KMx μ C κ') (hk' : KW κ' B' D') (hB' : B' ≤ 1000000) (ht : κ'.thr < 2 ^ 31) (hn : n ≤ 7) (hrow : ∀ i : Nat, i < n → μ.1 119 i = oI (R i)) (hrs : ∀ i s : Nat, i < n → R i = some s → s < 9) (h1 : closeN ρ κ κ' R n → Q (nI 1) μ) (h0 : ¬ closeN ρ κ κ' R n → Q (nI 0) μ) : PX7_isClosed 100 (nI C) (nI n) μ Q := by
  obtain ⟨o, hK'⟩ := hK'
  intro S29 S42 h29 h42
  have a7 := hw.2.2.1
  have stop : ¬ closeN ρ κ κ' R n → ∀ i : Nat, S29 (nI 0) (nI i) μ := by
    intro q i
    apply h29
    unfold nX7_isClosed_29
    exact ⟨fun _ => ⟨nz0, h0 q⟩, fun _ => ⟨fun _ => ⟨nz0, h0 q⟩, fun c => absurd rfl c⟩⟩
  have et : μ.1 (100 + 14) (C + 34) = nI κ'.thr := hK'.2.2.2.2.2.1
  have e34 : nI C + (34 : Int32) = nI (C + 34) := nI_add C 34
  rw [e34, nI_clamp (by omega), et]
  refine ⟨vp_in_nI (by omega) (by omega), fun c => ?_, fun c => ?_⟩
  · exact stop (fun z => c (by rw [z.1]; rfl)) 0
  have c0 : κ'.thr = 0 := (nI_eq (b := 0) ht (by omega)).1 c
  refine r_isSameLarder hK' hK hC (KW_wt hk') hk hB' hB (fun qs => ⟨fun c => absurd c (by decide), fun _ => ?_⟩) (fun qs => ⟨fun _ => stop (fun z => qs z.2.1) 0, fun c => absurd rfl c⟩)
  have key : ∀ i : Nat, i ≤ n → (∀ j : Nat, j < i → R j ≠ none → ρ 0 12 ≤ dnN R n j) → S29 (nI 1) (nI i) μ := by
    refine up_pure ?_ ?_
    · intro i hi ih hj
      have er : μ.1 (100 + 19) i = oI (R i) := hrow i hi
      have bd := dnF_le (R := R) (n := n) (i := i) (n - 1) 1
      have bd2 : dnN R n i ≤ n := by unfold dnN; omega
      have fin : nX7_isClosed_76 100 (nI C) (nI n) Q S29 S42 (nI i) (nI (dnN R n i)) μ := by
        unfold nX7_isClosed_76 nX7_isClosed_97 nX7_isClosed_102
        rw [nI_clamp (by omega), er, nI_1, hR.2.2.1]
        refine ⟨vp_in_nI (by omega) (by omega), ?_⟩
        cases e : R i with
        | none =>
          refine ⟨fun _ => ih (fun j hj2 hn => ?_), fun c => absurd rfl c⟩
          by_cases q : j = i
          · rw [q, e] at hn; exact absurd rfl hn
          · exact hj j (by omega) hn
        | some s =>
          have hs9 := hrs i s hi e
          refine ⟨fun c => absurd c (nI_ne4 (by omega)), fun _ => ⟨fun c => ?_, fun c => ?_⟩⟩
          · have c2 := (nI_ltI (by omega) (by omega)).1 c
            refine stop (fun z => ?_) _
            have := z.2.2 i hi (by rw [e]; exact Option.some_ne_none s)
            omega
          · have c2 : ¬ dnN R n i < ρ 0 12 := fun z => c ((nI_ltI (by omega) (by omega)).2 z)
            refine ih (fun j hj2 hn => ?_)
            by_cases q : j = i
            · rw [q]; omega
            · exact hj j (by omega) hn
      have gap : ∀ f on : Nat, on + f = n → dnF R n i f on = dnN R n i → S42 (nI i) (nI on) μ := by
        intro f
        induction f with
        | zero =>
          intro on ho hd
          have : on = n := by omega
          subst this
          apply h42
          unfold nX7_isClosed_42
          refine ⟨fun _ => ?_, fun c => absurd (nI_le (Nat.le_refl _) (by omega)) c⟩
          rw [← hd] at fin; exact fin
        | succ f ihf =>
          intro on ho hd
          have hm : (i + on) % n < n := Nat.mod_lt _ (by omega)
          have er2 : μ.1 (100 + 19) ((i + on) % n) = oI (R ((i + on) % n)) := hrow _ hm
          apply h42
          unfold nX7_isClosed_42
          rw [nI_add, pk_rem (by omega) (by omega) (by omega), nI_clamp (n := (i + on) % n) (by omega), nI_clamp (n := i) (by omega), er, er2, nI_1]
          have ei := oI_inj (o := R ((i + on) % n)) (o' := R i) (fun d e => by have := hrs _ d hm e; omega) (fun d e => by have := hrs _ d hi e; omega)
          refine ⟨fun c => absurd c (nI_ge (by omega) (by omega)), fun _ => ⟨nI_ne0 (by omega) (by omega), vp_in_nI (by omega) (by omega), vp_in_nI (by omega) (by omega), fun c => ?_, fun c => ?_⟩⟩
          · have c2 := ei.1 c
            have : dnN R n i = on := by rw [← hd]; unfold dnF; rw [if_pos c2]
            rw [this] at fin; exact fin
          · have c2 : ¬ R ((i + on) % n) = R i := fun z => c (ei.2 z)
            refine ihf (on + 1) (by omega) ?_
            rw [← hd]; conv => rhs; unfold dnF
            rw [if_neg c2]
      apply h29
      unfold nX7_isClosed_29
      refine ⟨fun c => absurd c (nI_ge hi (by omega)), fun _ => ⟨fun c => absurd c (by decide), fun _ => ?_⟩⟩
      exact gap (n - 1) 1 (by omega) rfl
    · intro hj
      apply h29
      unfold nX7_isClosed_29
      exact ⟨fun _ => ⟨nz1, h1 ⟨c0, qs, hj⟩⟩, fun c => absurd (nI_le (Nat.le_refl _) (by omega)) c⟩
  unfold nX7_isClosed_25
  exact key 0 (Nat.zero_le _) (fun j hj => absurd hj (Nat.not_lt_zero _))
