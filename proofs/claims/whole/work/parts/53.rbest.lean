/-- nothing changed but what the reference's search writes -/
def FSr (μ m : Mem) : Prop := ∀ a j : Nat, a ≠ 116 → a ≠ 117 → a ≠ 119 → a ≠ 120 → (a = 100 → j < 41 ∨ 51 < j) → (a = 114 → 240 ≤ j) → m.1 a j = μ.1 a j
theorem DR_acc {A : List (Nat → Option Nat) → Mem → Prop} {ρ : RA} {κ : KA} {d : Nat} {P : Nat → Option Nat} {L L' : List (Nat → Option Nat)} {m m' : Mem} (h : DRs A ρ κ d P L m) (f : ∀ a j : Nat, a ≠ 120 → (a = 100 → j < 43 ∨ 51 < j) → m'.1 a j = m.1 a j) (hA : A L' m') : DRs A ρ κ d P L' m' := by
  obtain ⟨h1, h2, h3, h4, h5, h6⟩ := h
  exact ⟨MR_of h1 (fun a j q => f a j (by omega) (fun z => by omega)), KM_of h2 (fun j hj => f _ _ (by decide) (by simp)), fun j hj => KMx_of (h3 j hj) (fun i hi => f _ _ (by decide) (by simp)), fun j hj => (f _ _ (by decide) (by simp)).trans (h4 j hj), h5, hA⟩
def HoldR (ρ : RA) (κ : KA) (n : Nat) (m : Mem) (P : Nat → Option Nat) : Prop := m.1 100 43 = nI (kAt ρ κ P 0 n).thr ∧ m.1 100 44 = nI (kAt ρ κ P 0 n).paid ∧ m.1 100 45 = nI (kAt ρ κ P 0 n).lik ∧ ∀ i : Nat, i < n → m.1 120 i = oI (P i)
def BestR (ρ : RA) (κ : KA) (n : Nat) (m : Mem) (x : Option ((Nat → Option Nat) × Nat)) : Prop := match x with
  | none => True
  | some (P, c) => HoldR ρ κ n m P ∧ m.1 100 46 = nI 0 ∧ m.1 100 47 = nI c
def FairR (ρ : RA) (κ : KA) (n : Nat) (m : Mem) (x : Option (Nat → Option Nat)) : Prop := match x with
  | none => True
  | some P => HoldR ρ κ n m P ∧ m.1 100 46 = nI (lfN ρ P n 4)
theorem HoldR_fr {ρ : RA} {κ : KA} {n : Nat} {m m' : Mem} {P : Nat → Option Nat} (h : HoldR ρ κ n m P) (f : ∀ j : Nat, 43 ≤ j → j ≤ 45 → m'.1 100 j = m.1 100 j) (f2 : ∀ j : Nat, m'.1 120 j = m.1 120 j) : HoldR ρ κ n m' P := by
  obtain ⟨h1, h2, h3, h4⟩ := h
  exact ⟨(f _ (by omega) (by omega)).trans h1, (f _ (by omega) (by omega)).trans h2, (f _ (by omega) (by omega)).trans h3, fun i hi => (f2 i).trans (h4 i hi)⟩
theorem BestR_fr {ρ : RA} {κ : KA} {n : Nat} {m m' : Mem} {x : Option ((Nat → Option Nat) × Nat)} (h : BestR ρ κ n m x) (f : ∀ j : Nat, 43 ≤ j → j ≤ 47 → m'.1 100 j = m.1 100 j) (f2 : ∀ j : Nat, m'.1 120 j = m.1 120 j) : BestR ρ κ n m' x := by
  cases x with
  | none => trivial
  | some y => exact ⟨HoldR_fr h.1 (fun j _ _ => f j (by omega) (by omega)) f2, (f _ (by omega) (by omega)).trans h.2.1, (f _ (by omega) (by omega)).trans h.2.2⟩
theorem FairR_fr {ρ : RA} {κ : KA} {n : Nat} {m m' : Mem} {x : Option (Nat → Option Nat)} (h : FairR ρ κ n m x) (f : ∀ j : Nat, 43 ≤ j → j ≤ 47 → m'.1 100 j = m.1 100 j) (f2 : ∀ j : Nat, m'.1 120 j = m.1 120 j) : FairR ρ κ n m' x := by
  cases x with
  | none => trivial
  | some y => exact ⟨HoldR_fr h.1 (fun j _ _ => f j (by omega) (by omega)) f2, (f _ (by omega) (by omega)).trans h.2⟩
def AB (μ : Mem) (ρ : RA) (κ : KA) (n f : Nat) (L : List (Nat → Option Nat)) (m : Mem) : Prop := FSr μ m ∧ m.1 100 48 = nI L.length ∧ (f = 0 → BestR ρ κ n m (bestL ρ κ n L)) ∧ (f = 1 → FairR ρ κ n m (fairL ρ κ n L))
theorem AB_stab {μ : Mem} {ρ : RA} {κ : KA} {n f : Nat} : Astab (AB μ ρ κ n f) := by
  intro L m m' h e
  obtain ⟨h1, h2, h3, h4⟩ := h
  have e1 : ∀ j : Nat, j ≠ 41 → m'.1 100 j = m.1 100 j := fun j q => e 100 j (by decide) (by decide) (by decide) (fun _ => q) (by simp)
  have e2 : ∀ j : Nat, m'.1 120 j = m.1 120 j := fun j => e 120 j (by decide) (by decide) (by decide) (by simp) (by simp)
  refine ⟨fun a j q1 q2 q3 q4 q5 q6 => (e a j q1 q2 q3 (fun z => by have := q5 z; omega) q6).trans (h1 a j q1 q2 q3 q4 q5 q6), (e1 _ (by decide)).trans h2, fun q => ?_, fun q => ?_⟩
  · exact BestR_fr (h3 q) (fun j _ _ => e1 j (by omega)) e2
  · exact FairR_fr (h4 q) (fun j _ _ => e1 j (by omega)) e2
theorem r_compares {m : Mem} {n : Nat} {κ κ' : KA} {Q : Int32 → Mem → Prop} (hn : n ≤ 5) (hK : KMx m (40 * n) κ) (b1 : κ.thr ≤ 20000000) (b2 : κ.paid < 100000) (b3 : κ.lik < 100000) (c1 : κ'.thr ≤ 20000000) (c2 : κ'.paid < 100000) (c3 : κ'.lik < 100000) (e1 : m.1 100 43 = nI κ'.thr) (e2 : m.1 100 44 = nI κ'.paid) (e3 : m.1 100 45 = nI κ'.lik) (h1 : rankZ κ < rankZ κ' → ∀ x : Int32, ¬ 0 ≤ x → Q x m) (h2 : rankZ κ = rankZ κ' → ∀ x : Int32, 0 ≤ x → x = 0 → Q x m) (h3 : rankZ κ' < rankZ κ → ∀ x : Int32, 0 ≤ x → ¬ x = 0 → Q x m) : PX7_compares 100 (nI (40 * n)) m Q := by
  obtain ⟨o, hK⟩ := hK
  have k4 : m.1 (100 + 14) (40 * n + 33) = nI κ.paid := hK.2.2.2.2.1
  have k5 : m.1 (100 + 14) (40 * n + 34) = nI κ.thr := hK.2.2.2.2.2.1
  have k6 : m.1 (100 + 14) (40 * n + 35) = nI κ.lik := hK.2.2.2.2.2.2
  have rz : rankZ κ = (((κ.thr * 100000 + κ.paid) * 100000 : Nat) : Int) - (κ.lik : Int) := rfl
  have rz' : rankZ κ' = (((κ'.thr * 100000 + κ'.paid) * 100000 : Nat) : Int) - (κ'.lik : Int) := rfl
  have sg : ∀ a b : Nat, a ≤ 20000000 → b ≤ 20000000 → ((0 ≤ nI a - nI b) ↔ b ≤ a) ∧ ((nI a - nI b = 0) ↔ a = b) := by
    intro a b ha hb
    have t := pk_sub_toInt (a := a) (b := b) (by omega) (by omega)
    refine ⟨?_, ?_⟩
    · rw [Int32.le_iff_toInt_le, t, show (0 : Int32).toInt = 0 from by decide]; omega
    · rw [← Int32.toInt_inj, t, show (0 : Int32).toInt = 0 from by decide]; omega
  unfold PX7_compares
  rw [show nI (40 * n) + (33 : Int32) = nI (40 * n + 33) from nI_add _ _, show nI (40 * n) + (34 : Int32) = nI (40 * n + 34) from nI_add _ _, show nI (40 * n) + (35 : Int32) = nI (40 * n + 35) from nI_add _ _, nI_clamp (n := 40 * n + 33) (by omega), nI_clamp (n := 40 * n + 34) (by omega), nI_clamp (n := 40 * n + 35) (by omega), k4, k5, k6, e1, e2, e3, nI_eq (a := κ.thr) (by omega) (by omega), nI_eq (a := κ.paid) (by omega) (by omega)]
  have v33 : vp_in (nI (40 * n + 33)) 400 := vp_in_nI (by omega) (by omega)
  have v34 : vp_in (nI (40 * n + 34)) 400 := vp_in_nI (by omega) (by omega)
  have v35 : vp_in (nI (40 * n + 35)) 400 := vp_in_nI (by omega) (by omega)
  have fin : ∀ a b : Nat, a ≤ 20000000 → b ≤ 20000000 → (a < b → rankZ κ < rankZ κ') → (a = b → rankZ κ = rankZ κ') → (b < a → rankZ κ' < rankZ κ) → Q (nI a - nI b) m := by
    intro a b ha hb q1 q2 q3
    obtain ⟨s1, s2⟩ := sg a b ha hb
    rcases Nat.lt_trichotomy a b with q | q | q
    · exact h1 (q1 q) _ (fun z => by have := s1.1 z; omega)
    · exact h2 (q2 q) _ (s1.2 (by omega)) (s2.2 q)
    · exact h3 (q3 q) _ (s1.2 (by omega)) (fun z => by have := s2.1 z; omega)
  refine ⟨v34, fun q1 => ⟨v33, fun q2 => ⟨v35, ?_⟩, fun q2 => ⟨v33, ?_⟩⟩, fun q1 => ⟨v34, ?_⟩⟩
  · exact fin _ _ (by omega) (by omega) (fun _ => by omega) (fun _ => by omega) (fun _ => by omega)
  · exact fin _ _ (by omega) (by omega) (fun _ => by omega) (fun _ => by omega) (fun _ => by omega)
  · exact fin _ _ (by omega) (by omega) (fun _ => by omega) (fun _ => by omega) (fun _ => by omega)
set_option maxHeartbeats 1000000 in
theorem r_better {m : Mem} {n l fd : Nat} {p2 : Int32} {κ : KA} {P : Nat → Option Nat} {Q : Mem → Prop} {S19 : Int32 → Mem → Prop} {S176 : Int32 → Int32 → Mem → Prop} (h176 : ∀ (v3 : Int32) (v6 : Int32) (μ : Mem), nX7_findBest_176 100 (nI n) p2 Q S19 S176 v3 v6 μ → S176 v3 v6 μ) (hn : n ≤ 5) (hK : KMx m (40 * n) κ) (hl : m.1 100 48 = nI l) (hp : ∀ i : Nat, i < n → m.1 119 i = oI (P i)) (x : Int32) (hx : ¬ 0 ≤ x) (h : ∀ m' : Mem, (∀ a j : Nat, a ≠ 120 → (a = 100 → j < 43 ∨ 48 < j) → m'.1 a j = m.1 a j) → m'.1 100 43 = nI κ.thr → m'.1 100 44 = nI κ.paid → m'.1 100 45 = nI κ.lik → m'.1 100 46 = nI fd → m'.1 100 47 = nI 1 → m'.1 100 48 = nI (l + 1) → (∀ i : Nat, i < n → m'.1 120 i = oI (P i)) → S19 (nI (40 * n)) m') : nX7_findBest_80 100 (nI n) p2 Q S19 S176 (nI (40 * n)) (nI fd) x m := by
  obtain ⟨o, hK⟩ := hK
  have k4 : m.1 114 (40 * n + 33) = nI κ.paid := hK.2.2.2.2.1
  have k5 : m.1 114 (40 * n + 34) = nI κ.thr := hK.2.2.2.2.2.1
  have k6 : m.1 114 (40 * n + 35) = nI κ.lik := hK.2.2.2.2.2.2
  unfold nX7_findBest_80 nX7_findBest_120
  refine ⟨fun c => absurd c hx, fun _ => ⟨fun c => absurd c hx, fun _ m18 hm18 => ?_⟩⟩
  rw [show nI (40 * n) + (33 : Int32) = nI (40 * n + 33) from nI_add _ _, show nI (40 * n) + (34 : Int32) = nI (40 * n + 34) from nI_add _ _, show nI (40 * n) + (35 : Int32) = nI (40 * n + 35) from nI_add _ _, nI_clamp (n := 40 * n + 33) (by omega), nI_clamp (n := 40 * n + 34) (by omega), nI_clamp (n := 40 * n + 35) (by omega)]
  refine ⟨vp_in_nI (by omega) (by omega), vp_in_nI (by omega) (by omega), fun m19 hm19 => ⟨vp_in_nI (by omega) (by omega), ?_⟩⟩
  have g18 : ∀ a j : Nat, (a = 100 → j < 43 ∨ 48 < j) → m18.1 a j = m.1 a j := fun a j q => by
    rw [hm18]
    by_cases c : a = 100
    · have := q c
      subst c
      simp (disch := omega) only [ms_1, ite_true, ite_false, if_neg, if_pos]
    · simp (disch := omega) only [ms_1, ite_true, ite_false, if_neg]
  have d18 : m18.1 (100 + 14) (40 * n + 34) = nI κ.thr := (g18 114 _ (by simp)).trans k5
  have d18b : (ms m18 100 43 (m18.1 (100 + 14) (40 * n + 34))).1 (100 + 14) (40 * n + 33) = nI κ.paid := by
    rw [ms_1, if_neg (by decide)]; exact (g18 114 _ (by simp)).trans k4
  rw [d18b, d18] at hm19
  have d19 : m19.1 (100 + 14) (40 * n + 35) = nI κ.lik := by
    rw [hm19, ms_1, if_neg (by decide), ms_1, if_neg (by decide)]; exact (g18 114 _ (by simp)).trans k6
  rw [d19]
  have g20 : ∀ a j : Nat, (a = 100 → j < 43 ∨ 48 < j) → (ms m19 100 45 (nI κ.lik)).1 a j = m.1 a j := fun a j q => by
    rw [← g18 a j q, hm19]
    by_cases c : a = 100
    · have := q c
      subst c
      simp (disch := omega) only [ms_1, ite_true, ite_false, if_neg, if_pos]
    · simp (disch := omega) only [ms_1, ite_true, ite_false, if_neg]
  have x43 : (ms m19 100 45 (nI κ.lik)).1 100 43 = nI κ.thr := by
    rw [hm19]; simp (disch := omega) only [ms_1, ite_true, ite_false, if_neg, if_pos]
  have x44 : (ms m19 100 45 (nI κ.lik)).1 100 44 = nI κ.paid := by
    rw [hm19]; simp (disch := omega) only [ms_1, ite_true, ite_false, if_neg, if_pos]
  have x45 : (ms m19 100 45 (nI κ.lik)).1 100 45 = nI κ.lik := by
    simp (disch := omega) only [ms_1, ite_true, ite_false, if_pos]
  have x46 : (ms m19 100 45 (nI κ.lik)).1 100 46 = nI fd := by
    rw [hm19, hm18]; simp (disch := omega) only [ms_1, ite_true, ite_false, if_neg, if_pos]
  have x47 : (ms m19 100 45 (nI κ.lik)).1 100 47 = nI 1 := by
    rw [hm19, hm18]; simp (disch := omega) only [ms_1, ite_true, ite_false, if_neg, if_pos]; rfl
  have x48 : (ms m19 100 45 (nI κ.lik)).1 100 48 = nI (l + 1) := by
    rw [hm19, hm18]; simp (disch := omega) only [ms_1, ite_true, ite_false, if_neg, if_pos]; rw [hl]; exact nI_1 l
  have copy : ∀ i m', i ≤ n → ((∀ j : Nat, j < i → m'.1 120 j = oI (P j)) ∧ (∀ a j : Nat, a ≠ 120 → m'.1 a j = (ms m19 100 45 (nI κ.lik)).1 a j)) → S176 (nI (40 * n)) (nI i) m' := by
    refine up_loop ?_ ?_
    · intro i m' hi ⟨a1, a2⟩ ih
      have ep : m'.1 (100 + 19) i = oI (P i) := (a2 119 i (by decide)).trans ((g20 119 i (by simp)).trans (hp i hi))
      apply h176
      unfold nX7_findBest_176
      rw [nI_clamp (by omega), ep, nI_1]
      refine ⟨fun c => absurd c (nI_ge hi (by omega)), fun _ => ⟨vp_in_nI (by omega) (by omega), vp_in_nI (by omega) (by omega), ih _ ⟨fun j hj => ?_, fun a j q => ?_⟩⟩⟩
      · show (ms m' 120 i (oI (P i))).1 120 j = _
        rw [ms_1, if_pos rfl]
        by_cases c : j = i
        · rw [if_pos c, c]
        · rw [if_neg c]; exact a1 j (by omega)
      · show (ms m' 120 i (oI (P i))).1 a j = _
        rw [ms_1, if_neg q]; exact a2 a j q
    · intro m' ⟨a1, a2⟩
      apply h176
      unfold nX7_findBest_176 nX7_findBest_202
      refine ⟨fun _ => h m' (fun a j q1 q2 => (a2 a j q1).trans (g20 a j q2)) ((a2 _ _ (by decide)).trans x43) ((a2 _ _ (by decide)).trans x44) ((a2 _ _ (by decide)).trans x45) ((a2 _ _ (by decide)).trans x46) ((a2 _ _ (by decide)).trans x47) ((a2 _ _ (by decide)).trans x48) a1, fun c => absurd (nI_le (Nat.le_refl _) (by omega)) c⟩
  exact copy 0 _ (Nat.zero_le _) ⟨fun j hj => absurd hj (Nat.not_lt_zero _), fun a j _ => rfl⟩
theorem r_notb {m : Mem} {n l c fd : Nat} {p2 : Int32} {Q : Mem → Prop} {S19 : Int32 → Mem → Prop} {S176 : Int32 → Int32 → Mem → Prop} (hl : m.1 100 48 = nI l) (hc : m.1 100 47 = nI c) (x : Int32) (hx : 0 ≤ x) (h : ∀ m' : Mem, (∀ a j : Nat, (a = 100 → j ≠ 47 ∧ j ≠ 48) → m'.1 a j = m.1 a j) → m'.1 100 48 = nI (l + 1) → m'.1 100 47 = nI (if x = 0 then c + 1 else c) → S19 (nI (40 * n)) m') : nX7_findBest_80 100 (nI n) p2 Q S19 S176 (nI (40 * n)) (nI fd) x m := by
  unfold nX7_findBest_80 nX7_findBest_120 nX7_findBest_202
  have e47 : (ms m 100 48 (m.1 100 48 + (1 : Int32))).1 100 47 = nI c := by rw [ms_1, if_pos rfl, if_neg (by decide)]; exact hc
  have g : ∀ v : Int32, ∀ a j : Nat, (a = 100 → j ≠ 47 ∧ j ≠ 48) → (ms (ms m 100 48 (m.1 100 48 + (1 : Int32))) 100 47 v).1 a j = m.1 a j := fun v a j q => by
    by_cases c : a = 100
    · have := q c
      subst c
      simp (disch := omega) only [ms_1, ite_true, ite_false, if_neg, if_pos]
    · simp (disch := omega) only [ms_1, ite_true, ite_false, if_neg]
  have e48 : ∀ v : Int32, (ms (ms m 100 48 (m.1 100 48 + (1 : Int32))) 100 47 v).1 100 48 = nI (l + 1) := fun v => by
    rw [ms_1, if_pos rfl, if_neg (by decide), ms_1, if_pos rfl, if_pos rfl, hl]; exact nI_1 l
  rw [e47, nI_1]
  refine ⟨fun _ => ⟨fun c0 => ⟨fun _ => ?_, fun z => absurd hx z⟩, fun c0 => ⟨fun _ => ?_, fun z => absurd hx z⟩⟩, fun z => absurd hx z⟩
  · have := h _ (g (nI c)) (e48 _)
    rw [if_neg c0] at this
    exact this (by rw [ms_1, if_pos rfl, if_pos rfl])
  · have := h _ (g (nI (c + 1))) (e48 _)
    rw [if_pos c0] at this
    exact this (by rw [ms_1, if_pos rfl, if_pos rfl])
set_option maxHeartbeats 2000000 in
theorem r_findBest {μ : Mem} {n f B D : Nat} {κ : KA} {ρ : RA} {Q : Mem → Prop} (hR : MR μ ρ) (hw : RW ρ) (hK : KM μ 280 κ) (hk : KW κ B D) (hB : B ≤ 80000) (hD : D ≤ 90000) (hn0 : 1 ≤ n) (hn : n ≤ 5) (hf : f ≤ 1) (h : ∀ m : Mem, AB μ ρ κ n f (rowsN ρ κ n) m → Q m) : PX7_findBest 100 (nI n) (nI f) μ Q := by
  have s9 := hw.2.1
  intro S19 S176 h19 h176 m1 hm1
  have f1 : ∀ a j : Nat, (a = 100 → j < 41 ∨ 51 < j) → m1.1 a j = μ.1 a j := fun a j q => by
    rw [hm1]
    by_cases c : a = 100
    · have := q c
      subst c
      simp (disch := omega) only [ms_1, ite_true, ite_false, if_neg, if_pos]
    · simp (disch := omega) only [ms_1, ite_true, ite_false, if_neg]
  rw [show (40 : Int32) * nI n = nI (40 * n) from pk_mul 40 n]
  have hK1 := KM_of hK (m := m1) (fun j hj => f1 _ _ (by simp))
  have hR1 := MR_of hR (m := m1) (fun a j q => f1 _ _ (fun z => by omega))
  refine r_rows (A := AB μ ρ κ n f) (T := fun m2 => S19 (nI (40 * n)) m2) (Qf := fun _ (r5 : Int32) (m4 : Mem) => (r5 = 0 → Q m4) ∧ (¬ r5 = 0 → (nI f = 0 → nX7_findBest_40 100 (nI n) (nI f) Q S19 S176 (nI (40 * n)) ((0 : Int32)) m4) ∧ (¬ nI f = 0 → PX7_leastFed 100 (nI n) m4 (fun (r9 : Int32) (m8 : Mem) => nX7_findBest_40 100 (nI n) (nI f) Q S19 S176 (nI (40 * n)) r9 m8)))) (fun m hm => h19 _ _ hm) AB_stab hR1 hw hK1 hk hB hD hn0 hn ⟨fun a j _ _ _ _ q5 _ => f1 a j q5, ?_, fun _ => trivial, fun _ => trivial⟩ ?_ (fun m _ _ a => ⟨fun _ => h m a, fun c => absurd rfl c⟩)
  · rw [hm1, ms_1, if_pos rfl, if_neg (by decide), ms_1, if_pos rfl, if_pos rfl]; rfl
  intro P L m hd hdeep hlen hnx
  have hps : ∀ i s : Nat, i < n → P i = some s → s < ρ 0 4 := fun i s _ e => hd.2.2.2.2.1 i s e
  have hp := hd.2.2.2.1
  have hKn := hd.2.2.1 n (Nat.le_refl _)
  obtain ⟨a1, a2, a3, a4⟩ := hd.2.2.2.2.2
  have bp : ∀ P : Nat → Option Nat, (kAt ρ κ P 0 n).paid < 100000 := fun P => by
    have := kAt_paid (κ := κ) (R := P) (g := 0) hw n; omega
  have bl : ∀ P : Nat → Option Nat, (kAt ρ κ P 0 n).lik < 100000 := fun P => by
    have := kAt_lik (κ := κ) (R := P) (g := 0) hw n; omega
  have bt : ∀ P : Nat → Option Nat, (kAt ρ κ P 0 n).thr ≤ 20000000 := fun P => by
    have := kAt_thr (R := P) (g := 0) hw hk hB n (by omega); omega
  have go : ∀ m' : Mem, (∀ a j : Nat, a ≠ 120 → (a = 100 → j < 43 ∨ 48 < j) → m'.1 a j = m.1 a j) → m'.1 100 48 = nI (L.length + 1) → (f = 0 → BestR ρ κ n m' (bestL ρ κ n (L ++ [P]))) → (f = 1 → FairR ρ κ n m' (fairL ρ κ n (L ++ [P]))) → S19 (nI (40 * n)) m' := by
    intro m' e1 e2 e3 e4
    refine h19 _ _ (hnx m' (DR_acc hd (fun a j q1 q2 => e1 a j q1 (fun z => by have := q2 z; omega)) ⟨fun a j q1 q2 q3 q4 q5 q6 => (e1 a j q4 (fun z => by have := q5 z; omega)).trans (a1 a j q1 q2 q3 q4 q5 q6), by rw [List.length_append]; exact e2, e3, e4⟩) ((e1 100 41 (by decide) (by decide)).trans hdeep))
  have bR := lf_le (ρ := ρ) (R := P) (n := n) 4
  refine ⟨fun c => absurd c (by decide), fun _ => ⟨fun c => ?_, fun c => ?_⟩⟩
  · have f0 : f = 0 := (nI_eq (b := 0) (by omega) (by omega)).1 c
    have hb := a3 f0
    have better : bestS ρ κ n (bestL ρ κ n L) P = some (P, 1) → ∀ x : Int32, ¬ 0 ≤ x → nX7_findBest_80 100 (nI n) (nI f) Q S19 S176 (nI (40 * n)) (nI 0) x m := by
      intro eb x hx
      refine r_better h176 hn hKn a2 hp x hx (fun m' g1 g2 g3 g4 g5 g6 g7 g8 => go m' g1 g7 (fun _ => ?_) (fun q => by omega))
      rw [bestL_s, eb]
      exact ⟨⟨g2, g3, g4, g8⟩, g5, g6⟩
    unfold nX7_findBest_40 nX7_findBest_58
    rw [a2]
    cases eb : bestL ρ κ n L with
    | none =>
      have el : L.length = 0 := by
        by_cases c : L.length = 0
        · exact c
        · obtain ⟨x, hx⟩ := bestL_some (ρ := ρ) (κ := κ) (n := n) c
          rw [eb] at hx; cases hx
      exact ⟨fun _ => better (by rw [eb]; rfl) (-1) (by decide), fun z => absurd (by rw [el]; rfl) z⟩
    | some y =>
      obtain ⟨T, c⟩ := y
      have el : L.length ≠ 0 := by
        intro z
        have : L = [] := List.eq_nil_of_length_eq_zero z
        rw [this] at eb; cases eb
      rw [eb] at hb better
      obtain ⟨⟨q1, q2, q3, q4⟩, q5, q6⟩ := hb
      rw [q5]
      refine ⟨fun z => absurd ((nI_eq (b := 0) (by omega) (by omega)).1 z) el, fun _ => ⟨fun _ => ⟨fun _ => ?_, fun z => absurd (show nI 0 ≤ (0 : Int32) from by decide) z⟩, fun z => absurd (show (0 : Int32) ≤ nI 0 from by decide) z⟩⟩
      refine r_compares hn hKn (bt P) (bp P) (bl P) (bt T) (bp T) (bl T) q1 q2 q3 (fun lt x hx => ?_) (fun eq x hx x0 => ?_) (fun gt x hx x0 => ?_)
      · exact better (by show (if _ then _ else if _ then _ else _) = _; rw [if_pos lt]) x hx
      · refine r_notb (fd := 0) a2 q6 x hx (fun m' g1 g2 g3 => go m' (fun a j z1 z2 => g1 a j (fun z => by have := z2 z; omega)) g2 (fun _ => ?_) (fun q => by omega))
        rw [if_pos x0] at g3
        have eb2 : bestS ρ κ n (some (T, c)) P = some (T, c + 1) := by
          show (if _ then _ else if _ then _ else _) = _
          rw [if_neg (by omega), if_pos eq]
        rw [bestL_s, eb, eb2]
        exact ⟨HoldR_fr ⟨q1, q2, q3, q4⟩ (fun j _ _ => g1 100 j (fun _ => by omega)) (fun j => g1 120 j (by simp)), (g1 100 46 (by simp)).trans q5, g3⟩
      · refine r_notb (fd := 0) a2 q6 x hx (fun m' g1 g2 g3 => go m' (fun a j z1 z2 => g1 a j (fun z => by have := z2 z; omega)) g2 (fun _ => ?_) (fun q => by omega))
        rw [if_neg x0] at g3
        have eb2 : bestS ρ κ n (some (T, c)) P = some (T, c) := by
          show (if _ then _ else if _ then _ else _) = _
          rw [if_neg (by omega), if_neg (by omega)]
        rw [bestL_s, eb, eb2]
        exact ⟨HoldR_fr ⟨q1, q2, q3, q4⟩ (fun j _ _ => g1 100 j (fun _ => by omega)) (fun j => g1 120 j (by simp)), (g1 100 46 (by simp)).trans q5, g3⟩
  · have f1 : f = 1 := by
      have : f ≠ 0 := fun q => c (by rw [q]; rfl)
      omega
    have hb := a4 f1
    refine r_leastFed hd.1 hw (by omega) hp hps ?_
    have better : fairS ρ κ n (fairL ρ κ n L) P = some P → ∀ x : Int32, ¬ 0 ≤ x → nX7_findBest_80 100 (nI n) (nI f) Q S19 S176 (nI (40 * n)) (nI (lfN ρ P n 4)) x m := by
      intro eb x hx
      refine r_better h176 hn hKn a2 hp x hx (fun m' g1 g2 g3 g4 g5 g6 g7 g8 => go m' g1 g7 (fun q => by omega) (fun _ => ?_))
      rw [fairL_s, eb]
      exact ⟨⟨g2, g3, g4, g8⟩, g5⟩
    unfold nX7_findBest_40 nX7_findBest_58
    rw [a2]
    cases eb : fairL ρ κ n L with
    | none =>
      have el : L.length = 0 := by
        by_cases c : L.length = 0
        · exact c
        · obtain ⟨x, hx⟩ := fairL_some (ρ := ρ) (κ := κ) (n := n) c
          rw [eb] at hx; cases hx
      exact ⟨fun _ => better (by rw [eb]; rfl) (-1) (by decide), fun z => absurd (by rw [el]; rfl) z⟩
    | some T =>
      have el : L.length ≠ 0 := by
        intro z
        have : L = [] := List.eq_nil_of_length_eq_zero z
        rw [this] at eb; cases eb
      have bT := lf_le (ρ := ρ) (R := T) (n := n) 4
      rw [eb] at hb better
      obtain ⟨⟨q1, q2, q3, q4⟩, q5⟩ := hb
      have keep : ¬ (lfN ρ T n 4 < lfN ρ P n 4 ∨ (lfN ρ P n 4 = lfN ρ T n 4 ∧ rankZ (kAt ρ κ P 0 n) < rankZ (kAt ρ κ T 0 n))) → ∀ x : Int32, 0 ≤ x → nX7_findBest_80 100 (nI n) (nI f) Q S19 S176 (nI (40 * n)) (nI (lfN ρ P n 4)) x m := by
        intro hno x hx
        have e80 : ∀ v w : Int32, (∀ a j : Nat, (a = 100 → j ≠ 47 ∧ j ≠ 48) → (ms (ms m 100 48 v) 100 47 w).1 a j = m.1 a j) := fun v w a j q => by
          by_cases c : a = 100
          · have := q c
            subst c
            simp (disch := omega) only [ms_1, ite_true, ite_false, if_neg, if_pos]
          · simp (disch := omega) only [ms_1, ite_true, ite_false, if_neg]
        have fin : ∀ w : Int32, S19 (nI (40 * n)) (ms (ms m 100 48 (m.1 100 48 + (1 : Int32))) 100 47 w) := fun w => by
          refine go _ (fun a j z1 z2 => e80 _ _ a j (fun z => by have := z2 z; omega)) ?_ (fun q => by omega) (fun _ => ?_)
          · rw [ms_1, if_pos rfl, if_neg (by decide), ms_1, if_pos rfl, if_pos rfl, a2]; exact nI_1 _
          · have eb2 : fairS ρ κ n (some T) P = some T := if_neg hno
            rw [fairL_s, eb, eb2]
            exact ⟨HoldR_fr ⟨q1, q2, q3, q4⟩ (fun j _ _ => e80 _ _ 100 j (fun _ => by omega)) (fun j => e80 _ _ 120 j (by simp)), (e80 _ _ 100 46 (by simp)).trans q5⟩
        unfold nX7_findBest_80 nX7_findBest_120 nX7_findBest_202
        exact ⟨fun _ => ⟨fun _ => ⟨fun _ => fin _, fun z => absurd hx z⟩, fun _ => ⟨fun _ => fin _, fun z => absurd hx z⟩⟩, fun z => absurd hx z⟩
      rw [q5, nI_leI (by omega) (by omega), nI_leI (by omega) (by omega)]
      refine ⟨fun z => absurd ((nI_eq (b := 0) (by omega) (by omega)).1 z) el, fun _ => ⟨fun c1 => ⟨fun c2 => ?_, fun c2 => ?_⟩, fun c1 => ?_⟩⟩
      · have ee : lfN ρ P n 4 = lfN ρ T n 4 := by omega
        refine r_compares hn hKn (bt P) (bp P) (bl P) (bt T) (bp T) (bl T) q1 q2 q3 (fun lt x hx => ?_) (fun eq x hx x0 => ?_) (fun gt x hx x0 => ?_)
        · exact better (if_pos (Or.inr ⟨ee, lt⟩)) x hx
        · exact keep (by omega) x hx
        · exact keep (by omega) x hx
      · exact keep (by omega) 1 (by decide)
      · exact better (if_pos (Or.inl (by omega))) (-1) (by decide)
