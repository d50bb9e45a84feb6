theorem mz_1 (μ : Mem) (a b j : Nat) : (mz μ a).1 b j = if b = a then 0 else μ.1 b j := by
  unfold mz
  by_cases h : b = a
  · simp [h]
  · simp [h]
def FZ (lo hi : Nat) (μ m : Mem) : Prop := ∀ a : Nat, (a < lo ∨ hi ≤ a) → ∀ j : Nat, m.1 a j = μ.1 a j
theorem FZ_refl {lo hi : Nat} {μ : Mem} : FZ lo hi μ μ := fun _ _ _ => rfl
theorem FZ_trans {lo hi : Nat} {μ m n : Mem} (h : FZ lo hi μ m) (h2 : FZ lo hi m n) : FZ lo hi μ n := fun a ha j => (h2 a ha j).trans (h a ha j)
theorem FZ_mono {lo hi lo' hi' : Nat} {μ m : Mem} (h : FZ lo hi μ m) (h1 : lo' ≤ lo) (h2 : hi ≤ hi') : FZ lo' hi' μ m := fun a ha j => h a (by omega) j
theorem FZ_mz {lo hi a : Nat} {μ : Mem} (h1 : lo ≤ a) (h2 : a < hi) : FZ lo hi μ (mz μ a) := fun c hc i => by rw [mz_1, if_neg (by omega)]
theorem FZ_FI {lo hi : Nat} {μ m : Mem} (h : FI lo hi μ m) : FZ lo hi μ m := h.1
theorem c_init0 {μ : Mem} {b : Nat} {Q : Mem → Prop} (h : ∀ m : Mem, KC m b newK → FZ b (b + 4) μ m → Q m) : PX0_init b μ Q := by
  unfold PX0_init PSX0_init
  refine c_kreset (fun m k f => h m k (FZ_trans ?_ (FZ_mono (FZ_FI f) (by omega) (by omega))))
  exact FZ_trans (FZ_trans (FZ_mz (by omega) (by omega)) (FZ_mz (by omega) (by omega))) (FZ_mz (by omega) (by omega))
theorem c_init2 {μ : Mem} {b : Nat} {Q : Mem → Prop} (h : ∀ m : Mem, CR m b rho0 → FZ b (b + 12) μ m → Q m) : PX2_init b μ Q := by
  unfold PX2_init PSX2_init
  refine c_rreset (fun m k f => h m k (FZ_trans ?_ (FZ_FI f)))
  refine FZ_trans ?_ (FZ_mz (by omega) (by omega))
  refine FZ_trans ?_ (FZ_mz (by omega) (by omega))
  refine FZ_trans ?_ (FZ_mz (by omega) (by omega))
  refine FZ_trans ?_ (FZ_mz (by omega) (by omega))
  refine FZ_trans ?_ (FZ_mz (by omega) (by omega))
  refine FZ_trans ?_ (FZ_mz (by omega) (by omega))
  refine FZ_trans ?_ (FZ_mz (by omega) (by omega))
  refine FZ_trans ?_ (FZ_mz (by omega) (by omega))
  refine FZ_trans ?_ (FZ_mz (by omega) (by omega))
  exact FZ_trans (FZ_mz (by omega) (by omega)) (FZ_mz (by omega) (by omega))
theorem c_init4 {μ : Mem} {b : Nat} {Q : Mem → Prop} (h : ∀ m : Mem, (∀ q : Nat, q < 4 → m.1 (b + 1) q = -4) → (∀ q : Nat, m.1 (b + 2) q = 0) → (∀ q : Nat, m.1 (b + 3) q = 0) → FZ (b + 1) (b + 4) μ m → Q m) : PX4_init b μ Q := by
  unfold PX4_init
  intro S29 h29
  have lp : ∀ i m, i ≤ 4 → ((∀ q : Nat, q < i → m.1 (b + 1) q = -4) ∧ (∀ q : Nat, m.1 (b + 2) q = 0) ∧ (∀ q : Nat, m.1 (b + 3) q = 0) ∧ FZ (b + 1) (b + 4) μ m) → S29 (nI i) m := by
    refine up_loop ?_ ?_
    · intro i m hi ⟨b1, b2, b3, b4⟩ ih
      apply h29
      unfold nX4_init_29
      rw [nI_clamp (by omega), nI_1]
      refine ⟨fun d => absurd d (nI_ge (b := 4) hi (by omega)), fun _ => ⟨vp_in_nI (by omega) (by omega), ih _ ⟨fun q hq => ?_, fun q => ?_, fun q => ?_, FZ_trans b4 (FZ_FI (FI_ms (by omega) (by omega)))⟩⟩⟩
      · rw [ms_1, if_pos rfl]
        by_cases z : q = i
        · rw [if_pos z]
        · rw [if_neg z]; exact b1 q (by omega)
      · rw [ms_1, if_neg (by omega)]; exact b2 q
      · rw [ms_1, if_neg (by omega)]; exact b3 q
    · intro m ⟨b1, b2, b3, b4⟩
      apply h29
      unfold nX4_init_29
      exact ⟨fun _ => h m b1 b2 b3 b4, fun d => absurd (by decide) d⟩
  refine lp 0 _ (by omega) ⟨fun q hq => absurd hq (Nat.not_lt_zero _), fun q => ?_, fun q => ?_, FZ_trans (FZ_trans (FZ_mz (by omega) (by omega)) (FZ_mz (by omega) (by omega))) (FZ_mz (by omega) (by omega))⟩
  · rw [mz_1, if_neg (by omega), mz_1, if_pos rfl]
  · rw [mz_1, if_pos rfl]
theorem c_init1 {μ : Mem} {b : Nat} {Q : Mem → Prop} (h : ∀ m : Mem, FZ (b + 1) (b + 15) μ m → Q m) : PX1_init b μ Q := by
  unfold PX1_init PSX1_init
  refine c_init2 (fun m _ f => h _ ?_)
  exact FZ_trans (FZ_trans (FZ_trans (FZ_mz (by omega) (by omega)) (FZ_mz (by omega) (by omega))) (FZ_mono f (by omega) (by omega))) (FZ_mz (by omega) (by omega))
theorem c_init5 {μ : Mem} {b : Nat} {Q : Mem → Prop} (h : ∀ m : Mem, FZ (b + 1) (b + 5) μ m → Q m) : PX5_init b μ Q := by
  unfold PX5_init PSX5_init
  refine c_init0 (fun m _ f => h _ ?_)
  exact FZ_trans (FZ_mz (by omega) (by omega)) (FZ_mono f (by omega) (by omega))
theorem c_init3 {μ : Mem} {b : Nat} {Q : Mem → Prop} (h : ∀ m : Mem, FZ (b + 1) (b + 36) μ m → Q m) : PX3_init b μ Q := by
  unfold PX3_init PSX3_init
  refine c_init0 (fun m1 _ f1 => c_init0 (fun m2 _ f2 => c_init0 (fun m3 _ f3 => c_init0 (fun m4 _ f4 => c_init0 (fun m5 _ f5 => c_init0 (fun m6 _ f6 => c_init5 (fun m7 f7 => h _ ?_)))))))
  have g1 : FZ (b + 1) (b + 36) μ m1 := FZ_trans (FZ_trans (FZ_mz (by omega) (by omega)) (FZ_mz (by omega) (by omega))) (FZ_mono f1 (by omega) (by omega))
  have g2 : FZ (b + 1) (b + 36) μ m2 := FZ_trans g1 (FZ_trans (FZ_mz (by omega) (by omega)) (FZ_mono f2 (by omega) (by omega)))
  have g3 : FZ (b + 1) (b + 36) μ m3 := FZ_trans g2 (FZ_trans (FZ_mz (by omega) (by omega)) (FZ_mono f3 (by omega) (by omega)))
  have g4 : FZ (b + 1) (b + 36) μ m4 := FZ_trans g3 (FZ_trans (FZ_mz (by omega) (by omega)) (FZ_mono f4 (by omega) (by omega)))
  have g5 : FZ (b + 1) (b + 36) μ m5 := FZ_trans g4 (FZ_trans (FZ_mz (by omega) (by omega)) (FZ_mono f5 (by omega) (by omega)))
  have g6 : FZ (b + 1) (b + 36) μ m6 := FZ_trans g5 (FZ_trans (FZ_mz (by omega) (by omega)) (FZ_mono f6 (by omega) (by omega)))
  have g7 : FZ (b + 1) (b + 36) μ m7 := FZ_trans g6 (FZ_trans (FZ_trans (FZ_mz (by omega) (by omega)) (FZ_mz (by omega) (by omega))) (FZ_mono f7 (by omega) (by omega)))
  exact FZ_trans (FZ_trans (FZ_trans (FZ_trans g7 (FZ_mz (by omega) (by omega))) (FZ_mz (by omega) (by omega))) (FZ_mz (by omega) (by omega))) (FZ_mz (by omega) (by omega))
/-- the class's object new -/
theorem c_init6 {μ : Mem} {Q : Mem → Prop} (h : ∀ m : Mem, CR m 1 rho0 → KC m 40 newK → m.1 0 3 = 0 → m.1 0 8 = 0 → m.1 0 12 = 0 → m.1 25 1 = 0 → (∀ i : Nat, m.1 53 i = 0) → (∀ q : Nat, q < 4 → m.1 97 q = -4) → (∀ q : Nat, m.1 98 q = 0) → (∀ q : Nat, m.1 99 q = 0) → (∀ a : Nat, 100 ≤ a → ∀ j : Nat, m.1 a j = μ.1 a j) → Q m) : PX6_init 0 μ Q := by
  unfold PX6_init PSX6_init
  refine c_init2 (fun m1 k1 f1 => c_init2 (fun m2 _ f2 => c_init1 (fun m3 f3 => c_init0 (fun m4 k4 f4 => c_init0 (fun m5 _ f5 => c_init0 (fun m6 _ f6 => c_init5 (fun m7 f7 => c_init3 (fun m8 f8 => c_init4 (fun m9 k9a k9b k9c f9 => ?_)))))))))
  have s2 : FZ 13 100 m1 m2 := FZ_trans (FZ_mz (by omega) (by omega)) (FZ_mono f2 (by omega) (by omega))
  have s3 : FZ 25 100 m2 m3 := FZ_trans (FZ_mz (by omega) (by omega)) (FZ_mono f3 (by omega) (by omega))
  have s4 : FZ 40 100 (ms m3 0 3 0) m4 := FZ_trans (FZ_mz (by omega) (by omega)) (FZ_mono f4 (by omega) (by omega))
  have s5 : FZ 44 100 m4 m5 := FZ_trans (FZ_trans (FZ_mz (by omega) (by omega)) (FZ_mz (by omega) (by omega))) (FZ_mono f5 (by omega) (by omega))
  have s6 : FZ 49 100 m5 m6 := FZ_trans (FZ_mz (by omega) (by omega)) (FZ_mono f6 (by omega) (by omega))
  have s7 : FZ 55 100 (ms (mz (mz m6 53) 54) 0 8 0) m7 := FZ_trans (FZ_mz (by omega) (by omega)) (FZ_mono f7 (by omega) (by omega))
  have s8 : FZ 60 100 m7 m8 := FZ_trans (FZ_mz (by omega) (by omega)) (FZ_mono f8 (by omega) (by omega))
  have s9 : FZ 96 100 m8 m9 := FZ_trans (FZ_mz (by omega) (by omega)) (FZ_mono f9 (by omega) (by omega))
  have r3 : ∀ a j : Nat, a ≠ 0 → (ms m3 0 3 0).1 a j = m3.1 a j := fun a j z => by rw [ms_1, if_neg z]
  have r7 : ∀ a j : Nat, a ≠ 0 → a ≠ 53 → a ≠ 54 → (ms (mz (mz m6 53) 54) 0 8 0).1 a j = m6.1 a j := fun a j z1 z2 z3 => by rw [ms_1, if_neg z1, mz_1, if_neg z3, mz_1, if_neg z2]
  have rE : ∀ a j : Nat, a ≠ 0 → (ms m9 0 12 0).1 a j = m9.1 a j := fun a j z => by rw [ms_1, if_neg z]
  -- from m6 on
  have t6 : ∀ a j : Nat, 0 < a → a < 53 → (ms m9 0 12 0).1 a j = m6.1 a j := fun a j z1 z2 => by
    rw [rE a j (by omega), s9 a (by omega), s8 a (by omega), s7 a (by omega), r7 a j (by omega) (by omega) (by omega)]
  have z0 : ∀ j : Nat, j ≠ 8 → m9.1 0 j = m6.1 0 j := fun j z => by
    rw [s9 0 (by omega), s8 0 (by omega), s7 0 (by omega), ms_1, if_pos rfl, if_neg z, mz_1, if_neg (by decide), mz_1, if_neg (by decide)]
  have z6 : ∀ j : Nat, m6.1 0 j = (ms m3 0 3 0).1 0 j := fun j => by
    rw [s6 0 (by omega), s5 0 (by omega), s4 0 (by omega)]
  refine h _ (CR_of k1 (fun a j q1 q2 => ?_)) (KC_of k4 (fun a j q1 q2 => ?_)) ?_ ?_ ?_ ?_ (fun i => ?_) (fun q hq => ?_) (fun q => ?_) (fun q => ?_) (fun a ha j => ?_)
  · rw [t6 a j (by omega) (by omega), s6 a (by omega), s5 a (by omega), s4 a (by omega), r3 a j (by omega), s3 a (by omega), s2 a (by omega)]
  · rw [t6 a j (by omega) (by omega), s6 a (by omega), s5 a (by omega)]
  · rw [ms_1, if_pos rfl, if_neg (by decide), z0 3 (by decide), z6, ms_1, if_pos rfl, if_pos rfl]
  · rw [ms_1, if_pos rfl, if_neg (by decide), s9 0 (by omega), s8 0 (by omega), s7 0 (by omega), ms_1, if_pos rfl, if_pos rfl]
  · rw [ms_1, if_pos rfl, if_pos rfl]
  · rw [t6 25 1 (by omega) (by omega), s6 25 (by omega), s5 25 (by omega), s4 25 (by omega), r3 25 1 (by omega), f3 25 (by omega), mz_1, if_pos rfl]
  · rw [rE 53 i (by omega), s9 53 (by omega), s8 53 (by omega), s7 53 (by omega), ms_1, if_neg (by decide), mz_1, if_neg (by decide), mz_1, if_pos rfl]
  · rw [rE _ q (by decide)]; exact k9a q hq
  · rw [rE _ q (by decide)]; exact k9b q
  · rw [rE _ q (by decide)]; exact k9c q
  · rw [rE a j (by omega), s9 a (by omega), s8 a (by omega), s7 a (by omega), r7 a j (by omega) (by omega) (by omega), s6 a (by omega), s5 a (by omega), s4 a (by omega), r3 a j (by omega), s3 a (by omega), s2 a (by omega), f1 a (by omega), mz_1, if_neg (by omega)]
theorem rho0_z (f i : Nat) (h : f ≠ 0) : rho0 f i = 0 := by
  show (if f = 0 ∧ i = 13 then 127 else 0) = 0
  rw [if_neg (fun z => h z.1)]
theorem RW_0 : RW rho0 := by
  refine ⟨by decide, by decide, by decide, by decide, by decide, fun t ht => absurd ht (Nat.not_lt_zero _), fun s => ?_, fun s _ => ?_, fun i => ?_, fun i _ => ?_, fun w _ => ?_⟩
  · rw [rho0_z 4 s (by decide), rho0_z 5 s (by decide), rho0_z 6 s (by decide), rho0_z 7 s (by decide), rho0_z 8 s (by decide)]; omega
  · exact ⟨rho0_z 4 s (by decide), rho0_z 5 s (by decide), rho0_z 6 s (by decide), rho0_z 7 s (by decide), rho0_z 8 s (by decide)⟩
  · rw [rho0_z 9 i (by decide), rho0_z 10 i (by decide)]; omega
  · exact ⟨rho0_z 9 i (by decide), rho0_z 10 i (by decide)⟩
  · rw [rho0_z 11 w (by decide)]; omega
theorem RZ2_0 : RZ2 rho0 := ⟨fun s _ => rho0_z 8 s (by decide), fun s t _ _ => rho0_z 9 _ (by decide)⟩
theorem no_some {d : Nat} : ¬ (none : Option Nat) = some d := by
  intro h
  cases h
theorem KW_0 (B D : Nat) : KW newK B D := ⟨fun i => Nat.zero_le _, Nat.zero_le _, fun _ _ h => absurd h no_some⟩
theorem r_init7 {μ : Mem} {Q : Mem → Prop} (h : ∀ m : Mem, MR m rho0 → KM m 280 newK → m.1 115 0 = 0 → m.1 115 1 = 0 → (∀ j : Nat, j = 26 ∨ j = 31 ∨ j = 37 ∨ j = 55 → m.1 100 j = 0) → (∀ q : Nat, q < 4 → m.1 122 q = -4) → (∀ q : Nat, m.1 123 q = 0) → (∀ q : Nat, m.1 124 q = 0) → (∀ a : Nat, a < 100 → ∀ j : Nat, m.1 a j = μ.1 a j) → Q m) : PX7_init 100 (mz μ 100) Q := by
  unfold PX7_init
  generalize hm0 : mz (mz (mz (mz (mz (mz (mz (mz (mz (mz (mz (mz (mz (mz (mz (mz (mz (mz (mz (mz (mz (mz (mz (mz (mz μ 100) (100 + 1)) (100 + 2)) (100 + 3)) (100 + 4)) (100 + 5)) (100 + 6)) (100 + 7)) (100 + 8)) (100 + 9)) (100 + 10)) (100 + 11)) (100 + 12)) (100 + 13)) (100 + 14)) (100 + 15)) (100 + 16)) (100 + 17)) (100 + 18)) (100 + 19)) (100 + 20)) (100 + 21)) (100 + 22)) (100 + 23)) (100 + 24) = m0
  have e1 : ∀ a : Nat, a < 100 → ∀ j : Nat, m0.1 a j = μ.1 a j := fun a ha j => by
    subst hm0
    simp (disch := omega) only [mz_1, if_neg]
  have e2 : ∀ j : Nat, m0.1 100 j = 0 := fun j => by
    subst hm0
    simp (disch := omega) only [mz_1, if_neg, ite_true]
  have e3 : ∀ j : Nat, m0.1 123 j = 0 := fun j => by
    subst hm0
    simp (disch := omega) only [mz_1, if_neg, ite_true]
  have e4 : ∀ j : Nat, m0.1 124 j = 0 := fun j => by
    subst hm0
    simp (disch := omega) only [mz_1, if_neg, ite_true]
  clear hm0
  intro S200 h200
  have lp : ∀ i m, i ≤ 4 → ((∀ q : Nat, q < i → m.1 122 q = -4) ∧ (∀ a j : Nat, a ≠ 122 → m.1 a j = m0.1 a j)) → S200 (nI i) m := by
    refine up_loop ?_ ?_
    · intro i m hi ⟨b1, b2⟩ ih
      apply h200
      unfold nX7_init_200
      rw [nI_clamp (by omega), nI_1]
      refine ⟨fun d => absurd d (nI_ge (b := 4) hi (by omega)), fun _ => ⟨vp_in_nI (by omega) (by omega), ih _ ⟨fun q hq => ?_, fun a j z => ?_⟩⟩⟩
      · rw [ms_1, if_pos rfl]
        by_cases z : q = i
        · rw [if_pos z]
        · rw [if_neg z]; exact b1 q (by omega)
      · rw [ms_1, if_neg (by omega)]; exact b2 a j z
    · intro m ⟨b1, b2⟩
      apply h200
      unfold nX7_init_200
      refine ⟨fun _ => ?_, fun d => absurd (by decide) d⟩
      refine r_firstDraft (fun m1 d1 _ _ _ f1 => r_keepDraft d1 (by decide) (by decide) (fun s hs => absurd hs (Nat.not_lt_zero _)) (fun m2 k1 k2 k3 k4 k5 f2 => ?_))
      have g : ∀ a j : Nat, (a = 100 → 22 < j ∧ j ≠ 37) → (a < 101 ∨ 115 < a) → m2.1 a j = m.1 a j := fun a j z1 z2 => by
        rw [f2 a j (fun y => by have := z1 y; omega) (by omega) (by omega) (by omega), f1 a j (fun y => by have := z1 y; omega) (by omega)]
      refine h m2 k1 k2 k3 k4 (fun j hj => ?_) (fun q hq => ?_) (fun q => ?_) (fun q => ?_) (fun a ha j => ?_)
      · rcases (show j = 37 ∨ j ≠ 37 by omega) with rfl | z
        · exact k5
        · rw [g 100 j (by omega) (by omega), b2 100 j (by decide), e2]
      · rw [g 122 q (by omega) (by omega), b1 q hq]
      · rw [g 123 q (by omega) (by omega), b2 123 q (by decide), e3]
      · rw [g 124 q (by omega) (by omega), b2 124 q (by decide), e4]
      · rw [g a j (by omega) (by omega), b2 a j (by omega), e1 a ha]
  exact lp 0 m0 (by omega) ⟨fun q hq => absurd hq (Nat.not_lt_zero _), fun _ _ _ => rfl⟩
theorem init (μ : Mem) : PX6_init 0 μ (fun m1 => PX7_init 100 (mz m1 100) (fun m2 => Inv 0 m2)) := by
  refine c_init6 (fun m c1 c2 c3 c4 c5 c6 c7 c8 c9 c10 _ => r_init7 (fun n r1 r2 r3 r4 r5 r6 r7 r8 f => ?_))
  refine ⟨rho0, newK, fun _ => newK, fun _ => 0, fun _ => none, 0, 0, fun _ => 0, fun _ => none, fun _ => 0, ⟨CR_of c1 (fun a j _ _ => f a (by omega) j), r1, RW_0, RZ2_0, by decide⟩, ⟨KC_of c2 (fun a j _ _ => f a (by omega) j), r2, KW_0 _ _⟩, fun i hi => ⟨?_, ?_, Nat.zero_le _, fun z => absurd z (show ¬ (0 : Nat) = 1 by decide)⟩, ⟨?_, ?_, by decide, fun i hi => absurd hi (Nat.not_lt_zero _), fun i s hi => absurd hi (Nat.not_lt_zero _)⟩, ⟨?_, ?_, by decide, fun i hi => absurd hi (Nat.not_lt_zero _)⟩, ⟨fun q hq => ⟨?_, ?_, fun _ z => absurd z no_some, ?_, ?_, Nat.zero_le _⟩, fun i _ => ?_⟩, ?_, ?_, fun _ _ z => absurd z no_some, fun _ _ z => absurd z (show ¬ (0 : Nat) = 1 by decide)⟩
  · rw [f 53 (by decide), c7]; rfl
  · rcases (show i = 0 ∨ i = 1 by omega) with rfl | rfl
    · exact r3
    · exact r4
  · rw [f 0 (by decide), c4]; rfl
  · rw [r5 37 (by omega)]; rfl
  · rw [f 25 (by decide), c6]; rfl
  · rw [r5 26 (by omega)]; rfl
  · rw [f 97 (by decide), c8 q hq]; rfl
  · rw [r6 q hq]; rfl
  · rw [f 98 (by decide), c9]; rfl
  · rw [r7 q]; rfl
  · rw [f 99 (by decide), c10, r8]
  · rw [f 0 (by decide), c3, r5 31 (by omega)]
  · rw [f 0 (by decide), c5, r5 55 (by omega)]
