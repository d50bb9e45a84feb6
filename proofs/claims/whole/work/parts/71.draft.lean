/-- the supper's things as the reference's draft holds them -/
def thgM (ρ : RA) (s : Nat) : Nat := if ρ 4 s = 3 then ρ 8 s else bitsW ρ s 6
/-- the reference's draft -/
def MD (μ : Mem) (ρ : RA) : Prop := μ.1 100 10 = nI (ρ 0 0) ∧ μ.1 100 12 = nI (ρ 0 4) ∧ μ.1 100 16 = nI (ρ 0 12) ∧ μ.1 100 17 = nI (ρ 0 13) ∧ μ.1 100 18 = nI (ρ 0 14) ∧ (∀ t : Nat, t < ρ 0 0 → μ.1 106 (3 * t) = nI (ρ 1 t) ∧ μ.1 106 (3 * t + 1) = nI (ρ 2 t) ∧ μ.1 106 (3 * t + 2) = nI (ρ 3 t)) ∧ (∀ s : Nat, s < ρ 0 4 → μ.1 107 (5 * s) = nI (ρ 4 s) ∧ μ.1 107 (5 * s + 1) = nI (ρ 5 s) ∧ μ.1 107 (5 * s + 2) = nI (ρ 6 s) ∧ μ.1 107 (5 * s + 3) = nI (ρ 7 s) ∧ μ.1 107 (5 * s + 4) = nI (thgM ρ s)) ∧ (∀ i : Nat, i < 6 * ρ 0 4 → μ.1 108 i = nI (ρ 9 i) ∧ μ.1 109 i = nI (ρ 10 i)) ∧ (∀ w : Nat, w < 7 → μ.1 110 w = nI (ρ 11 w))
theorem r_firstDraft {μ : Mem} {Q : Mem → Prop} (h : ∀ m : Mem, MD m rho0 → m.1 100 20 = 0 → m.1 100 21 = 0 → m.1 100 22 = nI 0 → (∀ a j : Nat, (a = 100 → j < 10 ∨ 22 < j) → a ≠ 110 → m.1 a j = μ.1 a j) → Q m) : PX7_firstDraft 100 μ Q := by
  intro S43 h43 m1 hm1 m2 hm2 m3 hm3 m4 hm4
  have o : ∀ a j : Nat, (a = 100 → j < 10 ∨ 22 < j) → m4.1 a j = μ.1 a j := fun a j z => by
    subst hm4; subst hm3; subst hm2; subst hm1
    by_cases z2 : a = 100
    · have := z z2
      simp (disch := omega) only [ms_1, if_pos z2, if_neg]
    · simp only [ms_1, if_neg z2]
  have v : m4.1 100 10 = nI 0 ∧ m4.1 100 12 = nI 0 ∧ m4.1 100 16 = nI 0 ∧ m4.1 100 17 = nI 127 ∧ m4.1 100 18 = nI 0 ∧ m4.1 100 20 = 0 ∧ m4.1 100 21 = 0 ∧ m4.1 100 22 = nI 0 := by
    subst hm4; subst hm3; subst hm2; subst hm1
    refine ⟨rfl, rfl, rfl, rfl, rfl, rfl, rfl, rfl⟩
  obtain ⟨v1, v2, v3, v4, v5, v6, v7, v8⟩ := v
  have lp : ∀ i m, i ≤ 7 → ((∀ a j : Nat, a ≠ 110 → m.1 a j = m4.1 a j) ∧ (∀ w : Nat, w < i → m.1 110 w = nI 0)) → S43 (nI i) m := by
    refine up_loop ?_ ?_
    · intro i m hi ⟨b1, b2⟩ ih
      apply h43
      unfold nX7_firstDraft_43
      rw [nI_clamp (by omega), nI_1]
      refine ⟨fun d => absurd d (nI_ge (b := 7) hi (by omega)), fun _ => ⟨vp_in_nI (by omega) (by omega), ih _ ⟨fun a j z => ?_, fun w hw => ?_⟩⟩⟩
      · rw [ms_1, if_neg (by omega)]; exact b1 a j z
      · rw [ms_1, if_pos rfl]
        by_cases z : w = i
        · rw [if_pos z]; rfl
        · rw [if_neg z]; exact b2 w (by omega)
    · intro m ⟨b1, b2⟩
      apply h43
      unfold nX7_firstDraft_43
      exact ⟨fun _ => h m ⟨(b1 _ _ (by decide)).trans v1, (b1 _ _ (by decide)).trans v2, (b1 _ _ (by decide)).trans v3, (b1 _ _ (by decide)).trans v4, (b1 _ _ (by decide)).trans v5, fun t ht => absurd ht (Nat.not_lt_zero _), fun s hs => absurd hs (Nat.not_lt_zero _), fun i hi => absurd hi (Nat.not_lt_zero _), b2⟩ ((b1 _ _ (by decide)).trans v6) ((b1 _ _ (by decide)).trans v7) ((b1 _ _ (by decide)).trans v8) (fun a j z1 z2 => (b1 a j z2).trans (o a j z1)), fun d => absurd (by decide) d⟩
  exact lp 0 m4 (by omega) ⟨fun _ _ _ => rfl, fun w hw => absurd hw (Nat.not_lt_zero _)⟩
theorem r_keepDraft {μ : Mem} {ρ : RA} {Q : Mem → Prop} (hD : MD μ ρ) (h6 : ρ 0 0 ≤ 6) (h9 : ρ 0 4 ≤ 8) (hth : ∀ s : Nat, s < ρ 0 4 → thgM ρ s = thgN ρ s) (h : ∀ m : Mem, MR m ρ → KM m 280 newK → m.1 115 0 = 0 → m.1 115 1 = 0 → m.1 100 37 = nI 0 → (∀ a j : Nat, (a = 100 → 8 < j ∧ j ≠ 37) → (a < 101 ∨ 105 < a) → (a = 114 → j < 280 ∨ 320 ≤ j) → a ≠ 115 → m.1 a j = μ.1 a j) → Q m) : PX7_keepDraft 100 μ Q := by
  obtain ⟨d1, d2, d3, d4, d5, d6, d7, d8, d9⟩ := hD
  intro S42 S68 S94 S132 S158 h42 h68 h94 h132 h158 m1 hm1 m2 hm2
  have c42 : ∀ m0 : Mem, (∀ m : Mem, (∀ a j : Nat, a ≠ 101 → m.1 a j = m0.1 a j) → (∀ j : Nat, j < 18 → m.1 101 j = m0.1 106 j) → S68 0 m) → S42 0 m0 := by
    intro m0 nx
    have lp : ∀ i m, i ≤ 18 → ((∀ a j : Nat, a ≠ 101 → m.1 a j = m0.1 a j) ∧ (∀ j : Nat, j < i → m.1 101 j = m0.1 106 j)) → S42 (nI i) m := by
      refine up_loop ?_ ?_
      · intro i m hi ⟨b1, b2⟩ ih
        apply h42
        unfold nX7_keepDraft_42
        rw [nI_clamp (by omega), nI_1]
        refine ⟨fun d => absurd d (nI_ge (b := 18) hi (by omega)), fun _ => ⟨vp_in_nI (by omega) (by omega), vp_in_nI (by omega) (by omega), ih _ ⟨fun a j z => ?_, fun w hw => ?_⟩⟩⟩
        · rw [ms_1, if_neg (by omega)]; exact b1 a j z
        · rw [ms_1, if_pos rfl]
          by_cases z : w = i
          · rw [if_pos z, z]; exact b1 106 i (by decide)
          · rw [if_neg z]; exact b2 w (by omega)
      · intro m ⟨b1, b2⟩
        apply h42
        unfold nX7_keepDraft_42
        exact ⟨fun _ => nx m b1 b2, fun d => absurd (by decide) d⟩
    exact lp 0 m0 (by omega) ⟨fun _ _ _ => rfl, fun w hw => absurd hw (Nat.not_lt_zero _)⟩
  have c68 : ∀ m0 : Mem, (∀ m : Mem, (∀ a j : Nat, a ≠ 102 → m.1 a j = m0.1 a j) → (∀ j : Nat, j < 45 → m.1 102 j = m0.1 107 j) → S94 0 m) → S68 0 m0 := by
    intro m0 nx
    have lp : ∀ i m, i ≤ 45 → ((∀ a j : Nat, a ≠ 102 → m.1 a j = m0.1 a j) ∧ (∀ j : Nat, j < i → m.1 102 j = m0.1 107 j)) → S68 (nI i) m := by
      refine up_loop ?_ ?_
      · intro i m hi ⟨b1, b2⟩ ih
        apply h68
        unfold nX7_keepDraft_68
        rw [nI_clamp (by omega), nI_1]
        refine ⟨fun d => absurd d (nI_ge (b := 45) hi (by omega)), fun _ => ⟨vp_in_nI (by omega) (by omega), vp_in_nI (by omega) (by omega), ih _ ⟨fun a j z => ?_, fun w hw => ?_⟩⟩⟩
        · rw [ms_1, if_neg (by omega)]; exact b1 a j z
        · rw [ms_1, if_pos rfl]
          by_cases z : w = i
          · rw [if_pos z, z]; exact b1 107 i (by decide)
          · rw [if_neg z]; exact b2 w (by omega)
      · intro m ⟨b1, b2⟩
        apply h68
        unfold nX7_keepDraft_68
        exact ⟨fun _ => nx m b1 b2, fun d => absurd (by decide) d⟩
    exact lp 0 m0 (by omega) ⟨fun _ _ _ => rfl, fun w hw => absurd hw (Nat.not_lt_zero _)⟩
  have c94 : ∀ m0 : Mem, (∀ m : Mem, (∀ a j : Nat, a ≠ 103 → a ≠ 104 → m.1 a j = m0.1 a j) → (∀ j : Nat, j < 54 → m.1 103 j = m0.1 108 j ∧ m.1 104 j = m0.1 109 j) → S132 0 m) → S94 0 m0 := by
    intro m0 nx
    have lp : ∀ i m, i ≤ 54 → ((∀ a j : Nat, a ≠ 103 → a ≠ 104 → m.1 a j = m0.1 a j) ∧ (∀ j : Nat, j < i → m.1 103 j = m0.1 108 j ∧ m.1 104 j = m0.1 109 j)) → S94 (nI i) m := by
      refine up_loop ?_ ?_
      · intro i m hi ⟨b1, b2⟩ ih
        apply h94
        unfold nX7_keepDraft_94
        rw [nI_clamp (by omega), nI_1]
        refine ⟨fun d => absurd d (nI_ge (b := 54) hi (by omega)), fun _ => ⟨vp_in_nI (by omega) (by omega), vp_in_nI (by omega) (by omega), vp_in_nI (by omega) (by omega), vp_in_nI (by omega) (by omega), fun m6 hm6 => ih _ ⟨fun a j z1 z2 => ?_, fun w hw => ?_⟩⟩⟩
        · rw [hm6, ms_1, if_neg (by omega), ms_1, if_neg (by omega)]; exact b1 a j z1 z2
        · have e1 : m6.1 103 w = if w = i then m.1 108 i else m.1 103 w := by
            rw [hm6, ms_1, if_neg (by decide), ms_1, if_pos rfl]
          have e2 : m6.1 104 w = if w = i then m.1 109 i else m.1 104 w := by
            rw [hm6, ms_1, if_pos rfl, ms_1, if_neg (show ¬ (100 + 9 : Nat) = 100 + 3 by decide), ms_1, if_neg (show ¬ (104 : Nat) = 100 + 3 by decide)]
          rw [e1, e2]
          by_cases z : w = i
          · rw [if_pos z, if_pos z, z]; exact ⟨b1 108 i (by decide) (by decide), b1 109 i (by decide) (by decide)⟩
          · rw [if_neg z, if_neg z]; exact b2 w (by omega)
      · intro m ⟨b1, b2⟩
        apply h94
        unfold nX7_keepDraft_94
        exact ⟨fun _ => nx m b1 b2, fun d => absurd (by decide) d⟩
    exact lp 0 m0 (by omega) ⟨fun _ _ _ _ => rfl, fun w hw => absurd hw (Nat.not_lt_zero _)⟩
  have c132 : ∀ m0 : Mem, (∀ m : Mem, (∀ a j : Nat, a ≠ 105 → m.1 a j = m0.1 a j) → (∀ j : Nat, j < 7 → m.1 105 j = m0.1 110 j) → S158 0 m) → S132 0 m0 := by
    intro m0 nx
    have lp : ∀ i m, i ≤ 7 → ((∀ a j : Nat, a ≠ 105 → m.1 a j = m0.1 a j) ∧ (∀ j : Nat, j < i → m.1 105 j = m0.1 110 j)) → S132 (nI i) m := by
      refine up_loop ?_ ?_
      · intro i m hi ⟨b1, b2⟩ ih
        apply h132
        unfold nX7_keepDraft_132
        rw [nI_clamp (by omega), nI_1]
        refine ⟨fun d => absurd d (nI_ge (b := 7) hi (by omega)), fun _ => ⟨vp_in_nI (by omega) (by omega), vp_in_nI (by omega) (by omega), ih _ ⟨fun a j z => ?_, fun w hw => ?_⟩⟩⟩
        · rw [ms_1, if_neg (by omega)]; exact b1 a j z
        · rw [ms_1, if_pos rfl]
          by_cases z : w = i
          · rw [if_pos z, z]; exact b1 110 i (by decide)
          · rw [if_neg z]; exact b2 w (by omega)
      · intro m ⟨b1, b2⟩
        apply h132
        unfold nX7_keepDraft_132
        exact ⟨fun _ => nx m b1 b2, fun d => absurd (by decide) d⟩
    exact lp 0 m0 (by omega) ⟨fun _ _ _ => rfl, fun w hw => absurd hw (Nat.not_lt_zero _)⟩
  have c158 : ∀ m0 : Mem, (∀ m : Mem, KM m 280 newK → m.1 115 0 = 0 → m.1 115 1 = 0 → m.1 100 37 = nI 0 → (∀ a j : Nat, (a = 100 → j ≠ 37) → (a = 114 → j < 280 ∨ 320 ≤ j) → a ≠ 115 → m.1 a j = m0.1 a j) → Q m) → S158 0 m0 := by
    intro m0 nx
    have lp : ∀ i m, i ≤ 36 → ((∀ a j : Nat, (a = 114 → j < 280 ∨ 320 ≤ j) → m.1 a j = m0.1 a j) ∧ (∀ j : Nat, j < i → m.1 114 (280 + j) = if 24 ≤ j ∧ j ≤ 32 then -4 else 0)) → S158 (nI i) m := by
      refine up_loop ?_ ?_
      · intro i m hi ⟨b1, b2⟩ ih
        apply h158
        unfold nX7_keepDraft_158 nX7_keepDraft_193
        have go : ∀ v : Int32, v = (if 24 ≤ i ∧ i ≤ 32 then -4 else 0) → vp_in ((280 : Int32) + nI i) 400 ∧ S158 (nI i + 1) (ms m (100 + 14) ((280 : Int32) + nI i).toNatClampNeg v) := by
          intro v hv
          rw [show (280 : Int32) + nI i = nI (280 + i) from nI_add 280 i, nI_clamp (by omega), nI_1]
          refine ⟨vp_in_nI (by omega) (by omega), ih _ ⟨fun a j z => ?_, fun w hw => ?_⟩⟩
          · rw [ms_1]
            by_cases y : a = 100 + 14
            · have := z (by omega)
              rw [if_pos y, if_neg (by omega)]; exact b1 a j z
            · rw [if_neg y]; exact b1 a j z
          · rw [ms_1, if_pos rfl]
            by_cases z : w = i
            · rw [z, if_pos rfl]; exact hv
            · rw [if_neg (by omega)]; exact b2 w (by omega)
        refine ⟨fun d => absurd d (nI_ge (b := 36) hi (by omega)), fun _ => ?_⟩
        refine r_in (fun z1 z2 => ⟨fun d => absurd d np1, fun _ => go _ ?_⟩) (fun z => ⟨fun _ => go _ ?_, fun d => absurd rfl d⟩)
        · rw [nI_toInt (by omega), show (24 : Int64).toInt = 24 by decide] at z1
          rw [nI_toInt (by omega), show (32 : Int64).toInt = 32 by decide] at z2
          rw [if_pos (by omega)]
        · rw [nI_toInt (by omega), show (24 : Int64).toInt = 24 by decide, show (32 : Int64).toInt = 32 by decide] at z
          rw [if_neg (by omega)]
      · intro m ⟨b1, b2⟩
        apply h158
        unfold nX7_keepDraft_158
        rw [show (316 : Int32).toNatClampNeg = 316 by decide, show (317 : Int32).toNatClampNeg = 317 by decide, show (0 : Int32).toNatClampNeg = 0 by decide, show (1 : Int32).toNatClampNeg = 1 by decide, show vp_nar .boolean (0 : Int32) = 0 by decide]
        refine ⟨fun _ => ⟨vp_in_nI (n := 316) (by omega) (by omega), vp_in_nI (n := 317) (by omega) (by omega), fun m9 hm9 => ⟨vp_in_nI (n := 0) (by omega) (by omega), vp_in_nI (n := 1) (by omega) (by omega), fun m10 hm10 => ?_⟩⟩, fun d => absurd (by decide) d⟩
        have e9 : ∀ j : Nat, m9.1 114 j = if j = 317 then -4 else if j = 316 then 0 else m.1 114 j := fun j => by
          rw [hm9, ms_1, if_pos rfl, ms_1, if_pos rfl]
        have f9 : ∀ a j : Nat, a ≠ 114 → m9.1 a j = m.1 a j := fun a j z => by rw [hm9, ms_1, if_neg (by omega), ms_1, if_neg (by omega)]
        have f10 : ∀ a j : Nat, a ≠ 115 → m10.1 a j = m9.1 a j := fun a j z => by rw [hm10, ms_1, if_neg (by omega), ms_1, if_neg (by omega)]
        have fe : ∀ a j : Nat, (a = 100 → j ≠ 37) → (ms m10 100 37 0).1 a j = m10.1 a j := fun a j z => by
          rw [ms_1]
          by_cases y : a = 100
          · rw [if_pos y, if_neg (z y)]
          · rw [if_neg y]
        have g : ∀ j : Nat, (ms m10 100 37 0).1 114 j = if j = 317 then -4 else if j = 316 then 0 else m.1 114 j := fun j => by rw [fe 114 j (by omega), f10 114 j (by decide), e9]
        refine nx _ ⟨fun i hi => ?_, fun s hs => ?_, ?_, ?_, ?_, ?_, ?_⟩ ?_ ?_ ?_ (fun a j z1 z2 z3 => ?_)
        · rw [g, if_neg (by omega), if_neg (by omega), b2 i (by omega), if_neg (by omega)]; rfl
        · rw [g, if_neg (by omega), if_neg (by omega), Nat.add_assoc, b2 _ (by omega), if_pos (by omega)]; rfl
        · rw [g]; rfl
        · rw [g]; rfl
        · rw [g, if_neg (by omega), if_neg (by omega), b2 33 (by omega)]; rfl
        · rw [g, if_neg (by omega), if_neg (by omega), b2 34 (by omega)]; rfl
        · rw [g, if_neg (by omega), if_neg (by omega), b2 35 (by omega)]; rfl
        · rw [fe 115 0 (by omega), hm10, ms_1, if_pos rfl, if_neg (by decide), ms_1, if_pos rfl, if_pos rfl]
        · rw [fe 115 1 (by omega), hm10, ms_1, if_pos rfl, if_pos rfl]
        · rw [ms_1, if_pos rfl, if_pos rfl]; rfl
        · rw [fe a j z1, f10 a j z3]
          by_cases y : a = 114
          · have := z2 y
            rw [y, e9, if_neg (by omega), if_neg (by omega)]
            exact b1 114 j (by omega)
          · rw [f9 a j y]; exact b1 a j (by omega)
    exact lp 0 m0 (by omega) ⟨fun _ _ _ => rfl, fun w hw => absurd hw (Nat.not_lt_zero _)⟩
  have o : ∀ a j : Nat, (a = 100 → 8 < j) → (ms m2 100 8 (m2.1 100 18)).1 a j = μ.1 a j := fun a j z => by
    subst hm2; subst hm1
    by_cases z2 : a = 100
    · have := z z2
      simp (disch := omega) only [ms_1, if_pos z2, if_neg]
    · simp only [ms_1, if_neg z2]
  have v : (ms m2 100 8 (m2.1 100 18)).1 100 0 = μ.1 100 10 ∧ (ms m2 100 8 (m2.1 100 18)).1 100 2 = μ.1 100 12 ∧ (ms m2 100 8 (m2.1 100 18)).1 100 6 = μ.1 100 16 ∧ (ms m2 100 8 (m2.1 100 18)).1 100 7 = μ.1 100 17 ∧ (ms m2 100 8 (m2.1 100 18)).1 100 8 = μ.1 100 18 := by
    subst hm2; subst hm1
    exact ⟨rfl, rfl, rfl, rfl, rfl⟩
  obtain ⟨v1, v2, v3, v4, v5⟩ := v
  refine c42 _ (fun n1 p1 q1 => c68 _ (fun n2 p2 q2 => c94 _ (fun n3 p3 q3 => c132 _ (fun n4 p4 q4 => c158 _ (fun n5 k1 k2 k3 k4 k5 => ?_)))))
  have w : ∀ a j : Nat, (a = 100 → j ≠ 37) → (a < 101 ∨ 105 < a) → (a = 114 → j < 280 ∨ 320 ≤ j) → a ≠ 115 → n5.1 a j = (ms m2 100 8 (m2.1 100 18)).1 a j := fun a j z1 z2 z3 z4 => by
    rw [k5 a j z1 z3 z4, p4 a j (by omega), p3 a j (by omega) (by omega), p2 a j (by omega), p1 a j (by omega)]
  have x1 : ∀ j : Nat, j < 18 → n5.1 101 j = μ.1 106 j := fun j hj => by
    rw [k5 101 j (by omega) (by omega) (by decide), p4 101 j (by decide), p3 101 j (by decide) (by decide), p2 101 j (by decide), q1 j hj, o 106 j (by omega)]
  have x2 : ∀ j : Nat, j < 45 → n5.1 102 j = μ.1 107 j := fun j hj => by
    rw [k5 102 j (by omega) (by omega) (by decide), p4 102 j (by decide), p3 102 j (by decide) (by decide), q2 j hj, p1 107 j (by decide), o 107 j (by omega)]
  have x3 : ∀ j : Nat, j < 54 → n5.1 103 j = μ.1 108 j ∧ n5.1 104 j = μ.1 109 j := fun j hj => by
    rw [k5 103 j (by omega) (by omega) (by decide), p4 103 j (by decide), (q3 j hj).1, k5 104 j (by omega) (by omega) (by decide), p4 104 j (by decide), (q3 j hj).2, p2 108 j (by decide), p1 108 j (by decide), o 108 j (by omega), p2 109 j (by decide), p1 109 j (by decide), o 109 j (by omega)]
    exact ⟨rfl, rfl⟩
  have x5 : ∀ j : Nat, j < 7 → n5.1 105 j = μ.1 110 j := fun j hj => by
    rw [k5 105 j (by omega) (by omega) (by decide), q4 j hj, p3 110 j (by decide) (by decide), p2 110 j (by decide), p1 110 j (by decide), o 110 j (by omega)]
  refine h n5 ⟨?_, ?_, ?_, ?_, ?_, fun t ht => ?_, fun s hs => ?_, fun i hi => ?_, fun w hw => (x5 w hw).trans (d9 w hw)⟩ k1 k2 k3 k4 (fun a j z1 z2 z3 z4 => (w a j (fun y => (z1 y).2) z2 z3 z4).trans (o a j (fun y => (z1 y).1)))
  · rw [w 100 0 (by omega) (by omega) (by omega) (by omega), v1, d1]
  · rw [w 100 2 (by omega) (by omega) (by omega) (by omega), v2, d2]
  · rw [w 100 6 (by omega) (by omega) (by omega) (by omega), v3, d3]
  · rw [w 100 7 (by omega) (by omega) (by omega) (by omega), v4, d4]
  · rw [w 100 8 (by omega) (by omega) (by omega) (by omega), v5, d5]
  · rw [x1 _ (by omega), x1 _ (by omega), x1 _ (by omega)]; exact d6 t ht
  · rw [x2 _ (by omega), x2 _ (by omega), x2 _ (by omega), x2 _ (by omega), x2 _ (by omega), ← hth s hs]; exact d7 s hs
  · obtain ⟨e1, e2⟩ := x3 i (by omega)
    rw [e1, e2]; exact d8 i hi
