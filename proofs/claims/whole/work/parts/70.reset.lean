def rho0 : RA := fun f i => if f = 0 ∧ i = 13 then 127 else 0
theorem c_resetSupper {μ : Mem} {b i : Nat} {Q : Mem → Prop} (hi : i < 9) (h : ∀ m : Mem, (∀ c : Nat, 4 ≤ c → c ≤ 8 → ∀ s : Nat, m.1 (b + c) s = if s = i then nI 0 else μ.1 (b + c) s) → (∀ c : Nat, c = 9 ∨ c = 10 → ∀ x : Nat, m.1 (b + c) x = if 6 * i ≤ x ∧ x < 6 * i + 6 then nI 0 else μ.1 (b + c) x) → FI (b + 4) (b + 11) μ m → Q m) : PX2_resetSupper b (nI i) μ Q := by
  intro S37 h37
  refine ⟨vp_in_nI (by omega) (by omega), vp_in_nI (by omega) (by omega), fun m1 hm1 => ⟨vp_in_nI (by omega) (by omega), vp_in_nI (by omega) (by omega), fun m2 hm2 => ⟨vp_in_nI (by omega) (by omega), ?_⟩⟩⟩
  rw [nI_clamp (n := i) (by omega)] at *
  have f1 : FI (b + 4) (b + 11) μ m1 := by rw [hm1]; exact FI_trans (FI_ms (by omega) (by omega)) (FI_ms (by omega) (by omega))
  have f2 : FI (b + 4) (b + 11) m1 m2 := by rw [hm2]; exact FI_trans (FI_ms (by omega) (by omega)) (FI_ms (by omega) (by omega))
  have f3 : FI (b + 4) (b + 11) μ (ms m2 (b + 8) i 0) := FI_trans (FI_trans f1 f2) (FI_ms (by omega) (by omega))
  have g1 : ∀ c : Nat, 4 ≤ c → c ≤ 8 → ∀ s : Nat, (ms m2 (b + 8) i 0).1 (b + c) s = if s = i then nI 0 else μ.1 (b + c) s := by
    intro c c1 c2 s
    subst hm2; subst hm1
    rcases (show c = 4 ∨ c = 5 ∨ c = 6 ∨ c = 7 ∨ c = 8 by omega) with rfl | rfl | rfl | rfl | rfl <;> simp (disch := omega) only [ms_1, ite_true, ite_false, if_neg, if_pos] <;> rfl
  have g2 : ∀ c : Nat, c = 9 ∨ c = 10 → ∀ x : Nat, (ms m2 (b + 8) i 0).1 (b + c) x = μ.1 (b + c) x := by
    intro c c1 x
    subst hm2; subst hm1
    rcases c1 with rfl | rfl <;> simp (disch := omega) only [ms_1, if_neg]
  have lp : ∀ t m, t ≤ 6 → ((∀ c : Nat, 4 ≤ c → c ≤ 8 → ∀ s : Nat, m.1 (b + c) s = if s = i then nI 0 else μ.1 (b + c) s) ∧ (∀ c : Nat, c = 9 ∨ c = 10 → ∀ x : Nat, m.1 (b + c) x = if 6 * i ≤ x ∧ x < 6 * i + t then nI 0 else μ.1 (b + c) x) ∧ FI (b + 4) (b + 11) μ m) → S37 (nI t) m := by
    refine up_loop ?_ ?_
    · intro t m ht ⟨b1, b2, b3⟩ ih
      apply h37
      unfold nX2_resetSupper_37
      rw [show nI i * (6 : Int32) = nI (6 * i) by rw [show nI i * (6 : Int32) = nI (i * 6) from pk_mul i 6, Nat.mul_comm i 6], nI_add, nI_clamp (by omega), nI_1]
      refine ⟨fun d => absurd d (nI_ge (b := 6) ht (by omega)), fun _ => ⟨vp_in_nI (by omega) (by omega), vp_in_nI (by omega) (by omega), fun m4 hm4 => ih _ ⟨fun c c1 c2 s => ?_, fun c c1 x => ?_, ?_⟩⟩⟩
      · subst hm4
        simp (disch := omega) only [ms_1, if_neg]
        exact b1 c c1 c2 s
      · have := b2 c c1 x
        subst hm4
        rcases c1 with rfl | rfl <;> simp (disch := omega) only [ms_1, ite_true, if_neg] <;> rw [this] <;> by_cases z : x = 6 * i + t
        · rw [if_pos z, if_pos (by omega)]; rfl
        · rw [if_neg z]
          by_cases z2 : 6 * i ≤ x ∧ x < 6 * i + t
          · rw [if_pos z2, if_pos (by omega)]
          · rw [if_neg z2, if_neg (by omega)]
        · rw [if_pos z, if_pos (by omega)]; rfl
        · rw [if_neg z]
          by_cases z2 : 6 * i ≤ x ∧ x < 6 * i + t
          · rw [if_pos z2, if_pos (by omega)]
          · rw [if_neg z2, if_neg (by omega)]
      · subst hm4
        exact FI_trans b3 (FI_trans (FI_ms (by omega) (by omega)) (FI_ms (by omega) (by omega)))
    · intro m ⟨b1, b2, b3⟩
      apply h37
      unfold nX2_resetSupper_37
      exact ⟨fun _ => h m b1 b2 b3, fun d => absurd (by decide) d⟩
  exact lp 0 _ (by omega) ⟨g1, fun c c1 x => by rw [if_neg (by omega)]; exact g2 c c1 x, f3⟩
theorem c_rreset {μ : Mem} {b : Nat} {Q : Mem → Prop} (h : ∀ m : Mem, CR m b rho0 → FI b (b + 12) μ m → Q m) : PX2_reset b μ Q := by
  intro S12 S47 h12 h47 m1 hm1
  have f1 : FI b (b + 12) μ m1 := by rw [hm1]; exact FI_trans (FI_ms (by omega) (by omega)) (FI_ms (by omega) (by omega))
  have l2 : ∀ i m, i ≤ 7 → (m.1 b 0 = nI 0 ∧ m.1 b 4 = nI 0 ∧ m.1 b 12 = nI 0 ∧ m.1 b 13 = nI 127 ∧ m.1 b 14 = nI 0 ∧ (∀ c : Nat, 4 ≤ c → c ≤ 8 → ∀ s : Nat, s < 9 → m.1 (b + c) s = nI 0) ∧ (∀ c : Nat, c = 9 ∨ c = 10 → ∀ x : Nat, x < 54 → m.1 (b + c) x = nI 0) ∧ (∀ w : Nat, w < i → m.1 (b + 11) w = nI 0) ∧ FI b (b + 12) μ m) → S47 (nI i) m := by
    refine up_loop ?_ ?_
    · intro i m hi ⟨b1, b2, b3, b4, b5, b6, b7, b8, b9⟩ ih
      apply h47
      unfold nX2_reset_47
      rw [nI_clamp (by omega), nI_1]
      have o : ∀ a j : Nat, a ≠ b + 11 → (ms m (b + 11) i 0).1 a j = m.1 a j := fun a j z => by rw [ms_1, if_neg z]
      refine ⟨fun d => absurd d (nI_ge (b := 7) hi (by omega)), fun _ => ⟨vp_in_nI (by omega) (by omega), ih _ ⟨(o _ _ (by omega)).trans b1, (o _ _ (by omega)).trans b2, (o _ _ (by omega)).trans b3, (o _ _ (by omega)).trans b4, (o _ _ (by omega)).trans b5, fun c c1 c2 s hs => (o _ _ (by omega)).trans (b6 c c1 c2 s hs), fun c c1 x hx => (o _ _ (by omega)).trans (b7 c c1 x hx), fun w hw => ?_, FI_trans b9 (FI_ms (by omega) (by omega))⟩⟩⟩
      rw [ms_1, if_pos rfl]
      by_cases z : w = i
      · rw [if_pos z]; rfl
      · rw [if_neg z]; exact b8 w (by omega)
    · intro m ⟨b1, b2, b3, b4, b5, b6, b7, b8, b9⟩
      apply h47
      unfold nX2_reset_47
      refine ⟨fun _ => h m ⟨b1, b2, b3, b4, b5, fun t ht => absurd ht (Nat.not_lt_zero _), fun s hs => ⟨b6 4 (by omega) (by omega) s hs, b6 5 (by omega) (by omega) s hs, b6 6 (by omega) (by omega) s hs, b6 7 (by omega) (by omega) s hs, b6 8 (by omega) (by omega) s hs⟩, fun i hi => ⟨b7 9 (by omega) i hi, b7 10 (by omega) i hi⟩, b8⟩ b9, fun d => absurd (by decide) d⟩
  have l1 : ∀ i m, i ≤ 9 → (m.1 b 0 = nI 0 ∧ m.1 b 4 = nI 0 ∧ (∀ c : Nat, 4 ≤ c → c ≤ 8 → ∀ s : Nat, s < i → m.1 (b + c) s = nI 0) ∧ (∀ c : Nat, c = 9 ∨ c = 10 → ∀ x : Nat, x < 6 * i → m.1 (b + c) x = nI 0) ∧ FI b (b + 12) μ m) → S12 (nI i) m := by
    refine up_loop ?_ ?_
    · intro i m hi ⟨b1, b2, b3, b4, b5⟩ ih
      apply h12
      unfold nX2_reset_12
      refine ⟨fun d => absurd d (nI_nlt (a := 8) (by omega) (by omega)), fun _ => ?_⟩
      refine c_resetSupper hi (fun m4 g1 g2 g3 => ?_)
      rw [nI_1]
      refine ih _ ⟨(g3.1 b (by omega) 0).trans b1, (g3.1 b (by omega) 4).trans b2, fun c c1 c2 s hs => ?_, fun c c1 x hx => ?_, FI_trans b5 (FI_mono g3 (by omega) (by omega))⟩
      · rw [g1 c c1 c2]
        by_cases z : s = i
        · rw [if_pos z]
        · rw [if_neg z]; exact b3 c c1 c2 s (by omega)
      · rw [g2 c c1]
        by_cases z : 6 * i ≤ x ∧ x < 6 * i + 6
        · rw [if_pos z]
        · rw [if_neg z]; exact b4 c c1 x (by omega)
    · intro m ⟨b1, b2, b3, b4, b5⟩
      apply h12
      unfold nX2_reset_12
      refine ⟨fun _ m3 hm3 => ?_, fun d => absurd (by decide) d⟩
      have o : ∀ a j : Nat, (a = b → j ≠ 12 ∧ j ≠ 13 ∧ j ≠ 14) → (ms m3 b 14 0).1 a j = m.1 a j := fun a j z => by
        subst hm3
        by_cases z2 : a = b
        · have := z z2
          simp (disch := omega) only [ms_1, if_pos z2, if_neg]
        · simp only [ms_1, if_neg z2]
      refine l2 0 _ (by omega) ⟨(o _ _ (fun _ => by omega)).trans b1, (o _ _ (fun _ => by omega)).trans b2, ?_, ?_, ?_, fun c c1 c2 s hs => (o _ _ (by omega)).trans (b3 c c1 c2 s hs), fun c c1 x hx => (o _ _ (by omega)).trans (b4 c c1 x (by omega)), fun w hw => absurd hw (Nat.not_lt_zero _), FI_trans b5 (by subst hm3; exact FI_trans (FI_trans (FI_ms (by omega) (by omega)) (FI_ms (by omega) (by omega))) (FI_ms (by omega) (by omega)))⟩
      · rw [ms_1, if_pos rfl, if_neg (by decide), hm3, ms_1, if_pos rfl, if_neg (by decide), ms_1, if_pos rfl, if_pos rfl]; rfl
      · rw [ms_1, if_pos rfl, if_neg (by decide), hm3, ms_1, if_pos rfl, if_pos rfl]; rfl
      · rw [ms_1, if_pos rfl, if_pos rfl]; rfl
  refine l1 0 m1 (by omega) ⟨?_, ?_, fun c _ _ s hs => absurd hs (Nat.not_lt_zero _), fun c _ x hx => absurd hx (by omega), f1⟩
  · rw [hm1, ms_1, if_pos rfl, if_neg (by omega), ms_1, if_pos rfl, if_pos rfl]; rfl
  · rw [hm1, ms_1, if_pos rfl, if_pos rfl]; rfl
