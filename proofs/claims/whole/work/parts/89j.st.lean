-- text
theorem st_text : St_text Inv := by
  intro k μ hk hI
  obtain ⟨ρ, κ, im, g, R, rl, tl, tp, ln, sz, h1, h2, h3, h4, ⟨t1, t2, t3, t4⟩, h6, h7⟩ := id hI
  have hT : TC μ tl tp := ⟨t1, t3, fun i hi => ⟨(t4 i hi).1, (t4 i hi).2.2⟩⟩
  have hR : TR μ tl tp := ⟨t2, t3, fun i hi => ⟨(t4 i hi).1, (t4 i hi).2.1⟩⟩
  refine c_text (R := (Nat × Nat) ⊕ (RA × Nat)) (E := fun c f => Sum.inl (c, f)) (K := fun ρ n => Sum.inr (ρ, n)) (G := fun r => r = fLines tl tp (fun c f => Sum.inl (c, f)) (fun ρ n => Sum.inr (ρ, n)) 401 rho0 [] 0 0 0 0) hT rfl (fun c f c1 c2 f1 ge m v3 v25 fr => ?_) (fun ρ' U n p L li ge m cr kc g0 g1 v3 v8 v25 fr => ?_)
  · have hR' : TR m tl tp := ⟨(fr _ _ (by omega) (by omega)).trans hR.1, hR.2.1, fun i hi => ⟨(hR.2.2 i hi).1, (fr _ _ (by omega) (by omega)).trans (hR.2.2 i hi).2⟩⟩
    refine r_text (R := (Nat × Nat) ⊕ (RA × Nat)) (E := fun c f => Sum.inl (c, f)) (K := fun ρ n => Sum.inr (ρ, n)) (G := fun r => r = fLines tl tp (fun c f => Sum.inl (c, f)) (fun ρ n => Sum.inr (ρ, n)) 401 rho0 [] 0 0 0 0) hR' rfl (fun c' f' c1' c2' f1' ge' m2 w31 w26 fr2 => ?_) (fun ρ' U n p L li ge' m2 _ _ _ _ _ _ _ _ => ?_)
    · have e : (Sum.inl (c, f) : (Nat × Nat) ⊕ (RA × Nat)) = Sum.inl (c', f') := ge.trans ge'.symm
      have e2 := Sum.inl.inj e
      have ec : c = c' := congrArg Prod.fst e2
      have ef : f = f' := congrArg Prod.snd e2
      have w : ∀ a j : Nat, (a = 0 → j ≠ 3) → (a = 100 → j < 10 ∨ 32 < j) → (a < 25 ∨ (39 < a ∧ a < 106) ∨ 112 < a ∨ a = 26) → m2.1 a j = μ.1 a j := fun a j z1 z2 z3 => by
        rw [fr2 a j z2 (by omega)]
        exact fr a j z1 (by omega)
      refine ⟨by rw [ef], ρ, κ, im, g, R, rl, 0, tp, ln, sz, IRules_fr h1 (fun a j q => w a j (by omega) (by omega) (by omega)), IKit_fr h2 (fun a j q => w a j (by omega) (by omega) (by omega)), IImg_fr h3 (fun a j q => w a j (by omega) (by omega) (by omega)), IRow_fr h4 (fun a j q => w a j (by omega) (by omega) (by omega)), ⟨?_, w26, by omega, fun i hi => absurd hi (Nat.not_lt_zero _)⟩, ISheet_fr h6 (fun a j q => w a j (by omega) (by omega) (by omega)), ⟨?_, ?_, h7.2.2⟩⟩
      · rw [fr2 25 1 (by omega) (by omega)]; exact v25
      · rw [fr2 0 3 (by omega) (by omega), v3, w31, ec]
      · rw [w 0 12 (by omega) (by omega) (by omega), w 100 55 (by omega) (by omega) (by omega)]; exact h7.2.1
    · exact absurd (ge.trans ge'.symm) (by simp)
  · have hR' : TR m tl tp := ⟨(fr _ _ (by omega) (by omega)).trans hR.1, hR.2.1, fun i hi => ⟨(hR.2.2 i hi).1, (fr _ _ (by omega) (by omega)).trans (hR.2.2 i hi).2⟩⟩
    refine r_text (R := (Nat × Nat) ⊕ (RA × Nat)) (E := fun c f => Sum.inl (c, f)) (K := fun ρ n => Sum.inr (ρ, n)) (G := fun r => r = fLines tl tp (fun c f => Sum.inl (c, f)) (fun ρ n => Sum.inr (ρ, n)) 401 rho0 [] 0 0 0 0) hR' rfl (fun c' f' c1' c2' f1' ge' m2 _ _ _ => ?_) (fun ρ2 U2 n2 p2 L2 li2 ge' m2 mr km x0 x1 w37 w31 w26 fr2 => ?_)
    · exact absurd (ge.trans ge'.symm) (by simp)
    · have e : (Sum.inr (ρ', n) : (Nat × Nat) ⊕ (RA × Nat)) = Sum.inr (ρ2, n2) := ge.trans ge'.symm
      have e2 := Sum.inr.inj e
      have er : ρ' = ρ2 := congrArg Prod.fst e2
      have en : n = n2 := congrArg Prod.snd e2
      have f2 : ∀ a j : Nat, a < 100 → m2.1 a j = m.1 a j := fun a j z => fr2 a j (by omega) (by omega) (by omega) (by omega)
      have w : ∀ a j : Nat, (a = 0 → j ≠ 3 ∧ j ≠ 8) → (a = 100 → 37 < j) → (a = 0 ∨ a = 26 ∨ (42 < a ∧ a < 101 ∧ a ≠ 53) ∨ 115 < a) → m2.1 a j = μ.1 a j := fun a j z1 z2 z3 => by
        rw [fr2 a j z2 (by omega) (by omega) (by omega)]
        exact fr a j z1 (by omega)
      refine ⟨by rw [en], ρ', newK, fun _ => newK, fun _ => 0, fun _ => none, 0, 0, tp, ln, sz, ⟨CR_of cr (fun a j z1 z2 => f2 a j (by omega)), by rw [er]; exact mr, li.1, li.2.1, li.2.2.1⟩, ⟨KC_of kc (fun a j z1 z2 => f2 a j (by omega)), km, KW_0 _ _⟩, fun i hi => ⟨?_, ?_, Nat.zero_le _, fun z => absurd z (show ¬ (0 : Nat) = 1 by decide)⟩, ⟨?_, w37, by omega, fun i hi => absurd hi (Nat.not_lt_zero _), fun i s hi => absurd hi (Nat.not_lt_zero _)⟩, ⟨?_, w26, by omega, fun i hi => absurd hi (Nat.not_lt_zero _)⟩, ISheet_fr h6 (fun a j q => w a j (by omega) (by omega) (by omega)), ⟨?_, ?_, fun s d hd => absurd hd no_some, fun i hi z => absurd z (show ¬ (0 : Nat) = 1 by decide)⟩⟩
      · rw [f2 53 i (by omega)]
        rcases (show i = 0 ∨ i = 1 by omega) with rfl | rfl
        · exact g0
        · exact g1
      · rcases (show i = 0 ∨ i = 1 by omega) with rfl | rfl
        · exact x0
        · exact x1
      · rw [f2 0 8 (by omega)]; exact v8
      · rw [f2 25 1 (by omega)]; exact v25
      · rw [f2 0 3 (by omega), v3, w31]
      · rw [w 0 12 (by omega) (by omega) (by omega), w 100 55 (by omega) (by omega) (by omega)]; exact h7.2.1
