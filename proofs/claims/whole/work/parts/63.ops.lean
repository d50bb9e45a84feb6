theorem st_surest : St_surest Inv := by
  intro k μ p1 p2 hk hI
  obtain ⟨ρ, κ, im, g, R, rl, tl, tp, ln, sz, ⟨hC, hM, hw, hx, h8⟩, ⟨kc, km, kw⟩, h3, ⟨r1, r2, r3, r4, r5⟩, h5, h6, h7⟩ := id hI
  have hs := Inv_s hI
  by_cases c : 1 ≤ p1.toInt ∧ p1.toInt ≤ 3
  · obtain ⟨n, n1, rfl, n2⟩ := i_of (x := p1) (by omega)
    rw [nI_toInt n1] at c
    have hlen := rowsN_len (κ := κ) hw (show n ≤ 5 by omega)
    have p2n := p2_le (n := n) (by omega)
    have brb : ∀ P : Nat → Option Nat, brN ρ κ P n ≤ 128 * 16384 := fun P => Nat.le_trans (br_le (κ := κ) (R := P) (n := n) (m := 2 ^ n) hw (by omega)) (Nat.mul_le_mul_right _ p2n)
    have core : (p2 = 0 ∨ p2 = 1 ∨ (∃ i : Nat, i < n ∧ p2 = nI (10 + i))) → nX6_surest_29 0 (nI n) p2 (fun r1 m1 => PX7_surest 100 (nI n) p2 m1 (fun r2 m2 => r1 = r2 ∧ Inv (k + 1) m2)) μ := by
      intro hv
      unfold nX6_surest_29
      refine c_look (w := 1) (ρ := ρ) (κ := κ) hC (by omega) hw kc kw (by omega) (by omega) (by omega) (by omega) (by omega) (fun m f a => ?_)
      obtain ⟨a1, _, _, _, a2⟩ := a
      have a2 := a2 rfl
      have hM' := MR_of hM (m := m) (fun a j q => f a j (by omega))
      have km' := KM_of km (m := m) (fun j _ => f 114 _ (by omega))
      have l' : m.1 100 37 = nI rl := (f _ _ (by omega)).trans r2
      have ref : ∀ r : Int32, (sureL ρ κ n (rowsN ρ κ n) = none → r = -4) → (∀ P : Nat → Option Nat, sureL ρ κ n (rowsN ρ κ n) = some P → (p2 = 0 → r = nI (brN ρ κ P n / Nat.gcd (brN ρ κ P n) (2 ^ (2 * n)))) ∧ (p2 = 1 → r = nI (2 ^ (2 * n) / Nat.gcd (brN ρ κ P n) (2 ^ (2 * n)))) ∧ (∀ i : Nat, i < n → p2 = nI (10 + i) → r = oI (P i))) → PX7_surest 100 (nI n) p2 m (fun r2 m2 => r = r2 ∧ Inv (k + 1) m2) := by
        intro r hr0 hr1 S44 S84 S95 S141 S178 h44 h84 h95 h141 h178
        have go : nX7_surest_36 100 (nI n) p2 (fun r2 m2 => r = r2 ∧ Inv (k + 1) m2) S44 S84 S95 S141 S178 m := by
          refine r_surest (l := rl) (κ := κ) (ρ := ρ) h44 h84 h95 h141 h178 hM' hw km' kw (by omega) (by omega) (by omega) (by omega) l' hv (fun m2 b1 b2 => ?_)
          have inv : Inv (k + 1) m2 := Inv_fr hI (fun a j q => by
            unfold cellI at q
            by_cases c118 : a = 118
            · subst c118
              rw [b2 j (by omega)]; exact f 118 j (by omega)
            · rw [b1 a j (by omega) (by omega) c118 (by omega) (by omega) (by omega) (fun _ => by omega) (fun _ => by omega), f a j (by omega)])
          exact ⟨fun e => ⟨hr0 e, inv⟩, fun P e => ⟨fun q => ⟨(hr1 P e).1 q, inv⟩, fun q => ⟨(hr1 P e).2.1 q, inv⟩, fun i hi q => ⟨(hr1 P e).2.2 i hi q, inv⟩⟩⟩
        refine r_areDays_y (most := 3) (by omega) (by omega) (by omega) ⟨fun d => absurd d np1, fun _ => ?_⟩
        rcases hv with rfl | rfl | ⟨i, hi, rfl⟩
        · exact r_in_y (x := 0) (a := 0) (b := 1) (by omega) (by omega) (by decide) (by decide) ⟨fun _ => go, fun d => absurd d np1⟩
        · exact r_in_y (x := 1) (a := 0) (b := 1) (by omega) (by omega) (by decide) (by decide) ⟨fun _ => go, fun d => absurd d np1⟩
        · refine r_in_n (a := 0) (b := 1) (by omega) (by omega) (by rw [nI_toInt (by omega)]; omega) ⟨fun d => absurd rfl d, fun _ => ?_⟩
          refine r_place (by omega) (fun _ _ _ => ⟨fun _ => go, fun d => absurd d np1⟩) (fun z => absurd (show 10 ≤ (nI (10 + i)).toInt ∧ (nI (10 + i)).toInt < 10 + n by rw [nI_toInt (by omega)]; omega) z)
      have e3 : m.1 (0 + 60) 3 = nI (rowsN ρ κ n).length := a1
      rw [e3, len0 hlen]
      refine ⟨fun cl => ?_, fun cl => ?_⟩
      · obtain ⟨T, eb⟩ := sureL_some (ρ := ρ) (κ := κ) (n := n) (L := rowsN ρ κ n) (fun z => cl (List.eq_nil_of_length_eq_zero z))
        rw [eb] at a2
        obtain ⟨y1, y2⟩ := a2
        have bT := brb T
        have y1' : m.1 (0 + 60) 13 = nI (brN ρ κ T n) := y1
        rw [y1']
        have refs : ∀ r : Int32, (p2 = 0 → r = nI (brN ρ κ T n / Nat.gcd (brN ρ κ T n) (2 ^ (2 * n)))) → (p2 = 1 → r = nI (2 ^ (2 * n) / Nat.gcd (brN ρ κ T n) (2 ^ (2 * n)))) → (∀ i : Nat, i < n → p2 = nI (10 + i) → r = oI (T i)) → PX7_surest 100 (nI n) p2 m (fun r2 m2 => r = r2 ∧ Inv (k + 1) m2) := by
          intro r q0 q1 q4
          refine ref r (fun e => by rw [eb] at e; cases e) (fun P e => ?_)
          rw [eb] at e
          cases e
          exact ⟨q0, q1, q4⟩
        refine ⟨fun d => ?_, fun d => ?_⟩
        · rcases hv with rfl | rfl | ⟨i, hi, e'⟩
          · exact absurd d (by decide)
          · exact absurd d (by decide)
          · have e10 : p2 - (10 : Int32) = nI i := by rw [e', show (10 : Int32) = nI 10 from rfl, pk_sub (by omega), Nat.add_sub_cancel_left]
            have y6' : m.1 (0 + 60 + 34) i = oI (T i) := y2 i hi
            rw [e10, nI_clamp (by omega), y6']
            refine ⟨vp_in_nI (by omega) (by omega), refs _ (fun b => absurd ((nI_eq (a := 10 + i) (b := 0) (by omega) (by omega)).1 (e'.symm.trans b)) (by omega)) (fun b => absurd ((nI_eq (a := 10 + i) (b := 1) (by omega) (by omega)).1 (e'.symm.trans b)) (by omega)) (fun i' hi' b => ?_)⟩
            have := (nI_eq (by omega) (by omega)).1 (e'.symm.trans b)
            rw [show i' = i by omega]
        · refine c_lowestTerms (by omega) (by omega) (fun e => refs _ (fun _ => rfl) (fun b => absurd (e.symm.trans b) (by decide)) (fun i' hi' b => absurd ((nI_eq (a := 0) (b := 10 + i') (by omega) (by omega)).1 (e.symm.trans b)) (by omega))) (fun e => refs _ (fun b => absurd b e) (fun _ => rfl) (fun i' hi' b => ?_))
          rw [b] at d
          exact absurd (show (1 : Int32) < nI (10 + i') from nI_lt (a := 1) (by omega) (by omega)) d
      · refine ref _ (fun _ => rfl) (fun P e => ?_)
        rw [cl] at e
        cases e
    have bad : ¬ p2 = 0 → ¬ p2 = 1 → ¬ (10 ≤ p2.toInt ∧ p2.toInt < 10 + n) → PX7_surest 100 (nI n) p2 μ (fun r2 m2 => (-1 : Int32) = r2 ∧ Inv (k + 1) m2) := by
      intro z0 z1 z2 S44 S84 S95 S141 S178 h44 h84 h95 h141 h178
      refine r_areDays_y (most := 3) (by omega) (by omega) (by omega) ⟨fun d => absurd d np1, fun _ => ?_⟩
      refine r_in_n (a := 0) (b := 1) (by omega) (by omega) ?_ ⟨fun d => absurd rfl d, fun _ => ?_⟩
      · rcases sw (x := p2) (n := 1) (by omega) with ⟨j, hj, e⟩ | ho
        · rcases (show j = 0 ∨ j = 1 by omega) with rfl | rfl
          · exact absurd e z0
          · exact absurd e z1
        · exact ho
      · exact r_place (by omega) (fun i hi e => absurd (show 10 ≤ p2.toInt ∧ p2.toInt < 10 + n by rw [e, nI_toInt (by omega)]; omega) z2) (fun _ => ⟨fun d => absurd rfl d, fun _ => ⟨rfl, hs⟩⟩)
    unfold PX6_surest
    refine ⟨fun d => absurd d (nI_nlt (b := 1) (by omega) (by omega)), fun _ => ⟨fun d => absurd d (nI_nlt (a := 3) (by omega) (by omega)), fun _ => ⟨fun d => core (Or.inl d), fun d => ⟨fun d2 => core (Or.inr (Or.inl d2)), fun d2 => ?_⟩⟩⟩⟩
    exact c_isPlace (by omega) (fun i hi e => ⟨fun _ => core (Or.inr (Or.inr ⟨i, hi, e⟩)), fun y => absurd y np1⟩) (fun z2 => ⟨fun y => absurd rfl y, fun _ => bad d d2 z2⟩)
  · have out : PX7_surest 100 p1 p2 μ (fun r2 m2 => (-1 : Int32) = r2 ∧ Inv (k + 1) m2) := by
      intro S44 S84 S95 S141 S178 h44 h84 h95 h141 h178
      exact r_areDays_n (most := 3) (by omega) (by omega) ⟨fun _ => ⟨rfl, hs⟩, fun d => absurd rfl d⟩
    unfold PX6_surest
    rw [ilt' 1 1 rfl (by omega), igt' 3 3 rfl (by omega)]
    exact ⟨fun _ => out, fun d => ⟨fun _ => out, fun e => absurd (show 1 ≤ p1.toInt ∧ p1.toInt ≤ 3 by omega) c⟩⟩
theorem st_closes : St_closes Inv := by
  intro k μ p1 p2 hk hI
  obtain ⟨ρ, κ, im, g, R, rl, tl, tp, ln, sz, ⟨hC, hM, hw, hx, h8⟩, ⟨kc, km, kw⟩, h3, h4, h5, h6, h7⟩ := id hI
  have hs := Inv_s hI
  by_cases c : 1 ≤ p1.toInt ∧ p1.toInt ≤ 5
  · obtain ⟨n, n1, rfl, n2⟩ := i_of (x := p1) (by omega)
    rw [nI_toInt n1] at c
    have hlen := rowsN_len (κ := κ) hw (show n ≤ 5 by omega)
    have hcl := closL_len (ρ := ρ) (κ := κ) (n := n) (L := rowsN ρ κ n)
    have core : ((∃ j : Nat, j ≤ 2 ∧ p2 = nI j) ∨ (∃ i : Nat, i < n ∧ p2 = nI (10 + i))) → nX6_closes_39 0 (nI n) p2 (fun r1 m1 => PX7_closes 100 (nI n) p2 m1 (fun r2 m2 => r1 = r2 ∧ Inv (k + 1) m2)) μ := by
      intro hv
      unfold nX6_closes_39
      refine c_look (w := 0) (ρ := ρ) (κ := κ) hC (by omega) hw kc kw (by omega) (by omega) (by omega) (by omega) (by omega) (fun m f a => ?_)
      obtain ⟨_, _, _, ⟨a1, a2, a3⟩, _⟩ := a
      have hM' := MR_of hM (m := m) (fun a j q => f a j (by omega))
      have km' := KM_of km (m := m) (fun j _ => f 114 _ (by omega))
      have c4 : m.1 (0 + 1) 4 = nI (ρ 0 4) := (f 1 4 (by omega)).trans hC.2.1
      have ref : ∀ r : Int32, (∀ m2 : Mem, m2.1 100 50 = nI (closL ρ κ n (rowsN ρ κ n)).length → m2.1 100 51 = bitsL n (closL ρ κ n (rowsN ρ κ n)) → m2.1 100 2 = nI (ρ 0 4) → (∀ P : Nat → Option Nat, (closL ρ κ n (rowsN ρ κ n)).head? = some P → ∀ i : Nat, i < n → m2.1 120 i = oI (P i)) → (¬ p2 = 0 → (¬ p2 = ((1 : Int32)) → (¬ p2 = ((2 : Int32)) → (¬ (m2.1 100 50) = 0 → vp_in (p2 - ((10 : Int32))) 7 ∧ r = m2.1 (100 + 20) (p2 - ((10 : Int32))).toNatClampNeg) ∧ ((m2.1 100 50) = 0 → r = (-4 : Int32))) ∧ (p2 = ((2 : Int32)) → r = ((((1 : Int32)) <<< ((m2.1 100 2) &&& 31)) - ((1 : Int32))) &&& ((m2.1 100 51) ^^^ ((-1 : Int32))))) ∧ (p2 = ((1 : Int32)) → r = m2.1 100 51)) ∧ (p2 = 0 → r = m2.1 100 50)) → PX7_closes 100 (nI n) p2 m (fun r2 m2 => r = r2 ∧ Inv (k + 1) m2) := by
        intro r hr
        have go : nX7_closes_38 100 (nI n) p2 (fun r2 m2 => r = r2 ∧ Inv (k + 1) m2) m := by
          unfold nX7_closes_38
          refine r_findClosing (κ := κ) (ρ := ρ) hM' hw km' kw (by omega) (by omega) (by omega) (by omega) (fun m2 b => ?_)
          obtain ⟨b1, b2, b3, b4⟩ := b
          have inv := Inv_search hI f b1
          have e2 : m2.1 100 2 = nI (ρ 0 4) := (b1 100 2 (by decide) (by decide) (by decide) (by decide) (by decide) (by decide)).trans hM'.2.1
          obtain ⟨q1, q2⟩ := hr m2 b2 b3 e2 b4
          exact ⟨fun d => ⟨fun d2 => ⟨fun d3 => ⟨fun d4 => ⟨((((q1 d).1 d2).1 d3).1 d4).1, ((((q1 d).1 d2).1 d3).1 d4).2, inv⟩, fun d4 => ⟨(((q1 d).1 d2).1 d3).2 d4, inv⟩⟩, fun d3 => ⟨((q1 d).1 d2).2 d3, inv⟩⟩, fun d2 => ⟨(q1 d).2 d2, inv⟩⟩, fun d => ⟨q2 d, inv⟩⟩
        unfold PX7_closes
        refine r_areDays_y (most := 5) (by omega) (by omega) (by omega) ⟨fun d => absurd d np1, fun _ => ?_⟩
        rcases hv with ⟨j, hj, rfl⟩ | ⟨i, hi, rfl⟩
        · exact r_in_y (a := 0) (b := 2) (by omega) (by omega) (by rw [nI_toInt (by omega)]; omega) (by rw [nI_toInt (by omega)]; omega) ⟨fun _ => go, fun d => absurd d np1⟩
        · refine r_in_n (a := 0) (b := 2) (by omega) (by omega) (by rw [nI_toInt (by omega)]; omega) ⟨fun d => absurd rfl d, fun _ => ?_⟩
          refine r_place (by omega) (fun _ _ _ => ⟨fun _ => go, fun d => absurd d np1⟩) (fun z => absurd (show 10 ≤ (nI (10 + i)).toInt ∧ (nI (10 + i)).toInt < 10 + n by rw [nI_toInt (by omega)]; omega) z)
      have e15 : m.1 (0 + 60) 15 = nI (closL ρ κ n (rowsN ρ κ n)).length := a1
      have e16 : m.1 (0 + 60) 16 = bitsL n (closL ρ κ n (rowsN ρ κ n)) := a2
      have bad : ∀ {j i : Nat} {P : Prop}, p2 = nI j → p2 = nI i → j < 100 → i < 100 → i ≠ j → P := fun a b h1 h2 h3 => absurd ((nI_eq (by omega) (by omega)).1 (b.symm.trans a)) h3
      rw [e15, e16, c4]
      refine ⟨fun e => ref _ (fun m2 b1 _ _ _ => ⟨fun d => absurd e d, fun _ => b1.symm⟩), fun e => ref _ (fun m2 _ b2 _ _ => ⟨fun _ => ⟨fun d => absurd e d, fun _ => b2.symm⟩, fun d => bad (j := 1) (i := 0) e d (by omega) (by omega) (by omega)⟩), fun e => ref _ (fun m2 _ b2 b3 _ => ⟨fun _ => ⟨fun _ => ⟨fun d => absurd e d, fun _ => by rw [b2, b3]⟩, fun d => bad (j := 2) (i := 1) e d (by omega) (by omega) (by omega)⟩, fun d => bad (j := 2) (i := 0) e d (by omega) (by omega) (by omega)⟩), fun e => ?_⟩
      rcases hv with ⟨j, hj, rfl⟩ | ⟨i, hi, e'⟩
      · rw [nI_toInt (by omega)] at e; omega
      · have e10 : p2 - (10 : Int32) = nI i := by rw [e', show (10 : Int32) = nI 10 from rfl, pk_sub (by omega), Nat.add_sub_cancel_left]
        have np : ∀ j : Nat, j ≤ 2 → ¬ p2 = nI j := fun j hj b => bad (j := 10 + i) (i := j) e' b (by omega) (by omega) (by omega)
        have hl0 : (nI (closL ρ κ n (rowsN ρ κ n)).length = 0) ↔ closL ρ κ n (rowsN ρ κ n) = [] := len0 (by omega)
        rw [hl0, e10, nI_clamp (by omega)]
        refine ⟨fun cl => ?_, fun cl => ?_⟩
        · cases hL : closL ρ κ n (rowsN ρ κ n) with
          | nil => exact absurd hL cl
          | cons T Ls =>
            rw [hL] at a3
            have y6' : m.1 (0 + 60 + 35) i = oI (T i) := a3 T rfl i hi
            rw [y6']
            refine ⟨vp_in_nI (by omega) (by omega), ref _ (fun m2 b1 _ _ b4 => ⟨fun _ => ⟨fun _ => ⟨fun _ => ⟨fun _ => ?_, fun d => ?_⟩, fun d => absurd d (np 2 (by omega))⟩, fun d => absurd d (np 1 (by omega))⟩, fun d => absurd d (np 0 (by omega))⟩)⟩
            · rw [hL] at b4
              have y7' : m2.1 (100 + 20) i = oI (T i) := b4 T rfl i hi
              rw [e10, nI_clamp (by omega), y7']
              exact ⟨vp_in_nI (by omega) (by omega), rfl⟩
            · rw [b1] at d
              exact absurd (hl0.1 d) cl
        · refine ref _ (fun m2 b1 _ _ _ => ⟨fun _ => ⟨fun _ => ⟨fun _ => ⟨fun d => ?_, fun _ => rfl⟩, fun d => absurd d (np 2 (by omega))⟩, fun d => absurd d (np 1 (by omega))⟩, fun d => absurd d (np 0 (by omega))⟩)
          rw [b1] at d
          exact absurd (hl0.2 cl) d
    have bad : ¬ (0 ≤ p2.toInt ∧ p2.toInt ≤ 2) → ¬ (10 ≤ p2.toInt ∧ p2.toInt < 10 + n) → PX7_closes 100 (nI n) p2 μ (fun r2 m2 => (-1 : Int32) = r2 ∧ Inv (k + 1) m2) := by
      intro z1 z2
      unfold PX7_closes
      refine r_areDays_y (most := 5) (by omega) (by omega) (by omega) ⟨fun d => absurd d np1, fun _ => ?_⟩
      refine r_in_n (a := 0) (b := 2) (by omega) (by omega) (by omega) ⟨fun d => absurd rfl d, fun _ => ?_⟩
      exact r_place (by omega) (fun i hi e => absurd (show 10 ≤ p2.toInt ∧ p2.toInt < 10 + n by rw [e, nI_toInt (by omega)]; omega) z2) (fun _ => ⟨fun d => absurd rfl d, fun _ => ⟨rfl, hs⟩⟩)
    have n14 : ∀ w : Int32, ((w = 1 ∧ 0 ≤ p2.toInt ∧ p2.toInt ≤ 2) ∨ (w = 0 ∧ ¬ (0 ≤ p2.toInt ∧ p2.toInt ≤ 2))) → nX6_closes_14 0 (nI n) p2 (fun r1 m1 => PX7_closes 100 (nI n) p2 m1 (fun r2 m2 => r1 = r2 ∧ Inv (k + 1) m2)) w μ := by
      intro w hw'
      unfold nX6_closes_14
      refine ⟨fun d => absurd d (nI_nlt (b := 1) (by omega) (by omega)), fun _ => ⟨fun d => absurd d (nI_nlt (a := 5) (by omega) (by omega)), fun _ => ⟨fun d => ?_, fun d => ?_⟩⟩⟩
      · rcases hw' with ⟨_, z1, z2⟩ | ⟨z, _⟩
        · obtain ⟨j, j1, e, j2⟩ := i_of (x := p2) (by omega)
          exact core (Or.inl ⟨j, by omega, e⟩)
        · exact absurd z d
      · rcases hw' with ⟨z, _⟩ | ⟨_, z⟩
        · rw [z] at d; exact absurd d np1
        · exact c_isPlace (by omega) (fun i hi e => ⟨fun _ => core (Or.inr ⟨i, hi, e⟩), fun y => absurd y np1⟩) (fun z2 => ⟨fun y => absurd rfl y, fun _ => bad z z2⟩)
    unfold PX6_closes nX6_closes_13
    rw [ilt' 0 0 rfl (by omega), igt' 2 2 rfl (by omega)]
    exact ⟨fun d => n14 0 (Or.inr ⟨rfl, by omega⟩), fun d => ⟨fun e => n14 0 (Or.inr ⟨rfl, by omega⟩), fun e => n14 1 (Or.inl ⟨rfl, by omega, by omega⟩)⟩⟩
  · have out : PX7_closes 100 p1 p2 μ (fun r2 m2 => (-1 : Int32) = r2 ∧ Inv (k + 1) m2) := by
      unfold PX7_closes
      exact r_areDays_n (most := 5) (by omega) (by omega) ⟨fun _ => ⟨rfl, hs⟩, fun d => absurd rfl d⟩
    have n14 : ∀ w : Int32, nX6_closes_14 0 p1 p2 (fun r1 m1 => PX7_closes 100 p1 p2 m1 (fun r2 m2 => r1 = r2 ∧ Inv (k + 1) m2)) w μ := by
      intro w
      unfold nX6_closes_14
      rw [ilt' 1 1 rfl (by omega), igt' 5 5 rfl (by omega)]
      exact ⟨fun _ => out, fun d => ⟨fun _ => out, fun e => absurd (show 1 ≤ p1.toInt ∧ p1.toInt ≤ 5 by omega) c⟩⟩
    unfold PX6_closes nX6_closes_13
    exact ⟨fun _ => n14 0, fun _ => ⟨fun _ => n14 0, fun _ => n14 1⟩⟩
/-- the fewest days, from n on -/
noncomputable def shortF (ρ : RA) (κ : KA) : Nat → Nat → Int32
  | 0, _ => -4
  | f + 1, n => if (closL ρ κ n (rowsN ρ κ n)).length = 0 then shortF ρ κ f (n + 1) else nI n
theorem FSr_refl {m : Mem} : FSr m m := fun _ _ _ _ _ _ _ _ => rfl
theorem FSr_trans {m m1 m2 : Mem} (h : FSr m m1) (h2 : FSr m1 m2) : FSr m m2 := fun a j q1 q2 q3 q4 q5 q6 => (h2 a j q1 q2 q3 q4 q5 q6).trans (h a j q1 q2 q3 q4 q5 q6)
theorem st_shortest : St_shortest Inv := by
  intro k μ hk hI
  obtain ⟨ρ, κ, im, g, R, rl, tl, tp, ln, sz, ⟨hC, hM, hw, hx, h8⟩, ⟨kc, km, kw⟩, h3, h4, h5, h6, h7⟩ := id hI
  have hcl : ∀ n : Nat, n ≤ 5 → (closL ρ κ n (rowsN ρ κ n)).length ≤ 60000 := fun n hn => Nat.le_trans closL_len (rowsN_len (κ := κ) hw hn)
  intro S hS
  have cl : ∀ f n : Nat, n + f = 6 → 1 ≤ n → ∀ m : Mem, FJ 60 96 μ m → (∀ m' : Mem, FJ 60 96 μ m' → PX7_shortest 100 m' (fun r2 m2 => shortF ρ κ f n = r2 ∧ Inv (k + 1) m2)) → S (nI n) m := by
    intro f
    induction f with
    | zero =>
      intro n hn _ m hf hnx
      have : n = 6 := by omega
      subst this
      apply hS
      unfold nX6_shortest_2
      exact ⟨fun _ => hnx m hf, fun c => absurd (by decide) c⟩
    | succ f ih =>
      intro n hn h1 m hf hnx
      have hC' := CR_of hC (m := m) (fun a j _ _ => hf a j (by omega))
      have kc' := KC_of kc (m := m) (fun a j _ _ => hf a j (by omega))
      apply hS
      unfold nX6_shortest_2
      refine ⟨fun c => absurd c (nI_nlt (a := 5) (by omega) (by omega)), fun _ => ?_⟩
      refine c_look (w := 0) (ρ := ρ) (κ := κ) hC' (by omega) hw kc' kw (by omega) (by omega) (by omega) (by omega) (by omega) (fun m2 f2 a => ?_)
      obtain ⟨_, _, _, ⟨a1, _, _⟩, _⟩ := a
      have a1' : m2.1 (0 + 60) 15 = nI (closL ρ κ n (rowsN ρ κ n)).length := a1
      have hb := hcl n (by omega)
      have es : shortF ρ κ (f + 1) n = if (closL ρ κ n (rowsN ρ κ n)).length = 0 then shortF ρ κ f (n + 1) else nI n := rfl
      rw [a1', show (0 : Int32) = nI 0 from rfl, nI_leI (by omega) (by omega), nI_1]
      refine ⟨fun c => ?_, fun c => ?_⟩
      · rw [es, if_pos (by omega)] at hnx
        exact ih (n + 1) (by omega) (by omega) m2 (FJ_trans hf f2) hnx
      · rw [es, if_neg (by omega)] at hnx
        exact hnx m2 (FJ_trans hf f2)
  refine cl 5 1 rfl (by omega) μ (fun _ _ _ => rfl) (fun m f => ?_)
  intro S2 hS2
  have rl' : ∀ f' n : Nat, n + f' = 6 → 1 ≤ n → shortF ρ κ f' n = shortF ρ κ 5 1 → ∀ m2 : Mem, FSr m m2 → S2 (nI n) m2 := by
    intro f'
    induction f' with
    | zero =>
      intro n hn _ he m2 f2
      have : n = 6 := by omega
      subst this
      apply hS2
      unfold nX7_shortest_2
      exact ⟨fun _ => ⟨he.symm, Inv_search hI f f2⟩, fun c => absurd (by decide) c⟩
    | succ f' ih =>
      intro n hn h1 he m2 f2
      have hM' := MR_of hM (m := m2) (fun a j q => (f2 a j (by omega) (by omega) (by omega) (by omega) (fun _ => by omega) (fun _ => by omega)).trans (f a j (by omega)))
      have km' := KM_of km (m := m2) (fun j _ => (f2 114 _ (by omega) (by omega) (by omega) (by omega) (by simp) (fun _ => by omega)).trans (f 114 _ (by omega)))
      apply hS2
      unfold nX7_shortest_2
      refine ⟨fun c => absurd c (nI_ge (b := 6) (by omega) (by omega)), fun _ => ?_⟩
      refine r_findClosing (κ := κ) (ρ := ρ) hM' hw km' kw (by omega) (by omega) (by omega) (by omega) (fun m3 b => ?_)
      obtain ⟨b1, b2, _, _⟩ := b
      have hb := hcl n (by omega)
      have es : shortF ρ κ (f' + 1) n = if (closL ρ κ n (rowsN ρ κ n)).length = 0 then shortF ρ κ f' (n + 1) else nI n := rfl
      rw [b2, show (0 : Int32) = nI 0 from rfl, nI_leI (by omega) (by omega), nI_1]
      refine ⟨fun c => ?_, fun c => ?_⟩
      · rw [es, if_pos (by omega)] at he
        exact ih (n + 1) (by omega) (by omega) he m3 (FSr_trans f2 b1)
      · rw [es, if_neg (by omega)] at he
        exact ⟨he.symm, Inv_search hI f (FSr_trans f2 b1)⟩
  exact rl' 5 1 rfl (by omega) rfl m FSr_refl
