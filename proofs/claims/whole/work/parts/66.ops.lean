theorem st_sheet : St_sheet Inv := by
  intro k μ p1 p2 p3 hk hI
  obtain ⟨ρ, κ, im, g, R, rl, tl, tp, ln, sz, h1, h2, h3, h4, h5, ⟨s1, s2⟩, h7⟩ := id hI
  have hs := Inv_s hI
  unfold PX6_sheet
  by_cases c : (0 ≤ p1.toInt ∧ p1.toInt < 4) ∧ (0 ≤ p2.toInt ∧ p2.toInt < 3)
  · obtain ⟨q, q1, rfl, q2⟩ := i_of (x := p1) (by omega)
    obtain ⟨l, l1, rfl, l2⟩ := i_of (x := p2) (by omega)
    rw [nI_toInt q1, nI_toInt l1] at c
    have ent : ∀ (m : Mem) (S : Int32 → Mem → Prop) (Q : Int32 → Mem → Prop), ((p3 ≤ ((40 : Int32)) → (0 ≤ p3 → vp_in (nI q) 4 ∧ (vp_in (nI q) 4 ∧ (∀ m6 : Mem, m6 = ms (ms m (100 + 22) (nI q).toNatClampNeg (nI l)) (100 + 23) (nI q).toNatClampNeg p3 → (S ((0 : Int32)) m6)))) ∧ (¬ 0 ≤ p3 → Q ((-14 : Int32)) m)) ∧ (¬ p3 ≤ ((40 : Int32)) → Q ((-1 : Int32)) m)) → PX7_isSheet (nI q) (nI l) m (fun (r2 : Int32) (m1 : Mem) => (r2 = 0 → Q ((-1 : Int32)) m1) ∧ (¬ r2 = 0 → (p3 ≤ ((40 : Int32)) → (0 ≤ p3 → vp_in (nI q) 4 ∧ (vp_in (nI q) 4 ∧ (∀ m6 : Mem, m6 = ms (ms m1 (100 + 22) (nI q).toNatClampNeg (nI l)) (100 + 23) (nI q).toNatClampNeg p3 → (S ((0 : Int32)) m6)))) ∧ (¬ 0 ≤ p3 → Q ((-14 : Int32)) m1)) ∧ (¬ p3 ≤ ((40 : Int32)) → Q ((-1 : Int32)) m1))) := by
      intro m S Q h
      unfold PX7_isSheet nX7_isSheet_28
      refine r_in_y (a := 0) (b := 3) (by omega) (by omega) (by omega) (by omega) ⟨fun d => absurd d np1, fun _ => ?_⟩
      exact r_in_y (a := 0) (b := 2) (by omega) (by omega) (by omega) (by omega) ⟨fun d => absurd d np1, fun _ => ⟨fun d => absurd d np1, fun _ => h⟩⟩
    refine ⟨fun d => absurd d (nI_pos (by omega)), fun _ => ⟨fun d => absurd d (nI_ge (b := 4) (by omega) (by omega)), fun _ => ⟨fun d => absurd d (nI_pos (by omega)), fun _ => ⟨fun d => absurd d (nI_ge (b := 3) (by omega) (by omega)), fun _ => ?_⟩⟩⟩⟩
    refine ⟨fun d40 => ⟨fun d0 => ?_, fun d0 => ?_⟩, fun d40 => ?_⟩
    · have d40' := (ile' 40 40 rfl (by omega)).1 d40
      have d0' := (ige' (x := p3) 0 0 rfl (by omega)).1 d0
      obtain ⟨n, n1, rfl, n2⟩ := i_of (x := p3) (by omega)
      intro S hS
      rw [nI_clamp (n := q) (by omega)]
      refine ⟨vp_in_nI (by omega) (by omega), vp_in_nI (by omega) (by omega), fun m1 hm1 => ?_⟩
      have lp : ∀ i m, i ≤ 40 → ((∀ a j : Nat, a ≠ 99 → m.1 a j = m1.1 a j) ∧ (∀ j : Nat, m.1 99 j = if 40 * q ≤ j ∧ j < 40 * q + i then 0 else m1.1 99 j)) → S (nI i) m := by
        refine up_loop ?_ ?_
        · intro i m hi ⟨b1, b2⟩ ih
          apply hS
          unfold nX4_begin_17
          rw [show nI q * (40 : Int32) + nI i = nI (40 * q + i) by rw [show nI q * (40 : Int32) = nI (q * 40) from pk_mul q 40, nI_add, Nat.mul_comm q 40], nI_clamp (by omega), nI_1]
          refine ⟨fun d => absurd d (nI_ge (b := 40) hi (by omega)), fun _ => ⟨vp_in_nI (by omega) (by omega), ih _ ⟨fun a j z => ?_, fun j => ?_⟩⟩⟩
          · show (ms m 99 (40 * q + i) 0).1 a j = _
            rw [ms_1, if_neg z]; exact b1 a j z
          · show (ms m 99 (40 * q + i) 0).1 99 j = _
            rw [ms_1, if_pos rfl, b2 j]
            by_cases z : j = 40 * q + i
            · rw [if_pos z, if_pos (show 40 * q ≤ j ∧ j < 40 * q + (i + 1) by omega)]
            · rw [if_neg z]
              by_cases z2 : 40 * q ≤ j ∧ j < 40 * q + i
              · rw [if_pos z2, if_pos (show 40 * q ≤ j ∧ j < 40 * q + (i + 1) by omega)]
              · rw [if_neg z2, if_neg (show ¬ (40 * q ≤ j ∧ j < 40 * q + (i + 1)) by omega)]
        · intro m ⟨b1, b2⟩
          apply hS
          unfold nX4_begin_17
          refine ⟨fun _ => ?_, fun d => absurd (by decide) d⟩
          intro S2 hS2
          refine ent m S2 (fun r2 m2 => (1 : Int32) = r2 ∧ Inv (k + 1) m2) ⟨fun _ => ⟨fun _ => ?_, fun d => absurd d0 d⟩, fun d => absurd d40 d⟩
          rw [nI_clamp (n := q) (by omega)]
          refine ⟨vp_in_nI (by omega) (by omega), vp_in_nI (by omega) (by omega), fun m6 hm6 => ?_⟩
          have lp2 : ∀ i m2, i ≤ 40 → ((∀ a j : Nat, a ≠ 124 → m2.1 a j = m6.1 a j) ∧ (∀ j : Nat, m2.1 124 j = if 40 * q ≤ j ∧ j < 40 * q + i then 0 else m6.1 124 j)) → S2 (nI i) m2 := by
            refine up_loop ?_ ?_
            · intro i m2 hi ⟨c1, c2⟩ ih
              apply hS2
              unfold nX7_sheet_40
              rw [show (40 : Int32) * nI q + nI i = nI (40 * q + i) by rw [show (40 : Int32) * nI q = nI (40 * q) from pk_mul 40 q, nI_add], nI_clamp (by omega), nI_1]
              refine ⟨fun d => absurd d (nI_ge (b := 40) hi (by omega)), fun _ => ⟨vp_in_nI (by omega) (by omega), ih _ ⟨fun a j z => ?_, fun j => ?_⟩⟩⟩
              · show (ms m2 124 (40 * q + i) 0).1 a j = _
                rw [ms_1, if_neg z]; exact c1 a j z
              · show (ms m2 124 (40 * q + i) 0).1 124 j = _
                rw [ms_1, if_pos rfl, c2 j]
                by_cases z : j = 40 * q + i
                · rw [if_pos z, if_pos (show 40 * q ≤ j ∧ j < 40 * q + (i + 1) by omega)]
                · rw [if_neg z]
                  by_cases z2 : 40 * q ≤ j ∧ j < 40 * q + i
                  · rw [if_pos z2, if_pos (show 40 * q ≤ j ∧ j < 40 * q + (i + 1) by omega)]
                  · rw [if_neg z2, if_neg (show ¬ (40 * q ≤ j ∧ j < 40 * q + (i + 1)) by omega)]
            · intro m2 ⟨c1, c2⟩
              apply hS2
              unfold nX7_sheet_40
              refine ⟨fun _ => ⟨rfl, ?_⟩, fun d => absurd (by decide) d⟩
              have e1 : ∀ a j : Nat, a ≠ 97 → a ≠ 98 → m1.1 a j = μ.1 a j := fun a j z1 z2 => by rw [hm1, ms_1, if_neg (by omega), ms_1, if_neg (by omega)]
              have e6 : ∀ a j : Nat, a ≠ 122 → a ≠ 123 → m6.1 a j = m.1 a j := fun a j z1 z2 => by rw [hm6, ms_1, if_neg (by omega), ms_1, if_neg (by omega)]
              have ff : ∀ a j : Nat, a ≠ 97 → a ≠ 98 → a ≠ 99 → a ≠ 122 → a ≠ 123 → a ≠ 124 → m2.1 a j = μ.1 a j := fun a j z1 z2 z3 z4 z5 z6 => by
                rw [c1 a j z6, e6 a j z4 z5, b1 a j z3, e1 a j z1 z2]
              have x97 : ∀ j : Nat, m2.1 97 j = if j = q then nI l else μ.1 97 j := fun j => by
                rw [c1 97 j (by decide), e6 97 j (by decide) (by decide), b1 97 j (by decide), hm1, ms_1, if_neg (by decide)]
                show (ms μ 97 q (nI l)).1 97 j = _
                rw [ms_1, if_pos rfl]
              have x98 : ∀ j : Nat, m2.1 98 j = if j = q then nI n else μ.1 98 j := fun j => by
                rw [c1 98 j (by decide), e6 98 j (by decide) (by decide), b1 98 j (by decide), hm1]
                show (ms (ms μ (0 + 96 + 1) q (nI l)) 98 q (nI n)).1 98 j = _
                rw [ms_1, if_pos rfl]
                by_cases z : j = q
                · rw [if_pos z, if_pos z]
                · rw [if_neg z, if_neg z, ms_1, if_neg (by decide)]
              have x122 : ∀ j : Nat, m2.1 122 j = if j = q then nI l else μ.1 122 j := fun j => by
                rw [c1 122 j (by decide), hm6, ms_1, if_neg (by decide)]
                show (ms m 122 q (nI l)).1 122 j = _
                rw [ms_1, if_pos rfl]
                by_cases z : j = q
                · rw [if_pos z, if_pos z]
                · rw [if_neg z, if_neg z, b1 122 j (by decide), e1 122 j (by decide) (by decide)]
              have x123 : ∀ j : Nat, m2.1 123 j = if j = q then nI n else μ.1 123 j := fun j => by
                rw [c1 123 j (by decide), hm6]
                show (ms (ms m (100 + 22) q (nI l)) 123 q (nI n)).1 123 j = _
                rw [ms_1, if_pos rfl]
                by_cases z : j = q
                · rw [if_pos z, if_pos z]
                · rw [if_neg z, if_neg z, ms_1, if_neg (by decide), b1 123 j (by decide), e1 123 j (by decide) (by decide)]
              refine ⟨ρ, κ, im, g, R, rl, tl, tp, fun j => if j = q then some l else ln j, fun j => if j = q then n else sz j, IRules_fr h1 (fun a j z => ff a j (by omega) (by omega) (by omega) (by omega) (by omega) (by omega)), IKit_fr h2 (fun a j z => ff a j (by omega) (by omega) (by omega) (by omega) (by omega) (by omega)), IImg_fr h3 (fun a j z => ff a j (by omega) (by omega) (by omega) (by omega) (by omega) (by omega)), IRow_fr h4 (fun a j z => ff a j (by omega) (by omega) (by omega) (by omega) (by omega) (by omega)), ITape_fr h5 (fun a j z => ff a j (by omega) (by omega) (by omega) (by omega) (by omega) (by omega)), ⟨fun j hj => ?_, fun i hi => ?_⟩, IFlt_fr h7 (fun a j z => ff a j (by omega) (by omega) (by omega) (by omega) (by omega) (by omega))⟩
              · rw [x97, x98, x122, x123]
                show (if j = q then nI l else μ.1 97 j) = oI (if j = q then some l else ln j) ∧ (if j = q then nI l else μ.1 122 j) = oI (if j = q then some l else ln j) ∧ (∀ l' : Nat, (if j = q then some l else ln j) = some l' → l' < 3) ∧ (if j = q then nI n else μ.1 98 j) = nI (if j = q then n else sz j) ∧ (if j = q then nI n else μ.1 123 j) = nI (if j = q then n else sz j) ∧ (if j = q then n else sz j) ≤ 40
                by_cases z : j = q
                · rw [if_pos z, if_pos z, if_pos z, if_pos z, if_pos z, if_pos z]
                  exact ⟨rfl, rfl, fun l' e => by cases e; omega, rfl, rfl, by omega⟩
                · rw [if_neg z, if_neg z, if_neg z, if_neg z, if_neg z, if_neg z]
                  exact s1 j hj
              · rw [c2, c1 99 i (by decide), e6 99 i (by decide) (by decide), e6 124 i (by decide) (by decide), b2, b1 124 i (by decide), e1 99 i (by decide) (by decide), e1 124 i (by decide) (by decide), s2 i hi]
          exact lp2 0 m6 (by omega) ⟨fun _ _ _ => rfl, fun j => by rw [if_neg (by omega)]⟩
      exact lp 0 m1 (by omega) ⟨fun _ _ _ => rfl, fun j => by rw [if_neg (by omega)]⟩
    · intro S2 hS2
      exact ent μ S2 (fun r2 m2 => (-14 : Int32) = r2 ∧ Inv (k + 1) m2) ⟨fun _ => ⟨fun d => absurd d d0, fun _ => ⟨rfl, hs⟩⟩, fun d => absurd d40 d⟩
    · intro S2 hS2
      exact ent μ S2 (fun r2 m2 => (-1 : Int32) = r2 ∧ Inv (k + 1) m2) ⟨fun d => absurd d d40, fun _ => ⟨rfl, hs⟩⟩
  · have out : PX7_sheet 100 p1 p2 p3 μ (fun r2 m2 => (-1 : Int32) = r2 ∧ Inv (k + 1) m2) := by
      intro S2 hS2
      unfold PX7_isSheet nX7_isSheet_28
      by_cases c2 : 0 ≤ p1.toInt ∧ p1.toInt < 4
      · refine r_in_y (a := 0) (b := 3) (by omega) (by omega) (by omega) (by omega) ⟨fun d => absurd d np1, fun _ => ?_⟩
        exact r_in_n (a := 0) (b := 2) (by omega) (by omega) (by omega) ⟨fun _ => ⟨fun _ => ⟨rfl, hs⟩, fun d => absurd rfl d⟩, fun d => absurd rfl d⟩
      · exact r_in_n (a := 0) (b := 3) (by omega) (by omega) (by omega) ⟨fun _ => ⟨fun _ => ⟨rfl, hs⟩, fun d => absurd rfl d⟩, fun d => absurd rfl d⟩
    rw [ilt' (x := p1) 0 0 rfl (by omega), ige' (x := p1) 4 4 rfl (by omega), ilt' (x := p2) 0 0 rfl (by omega), ige' (x := p2) 3 3 rfl (by omega)]
    exact ⟨fun _ => out, fun d1 => ⟨fun _ => out, fun d2 => ⟨fun _ => out, fun d3 => ⟨fun _ => out, fun d4 => absurd (show (0 ≤ p1.toInt ∧ p1.toInt < 4) ∧ (0 ≤ p2.toInt ∧ p2.toInt < 3) by omega) c⟩⟩⟩⟩
theorem st_lay : St_lay Inv := by
  intro k μ p1 p2 p3 hk hI
  obtain ⟨ρ, κ, im, g, R, rl, tl, tp, ln, sz, h1, h2, h3, h4, h5, ⟨s1, s2⟩, h7⟩ := id hI
  have hs := Inv_s hI
  have shY : ∀ (q : Nat) (m : Mem) (Q : Int32 → Mem → Prop), q < 4 → Q 1 m → PX7_isSheet (nI q) 0 m Q := by
    intro q m Q hq h
    unfold PX7_isSheet nX7_isSheet_28
    refine r_in_y (a := 0) (b := 3) (by omega) (by omega) (by rw [nI_toInt (by omega)]; omega) (by rw [nI_toInt (by omega)]; omega) ⟨fun d => absurd d np1, fun _ => ?_⟩
    exact r_in_y (x := 0) (a := 0) (b := 2) (by omega) (by omega) (by decide) (by decide) ⟨fun d => absurd d np1, fun _ => h⟩
  unfold PX6_lay PX7_lay
  by_cases c : 0 ≤ p1.toInt ∧ p1.toInt < 4
  · obtain ⟨q, q1, rfl, q2⟩ := i_of (x := p1) (by omega)
    rw [nI_toInt q1] at c
    obtain ⟨a1, a2, a3, a4, a5, a6⟩ := s1 q (by omega)
    have e1 : μ.1 (0 + 96 + 1) q = oI (ln q) := a1
    have e2 : μ.1 (0 + 96 + 2) q = nI (sz q) := a4
    have r1 : μ.1 (100 + 22) q = oI (ln q) := a2
    have r2 : μ.1 (100 + 23) q = nI (sz q) := a5
    refine ⟨fun d => absurd d (nI_pos (by omega)), fun _ => ⟨fun _ => ?_, fun d => absurd (nI_lt (b := 4) (by omega) (by omega)) d⟩⟩
    unfold PX4_isNothing
    rw [nI_clamp (n := q) (by omega), e1]
    refine ⟨vp_in_nI (by omega) (by omega), fun d => ⟨fun _ => ?_, fun z => absurd rfl z⟩, fun d => ⟨fun z => absurd z np1, fun _ => ?_⟩⟩
    · rw [e2]
      by_cases ci : 0 ≤ p2.toInt ∧ p2.toInt < sz q
      · obtain ⟨i, i1, rfl, i2⟩ := i_of (x := p2) (by omega)
        rw [nI_toInt i1] at ci
        refine ⟨fun z => absurd z (nI_pos (by omega)), fun _ => ⟨vp_in_nI (by omega) (by omega), fun _ => ?_, fun z => absurd (nI_lt (by omega) (by omega)) z⟩⟩
        have ei : nI q * (40 : Int32) + nI i = nI (40 * q + i) := by rw [show nI q * (40 : Int32) = nI (q * 40) from pk_mul q 40, nI_add, Nat.mul_comm q 40]
        have ei2 : (40 : Int32) * nI q + nI i = nI (40 * q + i) := by rw [show (40 : Int32) * nI q = nI (40 * q) from pk_mul 40 q, nI_add]
        have ref : ∀ v : Int32, (oI (ln q) = 0 → v = p3.toInt8.toInt32) → (¬ oI (ln q) = 0 → oI (ln q) = 1 → v = p3.toInt16.toInt32) → (¬ oI (ln q) = 0 → ¬ oI (ln q) = 1 → v = p3) → PX7_isSheet (nI q) ((0 : Int32)) (ms μ (0 + 96 + 3) (40 * q + i) v) (fun (r2 : Int32) (m1 : Mem) => (¬ r2 = 0 → vp_in (nI q) 4 ∧ ((¬ (m1.1 (100 + 22) q) = ((-4 : Int32)) → vp_in (nI q) 4 ∧ (PX7_in (nI i).toInt64 ((0 : Int64)) (((m1.1 (100 + 23) q) - ((1 : Int32))).toInt64) m1 (fun (r6 : Int32) (m5 : Mem) => (¬ r6 = 0 → vp_in (nI q) 4 ∧ ((¬ (m5.1 (100 + 22) q) = 0 → vp_in (nI q) 4 ∧ ((¬ (m5.1 (100 + 22) q) = ((1 : Int32)) → vp_in ((((40 : Int32)) * nI q) + nI i) 160 ∧ ((1 : Int32) = (1 : Int32) ∧ Inv (k + 1) (ms m5 (100 + 24) ((((40 : Int32)) * nI q) + nI i).toNatClampNeg p3))) ∧ ((m5.1 (100 + 22) q) = ((1 : Int32)) → vp_in ((((40 : Int32)) * nI q) + nI i) 160 ∧ ((1 : Int32) = (1 : Int32) ∧ Inv (k + 1) (ms m5 (100 + 24) ((((40 : Int32)) * nI q) + nI i).toNatClampNeg p3.toInt16.toInt32))))) ∧ ((m5.1 (100 + 22) q) = 0 → vp_in ((((40 : Int32)) * nI q) + nI i) 160 ∧ ((1 : Int32) = (1 : Int32) ∧ Inv (k + 1) (ms m5 (100 + 24) ((((40 : Int32)) * nI q) + nI i).toNatClampNeg p3.toInt8.toInt32))))) ∧ (r6 = 0 → ((1 : Int32) = (-12 : Int32) ∧ Inv (k + 1) m5))))) ∧ ((m1.1 (100 + 22) q) = ((-4 : Int32)) → ((1 : Int32) = (-11 : Int32) ∧ Inv (k + 1) m1)))) ∧ (r2 = 0 → ((1 : Int32) = (-1 : Int32) ∧ Inv (k + 1) m1))) := by
          intro v v1 v2 v3
          have r1' : (ms μ (0 + 96 + 3) (40 * q + i) v).1 (100 + 22) q = oI (ln q) := by rw [ms_1, if_neg (by decide)]; exact r1
          have r2' : (ms μ (0 + 96 + 3) (40 * q + i) v).1 (100 + 23) q = nI (sz q) := by rw [ms_1, if_neg (by decide)]; exact r2
          refine shY q _ _ (by omega) ⟨fun _ => ⟨vp_in_nI (by omega) (by omega), ?_⟩, fun z => absurd z np1⟩
          rw [r1', r2', nI_m1, ei2, nI_clamp (by omega)]
          refine ⟨fun _ => ⟨vp_in_nI (by omega) (by omega), ?_⟩, fun z => absurd z d⟩
          refine r_in (fun _ _ => ⟨fun _ => ⟨vp_in_nI (by omega) (by omega), ?_⟩, fun z => absurd z np1⟩) (fun z => ?_)
          · have inv : Inv (k + 1) (ms (ms μ (0 + 96 + 3) (40 * q + i) v) (100 + 24) (40 * q + i) v) := by
              have ff : ∀ a j : Nat, a ≠ 99 → a ≠ 124 → (ms (ms μ (0 + 96 + 3) (40 * q + i) v) (100 + 24) (40 * q + i) v).1 a j = μ.1 a j := fun a j z1 z2 => by rw [ms_1, if_neg (by omega), ms_1, if_neg (by omega)]
              refine ⟨ρ, κ, im, g, R, rl, tl, tp, ln, sz, IRules_fr h1 (fun a j z => ff a j (by omega) (by omega)), IKit_fr h2 (fun a j z => ff a j (by omega) (by omega)), IImg_fr h3 (fun a j z => ff a j (by omega) (by omega)), IRow_fr h4 (fun a j z => ff a j (by omega) (by omega)), ITape_fr h5 (fun a j z => ff a j (by omega) (by omega)), ⟨fun j hj => ?_, fun j hj => ?_⟩, IFlt_fr h7 (fun a j z => ff a j (by omega) (by omega))⟩
              · rw [ff 97 j (by decide) (by decide), ff 98 j (by decide) (by decide), ff 122 j (by decide) (by decide), ff 123 j (by decide) (by decide)]; exact s1 j hj
              · show (ms (ms μ 99 (40 * q + i) v) 124 (40 * q + i) v).1 99 j = (ms (ms μ 99 (40 * q + i) v) 124 (40 * q + i) v).1 124 j
                rw [ms_1, if_neg (show ¬ (99 : Nat) = 124 by decide), ms_1, if_pos rfl, ms_1, if_pos rfl, ms_1, if_neg (show ¬ (124 : Nat) = 99 by decide)]
                by_cases z : j = 40 * q + i
                · rw [if_pos z, if_pos z]
                · rw [if_neg z, if_neg z]; exact s2 j hj
            refine ⟨fun z0 => ⟨vp_in_nI (by omega) (by omega), fun z1 => ⟨vp_in_nI (by omega) (by omega), rfl, ?_⟩, fun z1 => ⟨vp_in_nI (by omega) (by omega), rfl, ?_⟩⟩, fun z0 => ⟨vp_in_nI (by omega) (by omega), rfl, ?_⟩⟩
            · rw [v3 (fun e => z0 (r1'.trans e)) (fun e => z1 (r1'.trans e))] at inv ⊢; exact inv
            · rw [v2 (fun e => z0 (r1'.trans e)) (r1'.symm.trans z1)] at inv ⊢; exact inv
            · rw [v1 (r1'.symm.trans z0)] at inv ⊢; exact inv
          · rw [Int32.toInt_toInt64, dI_toInt (by omega), nI_toInt (by omega), show (0 : Int64).toInt = 0 from by decide] at z
            omega
        unfold PX4_setCell
        rw [nI_clamp (n := q) (by omega), e1, ei, nI_clamp (by omega)]
        refine ⟨vp_in_nI (by omega) (by omega), fun z0 => ⟨vp_in_nI (by omega) (by omega), fun z1 => ⟨vp_in_nI (by omega) (by omega), ref p3 (fun y => absurd y z0) (fun _ y => absurd y z1) (fun _ _ => rfl)⟩, fun z1 => ⟨vp_in_nI (by omega) (by omega), ref _ (fun y => absurd y z0) (fun _ _ => rfl) (fun _ y => absurd z1 y)⟩⟩, fun z0 => ⟨vp_in_nI (by omega) (by omega), ref _ (fun _ => rfl) (fun y => absurd z0 y) (fun y => absurd z0 y)⟩⟩
      · have out : PX7_isSheet (nI q) ((0 : Int32)) μ (fun (r2 : Int32) (m1 : Mem) => (¬ r2 = 0 → vp_in (nI q) 4 ∧ ((¬ (m1.1 (100 + 22) q) = ((-4 : Int32)) → vp_in (nI q) 4 ∧ (PX7_in p2.toInt64 ((0 : Int64)) (((m1.1 (100 + 23) q) - ((1 : Int32))).toInt64) m1 (fun (r6 : Int32) (m5 : Mem) => (¬ r6 = 0 → vp_in (nI q) 4 ∧ ((¬ (m5.1 (100 + 22) q) = 0 → vp_in (nI q) 4 ∧ ((¬ (m5.1 (100 + 22) q) = ((1 : Int32)) → vp_in ((((40 : Int32)) * nI q) + p2) 160 ∧ ((-12 : Int32) = (1 : Int32) ∧ Inv (k + 1) (ms m5 (100 + 24) ((((40 : Int32)) * nI q) + p2).toNatClampNeg p3))) ∧ ((m5.1 (100 + 22) q) = ((1 : Int32)) → vp_in ((((40 : Int32)) * nI q) + p2) 160 ∧ ((-12 : Int32) = (1 : Int32) ∧ Inv (k + 1) (ms m5 (100 + 24) ((((40 : Int32)) * nI q) + p2).toNatClampNeg p3.toInt16.toInt32))))) ∧ ((m5.1 (100 + 22) q) = 0 → vp_in ((((40 : Int32)) * nI q) + p2) 160 ∧ ((-12 : Int32) = (1 : Int32) ∧ Inv (k + 1) (ms m5 (100 + 24) ((((40 : Int32)) * nI q) + p2).toNatClampNeg p3.toInt8.toInt32))))) ∧ (r6 = 0 → ((-12 : Int32) = (-12 : Int32) ∧ Inv (k + 1) m5))))) ∧ ((m1.1 (100 + 22) q) = ((-4 : Int32)) → ((-12 : Int32) = (-11 : Int32) ∧ Inv (k + 1) m1)))) ∧ (r2 = 0 → ((-12 : Int32) = (-1 : Int32) ∧ Inv (k + 1) m1))) := by
          refine shY q _ _ (by omega) ⟨fun _ => ⟨vp_in_nI (by omega) (by omega), ?_⟩, fun z => absurd z np1⟩
          rw [r1, r2, nI_m1]
          refine ⟨fun _ => ⟨vp_in_nI (by omega) (by omega), ?_⟩, fun z => absurd z d⟩
          refine r_in (fun z1 z2 => ?_) (fun _ => ⟨fun z => absurd rfl z, fun _ => ⟨rfl, hs⟩⟩)
          rw [Int32.toInt_toInt64, dI_toInt (by omega)] at z2
          rw [show (0 : Int64).toInt = 0 from by decide] at z1
          exact absurd (show 0 ≤ p2.toInt ∧ p2.toInt < (sz q : Nat) by omega) ci
        rw [ilt' (x := p2) 0 0 rfl (by omega), i_lt (by omega)]
        exact ⟨fun _ => out, fun z => ⟨vp_in_nI (by omega) (by omega), fun z2 => absurd (show 0 ≤ p2.toInt ∧ p2.toInt < (sz q : Nat) by omega) ci, fun _ => out⟩⟩
    · refine shY q _ _ (by omega) ⟨fun _ => ⟨vp_in_nI (by omega) (by omega), ?_⟩, fun z => absurd z np1⟩
      rw [r1]
      exact ⟨fun z => absurd d z, fun _ => ⟨rfl, hs⟩⟩
  · have out : PX7_lay 100 p1 p2 p3 μ (fun r2 m2 => (-1 : Int32) = r2 ∧ Inv (k + 1) m2) := by
      unfold PX7_lay PX7_isSheet nX7_isSheet_28
      exact r_in_n (a := 0) (b := 3) (by omega) (by omega) (by omega) ⟨fun _ => ⟨fun d => absurd rfl d, fun _ => ⟨rfl, hs⟩⟩, fun d => absurd rfl d⟩
    unfold PX7_lay at out
    rw [ilt' (x := p1) 0 0 rfl (by omega), ilt' (x := p1) 4 4 rfl (by omega)]
    exact ⟨fun _ => out, fun d => ⟨fun e => absurd (show 0 ≤ p1.toInt ∧ p1.toInt < 4 by omega) c, fun _ => out⟩⟩
