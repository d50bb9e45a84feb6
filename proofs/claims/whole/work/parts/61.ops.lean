theorem bit0' {d : Nat} : bitN 0 d = 0 := bit_0
set_option maxHeartbeats 1000000 in
theorem st_row : St_row Inv := by
  intro k μ p1 hk hI
  obtain ⟨ρ, κ, im, g, R, rl, tl, tp, ln, sz, ⟨hC, hM, hw, hx, h8⟩, ⟨kc, km, kw⟩, h3, ⟨r1, r2, r3, r4, r5⟩, h5, h6, h7⟩ := id hI
  have hs := Inv_s hI
  have s9 := hw.2.1
  have hgo := goN_le (ρ := ρ) (κ := κ) (R := R) (g := 0) (n := rl)
  have hrs9 : ∀ i s : Nat, i < rl → R i = some s → s < 9 := fun i s hi e => by have := r5 i s hi e; omega
  -- the answer to each question
  have core : ∀ v : Int32, ((∃ j : Nat, j ≤ 5 ∧ p1 = nI j) ∧ v = 0 ∨ (∃ p : Nat, p < 4 ∧ p1 = nI (10 + p)) ∧ v = 1) → nX6_row_33 0 p1 (fun r1 m1 => PX7_row 100 p1 m1 (fun r2 m2 => r1 = r2 ∧ Inv (k + 1) m2)) v μ := by
    intro v hv
    unfold nX6_row_33 nX6_row_191
    have e8 : μ.1 0 8 = nI rl := r1
    rw [e8]
    refine c_go (g := 0) (n := rl) (κ := κ) (ρ := ρ) (R := R) kc kw (by omega) (by omega) hC hw r3 (by omega) (by omega) (fun i hi => (r4 i hi).1) hrs9 (by omega) (by omega) (by omega) (fun m f x w => ?_)
    have fI : ∀ a j : Nat, (a < 55 ∨ 60 ≤ a) → m.1 a j = μ.1 a j := fun a j q => f.1 a (by omega) j
    have hM' := MR_of hM (m := m) (fun a j q => fI a j (by omega))
    have km' := KM_of km (m := m) (fun j _ => fI 114 _ (by omega))
    have l' : m.1 100 37 = nI rl := (fI _ _ (by omega)).trans r2
    have l8 : m.1 0 8 = nI rl := (fI _ _ (by omega)).trans r1
    have row' : ∀ i : Nat, i < rl → m.1 118 i = oI (R i) := fun i hi => (fI _ _ (by omega)).trans (r4 i hi).2
    have row54 : ∀ i : Nat, i < rl → m.1 54 i = oI (R i) := fun i hi => (fI _ _ (by omega)).trans (r4 i hi).1
    -- the reference gone through
    have ref : ∀ r : Int32, (∀ m2 : Mem, (∀ a j : Nat, cellI a j → m2.1 a j = μ.1 a j) → MR m2 ρ → KM m2 280 κ → KMx m2 240 (kAt ρ κ R 0 (goN ρ κ R 0 rl)) → m2.1 100 39 = nI (whyE ρ κ R 0 rl) → m2.1 100 37 = nI rl → (∀ i : Nat, i < rl → m2.1 118 i = oI (R i)) → (∀ i : Nat, i < rl → m2.1 119 i = oI (R i)) → (p1 = 0 → (nI rl ≤ nI (goN ρ κ R 0 rl) → (r = -4 ∧ Inv (k + 1) m2)) ∧ (¬ nI rl ≤ nI (goN ρ κ R 0 rl) → (r = nI (goN ρ κ R 0 rl) ∧ Inv (k + 1) m2))) ∧ (p1 = 1 → r = nI (whyE ρ κ R 0 rl) ∧ Inv (k + 1) m2) ∧ (p1 = 2 → (r = nI (kAt ρ κ R 0 (goN ρ κ R 0 rl)).paid ∧ Inv (k + 1) m2)) ∧ (p1 = 3 → (r = nI (kAt ρ κ R 0 (goN ρ κ R 0 rl)).thr ∧ Inv (k + 1) m2)) ∧ (p1 = 4 → (r = nI (kAt ρ κ R 0 (goN ρ κ R 0 rl)).lik ∧ Inv (k + 1) m2)) ∧ (p1 = 5 → PX7_isRowClosed 100 (nI (goN ρ κ R 0 rl)) m2 (fun (r18 : Int32) (m17 : Mem) => PX7_flag r18 m17 (fun (r20 : Int32) (m19 : Mem) => r = r20 ∧ Inv (k + 1) m19))) ∧ ((p1.toInt < 0 ∨ 5 < p1.toInt) → PX7_fedOf 100 (p1 - ((10 : Int32))) (nI (goN ρ κ R 0 rl)) m2 (fun (r22 : Int32) (m21 : Mem) => r = r22 ∧ Inv (k + 1) m21))) → PX7_row 100 p1 m (fun r2 m2 => r = r2 ∧ Inv (k + 1) m2) := by
      intro r hr S hS
      have start : nX7_row_28 100 p1 (fun r2 m2 => r = r2 ∧ Inv (k + 1) m2) S m := by
        unfold nX7_row_28
        refine r_runs (g := 0) (n := rl) (κ := κ) (ρ := ρ) (R := R) km' kw (by omega) (by omega) hM' hw r3 l' (by omega) row' r5 (fun m2 f2 x2 w2 => ?_)
        have lp : ∀ i m3, i ≤ rl → ((∀ a j : Nat, a ≠ 119 → m3.1 a j = m2.1 a j) ∧ (∀ j : Nat, j < i → m3.1 119 j = oI (R j))) → S (nI (goN ρ κ R 0 rl)) (nI i) m3 := by
          refine up_loop ?_ ?_
          · intro i m3 hi ⟨b1, b2⟩ ih
            have er : m3.1 (100 + 18) i = oI (R i) := (b1 118 i (by decide)).trans ((f2.1 118 i (by decide) (by decide) (by simp) (by simp)).trans (row' i hi))
            have el : m3.1 100 37 = nI rl := (b1 100 37 (by decide)).trans ((f2.1 100 37 (by decide) (by decide) (by decide) (by decide)).trans l')
            apply hS
            unfold nX7_row_36
            rw [el, nI_clamp (n := i) (by omega), er, nI_1]
            refine ⟨fun c => absurd c (nI_ge hi (by omega)), fun _ => ⟨vp_in_nI (by omega) (by omega), vp_in_nI (by omega) (by omega), ih _ ⟨fun a j q => ?_, fun j hj => ?_⟩⟩⟩
            · show (ms m3 119 i (oI (R i))).1 a j = _
              rw [ms_1, if_neg q]; exact b1 a j q
            · show (ms m3 119 i (oI (R i))).1 119 j = _
              rw [ms_1, if_pos rfl]
              by_cases c : j = i
              · rw [if_pos c, c]
              · rw [if_neg c]; exact b2 j (by omega)
          · intro m3 ⟨b1, b2⟩
            have el : m3.1 100 37 = nI rl := (b1 100 37 (by decide)).trans ((f2.1 100 37 (by decide) (by decide) (by decide) (by decide)).trans l')
            have x3 := KMx_of x2 (m := m3) (fun j _ => b1 114 _ (by decide))
            have x3' := x3
            obtain ⟨o, hx3⟩ := x3'
            have w3 : m3.1 100 39 = nI (whyE ρ κ R 0 rl) := (b1 100 39 (by decide)).trans w2
            have hM3 := MR_of (MR_r hM' f2) (m := m3) (fun a j q => b1 a j (by omega))
            have km3 := KM_of (KM_r km' f2 (by omega)) (m := m3) (fun j _ => b1 114 _ (by decide))
            have hq := hr m3 (fun a j q => by
              unfold cellI at q
              rw [b1 a j (by omega), f2.1 a j (by omega) (by omega) (fun _ => by omega) (fun _ => by omega), fI a j (by omega)]) hM3 km3 x3 w3 el (fun i hi => (b1 118 i (by decide)).trans ((f2.1 118 i (by decide) (by decide) (by simp) (by simp)).trans (row' i hi))) b2
            obtain ⟨q0, q1, q2, q3, q4, q5, q6⟩ := hq
            have g2 : m3.1 (100 + 14) (273 : Int32).toNatClampNeg = nI (kAt ρ κ R 0 (goN ρ κ R 0 rl)).paid := hx3.2.2.2.2.1
            have g3 : m3.1 (100 + 14) (274 : Int32).toNatClampNeg = nI (kAt ρ κ R 0 (goN ρ κ R 0 rl)).thr := hx3.2.2.2.2.2.1
            have g4 : m3.1 (100 + 14) (275 : Int32).toNatClampNeg = nI (kAt ρ κ R 0 (goN ρ κ R 0 rl)).lik := hx3.2.2.2.2.2.2
            have v : ∀ n : Nat, n < 400 → vp_in (nI n) 400 := fun n hn => vp_in_nI hn (by omega)
            apply hS
            unfold nX7_row_36
            rw [el, g2, g3, g4, w3]
            exact ⟨fun _ => ⟨q0, q1, fun c => ⟨v 273 (by omega), q2 c⟩, fun c => ⟨v 274 (by omega), q3 c⟩, fun c => ⟨v 275 (by omega), q4 c⟩, q5, q6⟩, fun c => absurd (nI_le (Nat.le_refl _) (by omega)) c⟩
        exact lp 0 m2 (Nat.zero_le _) ⟨fun _ _ _ => rfl, fun j hj => absurd hj (Nat.not_lt_zero _)⟩
      rcases hv with ⟨⟨j, hj, rfl⟩, _⟩ | ⟨⟨p, hp, rfl⟩, _⟩
      · exact r_in_y (a := 0) (b := 5) (by omega) (by omega) (by rw [nI_toInt (by omega)]; omega) (by rw [nI_toInt (by omega)]; omega) ⟨fun _ => start, fun c => absurd c np1⟩
      · refine r_in_n (a := 0) (b := 5) (by omega) (by omega) (by rw [nI_toInt (by omega)]; omega) ⟨fun c => absurd rfl c, fun _ => ?_⟩
        exact r_in_y (a := 10) (b := 13) (by omega) (by omega) (by rw [nI_toInt (by omega)]; omega) (by rw [nI_toInt (by omega)]; omega) ⟨fun _ => start, fun c => absurd c np1⟩
    have x' := x
    obtain ⟨o, hxc⟩ := x'
    have c4 : m.1 (0 + 55 + 1) 4 = nI (kAt ρ κ R 0 (goN ρ κ R 0 rl)).paid := hxc.2.2.2.2.1
    have c5 : m.1 (0 + 55 + 1) 5 = nI (kAt ρ κ R 0 (goN ρ κ R 0 rl)).thr := hxc.2.2.2.2.2.1
    have c6 : m.1 (0 + 55 + 1) 6 = nI (kAt ρ κ R 0 (goN ρ κ R 0 rl)).lik := hxc.2.2.2.2.2.2
    have w' : m.1 (0 + 55) 1 = nI (whyE ρ κ R 0 rl) := w
    rw [l8, c4, c5, c6, w', nI_leI (by omega) (by omega)]
    have inv2 : ∀ m2 : Mem, (∀ a j : Nat, cellI a j → m2.1 a j = μ.1 a j) → Inv (k + 1) m2 := fun m2 q => Inv_fr hI q
    rcases hv with ⟨⟨j, hj, rfl⟩, rfl⟩ | ⟨⟨p, hp, rfl⟩, rfl⟩
    · refine ⟨fun _ => ?_, fun c => absurd rfl c⟩
      rcases (show j = 0 ∨ j = 1 ∨ j = 2 ∨ j = 3 ∨ j = 4 ∨ j = 5 by omega) with rfl | rfl | rfl | rfl | rfl | rfl
      · refine ⟨fun _ => ⟨fun c => ref _ (fun m2 q _ _ _ _ _ _ _ => ⟨fun _ => ⟨fun _ => ⟨rfl, inv2 m2 q⟩, fun d => absurd (nI_le c (by omega)) d⟩, ?_⟩), fun c => ref _ (fun m2 q _ _ _ _ _ _ _ => ⟨fun _ => ⟨fun d => absurd ((nI_leI (by omega) (by omega)).1 d) c, fun _ => ⟨rfl, inv2 m2 q⟩⟩, ?_⟩)⟩, ?_⟩
        all_goals (first | exact ⟨fun c => absurd c (by decide), fun c => absurd c (by decide), fun c => absurd c (by decide), fun c => absurd c (by decide), fun c => absurd c (by decide), fun c => absurd c (by decide)⟩ | exact ⟨fun c => absurd c (by decide), fun c => absurd c (by decide), fun c => absurd c (by decide), fun c => absurd c (by decide), fun c => absurd c (by decide)⟩)
      · refine ⟨fun c => absurd c (by decide), fun _ => ref _ (fun m2 q _ _ _ _ _ _ _ => ⟨fun c => absurd c (by decide), fun _ => ⟨rfl, inv2 m2 q⟩, ?_⟩), ?_⟩
        all_goals (first | exact ⟨fun c => absurd c (by decide), fun c => absurd c (by decide), fun c => absurd c (by decide), fun c => absurd c (by decide), fun c => absurd c (by decide)⟩ | exact ⟨fun c => absurd c (by decide), fun c => absurd c (by decide), fun c => absurd c (by decide), fun c => absurd c (by decide)⟩)
      · refine ⟨fun c => absurd c (by decide), fun c => absurd c (by decide), fun _ => ref _ (fun m2 q _ _ _ _ _ _ _ => ⟨fun c => absurd c (by decide), fun c => absurd c (by decide), fun _ => ⟨rfl, inv2 m2 q⟩, ?_⟩), ?_⟩
        all_goals (first | exact ⟨fun c => absurd c (by decide), fun c => absurd c (by decide), fun c => absurd c (by decide), fun c => absurd c (by decide)⟩ | exact ⟨fun c => absurd c (by decide), fun c => absurd c (by decide), fun c => absurd c (by decide)⟩)
      · refine ⟨fun c => absurd c (by decide), fun c => absurd c (by decide), fun c => absurd c (by decide), fun _ => ref _ (fun m2 q _ _ _ _ _ _ _ => ⟨fun c => absurd c (by decide), fun c => absurd c (by decide), fun c => absurd c (by decide), fun _ => ⟨rfl, inv2 m2 q⟩, ?_⟩), ?_⟩
        all_goals (first | exact ⟨fun c => absurd c (by decide), fun c => absurd c (by decide), fun c => absurd c (by decide)⟩ | exact ⟨fun c => absurd c (by decide), fun c => absurd c (by decide)⟩)
      · refine ⟨fun c => absurd c (by decide), fun c => absurd c (by decide), fun c => absurd c (by decide), fun c => absurd c (by decide), fun _ => ref _ (fun m2 q _ _ _ _ _ _ _ => ⟨fun c => absurd c (by decide), fun c => absurd c (by decide), fun c => absurd c (by decide), fun c => absurd c (by decide), fun _ => ⟨rfl, inv2 m2 q⟩, ?_⟩), ?_⟩
        all_goals (first | exact ⟨fun c => absurd c (by decide), fun c => absurd c (by decide)⟩ | exact (fun c => absurd c (by decide)))
      · have refc : ∀ b : Nat, b ≤ 1 → (b = 1 ↔ (goN ρ κ R 0 rl = rl ∧ 1 ≤ rl ∧ rl ≤ 5 ∧ handN ρ κ R rl ∧ closeN ρ κ (kAt ρ κ R 0 rl) R rl)) → PX7_row 100 (nI 5) m (fun r2 m2 => nI b = r2 ∧ Inv (k + 1) m2) := by
          intro b hb hiff
          refine ref _ (fun m2 q hM2 km2 x2 w2 l2 ro2 pi2 => ⟨fun c => absurd c (by decide), fun c => absurd c (by decide), fun c => absurd c (by decide), fun c => absurd c (by decide), fun c => absurd c (by decide), fun _ => ?_, fun c => absurd c (by decide)⟩)
          refine r_rowClosed hM2 hw km2 kw (by omega) l2 r3 hgo ro2 r5 (fun e => by rw [e] at x2; exact x2) (fun m3 f3 d1 d2 d3 d4 d5 => ?_) (fun m3 f3 d => ?_)
          · have : b = 1 := hiff.2 ⟨d1, d2, d3, d4, d5⟩
            subst this
            exact r_flag (g := 1) (by omega) ⟨rfl, inv2 m3 (fun a j z => by
              rw [f3 a j (by unfold cellI at z; omega)]; exact q a j z)⟩
          · have : b = 0 := by
              have : b ≠ 1 := fun z => d (hiff.1 z)
              omega
            subst this
            exact r_flag (g := 0) (by omega) ⟨rfl, inv2 m3 (fun a j z => by
              rw [f3 a j (by unfold cellI at z; omega)]; exact q a j z)⟩
        refine ⟨fun c => absurd c (by decide), fun c => absurd c (by decide), fun c => absurd c (by decide), fun c => absurd c (by decide), fun c => absurd c (by decide), fun _ => ⟨fun c => ?_, fun c => ?_⟩⟩
        · have c2 : ¬ goN ρ κ R 0 rl = rl := fun z => c (by rw [z])
          exact refc 0 (by omega) ⟨fun z => absurd z (by decide), fun z => absurd z.1 c2⟩
        · have c2 : goN ρ κ R 0 rl = rl := (nI_eq (by omega) (by omega)).1 c
          have hC' := CR_of hC (m := m) (fun a j _ _ => fI a j (by omega))
          have kc' := KC_of kc (m := m) (fun a j _ _ => fI a j (by omega))
          rw [c2] at x
          refine c_handCloses hC' hw kc' kw (by omega) l8 r3 row54 r5 x (fun d1 d2 d3 d4 => ⟨fun d => absurd d np1, fun _ => ?_⟩) (fun d => ⟨fun _ => ?_, fun z => absurd rfl z⟩)
          · exact refc 1 (by omega) ⟨fun _ => ⟨c2, d1, d2, d3, d4⟩, fun _ => rfl⟩
          · exact refc 0 (by omega) ⟨fun z => absurd z (by decide), fun z => absurd z.2 d⟩
    · refine ⟨fun c => absurd c np1, fun _ => ?_⟩
      have hC' := CR_of hC (m := m) (fun a j _ _ => fI a j (by omega))
      have e10 : nI (10 + p) - (10 : Int32) = nI p := by rw [show (10 : Int32) = nI 10 from rfl, pk_sub (by omega), Nat.add_sub_cancel_left]
      rw [e10]
      refine c_timesFed hC' hw (by omega) (by omega) hp (fun i hi => row54 i (by omega)) (fun i s hi e => hrs9 i s (by omega) e) ?_
      have n0 : ∀ j : Nat, j ≤ 5 → ¬ nI (10 + p) = nI j := fun j hj c => by
        have := (nI_eq (by omega) (by omega)).1 c
        omega
      refine ref _ (fun m2 q hM2 km2 x2 w2 l2 ro2 pi2 => ⟨fun c => absurd c (n0 0 (by omega)), fun c => absurd c (n0 1 (by omega)), fun c => absurd c (n0 2 (by omega)), fun c => absurd c (n0 3 (by omega)), fun c => absurd c (n0 4 (by omega)), fun c => absurd c (n0 5 (by omega)), fun _ => ?_⟩)
      rw [e10]
      exact r_fedOf hM2 hw (by omega) hp (fun i hi => pi2 i (by omega)) (fun i s hi e => r5 i s (by omega) e) ⟨rfl, inv2 m2 q⟩
  unfold PX6_row nX6_row_16 nX6_row_17
  by_cases c1 : 10 ≤ p1.toInt ∧ p1.toInt < 14
  · obtain ⟨j, j1, rfl, j2⟩ := i_of (x := p1) (by omega)
    rw [show nI j < (10 : Int32) ↔ (nI j).toInt < (10 : Nat) from i_lt (k := 10) (by omega), show (14 : Int32) ≤ nI j ↔ ((14 : Nat) : Int) ≤ (nI j).toInt from i_ge (k := 14) (by omega)]
    exact ⟨fun d => absurd d (by omega), fun _ => ⟨fun d => absurd d (by omega), fun _ => ⟨fun _ => core 1 (Or.inr ⟨⟨j - 10, by omega, by rw [show 10 + (j - 10) = j by omega]⟩, rfl⟩), fun d => absurd d np1⟩⟩⟩
  · have out : ¬ (0 ≤ p1.toInt ∧ p1.toInt ≤ 5) → PX7_row 100 p1 μ (fun r2 m2 => (-1 : Int32) = r2 ∧ Inv (k + 1) m2) := by
      intro c2 S hS
      refine r_in_n (a := 0) (b := 5) (by omega) (by omega) (by omega) ⟨fun c => absurd rfl c, fun _ => ?_⟩
      exact r_in_n (a := 10) (b := 13) (by omega) (by omega) (by omega) ⟨fun c => absurd rfl c, fun _ => ⟨rfl, hs⟩⟩
    have rest : (¬ (0 : Int32) = 0 → nX6_row_33 0 p1 (fun r1 m1 => PX7_row 100 p1 m1 (fun r2 m2 => r1 = r2 ∧ Inv (k + 1) m2)) 0 μ) ∧ ((0 : Int32) = 0 → (p1 < 0 → PX7_row 100 p1 μ (fun r2 m2 => (-1 : Int32) = r2 ∧ Inv (k + 1) m2)) ∧ (¬ p1 < 0 → (p1 ≤ ((5 : Int32)) → nX6_row_33 0 p1 (fun r1 m1 => PX7_row 100 p1 m1 (fun r2 m2 => r1 = r2 ∧ Inv (k + 1) m2)) 0 μ) ∧ (¬ p1 ≤ ((5 : Int32)) → PX7_row 100 p1 μ (fun r2 m2 => (-1 : Int32) = r2 ∧ Inv (k + 1) m2)))) := by
      rw [show p1 < (0 : Int32) ↔ p1.toInt < (0 : Nat) from i_lt (k := 0) (by omega), show p1 ≤ (5 : Int32) ↔ p1.toInt ≤ (5 : Nat) from i_le (k := 5) (by omega)]
      refine ⟨fun c => absurd rfl c, fun _ => ⟨fun c => out (by omega), fun c => ⟨fun d => ?_, fun d => out (by omega)⟩⟩⟩
      obtain ⟨j, j1, e, j2⟩ := i_of (x := p1) (by omega)
      exact core 0 (Or.inl ⟨⟨j, by omega, e⟩, rfl⟩)
    rw [show p1 < (10 : Int32) ↔ p1.toInt < (10 : Nat) from i_lt (k := 10) (by omega), show (14 : Int32) ≤ p1 ↔ ((14 : Nat) : Int) ≤ p1.toInt from i_ge (k := 14) (by omega)]
    exact ⟨fun _ => rest, fun c => ⟨fun _ => rest, fun d => absurd (show 10 ≤ p1.toInt ∧ p1.toInt < 14 by omega) c1⟩⟩
theorem st_bears : St_bears Inv := by
  intro k μ p1 hk hI
  obtain ⟨ρ, κ, im, g, R, rl, tl, tp, ln, sz, ⟨hC, hM, hw, hx, h8⟩, ⟨kc, km, kw⟩, h3, ⟨r1, r2, r3, r4, r5⟩, h5, h6, h7⟩ := id hI
  have hs := Inv_s hI
  have s9 := hw.2.1
  have hrs9 : ∀ i s : Nat, i < rl → R i = some s → s < 9 := fun i s hi e => by have := r5 i s hi e; omega
  have p2n := p2_le r3
  have bR : brN ρ κ R rl ≤ 128 * 16384 := Nat.le_trans (br_le (κ := κ) (R := R) (n := rl) (m := 2 ^ rl) hw r3) (Nat.mul_le_mul_right _ p2n)
  have h14 : 2 ^ (2 * rl) ≤ 16384 := Nat.le_trans (Nat.pow_le_pow_right (by decide) (show 2 * rl ≤ 14 by omega)) (by decide)
  unfold PX6_bears PX7_bears
  have e8 : μ.1 0 8 = nI rl := r1
  rw [e8]
  by_cases c : 0 ≤ p1.toInt ∧ p1.toInt ≤ 1
  · rw [show p1 < (0 : Int32) ↔ p1.toInt < (0 : Nat) from i_lt (k := 0) (by omega), show p1 ≤ (1 : Int32) ↔ p1.toInt ≤ (1 : Nat) from i_le (k := 1) (by omega)]
    refine ⟨fun d => absurd d (by omega), fun _ => ⟨fun _ => ?_, fun d => absurd d (by omega)⟩⟩
    refine c_bearing (n := rl) (κ := κ) (ρ := ρ) (R := R) kc kw (by omega) (by omega) hC hw r3 (by omega) (fun i hi => (r4 i hi).1) hrs9 (by omega) (by omega) (by omega) (fun m f => ?_)
    have fI : ∀ a j : Nat, (a < 55 ∨ 60 ≤ a) → m.1 a j = μ.1 a j := fun a j q => f.1 a (by omega) j
    have l8 : m.1 0 8 = nI rl := (fI _ _ (by omega)).trans r1
    have hM' := MR_of hM (m := m) (fun a j q => fI a j (by omega))
    have km' := KM_of km (m := m) (fun j _ => fI 114 _ (by omega))
    have l' : m.1 100 37 = nI rl := (fI _ _ (by omega)).trans r2
    have row' : ∀ i : Nat, i < rl → m.1 118 i = oI (R i) := fun i hi => (fI _ _ (by omega)).trans (r4 i hi).2
    rw [l8]
    have ref : ∀ r : Int32, (p1 = 0 → r = nI (brN ρ κ R rl / Nat.gcd (brN ρ κ R rl) (2 ^ (2 * rl)))) → (¬ p1 = 0 → r = nI (2 ^ (2 * rl) / Nat.gcd (brN ρ κ R rl) (2 ^ (2 * rl)))) → PX7_in p1.toInt64 (0 : Int64) (1 : Int64) m (fun (r2 : Int32) (m1 : Mem) => (r2 = 0 → (r = -1 ∧ Inv (k + 1) m1)) ∧ (¬ r2 = 0 → PX7_bearsNow 100 m1 (fun (r5 : Int32) (m4 : Mem) => PX7_told r5 (((1 : Int32)) <<< ((((2 : Int32)) * (m4.1 100 37)) &&& 31)) p1 m4 (fun (r7 : Int32) (m6 : Mem) => r = r7 ∧ Inv (k + 1) m6)))) := by
      intro r q0 q1
      refine r_in_y (a := 0) (b := 1) (by omega) (by omega) (by omega) (by omega) ⟨fun d => absurd d np1, fun _ => ?_⟩
      refine r_bearsNow (κ := κ) (ρ := ρ) (R := R) km' kw (by omega) (by omega) hM' hw r3 l' row' r5 (fun m2 f2 => ?_)
      have l2 : m2.1 100 37 = nI rl := (f2.1 100 37 (by decide) (by decide) (by decide) (by decide)).trans l'
      rw [← br_eq hw, l2, show (2 : Int32) * nI rl = nI (2 * rl) from pk_mul 2 rl, show ((1 : Int32) <<< (nI (2 * rl) &&& 31)) = nI (2 ^ (2 * rl)) from jsh (by omega)]
      have inv : Inv (k + 1) m2 := Inv_fr hI (fun a j q => by
        unfold cellI at q
        rw [f2.1 a j (by omega) (by omega) (fun _ => by omega) (fun _ => by omega), fI a j (by omega)])
      exact r_told (by omega) (Nat.two_pow_pos _) (by omega) (fun d => ⟨q0 d, inv⟩) (fun d => ⟨q1 d, inv⟩)
    exact c_lowestTerms r3 (by omega) (fun d => ref _ (fun _ => rfl) (fun e => absurd d e)) (fun d => ref _ (fun e => absurd e d) (fun _ => rfl))
  · have out : PX7_in p1.toInt64 (0 : Int64) (1 : Int64) μ (fun (r2 : Int32) (m1 : Mem) => (r2 = 0 → ((-1 : Int32) = -1 ∧ Inv (k + 1) m1)) ∧ (¬ r2 = 0 → PX7_bearsNow 100 m1 (fun (r5 : Int32) (m4 : Mem) => PX7_told r5 (((1 : Int32)) <<< ((((2 : Int32)) * (m4.1 100 37)) &&& 31)) p1 m4 (fun (r7 : Int32) (m6 : Mem) => (-1 : Int32) = r7 ∧ Inv (k + 1) m6)))) :=
      r_in_n (a := 0) (b := 1) (by omega) (by omega) (by omega) ⟨fun _ => ⟨rfl, hs⟩, fun d => absurd rfl d⟩
    rw [show p1 < (0 : Int32) ↔ p1.toInt < (0 : Nat) from i_lt (k := 0) (by omega), show p1 ≤ (1 : Int32) ↔ p1.toInt ≤ (1 : Nat) from i_le (k := 1) (by omega)]
    exact ⟨fun _ => out, fun d => ⟨fun e => absurd (show 0 ≤ p1.toInt ∧ p1.toInt ≤ 1 by omega) c, fun _ => out⟩⟩
