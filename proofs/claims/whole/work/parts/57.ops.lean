theorem st_fault : St_fault Inv := by
  intro k μ hk hI
  obtain ⟨ρ, κ, im, g, R, rl, tl, tp, ln, sz, h1, h2, h3, h4, h5, h6, h7⟩ := id hI
  exact ⟨h7.1, Inv_s hI⟩
theorem st_torn : St_torn Inv := by
  intro k μ hk hI
  obtain ⟨ρ, κ, im, g, R, rl, tl, tp, ln, sz, h1, h2, h3, h4, h5, h6, h7⟩ := id hI
  exact ⟨h7.2.1, Inv_s hI⟩
theorem st_thing : St_thing Inv := by
  intro k μ p1 p2 hk hI
  obtain ⟨ρ, κ, im, g, R, rl, tl, tp, ln, sz, ⟨hC, hM, hw, hx, h8⟩, h2, h3, h4, h5, h6, h7⟩ := id hI
  have t6 := hw.1
  unfold PX6_thing PX7_thing nX7_thing_33
  rcases yesI p1 (ρ 0 0) with ⟨t, ht, rfl⟩ | hn
  · obtain ⟨c1, c2, c3⟩ := hC.2.2.2.2.2.1 t ht
    obtain ⟨m1, m2, m3⟩ := hM.2.2.2.2.2.1 t ht
    refine c_hasThing_y hC hw ht ⟨fun _ => ?_, fun c => absurd c np1⟩
    have e3 : (3 : Int32) * nI t = nI (3 * t) := pk_mul 3 t
    rcases sw (x := p2) (n := 2) (by omega) with ⟨j, hj, rfl⟩ | ho
    · have em : ∀ v : Int32, μ.1 101 (3 * t + j) = v → PX7_isThing 100 (nI t) μ (fun r2 m1 => (r2 = 0 → (v = -1 ∧ Inv (k + 1) m1)) ∧ (¬ r2 = 0 → PX7_in (nI j).toInt64 (0 : Int64) (2 : Int64) m1 (fun r5 m4 => (r5 = 0 → (v = -1 ∧ Inv (k + 1) m4)) ∧ (¬ r5 = 0 → vp_in ((3 : Int32) * nI t + nI j) 18 ∧ (v = m4.1 (100 + 1) ((3 : Int32) * nI t + nI j).toNatClampNeg ∧ Inv (k + 1) m4))))) := by
        intro v hv
        refine r_isThing_y hM hw ht ⟨fun c => absurd c np1, fun _ => ?_⟩
        refine r_in_y (a := 0) (b := 2) (by omega) (by omega) (by rw [nI_toInt (by omega)]; omega) (by rw [nI_toInt (by omega)]; omega) ⟨fun c => absurd c np1, fun _ => ?_⟩
        rw [e3, nI_add, nI_clamp (by omega)]
        exact ⟨vp_in_nI (by omega) (by omega), hv.symm, Inv_s hI⟩
      rcases (show j = 0 ∨ j = 1 ∨ j = 2 by omega) with rfl | rfl | rfl
      · refine ⟨fun _ => ⟨vp_in_nI (by omega) (by omega), ?_⟩, fun c => absurd c (by decide), fun c => absurd c (by decide), fun c => absurd c (by decide)⟩
        have ec : μ.1 (0 + 1 + 1) (nI t).toNatClampNeg = nI (ρ 1 t) := by rw [nI_clamp (by omega)]; exact c1
        rw [ec]; exact em _ m1
      · refine ⟨fun c => absurd c (by decide), fun _ => ⟨vp_in_nI (by omega) (by omega), ?_⟩, fun c => absurd c (by decide), fun c => absurd c (by decide)⟩
        have ec : μ.1 (0 + 1 + 2) (nI t).toNatClampNeg = nI (ρ 2 t) := by rw [nI_clamp (by omega)]; exact c2
        rw [ec]; exact em _ m2
      · refine ⟨fun c => absurd c (by decide), fun c => absurd c (by decide), fun _ => ⟨vp_in_nI (by omega) (by omega), ?_⟩, fun c => absurd c (by decide)⟩
        have ec : μ.1 (0 + 1 + 3) (nI t).toNatClampNeg = nI (ρ 3 t) := by rw [nI_clamp (by omega)]; exact c3
        rw [ec]; exact em _ m3
    · refine ⟨fun c => absurd c (sw_n (j := 0) ho (by omega) (by omega)), fun c => absurd c (sw_n (j := 1) ho (by omega) (by omega)), fun c => absurd c (sw_n (j := 2) ho (by omega) (by omega)), fun _ => ?_⟩
      refine r_isThing_y hM hw ht ⟨fun c => absurd c np1, fun _ => ?_⟩
      exact r_in_n (a := 0) (b := 2) (by omega) (by omega) (by omega) ⟨fun _ => ⟨rfl, Inv_s hI⟩, fun c => absurd rfl c⟩
  · refine c_hasThing_n hC hw hn ⟨fun c => absurd rfl c, fun _ => ?_⟩
    exact r_isThing_n hM hw hn ⟨fun _ => ⟨rfl, Inv_s hI⟩, fun c => absurd rfl c⟩
theorem st_rule : St_rule Inv := by
  intro k μ p1 hk hI
  obtain ⟨ρ, κ, im, g, R, rl, tl, tp, ln, sz, ⟨hC, hM, hw, hx, h8⟩, h2, h3, h4, h5, h6, h7⟩ := id hI
  unfold PX6_rule PX7_rule
  have c3 : μ.1 (0 + 1) 12 = nI (ρ 0 12) := hC.2.2.1
  have c4 : μ.1 (0 + 1) 13 = nI (ρ 0 13) := hC.2.2.2.1
  have c5 : μ.1 (0 + 1) 14 = nI (ρ 0 14) := hC.2.2.2.2.1
  have m3 : μ.1 100 6 = nI (ρ 0 12) := hM.2.2.1
  have m4 : μ.1 100 7 = nI (ρ 0 13) := hM.2.2.2.1
  have m5 : μ.1 100 8 = nI (ρ 0 14) := hM.2.2.2.2.1
  by_cases hc : 10 ≤ p1.toInt ∧ p1.toInt ≤ 16
  · obtain ⟨j, hj1, rfl, hj2⟩ := i_of (x := p1) (by omega)
    rw [nI_toInt hj1] at hc
    have ec : μ.1 (0 + 1 + 11) (j - 10) = nI (ρ 11 (j - 10)) := hC.2.2.2.2.2.2.2.2 _ (by omega)
    have em : μ.1 (100 + 5) (j - 10) = nI (ρ 11 (j - 10)) := hM.2.2.2.2.2.2.2.2 _ (by omega)
    rw [show (10 : Int32) = nI 10 from rfl, show (17 : Int32) = nI 17 from rfl, pk_sub (by omega), nI_clamp (n := j - 10) (by omega), ec]
    refine ⟨fun c => absurd c (nI_nlt (by omega) (by omega)), fun _ => ⟨fun c => absurd c (nI_ge (by omega) (by omega)), fun _ => ⟨vp_in_nI (by omega) (by omega), ?_⟩⟩⟩
    refine r_in_y (a := 10) (b := 16) (by omega) (by omega) (by rw [nI_toInt (by omega)]; omega) (by rw [nI_toInt (by omega)]; omega) ⟨fun c => absurd c np1, fun _ => ⟨vp_in_nI (by omega) (by omega), em.symm, Inv_s hI⟩⟩
  · have main : nX6_rule_25 0 p1 (fun r1 m1 => PX7_in p1.toInt64 (10 : Int64) (16 : Int64) m1 (fun (r2 : Int32) (m1 : Mem) => (r2 = 0 → (¬ p1 = 0 → (¬ p1 = ((1 : Int32)) → (¬ p1 = ((2 : Int32)) → (r1 = ((-1 : Int32)) ∧ Inv (k + 1) m1)) ∧ (p1 = ((2 : Int32)) → (r1 = m1.1 100 8 ∧ Inv (k + 1) m1))) ∧ (p1 = ((1 : Int32)) → (r1 = m1.1 100 7 ∧ Inv (k + 1) m1))) ∧ (p1 = 0 → (r1 = m1.1 100 6 ∧ Inv (k + 1) m1))) ∧ (¬ r2 = 0 → vp_in (p1 - ((10 : Int32))) 7 ∧ (r1 = m1.1 (100 + 5) (p1 - ((10 : Int32))).toNatClampNeg ∧ Inv (k + 1) m1)))) μ := by
      unfold nX6_rule_25
      have out : ∀ Q : Int32 → Mem → Prop, Q 0 μ → PX7_in p1.toInt64 (10 : Int64) (16 : Int64) μ Q := fun Q hq => r_in_n (a := 10) (b := 16) (by omega) (by omega) (by omega) hq
      rw [c3, c4, c5]
      refine ⟨fun c => out _ ⟨fun _ => ⟨fun d => absurd c d, fun _ => ⟨m3.symm, Inv_s hI⟩⟩, fun d => absurd rfl d⟩, fun c => out _ ⟨fun _ => ⟨fun _ => ⟨fun d => absurd c d, fun _ => ⟨m4.symm, Inv_s hI⟩⟩, fun d => absurd (c.symm.trans d) (by decide)⟩, fun d => absurd rfl d⟩, fun c => out _ ⟨fun _ => ⟨fun _ => ⟨fun _ => ⟨fun d => absurd c d, fun _ => ⟨m5.symm, Inv_s hI⟩⟩, fun d => absurd (c.symm.trans d) (by decide)⟩, fun d => absurd (c.symm.trans d) (by decide)⟩, fun d => absurd rfl d⟩, fun c => out _ ⟨fun _ => ⟨fun _ => ⟨fun _ => ⟨fun _ => ⟨rfl, Inv_s hI⟩, fun d => absurd d (sw_n (n := 2) (j := 2) c (by omega) (by omega))⟩, fun d => absurd d (sw_n (n := 2) (j := 1) c (by omega) (by omega))⟩, fun d => absurd d (sw_n (n := 2) (j := 0) c (by omega) (by omega))⟩, fun d => absurd rfl d⟩⟩
    rw [show (10 : Int32) = nI 10 from rfl, show (17 : Int32) = nI 17 from rfl, i_lt (by omega), i_ge (by omega)]
    exact ⟨fun _ => main, fun c => ⟨fun _ => main, fun d => absurd (show (10 : Int) ≤ p1.toInt ∧ p1.toInt ≤ 16 by omega) hc⟩⟩
theorem st_clear : St_clear Inv := by
  intro k μ hk hI
  obtain ⟨ρ, κ, im, g, R, rl, tl, tp, ln, sz, h1, h2, h3, ⟨r1, r2, r3, r4, r5⟩, h5, h6, h7⟩ := id hI
  have e : ∀ a j : Nat, (a = 0 → j ≠ 8) → (a = 100 → j ≠ 37) → (ms (ms μ 0 8 0) 100 37 0).1 a j = μ.1 a j := fun a j q1 q2 => by
    rw [ms_1]
    by_cases c : a = 100
    · rw [if_pos c, if_neg (q2 c), ms_1, if_neg (by omega)]
    · rw [if_neg c, ms_1]
      by_cases c2 : a = 0
      · rw [if_pos c2, if_neg (q1 c2)]
      · rw [if_neg c2]
  refine ⟨?_, ρ, κ, im, g, R, 0, tl, tp, ln, sz, IRules_fr h1 (fun a j q => e a j (by omega) (by omega)), IKit_fr h2 (fun a j q => e a j (by omega) (by omega)), IImg_fr h3 (fun a j q => e a j (by omega) (by omega)), ⟨?_, ?_, by omega, fun i hi => absurd hi (Nat.not_lt_zero _), fun i s hi => absurd hi (Nat.not_lt_zero _)⟩, ITape_fr h5 (fun a j q => e a j (by omega) (by omega)), ISheet_fr h6 (fun a j q => e a j (by omega) (by omega)), IFlt_fr h7 (fun a j q => e a j (by omega) (by omega))⟩
  · show μ.1 0 8 = (ms μ 0 8 0).1 100 37
    rw [ms_1, if_neg (by decide), r1, r2]
  · show (ms (ms μ 0 8 0) 100 37 0).1 0 8 = nI 0
    rw [ms_1, if_neg (by decide), ms_1, if_pos rfl, if_pos rfl]; rfl
  · show (ms (ms μ 0 8 0) 100 37 0).1 100 37 = nI 0
    rw [ms_1, if_pos rfl, if_pos rfl]; rfl
theorem st_end : St_end Inv := by
  intro k μ p1 hk hI
  obtain ⟨ρ, κ, im, g, R, rl, tl, tp, ln, sz, h1, h2, h3, h4, ⟨t1, t2, t3, t4⟩, h6, h7⟩ := id hI
  unfold PX6_end PX7_end
  have t1' : μ.1 (0 + 25) 1 = nI tl := t1
  rw [t1']
  by_cases hc : 0 ≤ p1.toInt ∧ p1.toInt ≤ tl
  · obtain ⟨n, hn1, rfl, hn2⟩ := i_of (x := p1) hc.1
    rw [nI_toInt hn1] at hc
    refine ⟨fun c => absurd c (nI_pos (by omega)), fun _ => ⟨fun _ => ?_, fun c => absurd (nI_le (by omega) (by omega)) c⟩⟩
    have e26 : (ms μ (0 + 25) 1 (nI n)).1 100 26 = nI tl := by rw [ms_1, if_neg (by decide)]; exact t2
    have e : ∀ a j : Nat, (a = 25 → j ≠ 1) → (a = 100 → j ≠ 26) → (ms (ms μ (0 + 25) 1 (nI n)) 100 26 (nI n)).1 a j = μ.1 a j := fun a j q1 q2 => by
      rw [ms_1]
      by_cases c : a = 100
      · rw [if_pos c, if_neg (q2 c), ms_1, if_neg (by omega)]
      · rw [if_neg c, ms_1]
        by_cases c2 : a = 0 + 25
        · rw [if_pos c2, if_neg (q1 (by omega))]
        · rw [if_neg c2]
    refine r_in (fun _ _ => ⟨fun _ => ⟨e26.symm, ρ, κ, im, g, R, rl, n, tp, ln, sz, IRules_fr h1 (fun a j q => e a j (by omega) (by omega)), IKit_fr h2 (fun a j q => e a j (by omega) (by omega)), IImg_fr h3 (fun a j q => e a j (by omega) (by omega)), IRow_fr h4 (fun a j q => e a j (by omega) (by omega)), ⟨?_, ?_, by omega, fun i hi => ?_⟩, ISheet_fr h6 (fun a j q => e a j (by omega) (by omega)), IFlt_fr h7 (fun a j q => e a j (by omega) (by omega))⟩, fun c => absurd c np1⟩) (fun c => ?_)
    · rw [ms_1, if_neg (by decide)]
      show (ms μ 25 1 (nI n)).1 25 1 = nI n
      rw [ms_1, if_pos rfl, if_pos rfl]
    · rw [ms_1, if_pos rfl, if_pos rfl]
    · obtain ⟨q1, q2, q3⟩ := t4 i (by omega)
      exact ⟨q1, (e _ _ (by simp) (by simp)).trans q2, (e _ _ (by simp) (by simp)).trans q3⟩
    · rw [e26, Int32.toInt_toInt64, nI_toInt (by omega), nI_toInt (by omega), show (0 : Int64).toInt = 0 from by decide] at c
      omega
  · have out : PX7_in p1.toInt64 (0 : Int64) ((μ.1 100 26).toInt64) μ (fun (r2 : Int32) (m1 : Mem) => (¬ r2 = 0 → ((-1 : Int32) = m1.1 100 26 ∧ Inv (k + 1) (ms m1 100 26 p1))) ∧ (r2 = 0 → ((-1 : Int32) = -1 ∧ Inv (k + 1) m1))) := by
      rw [t2]
      refine r_in (fun c d => ?_) (fun _ => ⟨fun c => absurd rfl c, fun _ => ⟨rfl, Inv_s hI⟩⟩)
      rw [Int32.toInt_toInt64, nI_toInt (by omega)] at d
      rw [show (0 : Int64).toInt = 0 from by decide] at c
      exact absurd ⟨c, d⟩ hc
    rw [show (0 : Int32) = nI 0 from rfl, i_lt (by omega), i_le (by omega)]
    exact ⟨fun _ => out, fun c => ⟨fun d => absurd (show 0 ≤ p1.toInt ∧ p1.toInt ≤ (tl : Nat) by omega) hc, fun _ => out⟩⟩
theorem r_flag' {g : Nat} {μ : Mem} {Q : Int32 → Mem → Prop} (hg : g ≤ 1) (h : Q (nI g) μ) : PX7_flag (nI g) μ Q := r_flag hg h
theorem st_count : St_count Inv := by
  intro k μ p1 hk hI
  obtain ⟨ρ, κ, im, g, R, rl, tl, tp, ln, sz, ⟨hC, hM, hw, hx, h8⟩, h2, h3, ⟨r1, r2, r3, r4, r5⟩, ⟨t1, t2, t3, t4⟩, ⟨s1, s2⟩, h7⟩ := id hI
  obtain ⟨a0, b0, c0, _⟩ := h3 0 (by omega)
  obtain ⟨a1, b1, c1, _⟩ := h3 1 (by omega)
  obtain ⟨q1, q2, q3, q4, q5, q6⟩ := s1 0 (by omega)
  have hs := Inv_s hI
  unfold PX6_count PX7_count
  have e1 : μ.1 (0 + 1) 0 = nI (ρ 0 0) := hC.1
  have e2 : μ.1 (0 + 1) 4 = nI (ρ 0 4) := hC.2.1
  have e3 : μ.1 (0 + 25) 1 = nI tl := t1
  have z0 : μ.1 (0 + 53) (0 : Int32).toNatClampNeg = nI (g 0) := a0
  have z1 : μ.1 (0 + 53) (1 : Int32).toNatClampNeg = nI (g 1) := a1
  have y0 : μ.1 (100 + 15) (0 : Int32).toNatClampNeg = nI (g 0) := b0
  have y1 : μ.1 (100 + 15) (1 : Int32).toNatClampNeg = nI (g 1) := b1
  rcases sw (x := p1) (n := 5) (by omega) with ⟨j, hj, rfl⟩ | ho
  · rcases (show j = 0 ∨ j = 1 ∨ j = 2 ∨ j = 3 ∨ j = 4 ∨ j = 5 by omega) with rfl | rfl | rfl | rfl | rfl | rfl
    · refine ⟨fun _ => ⟨fun _ => ⟨by rw [e1, hM.1], hs⟩, ?_⟩, ?_⟩
      all_goals exact ⟨fun c => absurd c (by decide), fun c => absurd c (by decide), fun c => absurd c (by decide), fun c => absurd c (by decide), fun c => absurd c (by decide), fun c => absurd c (by decide)⟩
    · refine ⟨fun c => absurd c (by decide), fun _ => ⟨fun c => absurd c (by decide), fun _ => ⟨by rw [e2, hM.2.1], hs⟩, ?_⟩, ?_⟩
      all_goals exact ⟨fun c => absurd c (by decide), fun c => absurd c (by decide), fun c => absurd c (by decide), fun c => absurd c (by decide), fun c => absurd c (by decide)⟩
    · refine ⟨fun c => absurd c (by decide), fun c => absurd c (by decide), fun _ => ⟨fun c => absurd c (by decide), fun c => absurd c (by decide), fun _ => ⟨by rw [r1, r2], hs⟩, ?_⟩, ?_⟩
      all_goals exact ⟨fun c => absurd c (by decide), fun c => absurd c (by decide), fun c => absurd c (by decide), fun c => absurd c (by decide)⟩
    · have fin : ∀ w v : Nat, w = g 0 → v = g 1 → ((nI w + nI v) = (nI (g 0) + nI (g 1)) ∧ Inv (k + 1) μ) := fun w v hw hv => ⟨by rw [hw, hv], hs⟩
      have ref : ∀ r : Int32, r = nI (g 0) + nI (g 1) → PX7_count 100 (nI 3) μ (fun r2 m2 => r = r2 ∧ Inv (k + 1) m2) := by
        intro r hr
        unfold PX7_count
        refine ⟨fun c => absurd c (by decide), fun c => absurd c (by decide), fun c => absurd c (by decide), fun _ => ⟨vp_in_nI (n := 0) (by omega) (by omega), ?_⟩, fun c => absurd c (by decide), fun c => absurd c (by decide), fun c => absurd c (by decide)⟩
        rw [y0]
        refine r_flag c0 ⟨vp_in_nI (n := 1) (by omega) (by omega), ?_⟩
        rw [y1]
        exact r_flag c1 ⟨hr, hs⟩
      have tail : ∀ w : Nat, w = g 0 → nX6_count_75 0 (nI 3) (fun r1 m1 => PX7_count 100 (nI 3) m1 (fun r2 m2 => r1 = r2 ∧ Inv (k + 1) m2)) (nI w) μ := by
        intro w hw
        unfold nX6_count_75
        rw [z1]
        refine ⟨vp_in_nI (n := 1) (by omega) (by omega), fun c => ref _ ?_, fun c => ref _ ?_⟩
        · rw [c, hw]
        · have : g 1 = 1 := by
            have : g 1 ≠ 0 := fun q => c (by rw [q]; rfl)
            omega
          rw [this, hw]; rfl
      refine ⟨fun c => absurd c (by decide), fun c => absurd c (by decide), fun c => absurd c (by decide), fun _ => ⟨vp_in_nI (n := 0) (by omega) (by omega), ?_⟩, fun c => absurd c (by decide), fun c => absurd c (by decide), fun c => absurd c (by decide)⟩
      rw [z0]
      refine ⟨fun c => tail 0 ?_, fun c => tail 1 ?_⟩
      · exact ((nI_eq (b := 0) (by omega) (by omega)).1 c).symm
      · have : g 0 ≠ 0 := fun q => c (by rw [q]; rfl)
        omega
    · refine ⟨fun c => absurd c (by decide), fun c => absurd c (by decide), fun c => absurd c (by decide), fun c => absurd c (by decide), fun _ => ⟨fun c => absurd c (by decide), fun c => absurd c (by decide), fun c => absurd c (by decide), fun c => absurd c (by decide), fun _ => ⟨by rw [e3, t2], hs⟩, ?_⟩, ?_⟩
      all_goals exact ⟨fun c => absurd c (by decide), fun c => absurd c (by decide)⟩
    · have ln0 : μ.1 (0 + 96 + 1) (0 : Int32).toNatClampNeg = oI (ln 0) := q1
      have sz0 : μ.1 (0 + 96 + 2) (0 : Int32).toNatClampNeg = nI (sz 0) := q4
      have lm0 : μ.1 (100 + 22) (0 : Int32).toNatClampNeg = oI (ln 0) := q2
      have sm0 : μ.1 (100 + 23) (0 : Int32).toNatClampNeg = nI (sz 0) := q5
      have ref : ∀ r : Int32, ((¬ oI (ln 0) = -4) → r = nI (sz 0)) → (oI (ln 0) = -4 → r = -4) → PX7_count 100 (nI 5) μ (fun r2 m2 => r = r2 ∧ Inv (k + 1) m2) := by
        intro r hr1 hr2
        unfold PX7_count
        rw [lm0, sm0]
        refine ⟨fun c => absurd c (by decide), fun c => absurd c (by decide), fun c => absurd c (by decide), fun c => absurd c (by decide), fun c => absurd c (by decide), fun _ => ⟨vp_in_nI (n := 0) (by omega) (by omega), fun c => ⟨vp_in_nI (n := 0) (by omega) (by omega), hr1 c, hs⟩, fun c => ⟨hr2 c, hs⟩⟩, fun c => absurd c (by decide)⟩
      refine ⟨fun c => absurd c (by decide), fun c => absurd c (by decide), fun c => absurd c (by decide), fun c => absurd c (by decide), fun c => absurd c (by decide), fun _ => ?_, fun c => absurd c (by decide)⟩
      unfold PX4_isNothing
      rw [ln0]
      refine ⟨vp_in_nI (n := 0) (by omega) (by omega), fun c => ⟨fun _ => ⟨vp_in_nI (n := 0) (by omega) (by omega), ?_⟩, fun d => absurd rfl d⟩, fun c => ⟨fun d => absurd d np1, fun _ => ref _ (fun d => absurd c d) (fun _ => rfl)⟩⟩
      rw [sz0]
      exact ref _ (fun _ => rfl) (fun d => absurd d c)
  · have n0 := sw_n (j := 0) ho (by omega) (by omega)
    have n1 := sw_n (j := 1) ho (by omega) (by omega)
    have n2 := sw_n (j := 2) ho (by omega) (by omega)
    have n3 := sw_n (j := 3) ho (by omega) (by omega)
    have n4 := sw_n (j := 4) ho (by omega) (by omega)
    have n5 := sw_n (j := 5) ho (by omega) (by omega)
    exact ⟨fun c => absurd c n0, fun c => absurd c n1, fun c => absurd c n2, fun c => absurd c n3, fun c => absurd c n4, fun c => absurd c n5, fun _ => ⟨fun c => absurd c n0, fun c => absurd c n1, fun c => absurd c n2, fun c => absurd c n3, fun c => absurd c n4, fun c => absurd c n5, fun _ => ⟨rfl, hs⟩⟩⟩
