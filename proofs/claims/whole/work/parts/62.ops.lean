theorem ilt' {x : Int32} (k : Nat) (l : Int32) (h : l = nI k) (hk : k < 2 ^ 31) : x < l ↔ x.toInt < k := by rw [h]; exact i_lt hk
theorem ile' {x : Int32} (k : Nat) (l : Int32) (h : l = nI k) (hk : k < 2 ^ 31) : x ≤ l ↔ x.toInt ≤ k := by rw [h]; exact i_le hk
theorem igt' {x : Int32} (k : Nat) (l : Int32) (h : l = nI k) (hk : k < 2 ^ 31) : l < x ↔ (k : Int) < x.toInt := by rw [h]; exact i_gt hk
theorem ige' {x : Int32} (k : Nat) (l : Int32) (h : l = nI k) (hk : k < 2 ^ 31) : l ≤ x ↔ (k : Int) ≤ x.toInt := by rw [h]; exact i_ge hk
theorem c_isPlace {μ : Mem} {x : Int32} {n : Nat} {Q : Int32 → Mem → Prop} (hn : n ≤ 5) (h1 : ∀ i : Nat, i < n → x = nI (10 + i) → Q 1 μ) (h0 : ¬ (10 ≤ x.toInt ∧ x.toInt < 10 + n) → Q 0 μ) : PX6_isPlace x (nI n) μ Q := by
  unfold PX6_isPlace nX6_isPlace_18
  rw [show (10 : Int32) + nI n = nI (10 + n) from nI_add 10 n, ilt' 10 10 rfl (by omega), i_ge (by omega)]
  refine ⟨fun c => h0 (by omega), fun c => ⟨fun d => h0 (by omega), fun d => ?_⟩⟩
  obtain ⟨j, j1, e, j2⟩ := i_of (x := x) (by omega)
  exact h1 (j - 10) (by omega) (by rw [e, show 10 + (j - 10) = j by omega])
theorem r_areDays_y {μ : Mem} {n most : Nat} {Q : Int32 → Mem → Prop} (h1 : 1 ≤ n) (h2 : n ≤ most) (hm : most ≤ 10) (h : Q 1 μ) : PX7_areDays (nI n) (nI most) μ Q := by
  unfold PX7_areDays
  refine r_in (fun _ _ => ⟨nz1, h⟩) (fun c => ?_)
  rw [Int32.toInt_toInt64, nI_toInt (by omega), nI_toInt (by omega), show (1 : Int64).toInt = 1 from by decide] at c
  omega
theorem r_areDays_n {μ : Mem} {x : Int32} {most : Nat} {Q : Int32 → Mem → Prop} (hx : ¬ (1 ≤ x.toInt ∧ x.toInt ≤ most)) (hm : most ≤ 10) (h : Q 0 μ) : PX7_areDays x (nI most) μ Q := by
  unfold PX7_areDays
  refine r_in (fun c d => ?_) (fun c => ⟨nz0, h⟩)
  rw [Int32.toInt_toInt64, nI_toInt (by omega)] at d
  rw [show (1 : Int64).toInt = 1 from by decide] at c
  exact absurd ⟨c, d⟩ hx
theorem r_place {μ : Mem} {x : Int32} {n : Nat} {Q : Int32 → Mem → Prop} (hn : n ≤ 5) (h1 : ∀ i : Nat, i < n → x = nI (10 + i) → Q 1 μ) (h0 : ¬ (10 ≤ x.toInt ∧ x.toInt < 10 + n) → Q 0 μ) : PX7_in x.toInt64 (10 : Int64) ((((9 : Int32)) + nI n).toInt64) μ Q := by
  rw [show (9 : Int32) + nI n = nI (9 + n) from nI_add 9 n]
  refine r_in (fun c d => ?_) (fun c => h0 ?_)
  · rw [Int32.toInt_toInt64, nI_toInt (by omega)] at d
    rw [show (10 : Int64).toInt = 10 from by decide] at c
    obtain ⟨j, j1, e, j2⟩ := i_of (x := x) (by omega)
    exact h1 (j - 10) (by omega) (by rw [e, show 10 + (j - 10) = j by omega])
  · rw [Int32.toInt_toInt64, nI_toInt (by omega), show (10 : Int64).toInt = 10 from by decide] at c
    omega
/-- both have gone through all rows: what the invariant speaks of is as before -/
theorem Inv_search {k : Nat} {μ m m2 : Mem} (hI : Inv k μ) (f : FJ 60 96 μ m) (f2 : FSr m m2) : Inv (k + 1) m2 := Inv_fr hI (fun a j q => by
  unfold cellI at q
  rw [f2 a j (by omega) (by omega) (by omega) (by omega) (fun _ => by omega) (fun _ => by omega), f a j (by omega)])
theorem len0 {L : List (Nat → Option Nat)} (hl : L.length ≤ 60000) : (nI L.length = 0) ↔ L = [] := by
  rw [show (0 : Int32) = nI 0 from rfl, nI_eq (by omega) (by omega)]
  exact ⟨List.eq_nil_of_length_eq_zero, fun h => by rw [h]; rfl⟩
theorem rowsN_len {ρ : RA} {κ : KA} {n : Nat} (hw : RW ρ) (hn : n ≤ 5) : (rowsN ρ κ n).length ≤ 60000 := by
  have h1 := rowsF_len (κ := κ) hw n 0 (fun _ => none)
  have h2 := p9_le hn
  unfold rowsN; omega
theorem st_best : St_best Inv := by
  intro k μ p1 p2 hk hI
  obtain ⟨ρ, κ, im, g, R, rl, tl, tp, ln, sz, ⟨hC, hM, hw, hx, h8⟩, ⟨kc, km, kw⟩, h3, h4, h5, h6, h7⟩ := id hI
  have hs := Inv_s hI
  by_cases c : 1 ≤ p1.toInt ∧ p1.toInt ≤ 5
  · obtain ⟨n, n1, rfl, n2⟩ := i_of (x := p1) (by omega)
    rw [nI_toInt n1] at c
    have hlen := rowsN_len (κ := κ) hw (show n ≤ 5 by omega)
    -- the class, then the reference, both asked what may be asked
    have core : ((∃ j : Nat, j ≤ 4 ∧ p2 = nI j) ∨ (∃ i : Nat, i < n ∧ p2 = nI (10 + i))) → nX6_best_39 0 (nI n) p2 (fun r1 m1 => PX7_best 100 (nI n) p2 m1 (fun r2 m2 => r1 = r2 ∧ Inv (k + 1) m2)) μ := by
      intro hv
      unfold nX6_best_39
      refine c_look (w := 0) (ρ := ρ) (κ := κ) hC (by omega) hw kc kw (by omega) (by omega) (by omega) (by omega) (by omega) (fun m f a => ?_)
      obtain ⟨a1, a2, _, _, _⟩ := a
      have hM' := MR_of hM (m := m) (fun a j q => f a j (by omega))
      have km' := KM_of km (m := m) (fun j _ => f 114 _ (by omega))
      have ref : ∀ r : Int32, (∀ m2 : Mem, Inv (k + 1) m2 → m2.1 100 48 = nI (rowsN ρ κ n).length → BestR ρ κ n m2 (bestL ρ κ n (rowsN ρ κ n)) → (¬ p2 = ((4 : Int32)) → (¬ (m2.1 100 48) = 0 → (¬ p2 = 0 → (¬ p2 = ((1 : Int32)) → (¬ p2 = ((2 : Int32)) → (¬ p2 = ((3 : Int32)) → vp_in (p2 - ((10 : Int32))) 7 ∧ r = m2.1 (100 + 20) (p2 - ((10 : Int32))).toNatClampNeg) ∧ (p2 = ((3 : Int32)) → r = m2.1 100 47)) ∧ (p2 = ((2 : Int32)) → r = m2.1 100 45)) ∧ (p2 = ((1 : Int32)) → r = m2.1 100 44)) ∧ (p2 = 0 → r = m2.1 100 43)) ∧ ((m2.1 100 48) = 0 → r = (-4 : Int32))) ∧ (p2 = ((4 : Int32)) → r = m2.1 100 48)) → PX7_best 100 (nI n) p2 m (fun r2 m2 => r = r2 ∧ Inv (k + 1) m2) := by
        intro r hr
        have go : nX7_best_38 100 (nI n) p2 (fun r2 m2 => r = r2 ∧ Inv (k + 1) m2) m := by
          unfold nX7_best_38
          refine r_findBest (f := 0) (κ := κ) (ρ := ρ) hM' hw km' kw (by omega) (by omega) (by omega) (by omega) (by omega) (fun m2 b => ?_)
          obtain ⟨b1, b2, b3, _⟩ := b
          have inv := Inv_search hI f b1
          obtain ⟨q1, q2⟩ := hr m2 inv b2 (b3 rfl)
          refine ⟨fun c1 => ⟨fun c2 => ⟨fun c3 => ⟨fun c4 => ⟨fun c5 => ⟨fun c6 => ?_, fun c6 => ⟨((((q1 c1).1 c2).1 c3).1 c4).1 c5 |>.2 c6, inv⟩⟩, fun c5 => ⟨((((q1 c1).1 c2).1 c3).1 c4).2 c5, inv⟩⟩, fun c4 => ⟨(((q1 c1).1 c2).1 c3).2 c4, inv⟩⟩, fun c3 => ⟨((q1 c1).1 c2).2 c3, inv⟩⟩, fun c2 => ⟨(q1 c1).2 c2, inv⟩⟩, fun c1 => ⟨q2 c1, inv⟩⟩
          have z := ((((q1 c1).1 c2).1 c3).1 c4).1 c5 |>.1 c6
          exact ⟨z.1, z.2, inv⟩
        unfold PX7_best
        refine r_areDays_y (most := 5) (by omega) (by omega) (by omega) ⟨fun d => absurd d np1, fun _ => ?_⟩
        rcases hv with ⟨j, hj, rfl⟩ | ⟨i, hi, rfl⟩
        · exact r_in_y (a := 0) (b := 4) (by omega) (by omega) (by rw [nI_toInt (by omega)]; omega) (by rw [nI_toInt (by omega)]; omega) ⟨fun _ => go, fun d => absurd d np1⟩
        · refine r_in_n (a := 0) (b := 4) (by omega) (by omega) (by rw [nI_toInt (by omega)]; omega) ⟨fun d => absurd rfl d, fun _ => ?_⟩
          refine r_place (by omega) (fun _ _ _ => ⟨fun _ => go, fun d => absurd d np1⟩) (fun z => absurd (show 10 ≤ (nI (10 + i)).toInt ∧ (nI (10 + i)).toInt < 10 + n by rw [nI_toInt (by omega)]; omega) z)
      have e3 : m.1 (0 + 60) 3 = nI (rowsN ρ κ n).length := a1
      rw [e3, len0 hlen]
      have some' : rowsN ρ κ n ≠ [] → ∃ T c, bestL ρ κ n (rowsN ρ κ n) = some (T, c) := fun h => by
        obtain ⟨x, hx⟩ := bestL_some (ρ := ρ) (κ := κ) (n := n) (L := rowsN ρ κ n) (fun z => h (List.eq_nil_of_length_eq_zero z))
        exact ⟨x.1, x.2, hx⟩
      refine ⟨fun c4 => ⟨fun cl => ?_, fun cl => ?_⟩, fun c4 => ?_⟩
      · obtain ⟨T, cc, eb⟩ := some' cl
        rw [eb] at a2
        obtain ⟨y1, y2, y3, y4, y5, y6⟩ := a2
        have y2' : m.1 (0 + 60) 5 = nI cc := y2
        have y3' : m.1 (0 + 60) 6 = nI (kAt ρ κ T 0 n).thr := y3
        have y4' : m.1 (0 + 60) 7 = nI (kAt ρ κ T 0 n).paid := y4
        have y5' : m.1 (0 + 60) 8 = nI (kAt ρ κ T 0 n).lik := y5
        rw [y2', y3', y4', y5']
        -- what the reference holds
        have refs : ∀ r : Int32, (p2 = 0 → r = nI (kAt ρ κ T 0 n).thr) → (p2 = 1 → r = nI (kAt ρ κ T 0 n).paid) → (p2 = 2 → r = nI (kAt ρ κ T 0 n).lik) → (p2 = 3 → r = nI cc) → (∀ i : Nat, i < n → p2 = nI (10 + i) → r = oI (T i)) → PX7_best 100 (nI n) p2 m (fun r2 m2 => r = r2 ∧ Inv (k + 1) m2) := by
          intro r q0 q1 q2 q3 q4
          refine ref r (fun m2 _ b2 b3 => ⟨fun _ => ⟨fun _ => ⟨fun n0 => ⟨fun n1' => ⟨fun n2' => ⟨fun n3 => ?_, fun e => ?_⟩, fun e => ?_⟩, fun e => ?_⟩, fun e => ?_⟩, fun e => ?_⟩, fun e => absurd e c4⟩)
          · rw [eb] at b3
            obtain ⟨⟨z1, z2, z3, z4⟩, z5, z6⟩ := b3
            rcases hv with ⟨j, hj, rfl⟩ | ⟨i, hi, e⟩
            · rcases (show j = 0 ∨ j = 1 ∨ j = 2 ∨ j = 3 ∨ j = 4 by omega) with rfl | rfl | rfl | rfl | rfl
              · exact absurd rfl n0
              · exact absurd rfl n1'
              · exact absurd rfl n2'
              · exact absurd rfl n3
              · exact absurd rfl c4
            · have e10 : p2 - (10 : Int32) = nI i := by rw [e, show (10 : Int32) = nI 10 from rfl, pk_sub (by omega), Nat.add_sub_cancel_left]
              rw [e10, nI_clamp (by omega)]
              have z4' : m2.1 (100 + 20) i = oI (T i) := z4 i hi
              exact ⟨vp_in_nI (by omega) (by omega), by rw [z4']; exact q4 i hi e⟩
          · rw [eb] at b3; rw [q3 e]; exact b3.2.2.symm
          · rw [eb] at b3; rw [q2 e]; exact b3.1.2.2.1.symm
          · rw [eb] at b3; rw [q1 e]; exact b3.1.2.1.symm
          · rw [eb] at b3; rw [q0 e]; exact b3.1.1.symm
          · rw [b2] at e; exact absurd ((len0 hlen).1 e) cl
        have bad : ∀ {j i : Nat} {P : Prop}, p2 = nI j → p2 = nI i → j < 100 → i < 100 → i ≠ j → P := fun a b h1 h2 h3 => absurd ((nI_eq (by omega) (by omega)).1 (b.symm.trans a)) h3
        refine ⟨fun e => refs _ (fun _ => rfl) (fun b => bad (j := 0) (i := 1) e b (by omega) (by omega) (by omega)) (fun b => bad (j := 0) (i := 2) e b (by omega) (by omega) (by omega)) (fun b => bad (j := 0) (i := 3) e b (by omega) (by omega) (by omega)) (fun i hi b => bad (j := 0) (i := 10 + i) e b (by omega) (by omega) (by omega)), fun e => refs _ (fun b => bad (j := 1) (i := 0) e b (by omega) (by omega) (by omega)) (fun _ => rfl) (fun b => bad (j := 1) (i := 2) e b (by omega) (by omega) (by omega)) (fun b => bad (j := 1) (i := 3) e b (by omega) (by omega) (by omega)) (fun i hi b => bad (j := 1) (i := 10 + i) e b (by omega) (by omega) (by omega)), fun e => refs _ (fun b => bad (j := 2) (i := 0) e b (by omega) (by omega) (by omega)) (fun b => bad (j := 2) (i := 1) e b (by omega) (by omega) (by omega)) (fun _ => rfl) (fun b => bad (j := 2) (i := 3) e b (by omega) (by omega) (by omega)) (fun i hi b => bad (j := 2) (i := 10 + i) e b (by omega) (by omega) (by omega)), fun e => refs _ (fun b => bad (j := 3) (i := 0) e b (by omega) (by omega) (by omega)) (fun b => bad (j := 3) (i := 1) e b (by omega) (by omega) (by omega)) (fun b => bad (j := 3) (i := 2) e b (by omega) (by omega) (by omega)) (fun _ => rfl) (fun i hi b => bad (j := 3) (i := 10 + i) e b (by omega) (by omega) (by omega)), fun e => ?_⟩
        rcases hv with ⟨j, hj, rfl⟩ | ⟨i, hi, e'⟩
        · rw [nI_toInt (by omega)] at e
          have : j = 4 := by omega
          rw [this] at c4; exact absurd rfl c4
        · have e10 : p2 - (10 : Int32) = nI i := by rw [e', show (10 : Int32) = nI 10 from rfl, pk_sub (by omega), Nat.add_sub_cancel_left]
          have y6' : m.1 (0 + 60 + 32) i = oI (T i) := y6 i hi
          rw [e10, nI_clamp (by omega), y6']
          refine ⟨vp_in_nI (by omega) (by omega), refs _ (fun b => bad (j := 10 + i) (i := 0) e' b (by omega) (by omega) (by omega)) (fun b => bad (j := 10 + i) (i := 1) e' b (by omega) (by omega) (by omega)) (fun b => bad (j := 10 + i) (i := 2) e' b (by omega) (by omega) (by omega)) (fun b => bad (j := 10 + i) (i := 3) e' b (by omega) (by omega) (by omega)) (fun i' hi' b => ?_)⟩
          have := (nI_eq (by omega) (by omega)).1 (e'.symm.trans b)
          rw [show i' = i by omega]
      · refine ref _ (fun m2 _ b2 _ => ⟨fun _ => ⟨fun e => ?_, fun _ => rfl⟩, fun e => absurd e c4⟩)
        rw [b2] at e
        exact absurd ((len0 hlen).2 cl) e
      · exact ref _ (fun m2 _ b2 _ => ⟨fun e => absurd c4 e, fun _ => b2.symm⟩)
    have bad : ¬ (0 ≤ p2.toInt ∧ p2.toInt ≤ 4) → ¬ (10 ≤ p2.toInt ∧ p2.toInt < 10 + n) → PX7_best 100 (nI n) p2 μ (fun r2 m2 => (-1 : Int32) = r2 ∧ Inv (k + 1) m2) := by
      intro z1 z2
      unfold PX7_best
      refine r_areDays_y (most := 5) (by omega) (by omega) (by omega) ⟨fun d => absurd d np1, fun _ => ?_⟩
      refine r_in_n (a := 0) (b := 4) (by omega) (by omega) (by omega) ⟨fun d => absurd rfl d, fun _ => ?_⟩
      exact r_place (by omega) (fun i hi e => absurd (show 10 ≤ p2.toInt ∧ p2.toInt < 10 + n by rw [e, nI_toInt (by omega)]; omega) z2) (fun _ => ⟨fun d => absurd rfl d, fun _ => ⟨rfl, hs⟩⟩)
    have n14 : ∀ w : Int32, ((w = 1 ∧ 0 ≤ p2.toInt ∧ p2.toInt ≤ 4) ∨ (w = 0 ∧ ¬ (0 ≤ p2.toInt ∧ p2.toInt ≤ 4))) → nX6_best_14 0 (nI n) p2 (fun r1 m1 => PX7_best 100 (nI n) p2 m1 (fun r2 m2 => r1 = r2 ∧ Inv (k + 1) m2)) w μ := by
      intro w hw'
      unfold nX6_best_14
      refine ⟨fun d => absurd d (nI_nlt (b := 1) (by omega) (by omega)), fun _ => ⟨fun d => absurd d (nI_nlt (a := 5) (by omega) (by omega)), fun _ => ⟨fun d => ?_, fun d => ?_⟩⟩⟩
      · rcases hw' with ⟨_, z1, z2⟩ | ⟨z, _⟩
        · obtain ⟨j, j1, e, j2⟩ := i_of (x := p2) (by omega)
          exact core (Or.inl ⟨j, by omega, e⟩)
        · exact absurd z d
      · rcases hw' with ⟨z, _⟩ | ⟨_, z⟩
        · rw [z] at d; exact absurd d np1
        · exact c_isPlace (by omega) (fun i hi e => ⟨fun _ => core (Or.inr ⟨i, hi, e⟩), fun y => absurd y np1⟩) (fun z2 => ⟨fun y => absurd rfl y, fun _ => bad z z2⟩)
    unfold PX6_best nX6_best_13
    rw [ilt' 0 0 rfl (by omega), igt' 4 4 rfl (by omega)]
    exact ⟨fun d => n14 0 (Or.inr ⟨rfl, by omega⟩), fun d => ⟨fun e => n14 0 (Or.inr ⟨rfl, by omega⟩), fun e => n14 1 (Or.inl ⟨rfl, by omega, by omega⟩)⟩⟩
  · have out : PX7_best 100 p1 p2 μ (fun r2 m2 => (-1 : Int32) = r2 ∧ Inv (k + 1) m2) := by
      unfold PX7_best
      exact r_areDays_n (most := 5) (by omega) (by omega) ⟨fun _ => ⟨rfl, hs⟩, fun d => absurd rfl d⟩
    have n14 : ∀ w : Int32, nX6_best_14 0 p1 p2 (fun r1 m1 => PX7_best 100 p1 p2 m1 (fun r2 m2 => r1 = r2 ∧ Inv (k + 1) m2)) w μ := by
      intro w
      unfold nX6_best_14
      rw [ilt' 1 1 rfl (by omega), igt' 5 5 rfl (by omega)]
      exact ⟨fun _ => out, fun d => ⟨fun _ => out, fun e => absurd (show 1 ≤ p1.toInt ∧ p1.toInt ≤ 5 by omega) c⟩⟩
    unfold PX6_best nX6_best_13
    exact ⟨fun _ => n14 0, fun _ => ⟨fun _ => n14 0, fun _ => n14 1⟩⟩
theorem st_fairest : St_fairest Inv := by
  intro k μ p1 p2 hk hI
  obtain ⟨ρ, κ, im, g, R, rl, tl, tp, ln, sz, ⟨hC, hM, hw, hx, h8⟩, ⟨kc, km, kw⟩, h3, h4, h5, h6, h7⟩ := id hI
  have hs := Inv_s hI
  by_cases c : 1 ≤ p1.toInt ∧ p1.toInt ≤ 5
  · obtain ⟨n, n1, rfl, n2⟩ := i_of (x := p1) (by omega)
    rw [nI_toInt n1] at c
    have hlen := rowsN_len (κ := κ) hw (show n ≤ 5 by omega)
    have core : (p2 = 0 ∨ (∃ i : Nat, i < n ∧ p2 = nI (10 + i))) → nX6_fairest_24 0 (nI n) p2 (fun r1 m1 => PX7_fairest 100 (nI n) p2 m1 (fun r2 m2 => r1 = r2 ∧ Inv (k + 1) m2)) μ := by
      intro hv
      unfold nX6_fairest_24
      refine c_look (w := 0) (ρ := ρ) (κ := κ) hC (by omega) hw kc kw (by omega) (by omega) (by omega) (by omega) (by omega) (fun m f a => ?_)
      obtain ⟨a1, _, a2, _, _⟩ := a
      have hM' := MR_of hM (m := m) (fun a j q => f a j (by omega))
      have km' := KM_of km (m := m) (fun j _ => f 114 _ (by omega))
      have ref : ∀ r : Int32, (∀ m2 : Mem, Inv (k + 1) m2 → m2.1 100 48 = nI (rowsN ρ κ n).length → FairR ρ κ n m2 (fairL ρ κ n (rowsN ρ κ n)) → (¬ (m2.1 100 48) = 0 → (¬ p2 = 0 → vp_in (p2 - ((10 : Int32))) 7 ∧ r = m2.1 (100 + 20) (p2 - ((10 : Int32))).toNatClampNeg) ∧ (p2 = 0 → r = m2.1 100 46)) ∧ ((m2.1 100 48) = 0 → r = (-4 : Int32))) → PX7_fairest 100 (nI n) p2 m (fun r2 m2 => r = r2 ∧ Inv (k + 1) m2) := by
        intro r hr
        have go : nX7_fairest_30 100 (nI n) p2 (fun r2 m2 => r = r2 ∧ Inv (k + 1) m2) m := by
          unfold nX7_fairest_30
          refine r_findBest (f := 1) (κ := κ) (ρ := ρ) hM' hw km' kw (by omega) (by omega) (by omega) (by omega) (by omega) (fun m2 b => ?_)
          obtain ⟨b1, b2, _, b3⟩ := b
          have inv := Inv_search hI f b1
          obtain ⟨q1, q2⟩ := hr m2 inv b2 (b3 rfl)
          exact ⟨fun c2 => ⟨fun c3 => ⟨((q1 c2).1 c3).1, ((q1 c2).1 c3).2, inv⟩, fun c3 => ⟨(q1 c2).2 c3, inv⟩⟩, fun c2 => ⟨q2 c2, inv⟩⟩
        unfold PX7_fairest
        refine r_areDays_y (most := 5) (by omega) (by omega) (by omega) ⟨fun d => absurd d np1, fun _ => ⟨fun _ => go, fun d => ?_⟩⟩
        rcases hv with e | ⟨i, hi, rfl⟩
        · exact absurd e d
        · refine r_place (by omega) (fun _ _ _ => ⟨fun _ => go, fun d => absurd d np1⟩) (fun z => absurd (show 10 ≤ (nI (10 + i)).toInt ∧ (nI (10 + i)).toInt < 10 + n by rw [nI_toInt (by omega)]; omega) z)
      have e3 : m.1 (0 + 60) 3 = nI (rowsN ρ κ n).length := a1
      rw [e3, len0 hlen]
      refine ⟨fun cl => ?_, fun cl => ?_⟩
      · obtain ⟨T, eb⟩ := fairL_some (ρ := ρ) (κ := κ) (n := n) (L := rowsN ρ κ n) (fun z => cl (List.eq_nil_of_length_eq_zero z))
        rw [eb] at a2
        obtain ⟨y1, y2, y6⟩ := a2
        have y2' : m.1 (0 + 60) 11 = nI (lfN ρ T n 4) := y2
        rw [y2']
        have refs : ∀ r : Int32, (p2 = 0 → r = nI (lfN ρ T n 4)) → (∀ i : Nat, i < n → p2 = nI (10 + i) → r = oI (T i)) → PX7_fairest 100 (nI n) p2 m (fun r2 m2 => r = r2 ∧ Inv (k + 1) m2) := by
          intro r q0 q4
          refine ref r (fun m2 _ b2 b3 => ⟨fun _ => ⟨fun n0 => ?_, fun e => ?_⟩, fun e => ?_⟩)
          · rw [eb] at b3
            obtain ⟨⟨z1, z2, z3, z4⟩, z5⟩ := b3
            rcases hv with e | ⟨i, hi, e⟩
            · exact absurd e n0
            · have e10 : p2 - (10 : Int32) = nI i := by rw [e, show (10 : Int32) = nI 10 from rfl, pk_sub (by omega), Nat.add_sub_cancel_left]
              rw [e10, nI_clamp (by omega)]
              have z4' : m2.1 (100 + 20) i = oI (T i) := z4 i hi
              exact ⟨vp_in_nI (by omega) (by omega), by rw [z4']; exact q4 i hi e⟩
          · rw [eb] at b3; rw [q0 e]; exact b3.2.symm
          · rw [b2] at e; exact absurd ((len0 hlen).1 e) cl
        refine ⟨fun d => ?_, fun d => refs _ (fun _ => rfl) (fun i hi e => ?_)⟩
        · rcases hv with e | ⟨i, hi, e'⟩
          · exact absurd e d
          · have e10 : p2 - (10 : Int32) = nI i := by rw [e', show (10 : Int32) = nI 10 from rfl, pk_sub (by omega), Nat.add_sub_cancel_left]
            have y6' : m.1 (0 + 60 + 33) i = oI (T i) := y6 i hi
            rw [e10, nI_clamp (by omega), y6']
            refine ⟨vp_in_nI (by omega) (by omega), refs _ (fun b => absurd b d) (fun i' hi' b => ?_)⟩
            have := (nI_eq (by omega) (by omega)).1 (e'.symm.trans b)
            rw [show i' = i by omega]
        · exact absurd ((nI_eq (a := 0) (b := 10 + i) (by omega) (by omega)).1 (d.symm.trans e)) (by omega)
      · refine ref _ (fun m2 _ b2 _ => ⟨fun e => ?_, fun _ => rfl⟩)
        rw [b2] at e
        exact absurd ((len0 hlen).2 cl) e
    have bad : ¬ p2 = 0 → ¬ (10 ≤ p2.toInt ∧ p2.toInt < 10 + n) → PX7_fairest 100 (nI n) p2 μ (fun r2 m2 => (-1 : Int32) = r2 ∧ Inv (k + 1) m2) := by
      intro z1 z2
      unfold PX7_fairest
      refine r_areDays_y (most := 5) (by omega) (by omega) (by omega) ⟨fun d => absurd d np1, fun _ => ⟨fun d => absurd d z1, fun _ => ?_⟩⟩
      exact r_place (by omega) (fun i hi e => absurd (show 10 ≤ p2.toInt ∧ p2.toInt < 10 + n by rw [e, nI_toInt (by omega)]; omega) z2) (fun _ => ⟨fun d => absurd rfl d, fun _ => ⟨rfl, hs⟩⟩)
    unfold PX6_fairest
    refine ⟨fun d => absurd d (nI_nlt (b := 1) (by omega) (by omega)), fun _ => ⟨fun d => absurd d (nI_nlt (a := 5) (by omega) (by omega)), fun _ => ⟨fun d => core (Or.inl d), fun d => ?_⟩⟩⟩
    exact c_isPlace (by omega) (fun i hi e => ⟨fun _ => core (Or.inr ⟨i, hi, e⟩), fun y => absurd y np1⟩) (fun z2 => ⟨fun y => absurd rfl y, fun _ => bad d z2⟩)
  · have out : PX7_fairest 100 p1 p2 μ (fun r2 m2 => (-1 : Int32) = r2 ∧ Inv (k + 1) m2) := by
      unfold PX7_fairest
      exact r_areDays_n (most := 5) (by omega) (by omega) ⟨fun _ => ⟨rfl, hs⟩, fun d => absurd rfl d⟩
    unfold PX6_fairest
    rw [ilt' 1 1 rfl (by omega), igt' 5 5 rfl (by omega)]
    exact ⟨fun _ => out, fun d => ⟨fun _ => out, fun e => absurd (show 1 ≤ p1.toInt ∧ p1.toInt ≤ 5 by omega) c⟩⟩
