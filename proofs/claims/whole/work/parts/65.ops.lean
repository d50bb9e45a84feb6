/-- the invariant behind a class's search on other rules and a reference's small dish -/
theorem Inv_dish {k : Nat} {μ m m2 : Mem} (hI : Inv k μ) (f : FJd μ m) (f2 : FDr m m2) (hM2 : ∀ ρ : RA, MR m ρ → RW ρ → MR m2 ρ) : Inv (k + 1) m2 := by
  obtain ⟨ρ, κ, im, g, R, rl, tl, tp, ln, sz, h1, h2, h3, h4, h5, h6, h7⟩ := hI
  have ff : ∀ a j : Nat, (a < 13 ∨ 25 ≤ a) → (a < 60 ∨ 96 ≤ a) → a ≠ 102 → a ≠ 103 → a ≠ 104 → a ≠ 116 → a ≠ 117 → a ≠ 119 → a ≠ 120 → (a = 100 → j < 41 ∨ 51 < j) → (a = 114 → 280 ≤ j) → m2.1 a j = μ.1 a j := fun a j q1 q2 q3 q4 q5 q6 q7 q8 q9 q10 q11 => (f2 a j q3 q4 q5 q6 q7 q8 q9 q10 q11).trans (f a j q1 q2)
  have hM : MR m ρ := MR_of h1.2.1 (fun a j q => f a j (by omega) (by omega))
  refine ⟨ρ, κ, im, g, R, rl, tl, tp, ln, sz, ⟨CR_of h1.1 (fun a j _ _ => ff a j (by omega) (by omega) (by omega) (by omega) (by omega) (by omega) (by omega) (by omega) (by omega) (by omega) (by omega)), hM2 ρ hM h1.2.2.1, h1.2.2⟩, IKit_fr h2 (fun a j q => ff a j (by omega) (by omega) (by omega) (by omega) (by omega) (by omega) (by omega) (by omega) (by omega) (by omega) (by omega)), IImg_fr h3 (fun a j q => ff a j (by omega) (by omega) (by omega) (by omega) (by omega) (by omega) (by omega) (by omega) (by omega) (by omega) (by omega)), IRow_fr h4 (fun a j q => ff a j (by omega) (by omega) (by omega) (by omega) (by omega) (by omega) (by omega) (by omega) (by omega) (by omega) (by omega)), ITape_fr h5 (fun a j q => ff a j (by omega) (by omega) (by omega) (by omega) (by omega) (by omega) (by omega) (by omega) (by omega) (by omega) (by omega)), ISheet_fr h6 (fun a j q => ff a j (by omega) (by omega) (by omega) (by omega) (by omega) (by omega) (by omega) (by omega) (by omega) (by omega) (by omega)), IFlt_fr h7 (fun a j q => ff a j (by omega) (by omega) (by omega) (by omega) (by omega) (by omega) (by omega) (by omega) (by omega) (by omega) (by omega))⟩
theorem st_small : St_small Inv := by
  intro k μ p1 p2 hk hI
  obtain ⟨ρ, κ, im, g, R, rl, tl, tp, ln, sz, ⟨hC, hM, hw, hx, h8⟩, ⟨kc, km, kw⟩, h3, h4, h5, h6, h7⟩ := id hI
  have t6 := hw.1
  have hs := Inv_s hI
  unfold PX6_small PX7_small nX7_small_25
  rcases yesI p1 (ρ 0 0) with ⟨t, ht, rfl⟩ | hn
  · refine c_hasThing_y hC hw ht ⟨fun c => absurd c np1, fun _ => ?_⟩
    by_cases c : 1 ≤ p2.toInt ∧ p2.toInt ≤ 4
    · obtain ⟨n, n1, rfl, n2⟩ := i_of (x := p2) (by omega)
      rw [nI_toInt n1] at c
      refine ⟨fun d => absurd d (nI_nlt (b := 1) (by omega) (by omega)), fun _ => ⟨fun _ => ?_, fun d => absurd (nI_le (b := 4) (by omega) (by omega)) d⟩⟩
      refine c_dish hC hw h8 (by omega) kc kw (by omega) (by omega) (by omega) (fun m f e => ?_)
      rw [e]
      have hM' := MR_of hM (m := m) (fun a j q => f a j (by omega) (by omega))
      have km' := KM_of km (m := m) (fun j _ => f 114 _ (by omega) (by omega))
      refine r_isThing_y hM' hw ht ⟨fun d => absurd d np1, fun _ => ?_⟩
      refine r_areDays_y (most := 4) (by omega) (by omega) (by omega) ⟨fun d => absurd d np1, fun _ => ?_⟩
      refine r_dish hM' hw h8 ht km' kw (by omega) h7.2.2.1 (by omega) (by omega) (fun m2 f2 hM2 => ⟨rfl, ?_⟩)
      refine ⟨ρ, κ, im, g, R, rl, tl, tp, ln, sz, ?_⟩
      have ff : ∀ a j : Nat, (a < 13 ∨ 25 ≤ a) → (a < 60 ∨ 96 ≤ a) → a ≠ 102 → a ≠ 103 → a ≠ 104 → a ≠ 116 → a ≠ 117 → a ≠ 119 → a ≠ 120 → (a = 100 → j < 41 ∨ 51 < j) → (a = 114 → 280 ≤ j) → m2.1 a j = μ.1 a j := fun a j q1 q2 q3 q4 q5 q6 q7 q8 q9 q10 q11 => (f2 a j q3 q4 q5 q6 q7 q8 q9 q10 q11).trans (f a j q1 q2)
      exact ⟨⟨CR_of hC (fun a j _ _ => ff a j (by omega) (by omega) (by omega) (by omega) (by omega) (by omega) (by omega) (by omega) (by omega) (by omega) (by omega)), hM2, hw, hx, h8⟩, IKit_fr ⟨kc, km, kw⟩ (fun a j q => ff a j (by omega) (by omega) (by omega) (by omega) (by omega) (by omega) (by omega) (by omega) (by omega) (by omega) (by omega)), IImg_fr h3 (fun a j q => ff a j (by omega) (by omega) (by omega) (by omega) (by omega) (by omega) (by omega) (by omega) (by omega) (by omega) (by omega)), IRow_fr h4 (fun a j q => ff a j (by omega) (by omega) (by omega) (by omega) (by omega) (by omega) (by omega) (by omega) (by omega) (by omega) (by omega)), ITape_fr h5 (fun a j q => ff a j (by omega) (by omega) (by omega) (by omega) (by omega) (by omega) (by omega) (by omega) (by omega) (by omega) (by omega)), ISheet_fr h6 (fun a j q => ff a j (by omega) (by omega) (by omega) (by omega) (by omega) (by omega) (by omega) (by omega) (by omega) (by omega) (by omega)), IFlt_fr h7 (fun a j q => ff a j (by omega) (by omega) (by omega) (by omega) (by omega) (by omega) (by omega) (by omega) (by omega) (by omega) (by omega))⟩
    · have out : PX7_isThing 100 (nI t) μ (fun (r2 : Int32) (m1 : Mem) => (r2 = 0 → ((-1 : Int32) = -1 ∧ Inv (k + 1) m1)) ∧ (¬ r2 = 0 → PX7_areDays p2 ((4 : Int32)) m1 (fun (r5 : Int32) (m4 : Mem) => (r5 = 0 → ((-1 : Int32) = -1 ∧ Inv (k + 1) m4)) ∧ (¬ r5 = 0 → PX7_closingWith 100 (nI t) p2 m4 (fun (r8 : Int32) (m7 : Mem) => (-1 : Int32) = r8 ∧ Inv (k + 1) m7))))) := by
        refine r_isThing_y hM hw ht ⟨fun d => absurd d np1, fun _ => ?_⟩
        exact r_areDays_n (most := 4) c (by omega) ⟨fun _ => ⟨rfl, hs⟩, fun d => absurd rfl d⟩
      rw [ilt' 1 1 rfl (by omega), ile' 4 4 rfl (by omega)]
      exact ⟨fun _ => out, fun d => ⟨fun e => absurd (show 1 ≤ p2.toInt ∧ p2.toInt ≤ 4 by omega) c, fun _ => out⟩⟩
  · refine c_hasThing_n hC hw hn ⟨fun _ => ?_, fun c => absurd rfl c⟩
    exact r_isThing_n hM hw hn ⟨fun _ => ⟨rfl, hs⟩, fun c => absurd rfl c⟩
/-- the thing whose dish lets the most rows close, of those below t; how many (-1: none was looked at) -/
noncomputable def mostD (ρ : RA) (κ : KA) (n : Nat) : Nat → Option (Nat × Nat)
  | 0 => none
  | t + 1 => match mostD ρ κ n t with
    | none => some (t, dishN ρ κ t n)
    | some (b, v) => if v < dishN ρ κ t n then some (t, dishN ρ κ t n) else some (b, v)
theorem mostD_le {ρ : RA} {κ : KA} {n : Nat} (hw : RW ρ) (h8 : ρ 0 4 ≤ 8) (hn : n ≤ 5) : ∀ t : Nat, t ≤ 6 → ∀ b v : Nat, mostD ρ κ n t = some (b, v) → b < 6 ∧ v ≤ 60000
  | 0, _, b, v, e => by cases e
  | t + 1, ht, b, v, e => by
    have hd := dishN_le (κ := κ) (t := t) hw h8 (by omega) hn
    unfold mostD at e
    cases e2 : mostD ρ κ n t with
    | none =>
      rw [e2] at e
      have := Option.some.inj e
      injection this with q1 q2
      omega
    | some x =>
      obtain ⟨b', v'⟩ := x
      rw [e2] at e
      have ih := mostD_le hw h8 hn t (by omega) b' v' e2
      change (if v' < dishN ρ κ t n then some (t, dishN ρ κ t n) else some (b', v')) = some (b, v) at e
      split at e
      · have := Option.some.inj e
        injection this with q1 q2
        omega
      · have := Option.some.inj e
        injection this with q1 q2
        omega
def mostB (x : Option (Nat × Nat)) : Int32 := match x with
  | none => -4
  | some (b, _) => nI b
def mostV (x : Option (Nat × Nat)) : Int32 := match x with
  | none => -1
  | some (_, v) => nI v
theorem most_cmp {ρ : RA} {κ : KA} {n t : Nat} (hw : RW ρ) (h8 : ρ 0 4 ≤ 8) (hn : n ≤ 5) (ht : t < 6) : (nI (dishN ρ κ t n) ≤ mostV (mostD ρ κ n t) → mostB (mostD ρ κ n (t + 1)) = mostB (mostD ρ κ n t) ∧ mostV (mostD ρ κ n (t + 1)) = mostV (mostD ρ κ n t)) ∧ (¬ nI (dishN ρ κ t n) ≤ mostV (mostD ρ κ n t) → mostB (mostD ρ κ n (t + 1)) = nI t ∧ mostV (mostD ρ κ n (t + 1)) = nI (dishN ρ κ t n)) := by
  have hd := dishN_le (κ := κ) (t := t) hw h8 ht hn
  have e1 : mostD ρ κ n (t + 1) = match mostD ρ κ n t with
    | none => some (t, dishN ρ κ t n)
    | some (b, v) => if v < dishN ρ κ t n then some (t, dishN ρ κ t n) else some (b, v) := rfl
  rw [e1]
  cases e : mostD ρ κ n t with
  | none =>
    refine ⟨fun c => ?_, fun _ => ⟨rfl, rfl⟩⟩
    have := Int32.le_iff_toInt_le.mp c
    rw [nI_toInt (by omega), show (mostV none).toInt = -1 from by show (-1 : Int32).toInt = -1; decide] at this
    omega
  | some x =>
    obtain ⟨b, v⟩ := x
    obtain ⟨_, hv⟩ := mostD_le hw h8 hn t (by omega) b v e
    show (nI (dishN ρ κ t n) ≤ nI v → _) ∧ (¬ nI (dishN ρ κ t n) ≤ nI v → _)
    rw [nI_leI (by omega) (by omega)]
    refine ⟨fun c => ?_, fun c => ?_⟩
    · show mostB (if v < dishN ρ κ t n then some (t, dishN ρ κ t n) else some (b, v)) = _ ∧ mostV (if v < dishN ρ κ t n then some (t, dishN ρ κ t n) else some (b, v)) = _
      rw [if_neg (by omega)]; exact ⟨rfl, rfl⟩
    · show mostB (if v < dishN ρ κ t n then some (t, dishN ρ κ t n) else some (b, v)) = _ ∧ mostV (if v < dishN ρ κ t n then some (t, dishN ρ κ t n) else some (b, v)) = _
      rw [if_pos (by omega)]; exact ⟨rfl, rfl⟩
theorem FJd_trans {μ m m2 : Mem} (h : FJd μ m) (h2 : FJd m m2) : FJd μ m2 := fun a j q1 q2 => (h2 a j q1 q2).trans (h a j q1 q2)
theorem FDr_trans {μ m m2 : Mem} (h : FDr μ m) (h2 : FDr m m2) : FDr μ m2 := fun a j q1 q2 q3 q4 q5 q6 q7 q8 q9 => (h2 a j q1 q2 q3 q4 q5 q6 q7 q8 q9).trans (h a j q1 q2 q3 q4 q5 q6 q7 q8 q9)
theorem st_dish : St_dish Inv := by
  intro k μ p1 hk hI
  obtain ⟨ρ, κ, im, g, R, rl, tl, tp, ln, sz, ⟨hC, hM, hw, hx, h8⟩, ⟨kc, km, kw⟩, h3, h4, h5, h6, h7⟩ := id hI
  have t6 := hw.1
  have hs := Inv_s hI
  intro S hS
  by_cases c : 1 ≤ p1.toInt ∧ p1.toInt ≤ 4
  · obtain ⟨n, n1, rfl, n2⟩ := i_of (x := p1) (by omega)
    rw [nI_toInt n1] at c
    refine ⟨fun d => absurd d (nI_nlt (b := 1) (by omega) (by omega)), fun _ => ⟨fun _ => ?_, fun d => absurd (nI_le (b := 4) (by omega) (by omega)) d⟩⟩
    have ref : ∀ m : Mem, FJd μ m → PX7_dish 100 (nI n) m (fun r2 m2 => mostB (mostD ρ κ n (ρ 0 0)) = r2 ∧ Inv (k + 1) m2) := by
      intro m f S2 hS2
      have hM0 := MR_of hM (m := m) (fun a j q => f a j (by omega) (by omega))
      have km0 := KM_of km (m := m) (fun j _ => f 114 _ (by omega) (by omega))
      refine r_areDays_y (most := 4) (by omega) (by omega) (by omega) ⟨fun _ => ?_, fun d => absurd d np1⟩
      have lp : ∀ t m1, t ≤ ρ 0 0 → (FDr m m1 ∧ MR m1 ρ) → S2 (mostB (mostD ρ κ n t)) (mostV (mostD ρ κ n t)) (nI t) m1 := by
        refine up_loop (T := fun t m1 => S2 (mostB (mostD ρ κ n t)) (mostV (mostD ρ κ n t)) (nI t) m1) ?_ ?_
        · intro t m1 ht ⟨f1, hM1⟩ ih
          have km1 := KM_of km0 (m := m1) (fun j _ => f1 114 _ (by decide) (by decide) (by decide) (by decide) (by decide) (by decide) (by decide) (by simp) (fun _ => by omega))
          obtain ⟨z1, z2⟩ := most_cmp (κ := κ) (n := n) (t := t) hw h8 (by omega) (by omega)
          apply hS2
          unfold nX7_dish_18
          rw [hM1.1]
          refine ⟨fun d => absurd d (nI_ge ht (by omega)), fun _ => ?_⟩
          refine r_dish hM1 hw h8 ht km1 kw (by omega) h7.2.2.1 (by omega) (by omega) (fun m2 f2 hM2 => ?_)
          have nx := ih m2 ⟨FDr_trans f1 f2, hM2⟩
          unfold nX7_dish_48 nX7_dish_61
          rw [nI_1]
          refine ⟨fun d => ⟨fun _ => ?_, fun e => absurd d e⟩, fun d => ⟨fun e => absurd e d, fun _ => ?_⟩⟩
          · rw [(z1 d).1, (z1 d).2] at nx; exact nx
          · rw [(z2 d).1, (z2 d).2] at nx; exact nx
        · intro m1 ⟨f1, hM1⟩
          apply hS2
          unfold nX7_dish_18
          rw [hM1.1]
          refine ⟨fun _ => ⟨rfl, ?_⟩, fun d => absurd (nI_le (Nat.le_refl _) (by omega)) d⟩
          refine ⟨ρ, κ, im, g, R, rl, tl, tp, ln, sz, ?_⟩
          have ff : ∀ a j : Nat, (a < 13 ∨ 25 ≤ a) → (a < 60 ∨ 96 ≤ a) → a ≠ 102 → a ≠ 103 → a ≠ 104 → a ≠ 116 → a ≠ 117 → a ≠ 119 → a ≠ 120 → (a = 100 → j < 41 ∨ 51 < j) → (a = 114 → 280 ≤ j) → m1.1 a j = μ.1 a j := fun a j q1 q2 q3 q4 q5 q6 q7 q8 q9 q10 q11 => (f1 a j q3 q4 q5 q6 q7 q8 q9 q10 q11).trans (f a j q1 q2)
          exact ⟨⟨CR_of hC (fun a j _ _ => ff a j (by omega) (by omega) (by omega) (by omega) (by omega) (by omega) (by omega) (by omega) (by omega) (by omega) (by omega)), hM1, hw, hx, h8⟩, IKit_fr ⟨kc, km, kw⟩ (fun a j q => ff a j (by omega) (by omega) (by omega) (by omega) (by omega) (by omega) (by omega) (by omega) (by omega) (by omega) (by omega)), IImg_fr h3 (fun a j q => ff a j (by omega) (by omega) (by omega) (by omega) (by omega) (by omega) (by omega) (by omega) (by omega) (by omega) (by omega)), IRow_fr h4 (fun a j q => ff a j (by omega) (by omega) (by omega) (by omega) (by omega) (by omega) (by omega) (by omega) (by omega) (by omega) (by omega)), ITape_fr h5 (fun a j q => ff a j (by omega) (by omega) (by omega) (by omega) (by omega) (by omega) (by omega) (by omega) (by omega) (by omega) (by omega)), ISheet_fr h6 (fun a j q => ff a j (by omega) (by omega) (by omega) (by omega) (by omega) (by omega) (by omega) (by omega) (by omega) (by omega) (by omega)), IFlt_fr h7 (fun a j q => ff a j (by omega) (by omega) (by omega) (by omega) (by omega) (by omega) (by omega) (by omega) (by omega) (by omega) (by omega))⟩
      exact lp 0 m (Nat.zero_le _) ⟨fun _ _ _ _ _ _ _ _ _ _ _ => rfl, hM0⟩
    have lp : ∀ t m1, t ≤ ρ 0 0 → FJd μ m1 → S (mostB (mostD ρ κ n t)) (mostV (mostD ρ κ n t)) (nI t) m1 := by
      refine up_loop (T := fun t m1 => S (mostB (mostD ρ κ n t)) (mostV (mostD ρ κ n t)) (nI t) m1) ?_ ?_
      · intro t m1 ht f1 ih
        have hC1 := CR_of hC (m := m1) (fun a j _ _ => f1 a j (by omega) (by omega))
        have kc1 := KC_of kc (m := m1) (fun a j _ _ => f1 a j (by omega) (by omega))
        have e0 : m1.1 (0 + 1) 0 = nI (ρ 0 0) := hC1.1
        obtain ⟨z1, z2⟩ := most_cmp (κ := κ) (n := n) (t := t) hw h8 (by omega) (by omega)
        apply hS
        unfold nX6_dish_20 nX6_dish_84
        rw [e0]
        refine ⟨fun d => absurd d (nI_ge ht (by omega)), fun _ => ?_⟩
        refine c_dish hC1 hw h8 (by omega) kc1 kw (by omega) (by omega) (by omega) (fun m2 f2 e2 => ?_)
        have nx := ih m2 (FJd_trans f1 f2)
        rw [e2, nI_1]
        refine ⟨fun d => ?_, fun d => ?_⟩
        · rw [(z1 d).1, (z1 d).2] at nx; exact nx
        · rw [(z2 d).1, (z2 d).2] at nx; exact nx
      · intro m1 f1
        have hC1 := CR_of hC (m := m1) (fun a j _ _ => f1 a j (by omega) (by omega))
        have e0 : m1.1 (0 + 1) 0 = nI (ρ 0 0) := hC1.1
        apply hS
        unfold nX6_dish_20
        rw [e0]
        exact ⟨fun _ => ref m1 f1, fun d => absurd (nI_le (Nat.le_refl _) (by omega)) d⟩
    exact lp 0 μ (Nat.zero_le _) (fun _ _ _ _ => rfl)
  · have out : PX7_dish 100 p1 μ (fun r2 m2 => (-1 : Int32) = r2 ∧ Inv (k + 1) m2) := by
      intro S2 hS2
      exact r_areDays_n (most := 4) c (by omega) ⟨fun d => absurd rfl d, fun _ => ⟨rfl, hs⟩⟩
    rw [ilt' 1 1 rfl (by omega), ile' 4 4 rfl (by omega)]
    exact ⟨fun _ => out, fun d => ⟨fun e => absurd (show 1 ≤ p1.toInt ∧ p1.toInt ≤ 4 by omega) c, fun _ => out⟩⟩
-- one number of one thing otherwise
def otherR (ρ : RA) (f0 t v : Nat) : RA := fun f i => if f = f0 ∧ i = t then v else ρ f i
theorem other_ne {ρ : RA} {f0 t v f i : Nat} (h : f ≠ f0) : otherR ρ f0 t v f i = ρ f i := if_neg (by omega)
theorem other_eq {ρ : RA} {f0 t v i : Nat} : otherR ρ f0 t v f0 i = if i = t then v else ρ f0 i := by
  unfold otherR
  by_cases c : i = t
  · rw [if_pos ⟨rfl, c⟩, if_pos c]
  · rw [if_neg (by omega), if_neg c]
theorem other_bits {ρ : RA} {f0 t v s : Nat} (h : f0 ≠ 9) : ∀ n : Nat, bitsW (otherR ρ f0 t v) s n = bitsW ρ s n
  | 0 => rfl
  | n + 1 => by
    unfold bitsW
    rw [other_bits h n, other_ne (Ne.symm h)]
theorem other_RW {ρ : RA} {f0 t v : Nat} (hw : RW ρ) (hf : (f0 = 3 ∧ v ≤ 60) ∨ (f0 = 1 ∧ 1 ≤ v ∧ v ≤ 4)) : RW (otherR ρ f0 t v) := by
  obtain ⟨h1, h2, h3, h4, h5, h6, h7, h9, h10, h11, h12⟩ := hw
  refine ⟨?_, ?_, ?_, ?_, ?_, fun q hq => ?_, fun s => ?_, fun s hs => ?_, fun i => ?_, fun i hi => ?_, fun w hw => ?_⟩
  · rw [other_ne (by omega)]; exact h1
  · rw [other_ne (by omega)]; exact h2
  · rw [other_ne (by omega)]; exact h3
  · rw [other_ne (by omega)]; exact h4
  · rw [other_ne (by omega)]; exact h5
  · rw [other_ne (by omega)] at hq
    obtain ⟨q1, q2, q3⟩ := h6 q hq
    rw [other_ne (f := 2) (by omega)]
    rcases hf with ⟨rfl, hv⟩ | ⟨rfl, hv⟩
    · rw [other_ne (f := 1) (by omega), other_eq]
      refine ⟨q1, q2, ?_⟩
      split <;> omega
    · rw [other_ne (f := 3) (by omega), other_eq]
      refine ⟨?_, q2, q3⟩
      split <;> omega
  · rw [other_ne (by omega), other_ne (by omega), other_ne (by omega), other_ne (by omega), other_ne (by omega)]; exact h7 s
  · rw [other_ne (by omega)] at hs
    rw [other_ne (by omega), other_ne (by omega), other_ne (by omega), other_ne (by omega), other_ne (by omega)]; exact h9 s hs
  · rw [other_ne (by omega), other_ne (by omega)]; exact h10 i
  · rw [other_ne (by omega)] at hi
    rw [other_ne (by omega), other_ne (by omega)]; exact h11 i hi
  · rw [other_ne (by omega)]; exact h12 w hw
theorem other_CR {m : Mem} {ρ : RA} {f0 t v : Nat} (hC : CR m 13 ρ) (hf : f0 = 3 ∨ f0 = 1) : CR (ms m (13 + f0) t (nI v)) 13 (otherR ρ f0 t v) := by
  obtain ⟨h1, h2, h3, h4, h5, h6, h7, h9, h10⟩ := hC
  have g : ∀ a j : Nat, a ≠ 13 + f0 → (ms m (13 + f0) t (nI v)).1 a j = m.1 a j := fun a j q => by rw [ms_1, if_neg q]
  have ge : ∀ j : Nat, (ms m (13 + f0) t (nI v)).1 (13 + f0) j = if j = t then nI v else m.1 (13 + f0) j := fun j => by rw [ms_1, if_pos rfl]
  refine ⟨?_, ?_, ?_, ?_, ?_, fun q hq => ?_, fun s hs => ?_, fun i hi => ?_, fun w hw => ?_⟩
  · rw [other_ne (by omega), g _ _ (by omega)]; exact h1
  · rw [other_ne (by omega), g _ _ (by omega)]; exact h2
  · rw [other_ne (by omega), g _ _ (by omega)]; exact h3
  · rw [other_ne (by omega), g _ _ (by omega)]; exact h4
  · rw [other_ne (by omega), g _ _ (by omega)]; exact h5
  · rw [other_ne (by omega)] at hq
    obtain ⟨q1, q2, q3⟩ := h6 q hq
    rw [other_ne (f := 2) (by omega), g (13 + 2) _ (by omega)]
    rcases hf with rfl | rfl
    · rw [other_ne (f := 1) (by omega), other_eq, g (13 + 1) _ (by omega), ge]
      refine ⟨q1, q2, ?_⟩
      split
      · rfl
      · exact q3
    · rw [other_ne (f := 3) (by omega), other_eq, g (13 + 3) _ (by omega), ge]
      refine ⟨?_, q2, q3⟩
      split
      · rfl
      · exact q1
  · rw [other_ne (by omega), other_ne (by omega), other_ne (by omega), other_ne (by omega), other_ne (by omega), g _ _ (by omega), g _ _ (by omega), g _ _ (by omega), g _ _ (by omega), g _ _ (by omega)]; exact h7 s hs
  · rw [other_ne (by omega), other_ne (by omega), g _ _ (by omega), g _ _ (by omega)]; exact h9 i hi
  · rw [other_ne (by omega), g _ _ (by omega)]; exact h10 w hw
theorem other_MR {m : Mem} {ρ : RA} {f0 e t v : Nat} (hM : MR m ρ) (hf : (f0 = 3 ∧ e = 2) ∨ (f0 = 1 ∧ e = 0)) : MR (ms m 101 (3 * t + e) (nI v)) (otherR ρ f0 t v) := by
  obtain ⟨h1, h2, h3, h4, h5, h6, h7, h9, h10⟩ := hM
  have g : ∀ a j : Nat, a ≠ 101 → (ms m 101 (3 * t + e) (nI v)).1 a j = m.1 a j := fun a j q => by rw [ms_1, if_neg q]
  have ge : ∀ j : Nat, (ms m 101 (3 * t + e) (nI v)).1 101 j = if j = 3 * t + e then nI v else m.1 101 j := fun j => by rw [ms_1, if_pos rfl]
  refine ⟨?_, ?_, ?_, ?_, ?_, fun q hq => ?_, fun s hs => ?_, fun i hi => ?_, fun w hw => ?_⟩
  · rw [other_ne (by omega), g _ _ (by decide)]; exact h1
  · rw [other_ne (by omega), g _ _ (by decide)]; exact h2
  · rw [other_ne (by omega), g _ _ (by decide)]; exact h3
  · rw [other_ne (by omega), g _ _ (by decide)]; exact h4
  · rw [other_ne (by omega), g _ _ (by decide)]; exact h5
  · rw [other_ne (by omega)] at hq
    obtain ⟨q1, q2, q3⟩ := h6 q hq
    rw [other_ne (f := 2) (by omega), ge, ge, ge]
    rcases hf with ⟨rfl, rfl⟩ | ⟨rfl, rfl⟩
    · rw [other_ne (f := 1) (by omega), other_eq, if_neg (show ¬ 3 * q = 3 * t + 2 by omega), if_neg (show ¬ 3 * q + 1 = 3 * t + 2 by omega)]
      refine ⟨q1, q2, ?_⟩
      by_cases c : q = t
      · rw [if_pos (show 3 * q + 2 = 3 * t + 2 by omega), if_pos c]
      · rw [if_neg (show ¬ 3 * q + 2 = 3 * t + 2 by omega), if_neg c]; exact q3
    · rw [other_ne (f := 3) (by omega), other_eq, if_neg (show ¬ 3 * q + 2 = 3 * t + 0 by omega), if_neg (show ¬ 3 * q + 1 = 3 * t + 0 by omega)]
      refine ⟨?_, q2, q3⟩
      by_cases c : q = t
      · rw [if_pos (show 3 * q = 3 * t + 0 by omega), if_pos c]
      · rw [if_neg (show ¬ 3 * q = 3 * t + 0 by omega), if_neg c]; exact q1
  · rw [other_ne (by omega)] at hs
    have et : thgN (otherR ρ f0 t v) s = thgN ρ s := by
      unfold thgN
      rw [other_ne (by omega), other_ne (by omega), other_ne (by omega), other_bits (by omega)]
    rw [other_ne (by omega), other_ne (by omega), other_ne (by omega), other_ne (by omega), et, g _ _ (by decide), g _ _ (by decide), g _ _ (by decide), g _ _ (by decide), g _ _ (by decide)]; exact h7 s hs
  · rw [other_ne (by omega)] at hi
    rw [other_ne (by omega), other_ne (by omega), g _ _ (by decide), g _ _ (by decide)]; exact h9 i hi
  · rw [other_ne (by omega), g _ _ (by decide)]; exact h10 w hw
/-- the answer out of the best row, if there is one -/
noncomputable def bestA (f : KA → Nat) (ρ : RA) (κ : KA) (n : Nat) : Int32 := match bestL ρ κ n (rowsN ρ κ n) with
  | none => -4
  | some (P, _) => nI (f (kAt ρ κ P 0 n))
theorem c_other {m : Mem} {ρ : RA} {κ : KA} {f0 t v n k : Nat} {Q : Mem → Prop} (hC : CR m 13 ρ) (hw : RW ρ) (hf : (f0 = 3 ∧ v ≤ 60) ∨ (f0 = 1 ∧ 1 ≤ v ∧ v ≤ 4)) (kc : KC m 40 κ) (kw : KW κ (9 + 6 * k) k) (hk : k ≤ 600) (hn0 : 1 ≤ n) (hn : n ≤ 5) (h : ∀ m' : Mem, FJ 60 96 (ms m (13 + f0) t (nI v)) m' → (¬ m'.1 60 3 = 0 → m'.1 60 7 = bestA KA.paid (otherR ρ f0 t v) κ n ∧ m'.1 60 6 = bestA KA.thr (otherR ρ f0 t v) κ n) → (m'.1 60 3 = 0 → bestA KA.paid (otherR ρ f0 t v) κ n = -4 ∧ bestA KA.thr (otherR ρ f0 t v) κ n = -4) → Q m') : PX3_lookAtRows 60 13 40 (nI n) (nI 0) (ms m (13 + f0) t (nI v)) Q := by
  have hw' := other_RW (t := t) hw hf
  have hlen := rowsN_len (κ := κ) hw' hn
  have kc' := KC_of kc (m := ms m (13 + f0) t (nI v)) (fun a j _ _ => by rw [ms_1, if_neg (by omega)])
  refine c_look (w := 0) (ρ := otherR ρ f0 t v) (κ := κ) (other_CR hC (by omega)) (by omega) hw' kc' kw (by omega) (by omega) hn0 hn (by omega) (fun m' f a => ?_)
  obtain ⟨a1, a2, _⟩ := a
  refine h m' f (fun c => ?_) (fun c => ?_)
  · rw [a1, len0 hlen] at c
    obtain ⟨x, hx⟩ := bestL_some (ρ := otherR ρ f0 t v) (κ := κ) (n := n) (L := rowsN (otherR ρ f0 t v) κ n) (fun z => c (List.eq_nil_of_length_eq_zero z))
    unfold bestA
    rw [hx] at a2 ⊢
    exact ⟨a2.2.2.2.1, a2.2.2.1⟩
  · rw [a1, len0 hlen] at c
    unfold bestA
    rw [c]
    exact ⟨rfl, rfl⟩
theorem r_other {m : Mem} {ρ : RA} {κ : KA} {f0 e t v n k : Nat} {Q : Mem → Prop} (hM : MR m ρ) (hw : RW ρ) (hf : (f0 = 3 ∧ e = 2 ∧ v ≤ 60) ∨ (f0 = 1 ∧ e = 0 ∧ 1 ≤ v ∧ v ≤ 4)) (km : KM m 280 κ) (kw : KW κ (9 + 6 * k) k) (hk : k ≤ 600) (hn0 : 1 ≤ n) (hn : n ≤ 5) (h : ∀ m' : Mem, FSr (ms m 101 (3 * t + e) (nI v)) m' → (¬ m'.1 100 48 = 0 → m'.1 100 44 = bestA KA.paid (otherR ρ f0 t v) κ n ∧ m'.1 100 43 = bestA KA.thr (otherR ρ f0 t v) κ n) → (m'.1 100 48 = 0 → bestA KA.paid (otherR ρ f0 t v) κ n = -4 ∧ bestA KA.thr (otherR ρ f0 t v) κ n = -4) → Q m') : PX7_findBest 100 (nI n) (nI 0) (ms m 101 (3 * t + e) (nI v)) Q := by
  have hw' := other_RW (t := t) (f0 := f0) (v := v) hw (by omega)
  have hlen := rowsN_len (κ := κ) hw' hn
  have km' := KM_of km (m := ms m 101 (3 * t + e) (nI v)) (fun j _ => by rw [ms_1, if_neg (by decide)])
  refine r_findBest (f := 0) (ρ := otherR ρ f0 t v) (κ := κ) (other_MR hM (by omega)) hw' km' kw (by omega) (by omega) hn0 hn (by omega) (fun m' a => ?_)
  obtain ⟨a0, a1, a2, _⟩ := a
  have a2 := a2 rfl
  refine h m' a0 (fun c => ?_) (fun c => ?_)
  · rw [a1, len0 hlen] at c
    obtain ⟨x, hx⟩ := bestL_some (ρ := otherR ρ f0 t v) (κ := κ) (n := n) (L := rowsN (otherR ρ f0 t v) κ n) (fun z => c (List.eq_nil_of_length_eq_zero z))
    unfold bestA
    rw [hx] at a2 ⊢
    exact ⟨a2.1.2.1, a2.1.1⟩
  · rw [a1, len0 hlen] at c
    unfold bestA
    rw [c]
    exact ⟨rfl, rfl⟩
theorem st_cheap : St_cheap Inv := by
  intro k μ p1 p2 p3 hk hI
  obtain ⟨ρ, κ, im, g, R, rl, tl, tp, ln, sz, ⟨hC, hM, hw, hx, h8⟩, ⟨kc, km, kw⟩, h3, h4, h5, h6, h7⟩ := id hI
  have t6 := hw.1
  have hs := Inv_s hI
  unfold PX6_cheap
  rcases yesI p1 (ρ 0 0) with ⟨t, ht, rfl⟩ | hn
  · refine c_hasThing_y hC hw ht ⟨fun c => absurd c np1, fun _ => ?_⟩
    by_cases c : (0 ≤ p2.toInt ∧ p2.toInt ≤ 60) ∧ 1 ≤ p3.toInt ∧ p3.toInt ≤ 5
    · obtain ⟨v, v1, rfl, v2⟩ := i_of (x := p2) (by omega)
      obtain ⟨n, n1, rfl, n2⟩ := i_of (x := p3) (by omega)
      rw [nI_toInt v1, nI_toInt n1] at c
      refine ⟨fun d => absurd d (nI_pos (by omega)), fun _ => ⟨fun d => absurd d (nI_nlt (a := 60) (by omega) (by omega)), fun _ => ⟨fun d => absurd d (nI_nlt (b := 1) (by omega) (by omega)), fun _ => ⟨fun _ => ?_, fun d => absurd (nI_le (b := 5) (by omega) (by omega)) d⟩⟩⟩⟩
      refine c_rcopy (b := 13) (r := 1) hC (by omega) hw.1 (fun m1 c1 f1 => ⟨vp_in_nI (by omega) (by omega), ?_⟩)
      have kc1 := KC_of kc (m := m1) (fun a j _ _ => f1.1 a (by omega) j)
      rw [nI_clamp (n := t) (by omega)]
      refine c_other (f0 := 3) c1 hw (Or.inl ⟨rfl, by omega⟩) kc1 kw (by omega) (by omega) (by omega) (fun m2 f2 y1 y0 => ?_)
      have fI : ∀ a j : Nat, (a < 13 ∨ 25 ≤ a) → (a < 60 ∨ 96 ≤ a) → m2.1 a j = μ.1 a j := fun a j q1 q2 => by
        rw [f2 a j (by omega), ms_1, if_neg (by omega), f1.1 a (by omega)]
      have hM2 := MR_of hM (m := m2) (fun a j q => fI a j (by omega) (by omega))
      have km2 := KM_of km (m := m2) (fun j _ => fI 114 _ (by omega) (by omega))
      have ref : PX7_cheap 100 (nI t) (nI v) (nI n) m2 (fun r2 m2 => bestA KA.paid (otherR ρ 3 t v) κ n = r2 ∧ Inv (k + 1) m2) := by
        unfold PX7_cheap
        refine r_isThing_y hM2 hw ht ⟨fun d => absurd d np1, fun _ => ?_⟩
        refine r_in_y (a := 0) (b := 60) (by omega) (by omega) (by rw [nI_toInt (by omega)]; omega) (by rw [nI_toInt (by omega)]; omega) ⟨fun d => absurd d np1, fun _ => ?_⟩
        refine r_areDays_y (most := 5) (by omega) (by omega) (by omega) ⟨fun _ => ?_, fun d => absurd d np1⟩
        rw [show (3 : Int32) * nI t + (2 : Int32) = nI (3 * t + 2) by rw [show (3 : Int32) * nI t = nI (3 * t) from pk_mul 3 t, show (2 : Int32) = nI 2 from rfl, nI_add], nI_clamp (by omega)]
        refine ⟨vp_in_nI (by omega) (by omega), fun x hx2 => ⟨vp_in_nI (by omega) (by omega), ?_⟩⟩
        refine r_other (f0 := 3) (e := 2) hM2 hw (Or.inl ⟨rfl, rfl, by omega⟩) km2 kw (by omega) (by omega) (by omega) (fun m3 f3 w1 w0 => ⟨vp_in_nI (by omega) (by omega), ?_⟩)
        have e48 : (ms m3 (100 + 1) (3 * t + 2) x).1 100 48 = m3.1 100 48 := by rw [ms_1, if_neg (by decide)]
        have e44 : (ms m3 (100 + 1) (3 * t + 2) x).1 100 44 = m3.1 100 44 := by rw [ms_1, if_neg (by decide)]
        have inv : Inv (k + 1) (ms m3 (100 + 1) (3 * t + 2) x) := Inv_fr hI (fun a j q => by
          unfold cellI at q
          show (ms m3 101 (3 * t + 2) x).1 a j = _
          rw [ms_1]
          by_cases ca : a = 101
          · by_cases cj : j = 3 * t + 2
            · rw [if_pos ca, if_pos cj, hx2, ca, cj]; exact fI 101 _ (by omega) (by omega)
            · rw [if_pos ca, if_neg cj, f3 a j (by omega) (by omega) (by omega) (by omega) (by omega) (by omega), ms_1, if_pos ca, if_neg cj]; exact fI a j (by omega) (by omega)
          · rw [if_neg ca, f3 a j (by omega) (by omega) (by omega) (by omega) (by omega) (by omega), ms_1, if_neg ca]; exact fI a j (by omega) (by omega))
        rw [e48, e44]
        exact ⟨fun d => ⟨(w1 d).1.symm, inv⟩, fun d => ⟨(w0 d).1, inv⟩⟩
      refine ⟨fun d => ?_, fun d => ?_⟩
      · have := (y1 d).1
        have e7 : m2.1 (0 + 60) 7 = bestA KA.paid (otherR ρ 3 t v) κ n := this
        rw [e7]; exact ref
      · have := (y0 d).1
        rw [this] at ref; exact ref
    · have out : PX7_cheap 100 (nI t) p2 p3 μ (fun r2 m2 => (-1 : Int32) = r2 ∧ Inv (k + 1) m2) := by
        unfold PX7_cheap
        refine r_isThing_y hM hw ht ⟨fun d => absurd d np1, fun _ => ?_⟩
        by_cases c2 : 0 ≤ p2.toInt ∧ p2.toInt ≤ 60
        · refine r_in_y (a := 0) (b := 60) (by omega) (by omega) (by omega) (by omega) ⟨fun d => absurd d np1, fun _ => ?_⟩
          exact r_areDays_n (most := 5) (fun z => c ⟨c2, z⟩) (by omega) ⟨fun d => absurd rfl d, fun _ => ⟨rfl, hs⟩⟩
        · exact r_in_n (a := 0) (b := 60) (by omega) (by omega) (by omega) ⟨fun _ => ⟨rfl, hs⟩, fun d => absurd rfl d⟩
      rw [ilt' 0 0 rfl (by omega), igt' 60 60 rfl (by omega), ilt' 1 1 rfl (by omega), ile' 5 5 rfl (by omega)]
      exact ⟨fun _ => out, fun d1 => ⟨fun _ => out, fun d2 => ⟨fun _ => out, fun d3 => ⟨fun d4 => absurd (show (0 ≤ p2.toInt ∧ p2.toInt ≤ 60) ∧ 1 ≤ p3.toInt ∧ p3.toInt ≤ 5 by omega) c, fun _ => out⟩⟩⟩⟩
  · refine c_hasThing_n hC hw hn ⟨fun _ => ?_, fun c => absurd rfl c⟩
    unfold PX7_cheap
    exact r_isThing_n hM hw hn ⟨fun _ => ⟨rfl, hs⟩, fun c => absurd rfl c⟩
theorem st_cold : St_cold Inv := by
  intro k μ p1 p3 hk hI
  obtain ⟨ρ, κ, im, g, R, rl, tl, tp, ln, sz, ⟨hC, hM, hw, hx, h8⟩, ⟨kc, km, kw⟩, h3, h4, h5, h6, h7⟩ := id hI
  have t6 := hw.1
  have hs := Inv_s hI
  unfold PX6_cold
  rcases yesI p1 (ρ 0 0) with ⟨t, ht, rfl⟩ | hn
  · refine c_hasThing_y hC hw ht ⟨fun c => absurd c np1, fun _ => ?_⟩
    have k4 := (hw.2.2.2.2.2.1 t ht).1
    by_cases c : 1 ≤ p3.toInt ∧ p3.toInt ≤ 5
    · obtain ⟨n, n1, rfl, n2⟩ := i_of (x := p3) (by omega)
      rw [nI_toInt n1] at c
      refine ⟨fun d => absurd d (nI_nlt (b := 1) (by omega) (by omega)), fun _ => ⟨fun _ => ?_, fun d => absurd (nI_le (b := 5) (by omega) (by omega)) d⟩⟩
      refine c_rcopy (b := 13) (r := 1) hC (by omega) hw.1 (fun m1 c1 f1 => ⟨vp_in_nI (by omega) (by omega), fun x8 hx8 => ⟨vp_in_nI (by omega) (by omega), ?_⟩⟩)
      have kc1 := KC_of kc (m := m1) (fun a j _ _ => f1.1 a (by omega) j)
      have ek : m1.1 (0 + 1 + 1) t = nI (ρ 1 t) := (f1.1 2 (by omega) t).trans (hC.2.2.2.2.2.1 t ht).1
      rw [nI_clamp (n := t) (by omega), ek, show nI (ρ 1 t) + (1 : Int32) = nI (ρ 1 t + 1) from nI_1 _, show (4 : Int32) = nI 4 from rfl, mn (by omega) (by omega)] at hx8
      rw [nI_clamp (n := t) (by omega), hx8]
      refine c_other (f0 := 1) (v := min (ρ 1 t + 1) 4) c1 hw (Or.inr ⟨rfl, by omega, by omega⟩) kc1 kw (by omega) (by omega) (by omega) (fun m2 f2 y1 y0 => ?_)
      have fI : ∀ a j : Nat, (a < 13 ∨ 25 ≤ a) → (a < 60 ∨ 96 ≤ a) → m2.1 a j = μ.1 a j := fun a j q1 q2 => by
        rw [f2 a j (by omega), ms_1, if_neg (by omega), f1.1 a (by omega)]
      have hM2 := MR_of hM (m := m2) (fun a j q => fI a j (by omega) (by omega))
      have km2 := KM_of km (m := m2) (fun j _ => fI 114 _ (by omega) (by omega))
      have ref : PX7_cold 100 (nI t) (nI n) m2 (fun r2 m2 => bestA KA.thr (otherR ρ 1 t (min (ρ 1 t + 1) 4)) κ n = r2 ∧ Inv (k + 1) m2) := by
        unfold PX7_cold
        refine r_isThing_y hM2 hw ht ⟨fun d => absurd d np1, fun _ => ?_⟩
        refine r_areDays_y (most := 5) (by omega) (by omega) (by omega) ⟨fun _ => ?_, fun d => absurd d np1⟩
        refine r_keeps hM2 hw ht ?_
        have go : nX7_cold_43 100 (nI t) (nI n) (fun r2 m2 => bestA KA.thr (otherR ρ 1 t (min (ρ 1 t + 1) 4)) κ n = r2 ∧ Inv (k + 1) m2) (nI (ρ 1 t)) (nI (min (ρ 1 t + 1) 4)) (nI (3 * t)) m2 := by
          unfold nX7_cold_43
          rw [show (3 : Int32) * nI t = nI (3 * t) from pk_mul 3 t, nI_clamp (n := 3 * t) (by omega)]
          refine ⟨vp_in_nI (by omega) (by omega), ?_⟩
          refine r_other (f0 := 1) (e := 0) (t := t) hM2 hw (Or.inr ⟨rfl, rfl, by omega, by omega⟩) km2 kw (by omega) (by omega) (by omega) (fun m3 f3 w1 w0 => ⟨vp_in_nI (by omega) (by omega), ?_⟩)
          have e48 : (ms m3 (100 + 1) (3 * t) (nI (ρ 1 t))).1 100 48 = m3.1 100 48 := by rw [ms_1, if_neg (by decide)]
          have e43 : (ms m3 (100 + 1) (3 * t) (nI (ρ 1 t))).1 100 43 = m3.1 100 43 := by rw [ms_1, if_neg (by decide)]
          have inv : Inv (k + 1) (ms m3 (100 + 1) (3 * t) (nI (ρ 1 t))) := Inv_fr hI (fun a j q => by
            unfold cellI at q
            show (ms m3 101 (3 * t) (nI (ρ 1 t))).1 a j = _
            rw [ms_1]
            by_cases ca : a = 101
            · by_cases cj : j = 3 * t
              · rw [if_pos ca, if_pos cj, ca, cj]; exact (hM.2.2.2.2.2.1 t ht).1.symm
              · rw [if_pos ca, if_neg cj, f3 a j (by omega) (by omega) (by omega) (by omega) (by omega) (by omega), ms_1, if_pos ca, if_neg (by omega)]; exact fI a j (by omega) (by omega)
            · rw [if_neg ca, f3 a j (by omega) (by omega) (by omega) (by omega) (by omega) (by omega), ms_1, if_neg ca]; exact fI a j (by omega) (by omega))
          rw [e48, e43]
          exact ⟨fun d => ⟨(w1 d).2.symm, inv⟩, fun d => ⟨(w0 d).2, inv⟩⟩
        rw [show (3 : Int32) * nI t = nI (3 * t) from pk_mul 3 t, show nI (ρ 1 t) + (1 : Int32) = nI (ρ 1 t + 1) from nI_1 _]
        refine ⟨fun d => ?_, fun d => ?_⟩
        · have d2 := (nI_leI (a := 4) (by omega) (by omega)).1 d
          rw [show min (ρ 1 t + 1) 4 = 4 by omega] at go ⊢; exact go
        · have d2 : ¬ 4 ≤ ρ 1 t := fun z => d ((nI_leI (a := 4) (by omega) (by omega)).2 z)
          rw [show min (ρ 1 t + 1) 4 = ρ 1 t + 1 by omega] at go ⊢; exact go
      refine ⟨fun d => ?_, fun d => ?_⟩
      · have e7 : m2.1 (0 + 60) 6 = bestA KA.thr (otherR ρ 1 t (min (ρ 1 t + 1) 4)) κ n := (y1 d).2
        rw [e7]; exact ref
      · have := (y0 d).2
        rw [this] at ref; exact ref
    · have out : PX7_cold 100 (nI t) p3 μ (fun r2 m2 => (-1 : Int32) = r2 ∧ Inv (k + 1) m2) := by
        unfold PX7_cold
        refine r_isThing_y hM hw ht ⟨fun d => absurd d np1, fun _ => ?_⟩
        exact r_areDays_n (most := 5) c (by omega) ⟨fun d => absurd rfl d, fun _ => ⟨rfl, hs⟩⟩
      rw [ilt' 1 1 rfl (by omega), ile' 5 5 rfl (by omega)]
      exact ⟨fun _ => out, fun d3 => ⟨fun d4 => absurd (show 1 ≤ p3.toInt ∧ p3.toInt ≤ 5 by omega) c, fun _ => out⟩⟩
  · refine c_hasThing_n hC hw hn ⟨fun _ => ?_, fun c => absurd rfl c⟩
    unfold PX7_cold
    exact r_isThing_n hM hw hn ⟨fun _ => ⟨rfl, hs⟩, fun c => absurd rfl c⟩
