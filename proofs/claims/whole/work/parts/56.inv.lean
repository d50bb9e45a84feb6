/-- what else rules are like: what a supper wants and what a soup is made of exclude each other -/
def RZ2 (ρ : RA) : Prop := (∀ s : Nat, ρ 4 s ≠ 3 → ρ 8 s = 0) ∧ (∀ s t : Nat, t < 6 → ρ 4 s = 3 → ρ 9 (6 * s + t) = 0)
def sg (v : Nat) : Int32 := (nI v).toInt8.toInt32
def IRules (μ : Mem) (ρ : RA) : Prop := CR μ 1 ρ ∧ MR μ ρ ∧ RW ρ ∧ RZ2 ρ ∧ ρ 0 4 ≤ 8
def IKit (k : Nat) (μ : Mem) (κ : KA) : Prop := KC μ 40 κ ∧ KM μ 280 κ ∧ KW κ (9 + 6 * k) k
def IImg (k : Nat) (μ : Mem) (im : Nat → KA) (g : Nat → Nat) : Prop := ∀ i : Nat, i < 2 → μ.1 53 i = nI (g i) ∧ μ.1 115 i = nI (g i) ∧ g i ≤ 1 ∧ (g i = 1 → KC μ (45 + 4 * i) (im i) ∧ KM μ (320 + 40 * i) (im i) ∧ KW (im i) (9 + 6 * k) k)
def IRow (μ : Mem) (ρ : RA) (R : Nat → Option Nat) (rl : Nat) : Prop := μ.1 0 8 = nI rl ∧ μ.1 100 37 = nI rl ∧ rl ≤ 7 ∧ (∀ i : Nat, i < rl → μ.1 54 i = oI (R i) ∧ μ.1 118 i = oI (R i)) ∧ (∀ i s : Nat, i < rl → R i = some s → s < ρ 0 4)
def ITape (μ : Mem) (tl : Nat) (tp : Nat → Nat) : Prop := μ.1 25 1 = nI tl ∧ μ.1 100 26 = nI tl ∧ tl ≤ 400 ∧ ∀ i : Nat, i < tl → tp i < 256 ∧ μ.1 113 i = nI (tp i) ∧ μ.1 26 i = sg (tp i)
def ISheet (μ : Mem) (ln : Nat → Option Nat) (sz : Nat → Nat) : Prop := (∀ q : Nat, q < 4 → μ.1 97 q = oI (ln q) ∧ μ.1 122 q = oI (ln q) ∧ (∀ l : Nat, ln q = some l → l < 3) ∧ μ.1 98 q = nI (sz q) ∧ μ.1 123 q = nI (sz q) ∧ sz q ≤ 40) ∧ ∀ i : Nat, i < 160 → μ.1 99 i = μ.1 124 i
def IFlt (μ : Mem) (ρ : RA) (κ : KA) (im : Nat → KA) (g : Nat → Nat) : Prop := μ.1 0 3 = μ.1 100 31 ∧ μ.1 0 12 = μ.1 100 55 ∧ (∀ s d : Nat, κ.la s = some d → s < ρ 0 4) ∧ (∀ i : Nat, i < 2 → g i = 1 → ∀ s d : Nat, (im i).la s = some d → s < ρ 0 4)
def Inv (k : Nat) (μ : Mem) : Prop := ∃ (ρ : RA) (κ : KA) (im : Nat → KA) (g : Nat → Nat) (R : Nat → Option Nat) (rl tl : Nat) (tp : Nat → Nat) (ln : Nat → Option Nat) (sz : Nat → Nat), IRules μ ρ ∧ IKit k μ κ ∧ IImg k μ im g ∧ IRow μ ρ R rl ∧ ITape μ tl tp ∧ ISheet μ ln sz ∧ IFlt μ ρ κ im g
theorem KW_mono {κ : KA} {B D B' D' : Nat} (h : KW κ B D) (h1 : B ≤ B') (h2 : D ≤ D') : KW κ B' D' := ⟨fun i => Nat.le_trans (h.1 i) h1, Nat.le_trans h.2.1 h2, h.2.2⟩
theorem IRules_fr {μ m : Mem} {ρ : RA} (h : IRules μ ρ) (f : ∀ a j : Nat, ((1 ≤ a ∧ a ≤ 12) ∨ (a = 100 ∧ j < 9) ∨ (101 ≤ a ∧ a ≤ 105)) → m.1 a j = μ.1 a j) : IRules m ρ :=
  ⟨CR_of h.1 (fun a j _ _ => f a j (by omega)), MR_of h.2.1 (fun a j q => f a j (by omega)), h.2.2⟩
theorem IKit_fr {k : Nat} {μ m : Mem} {κ : KA} (h : IKit k μ κ) (f : ∀ a j : Nat, ((40 ≤ a ∧ a ≤ 42) ∨ (a = 114 ∧ 280 ≤ j ∧ j < 320)) → m.1 a j = μ.1 a j) : IKit (k + 1) m κ :=
  ⟨KC_of h.1 (fun a j _ _ => f a j (by omega)), KM_of h.2.1 (fun j hj => f 114 _ (by omega)), KW_mono h.2.2 (by omega) (by omega)⟩
theorem IImg_fr {k : Nat} {μ m : Mem} {im : Nat → KA} {g : Nat → Nat} (h : IImg k μ im g) (f : ∀ a j : Nat, ((45 ≤ a ∧ a ≤ 47) ∨ (49 ≤ a ∧ a ≤ 51) ∨ a = 53 ∨ a = 115 ∨ (a = 114 ∧ 320 ≤ j)) → m.1 a j = μ.1 a j) : IImg (k + 1) m im g := fun i hi => by
  obtain ⟨h1, h2, h3, h4⟩ := h i hi
  refine ⟨(f _ _ (by omega)).trans h1, (f _ _ (by omega)).trans h2, h3, fun q => ?_⟩
  obtain ⟨q1, q2, q3⟩ := h4 q
  exact ⟨KC_of q1 (fun a j _ _ => f a j (by omega)), KM_of q2 (fun j hj => f 114 _ (by omega)), KW_mono q3 (by omega) (by omega)⟩
theorem IRow_fr {μ m : Mem} {ρ : RA} {R : Nat → Option Nat} {rl : Nat} (h : IRow μ ρ R rl) (f : ∀ a j : Nat, ((a = 0 ∧ j = 8) ∨ (a = 100 ∧ j = 37) ∨ a = 54 ∨ (a = 118 ∧ j < 7)) → m.1 a j = μ.1 a j) : IRow m ρ R rl := by
  obtain ⟨h1, h2, h3, h4, h5⟩ := h
  exact ⟨(f _ _ (by omega)).trans h1, (f _ _ (by omega)).trans h2, h3, fun i hi => ⟨(f _ _ (by omega)).trans (h4 i hi).1, (f _ _ (by omega)).trans (h4 i hi).2⟩, h5⟩
theorem ITape_fr {μ m : Mem} {tl : Nat} {tp : Nat → Nat} (h : ITape μ tl tp) (f : ∀ a j : Nat, ((a = 25 ∧ j = 1) ∨ (a = 100 ∧ j = 26) ∨ a = 26 ∨ a = 113) → m.1 a j = μ.1 a j) : ITape m tl tp := by
  obtain ⟨h1, h2, h3, h4⟩ := h
  refine ⟨(f _ _ (by omega)).trans h1, (f _ _ (by omega)).trans h2, h3, fun i hi => ?_⟩
  obtain ⟨q1, q2, q3⟩ := h4 i hi
  exact ⟨q1, (f _ _ (by omega)).trans q2, (f _ _ (by omega)).trans q3⟩
theorem ISheet_fr {μ m : Mem} {ln : Nat → Option Nat} {sz : Nat → Nat} (h : ISheet μ ln sz) (f : ∀ a j : Nat, ((97 ≤ a ∧ a ≤ 99) ∨ (122 ≤ a ∧ a ≤ 124)) → m.1 a j = μ.1 a j) : ISheet m ln sz := by
  refine ⟨fun q hq => ?_, fun i hi => ?_⟩
  · obtain ⟨h1, h2, h3, h4, h5, h6⟩ := h.1 q hq
    exact ⟨(f _ _ (by omega)).trans h1, (f _ _ (by omega)).trans h2, h3, (f _ _ (by omega)).trans h4, (f _ _ (by omega)).trans h5, h6⟩
  · rw [f _ _ (by omega), f _ _ (by omega)]; exact h.2 i hi
theorem IFlt_fr {μ m : Mem} {ρ : RA} {κ : KA} {im : Nat → KA} {g : Nat → Nat} (h : IFlt μ ρ κ im g) (f : ∀ a j : Nat, ((a = 0 ∧ (j = 3 ∨ j = 12)) ∨ (a = 100 ∧ (j = 31 ∨ j = 55))) → m.1 a j = μ.1 a j) : IFlt m ρ κ im g :=
  ⟨by rw [f _ _ (by omega), f _ _ (by omega)]; exact h.1, by rw [f _ _ (by omega), f _ _ (by omega)]; exact h.2.1, h.2.2⟩
/-- the cells of which the invariant speaks -/
def cellI (a j : Nat) : Prop := a ≤ 12 ∨ (a = 25 ∧ j = 1) ∨ a = 26 ∨ (40 ≤ a ∧ a ≤ 42) ∨ (45 ≤ a ∧ a ≤ 47) ∨ (49 ≤ a ∧ a ≤ 51) ∨ a = 53 ∨ a = 54 ∨ (97 ≤ a ∧ a ≤ 99) ∨ (a = 100 ∧ (j < 9 ∨ j = 26 ∨ j = 31 ∨ j = 37 ∨ j = 55)) ∨ (101 ≤ a ∧ a ≤ 105) ∨ a = 113 ∨ (a = 114 ∧ 280 ≤ j) ∨ a = 115 ∨ (a = 118 ∧ j < 7) ∨ (122 ≤ a ∧ a ≤ 124)
theorem Inv_fr {k : Nat} {μ m : Mem} (h : Inv k μ) (f : ∀ a j : Nat, cellI a j → m.1 a j = μ.1 a j) : Inv (k + 1) m := by
  obtain ⟨ρ, κ, im, g, R, rl, tl, tp, ln, sz, h1, h2, h3, h4, h5, h6, h7⟩ := h
  exact ⟨ρ, κ, im, g, R, rl, tl, tp, ln, sz, IRules_fr h1 (fun a j q => f a j (by unfold cellI; omega)), IKit_fr h2 (fun a j q => f a j (by unfold cellI; omega)), IImg_fr h3 (fun a j q => f a j (by unfold cellI; omega)), IRow_fr h4 (fun a j q => f a j (by unfold cellI; omega)), ITape_fr h5 (fun a j q => f a j (by unfold cellI; omega)), ISheet_fr h6 (fun a j q => f a j (by unfold cellI; omega)), IFlt_fr h7 (fun a j q => f a j (by unfold cellI; omega))⟩
theorem Inv_s {k : Nat} {μ : Mem} (h : Inv k μ) : Inv (k + 1) μ := Inv_fr h (fun _ _ _ => rfl)
-- switches
theorem sw {x : Int32} {n : Nat} (hn : n < 2 ^ 31) : (∃ j : Nat, j ≤ n ∧ x = nI j) ∨ (x.toInt < 0 ∨ (n : Int) < x.toInt) := by
  by_cases c : 0 ≤ x.toInt ∧ x.toInt ≤ n
  · obtain ⟨j, h1, h2, h3⟩ := i_of c.1
    exact Or.inl ⟨j, by omega, h2⟩
  · exact Or.inr (by omega)
theorem sw_n {x : Int32} {n j : Nat} (h : x.toInt < 0 ∨ (n : Int) < x.toInt) (hj : j ≤ n) (hn : n < 2 ^ 31) : ¬ x = nI j := fun c => by
  rw [c, nI_toInt (by omega)] at h; omega
-- is there such a thing, such a supper
def noI (x : Int32) (n : Nat) : Prop := ¬ (0 ≤ x.toInt ∧ x.toInt < n)
theorem yesI (x : Int32) (n : Nat) : (∃ t : Nat, t < n ∧ x = nI t) ∨ noI x n := by
  by_cases c : 0 ≤ x.toInt ∧ x.toInt < n
  · obtain ⟨j, h1, h2, h3⟩ := i_of c.1
    exact Or.inl ⟨j, by omega, h2⟩
  · exact Or.inr c
theorem c_hasThing_y {μ : Mem} {r t : Nat} {ρ : RA} {Q : Int32 → Mem → Prop} (hR : CR μ r ρ) (hw : RW ρ) (ht : t < ρ 0 0) (h : Q 1 μ) : PX2_hasThing r (nI t) μ Q := by
  have t6 := hw.1
  unfold PX2_hasThing nX2_hasThing_16
  rw [hR.1]
  exact ⟨fun c => absurd c (nI_pos (by omega)), fun _ => ⟨fun c => absurd c (nI_ge ht (by omega)), fun _ => h⟩⟩
theorem c_hasThing_n {μ : Mem} {r : Nat} {x : Int32} {ρ : RA} {Q : Int32 → Mem → Prop} (hR : CR μ r ρ) (hw : RW ρ) (hx : noI x (ρ 0 0)) (h : Q 0 μ) : PX2_hasThing r x μ Q := by
  have t6 := hw.1
  unfold PX2_hasThing nX2_hasThing_16
  rw [hR.1, show (0 : Int32) = nI 0 from rfl, i_lt (by omega), i_ge (by omega)]
  exact ⟨fun _ => h, fun c => ⟨fun _ => h, fun d => absurd (show 0 ≤ x.toInt ∧ x.toInt < (ρ 0 0 : Nat) by omega) hx⟩⟩
theorem c_hasSupper_y {μ : Mem} {r t : Nat} {ρ : RA} {Q : Int32 → Mem → Prop} (hR : CR μ r ρ) (hw : RW ρ) (ht : t < ρ 0 4) (h : Q 1 μ) : PX2_hasSupper r (nI t) μ Q := by
  have t6 := hw.2.1
  unfold PX2_hasSupper nX2_hasSupper_16
  rw [hR.2.1]
  exact ⟨fun c => absurd c (nI_pos (by omega)), fun _ => ⟨fun c => absurd c (nI_ge ht (by omega)), fun _ => h⟩⟩
theorem c_hasSupper_n {μ : Mem} {r : Nat} {x : Int32} {ρ : RA} {Q : Int32 → Mem → Prop} (hR : CR μ r ρ) (hw : RW ρ) (hx : noI x (ρ 0 4)) (h : Q 0 μ) : PX2_hasSupper r x μ Q := by
  have t6 := hw.2.1
  unfold PX2_hasSupper nX2_hasSupper_16
  rw [hR.2.1, show (0 : Int32) = nI 0 from rfl, i_lt (by omega), i_ge (by omega)]
  exact ⟨fun _ => h, fun c => ⟨fun _ => h, fun d => absurd (show 0 ≤ x.toInt ∧ x.toInt < (ρ 0 4 : Nat) by omega) hx⟩⟩
theorem dI_toInt {n : Nat} (h : n < 2 ^ 31) : (dI n).toInt = (n : Int) - 1 := by
  cases n with
  | zero => decide
  | succ n => show (nI n).toInt = _; rw [nI_toInt (by omega)]; omega
theorem r_isThing_y {μ : Mem} {t : Nat} {ρ : RA} {Q : Int32 → Mem → Prop} (hR : MR μ ρ) (hw : RW ρ) (ht : t < ρ 0 0) (h : Q 1 μ) : PX7_isThing 100 (nI t) μ Q := by
  have t6 := hw.1
  unfold PX7_isThing
  rw [hR.1, nI_m1]
  refine r_in (fun _ _ => ⟨nz1, h⟩) (fun c => ?_)
  rw [Int32.toInt_toInt64, dI_toInt (by omega), nI_toInt (by omega), show (0 : Int64).toInt = 0 from by decide] at c
  omega
theorem r_isThing_n {μ : Mem} {x : Int32} {ρ : RA} {Q : Int32 → Mem → Prop} (hR : MR μ ρ) (hw : RW ρ) (hx : noI x (ρ 0 0)) (h : Q 0 μ) : PX7_isThing 100 x μ Q := by
  have t6 := hw.1
  unfold PX7_isThing
  rw [hR.1, nI_m1]
  refine r_in (fun c d => ?_) (fun _ => ⟨nz0, h⟩)
  rw [Int32.toInt_toInt64, dI_toInt (by omega)] at d
  rw [show (0 : Int64).toInt = 0 from by decide] at c
  exact absurd (show 0 ≤ x.toInt ∧ x.toInt < (ρ 0 0 : Nat) by omega) hx
theorem r_isSupper_y {μ : Mem} {t : Nat} {ρ : RA} {Q : Int32 → Mem → Prop} (hR : MR μ ρ) (hw : RW ρ) (ht : t < ρ 0 4) (h : Q 1 μ) : PX7_isSupper 100 (nI t) μ Q := by
  have t6 := hw.2.1
  unfold PX7_isSupper
  rw [hR.2.1, nI_m1]
  refine r_in (fun _ _ => ⟨nz1, h⟩) (fun c => ?_)
  rw [Int32.toInt_toInt64, dI_toInt (by omega), nI_toInt (by omega), show (0 : Int64).toInt = 0 from by decide] at c
  omega
theorem r_isSupper_n {μ : Mem} {x : Int32} {ρ : RA} {Q : Int32 → Mem → Prop} (hR : MR μ ρ) (hw : RW ρ) (hx : noI x (ρ 0 4)) (h : Q 0 μ) : PX7_isSupper 100 x μ Q := by
  have t6 := hw.2.1
  unfold PX7_isSupper
  rw [hR.2.1, nI_m1]
  refine r_in (fun c d => ?_) (fun _ => ⟨nz0, h⟩)
  rw [Int32.toInt_toInt64, dI_toInt (by omega)] at d
  rw [show (0 : Int64).toInt = 0 from by decide] at c
  exact absurd (show 0 ≤ x.toInt ∧ x.toInt < (ρ 0 4 : Nat) by omega) hx
theorem r_in_y {x : Int32} {a b : Nat} {μ : Mem} {Q : Int32 → Mem → Prop} (ha : a < 2 ^ 31) (hb : b < 2 ^ 31) (h1 : (a : Int) ≤ x.toInt) (h2 : x.toInt ≤ b) (h : Q 1 μ) : PX7_in x.toInt64 (lN a) (lN b) μ Q :=
  r_in (fun _ _ => h) (fun c => by rw [lN_toInt ha, lN_toInt hb] at c; omega)
theorem r_in_n {x : Int32} {a b : Nat} {μ : Mem} {Q : Int32 → Mem → Prop} (ha : a < 2 ^ 31) (hb : b < 2 ^ 31) (h1 : x.toInt < (a : Int) ∨ (b : Int) < x.toInt) (h : Q 0 μ) : PX7_in x.toInt64 (lN a) (lN b) μ Q :=
  r_in (fun c d => by rw [lN_toInt ha] at c; rw [lN_toInt hb] at d; omega) (fun _ => h)
theorem np1 : ¬ (1 : Int32) = 0 := by decide
