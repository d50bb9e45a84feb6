def rdW (f : Int32) (s i : Nat) : Prop := 0 ≤ f.toInt + 3 * (i : Int) ∧ f.toInt + 3 * (i : Int) + 2 < (s : Int)
def rdX (q : Nat) (f : Int32) (i : Nat) : Nat := 40 * q + (f.toInt + 3 * (i : Int)).toNat
def rdL (ρ : RA) (c : Nat → Int32) (x : Nat) : Prop := lotOK ρ (c x) (c (x + 1)) (c (x + 2))
def rdK (κ : KA) (c : Nat → Int32) (q : Nat) (f : Int32) : Nat → KA
  | 0 => κ
  | i + 1 => putK (rdK κ c q f i) (4 * (c (rdX q f i)).toInt.toNat + (c (rdX q f i + 1)).toInt.toNat) (c (rdX q f i + 2)).toInt.toNat
theorem rdK_2 (κ : KA) (c : Nat → Int32) (q : Nat) (f : Int32) : ∀ i : Nat, (rdK κ c q f i).2 = κ.2 := fun i => by
  induction i with
  | zero => rfl
  | succ i ih => exact ih
theorem rd_find (G : Nat → Prop) : ∀ n : Nat, ∃ w : Nat, w ≤ n ∧ (∀ i : Nat, i < w → G i) ∧ (w < n → ¬ G w) := fun n => by
  induction n with
  | zero => exact ⟨0, by omega, fun i h => absurd h (by omega), fun h => absurd h (by omega)⟩
  | succ n ih =>
    obtain ⟨w, h1, h2, h3⟩ := ih
    by_cases c : w < n
    · exact ⟨w, by omega, h2, fun _ => h3 c⟩
    · by_cases d : G n
      · exact ⟨n + 1, by omega, fun i hi => by
          by_cases e : i = n
          · rw [e]; exact d
          · exact h2 i (by omega), fun h => absurd h (by omega)⟩
      · exact ⟨n, by omega, fun i hi => h2 i (by omega), fun _ => d⟩
theorem fadd {x : Int32} {c : Nat} (hc : c < 1000000) (h : 0 ≤ x.toInt + (c : Int)) (h2 : x.toInt + (c : Int) < 1000000) : x + nI c = nI (x.toInt + (c : Int)).toNat := by
  apply Int32.toInt_inj.1
  rw [Int32.toInt_add, nI_toInt (by omega), nI_toInt (by omega), Int.toNat_of_nonneg h]
  apply Int.bmod_eq_of_le <;> omega
theorem ladd {x y : Int64} (h1 : -(2 ^ 40 : Int) ≤ x.toInt) (h2 : x.toInt ≤ 2 ^ 40) (h3 : -(2 ^ 40 : Int) ≤ y.toInt) (h4 : y.toInt ≤ 2 ^ 40) : (x + y).toInt = x.toInt + y.toInt := by
  rw [Int64.toInt_add]
  apply Int.bmod_eq_of_le <;> omega
theorem l3i : ∀ i : Nat, i < 13 → ((3 : Int64) * (nI i).toInt64).toInt = 3 * (i : Int) := by decide
theorem i32b (x : Int32) : -(2 ^ 31 : Int) ≤ x.toInt ∧ x.toInt < 2 ^ 31 := ⟨Int32.le_toInt x, Int32.toInt_lt x⟩
theorem c_whole {q i s : Nat} {f : Int32} {μ : Mem} {Q : Int32 → Mem → Prop} (hq : q < 4) (hi : i < 13) (hs : s ≤ 40) (e : μ.1 98 q = nI s) (hy : rdW f s i → Q 1 μ) (hn : ¬ rdW f s i → Q 0 μ) : PX4_isLotWhole (0 + 96) (nI q) (f.toInt64 + (3 : Int64) * (nI i).toInt64) μ Q := by
  obtain ⟨b1, b2⟩ := i32b f
  have e1 : (f.toInt64 + (3 : Int64) * (nI i).toInt64).toInt = f.toInt + 3 * (i : Int) := by
    rw [ladd (by rw [Int32.toInt_toInt64]; omega) (by rw [Int32.toInt_toInt64]; omega) (by rw [l3i i hi]; omega) (by rw [l3i i hi]; omega), Int32.toInt_toInt64, l3i i hi]
  have e2 : (f.toInt64 + (3 : Int64) * (nI i).toInt64 + (2 : Int64)).toInt = f.toInt + 3 * (i : Int) + 2 := by
    rw [ladd (by rw [e1]; omega) (by rw [e1]; omega) (by decide) (by decide), e1]; rfl
  have e' : μ.1 (0 + 96 + 2) q = nI s := e
  unfold PX4_isLotWhole nX4_isLotWhole_26
  rw [nI_clamp (n := q) (by omega), e', lg_cmp_lt, lg_cmp_ge, Int64.lt_iff_toInt_lt, Int64.le_iff_toInt_le, e1, e2, Int32.toInt_toInt64, nI_toInt (by omega), show (0 : Int64).toInt = 0 from by decide]
  refine ⟨fun c => hn (fun z => ?_), fun c => ⟨vp_in_nI (by omega) (by omega), fun d => hn (fun z => ?_), fun d => hy ⟨by omega, by omega⟩⟩⟩
  · have := z.1; omega
  · have := z.2; omega
theorem rdX_lt {q s i : Nat} {f : Int32} (hq : q < 4) (hs : s ≤ 40) (h : rdW f s i) : rdX q f i + 2 < 160 := by
  unfold rdX
  have h1 := h.1
  have h2 := h.2
  omega
theorem rdX_c {q s i : Nat} {f : Int32} (hi : i < 13) (hs : s ≤ 40) (h : rdW f s i) : nI q * (40 : Int32) + (f + (3 : Int32) * nI i) = nI (rdX q f i) := by
  have h1 := h.1
  have h2 := h.2
  rw [show (3 : Int32) * nI i = nI (3 * i) from pk_mul 3 i, fadd (by omega) (by omega) (by omega), show nI q * (40 : Int32) = nI (q * 40) from pk_mul q 40, nI_add, Nat.mul_comm q 40, show ((3 * i : Nat) : Int) = 3 * (i : Int) by omega]
  rfl
theorem rdX_r {q s i : Nat} {f : Int32} (hi : i < 13) (hs : s ≤ 40) (h : rdW f s i) : (40 : Int32) * nI q + f + (3 : Int32) * nI i = nI (rdX q f i) := by
  rw [Int32.add_assoc, show (40 : Int32) * nI q = nI q * (40 : Int32) from Int32.mul_comm _ _]
  exact rdX_c hi hs h
theorem c_cellAt {q s i d : Nat} {f : Int32} {μ : Mem} {Q : Int32 → Mem → Prop} (hq : q < 4) (hi : i < 13) (hs : s ≤ 40) (h : rdW f s i) (hd : d < 3) (k : Q (μ.1 99 (rdX q f i + d)) μ) : PX4_cellAt (0 + 96) (nI q) (f + (3 : Int32) * nI i + nI d) μ Q := by
  have := rdX_lt (q := q) hq hs h
  unfold PX4_cellAt
  rw [← Int32.add_assoc (nI q * (40 : Int32)), rdX_c hi hs h, nI_add, nI_clamp (by omega)]
  exact ⟨vp_in_nI (by omega) (by omega), k⟩
theorem c_cellAt0 {q s i : Nat} {f : Int32} {μ : Mem} {Q : Int32 → Mem → Prop} (hq : q < 4) (hi : i < 13) (hs : s ≤ 40) (h : rdW f s i) (k : Q (μ.1 99 (rdX q f i)) μ) : PX4_cellAt (0 + 96) (nI q) (f + (3 : Int32) * nI i) μ Q := by
  have := rdX_lt (q := q) hq hs h
  unfold PX4_cellAt
  rw [rdX_c hi hs h, nI_clamp (by omega)]
  exact ⟨vp_in_nI (by omega) (by omega), k⟩
theorem c_canLot {q s i : Nat} {f : Int32} {ρ : RA} {μ : Mem} {Q : Int32 → Mem → Prop} (hC : CR μ 1 ρ) (hw : RW ρ) (hq : q < 4) (hi : i < 13) (hs : s ≤ 40) (h : rdW f s i) (hy : rdL ρ (μ.1 99) (rdX q f i) → Q 1 μ) (hn : ¬ rdL ρ (μ.1 99) (rdX q f i) → Q 0 μ) : PX6_canPutLot 0 (nI q) (f + (3 : Int32) * nI i) μ Q := by
  unfold PX6_canPutLot
  refine c_cellAt0 hq hi hs h (c_cellAt (d := 1) hq hi hs h (by omega) (c_cellAt (d := 2) hq hi hs h (by omega) ?_))
  by_cases c : rdL ρ (μ.1 99) (rdX q f i)
  · obtain ⟨t, a, v, ht, ha, hv, e1, e2, e3⟩ := id c
    rw [e1, e2, e3]
    exact c_canPut_y hC hw ht ha hv ⟨nz1, hy c⟩
  · exact c_canPut_n hC hw c ⟨nz0, hn c⟩
theorem c_putLot {q s i : Nat} {f : Int32} {ρ : RA} {κ : KA} {μ m : Mem} {Q : Mem → Prop} (hw : RW ρ) (hq : q < 4) (hi : i < 13) (hs : s ≤ 40) (h : rdW f s i) (hL : rdL ρ (μ.1 99) (rdX q f i)) (hK : KC m 40 (rdK κ (μ.1 99) q f i)) (hf : ∀ a j : Nat, a ≠ 41 → m.1 a j = μ.1 a j) (k : ∀ m' : Mem, KC m' 40 (rdK κ (μ.1 99) q f (i + 1)) → (∀ a j : Nat, a ≠ 41 → m'.1 a j = μ.1 a j) → Q m') : PX6_putLot 0 (nI q) (f + (3 : Int32) * nI i) m Q := by
  have t6 := hw.1
  unfold PX6_putLot
  refine c_cellAt0 hq hi hs h (c_cellAt (d := 1) hq hi hs h (by omega) (c_cellAt (d := 2) hq hi hs h (by omega) ?_))
  rw [hf 99 _ (by decide), hf 99 _ (by decide), hf 99 _ (by decide)]
  obtain ⟨t, a, v, ht, ha, hv, e1, e2, e3⟩ := id hL
  have k4 := (hw.2.2.2.2.2.1 t ht).1
  rw [e1, e2, e3, show nI t * (4 : Int32) = nI (t * 4) from pk_mul t 4, nI_add, nI_clamp (by omega), Nat.mul_comm t 4]
  refine ⟨vp_in_nI (by omega) (by omega), k _ ?_ (fun a' j q => ?_)⟩
  · show KC (ms m (0 + 40 + 1) (4 * t + a) (nI v)) 40 (putK (rdK κ (μ.1 99) q f i) (4 * (μ.1 99 (rdX q f i)).toInt.toNat + (μ.1 99 (rdX q f i + 1)).toInt.toNat) (μ.1 99 (rdX q f i + 2)).toInt.toNat)
    rw [e1, e2, e3, nI_toInt (by omega), nI_toInt (by omega), nI_toInt (by omega), Int.toNat_natCast, Int.toNat_natCast, Int.toNat_natCast]
    exact KC_u hK (by omega)
  · rw [ms_1, if_neg (by omega)]; exact hf a' j q
theorem c_readS {q s n w : Nat} {p2 f : Int32} {ρ : RA} {κ : KA} {μ : Mem} {Q : Int32 → Mem → Prop} {S58 S129 : Int32 → Int32 → Int32 → Mem → Prop}
    (hS58 : ∀ (v5 : Int32) (v6 : Int32) (v7 : Int32) (μ : Mem), nX6_read_58 0 (nI q) p2 f (nI n) Q S58 S129 v5 v6 v7 μ → S58 v5 v6 v7 μ)
    (hS129 : ∀ (v5 : Int32) (v6 : Int32) (v7 : Int32) (μ : Mem), nX6_read_129 0 (nI q) p2 f (nI n) Q S58 S129 v5 v6 v7 μ → S129 v5 v6 v7 μ)
    (hC : CR μ 1 ρ) (hw : RW ρ) (hK : KC μ 40 κ) (hq : q < 4) (hn : n < 13) (hs : s ≤ 40) (e98 : μ.1 98 q = nI s) (hwn : w ≤ n) (hG : ∀ i : Nat, i < w → rdW f s i ∧ rdL ρ (μ.1 99) (rdX q f i))
    (bad : w < n → rdW f s w → ¬ rdL ρ (μ.1 99) (rdX q f w) ∧ Q ((-20 : Int32) - nI w) μ)
    (fin : (w < n → ¬ rdW f s w) → ∀ (v : Int32) (m : Mem), (w = n → v = 0) → (w < n → v = 2) → KC m 40 (rdK κ (μ.1 99) q f w) → (∀ a j : Nat, a ≠ 41 → m.1 a j = μ.1 a j) → Q (nI w) (ms m 0 12 v)) :
    S58 0 (nI 0) (nI 0) μ := by
  have ap : ∀ v : Int32, (w < n → ¬ rdW f s w) → (w = n → v = 0) → (w < n → v = 2) → S129 v (nI w) 0 μ := by
    intro v hnw h0 h2
    have lp : ∀ i m, i ≤ w → (KC m 40 (rdK κ (μ.1 99) q f i) ∧ (∀ a j : Nat, a ≠ 41 → m.1 a j = μ.1 a j)) → S129 v (nI w) (nI i) m := by
      refine up_loop (T := fun i m => S129 v (nI w) (nI i) m) ?_ ?_
      · intro i m hi ⟨b1, b2⟩ ih
        obtain ⟨g1, g2⟩ := hG i hi
        apply hS129
        unfold nX6_read_129
        refine ⟨fun d => absurd d (nI_ge (by omega) (by omega)), fun _ => ?_⟩
        refine c_putLot hw hq (by omega) hs g1 g2 b1 b2 (fun m' c1 c2 => ?_)
        rw [nI_1]
        exact ih m' ⟨c1, c2⟩
      · intro m ⟨b1, b2⟩
        apply hS129
        unfold nX6_read_129
        exact ⟨fun _ => fin hnw v m h0 h2 b1 b2, fun d => absurd (nI_le (by omega) (by omega)) d⟩
    exact lp 0 μ (by omega) ⟨hK, fun _ _ _ => rfl⟩
  have lp : ∀ i m, i ≤ w → m = μ → S58 0 (nI i) (nI i) m := by
    refine up_loop (T := fun i m => S58 0 (nI i) (nI i) m) ?_ ?_
    · intro i m hi hm ih
      obtain ⟨g1, g2⟩ := hG i hi
      rw [hm]
      apply hS58
      unfold nX6_read_58 nX6_read_120
      refine ⟨fun d => absurd d (nI_ge (by omega) (by omega)), fun _ => ⟨fun d => absurd rfl d, fun _ => ?_⟩⟩
      refine c_whole hq (by omega) hs e98 (fun _ => ⟨fun _ => ?_, fun d => absurd d np1⟩) (fun d => absurd g1 d)
      refine c_canLot hC hw hq (by omega) hs g1 (fun _ => ⟨fun _ => ?_, fun d => absurd d np1⟩) (fun d => absurd g2 d)
      rw [nI_1]
      exact ih μ rfl
    · intro m hm
      rw [hm]
      apply hS58
      unfold nX6_read_58 nX6_read_120 nX6_read_126
      by_cases c : w = n
      · refine ⟨fun _ => ap 0 (fun z => absurd z (by omega)) (fun _ => rfl) (fun z => absurd z (by omega)), fun d => absurd (nI_le (by omega) (by omega)) d⟩
      · refine ⟨fun d => absurd d (nI_ge (by omega) (by omega)), fun _ => ⟨fun d => absurd rfl d, fun _ => ?_⟩⟩
        refine c_whole hq (by omega) hs e98 (fun g => ⟨fun _ => ?_, fun d => absurd d np1⟩) (fun g => ⟨fun d => absurd rfl d, fun _ => ?_⟩)
        · obtain ⟨b1, b2⟩ := bad (by omega) g
          exact c_canLot hC hw hq (by omega) hs g (fun z => absurd z b1) (fun _ => ⟨fun d => absurd rfl d, fun _ => b2⟩)
        · apply hS58
          unfold nX6_read_58 nX6_read_126
          have := ap 2 (fun _ => g) (fun z => absurd z c) (fun _ => rfl)
          exact ⟨fun _ => this, fun _ => ⟨fun _ => this, fun d => absurd d (by decide)⟩⟩
  exact lp 0 μ (by omega) rfl
theorem l3j : ∀ i : Nat, i < 13 → (((3 : Int32) * nI i).toInt64).toInt = 3 * (i : Int) := by decide
theorem r_readS {q s n w l : Nat} {f : Int32} {ρ : RA} {κ : KA} {c : Nat → Int32} {μ : Mem} {Q : Int32 → Mem → Prop} {S32 : Int32 → Int32 → Int32 → Mem → Prop} {S47 : Int32 → Int32 → Int32 → Int32 → Mem → Prop} {S208 : Int32 → Int32 → Mem → Prop}
    (hS32 : ∀ (v5 : Int32) (v6 : Int32) (v7 : Int32) (μ : Mem), nX7_read_32 100 (nI q) (nI l) f (nI n) Q S32 S47 S208 v5 v6 v7 μ → S32 v5 v6 v7 μ)
    (hS47 : ∀ (v5 : Int32) (v6 : Int32) (v7 : Int32) (v8 : Int32) (μ : Mem), nX7_read_47 100 (nI q) (nI l) f (nI n) Q S32 S47 S208 v5 v6 v7 v8 μ → S47 v5 v6 v7 v8 μ)
    (hS208 : ∀ (v6 : Int32) (v7 : Int32) (μ : Mem), nX7_read_208 100 (nI q) (nI l) f (nI n) Q S32 S47 S208 v6 v7 μ → S208 v6 v7 μ)
    (hM : MR μ ρ) (hw : RW ρ) (hK : KM μ 280 κ) (hq : q < 4) (hl : l < 3) (hn : n < 13) (hs : s ≤ 40) (e122 : n = 0 ∨ μ.1 122 q = nI l) (e123 : μ.1 123 q = nI s) (hc : ∀ j : Nat, j < 160 → μ.1 124 j = c j) (hwn : w ≤ n) (hG : ∀ i : Nat, i < w → rdW f s i ∧ rdL ρ c (rdX q f i))
    (bad : w < n → rdW f s w → ¬ rdL ρ c (rdX q f w) ∧ Q ((-20 : Int32) - nI w) μ)
    (fin : (w < n → ¬ rdW f s w) → ∀ (v : Int32) (m : Mem), (w = n → v = 0) → (w < n → v = 2) → KM m 280 (rdK κ c q f w) → (∀ a j : Nat, (a = 114 → j < 280 ∨ 320 ≤ j) → (a = 100 → j ≠ 55) → m.1 a j = μ.1 a j) → m.1 100 55 = v → Q (nI w) m) :
    S32 0 (nI 0) (nI 0) μ := by
  have t6 := hw.1
  obtain ⟨fb1, fb2⟩ := i32b f
  have ap : ∀ v : Int32, (w < n → ¬ rdW f s w) → (w = n → v = 0) → (w < n → v = 2) → S208 (nI w) 0 (ms μ 100 55 v) := by
    intro v hnw h0 h2
    have lp : ∀ i m, i ≤ w → (KM m 280 (rdK κ c q f i) ∧ (∀ a j : Nat, (a = 114 → j < 280 ∨ 320 ≤ j) → (a = 100 → j ≠ 55) → m.1 a j = μ.1 a j) ∧ m.1 100 55 = v) → S208 (nI w) (nI i) m := by
      refine up_loop (T := fun i m => S208 (nI w) (nI i) m) ?_ ?_
      · intro i m hi ⟨b1, b2, b3⟩ ih
        obtain ⟨g1, g2⟩ := hG i hi
        have xl := rdX_lt (q := q) hq hs g1
        obtain ⟨t, a, u, ht, ha, hu, y1, y2, y3⟩ := id g2
        have k4 := (hw.2.2.2.2.2.1 t ht).1
        apply hS208
        unfold nX7_read_208
        refine ⟨fun d => absurd d (nI_ge (by omega) (by omega)), fun _ => ?_⟩
        have z0 : m.1 (100 + 24) (rdX q f i) = nI t := by rw [b2 (100 + 24) _ (by omega) (by omega), hc _ (by omega)]; exact y1
        have z1 : m.1 (100 + 24) (rdX q f i + 1) = nI a := by rw [b2 (100 + 24) _ (by omega) (by omega), hc _ (by omega)]; exact y2
        have z2 : m.1 (100 + 24) (rdX q f i + 2) = nI u := by rw [b2 (100 + 24) _ (by omega) (by omega), hc _ (by omega)]; exact y3
        rw [rdX_r (by omega) hs g1, show (1 : Int32) = nI 1 from rfl, show (2 : Int32) = nI 2 from rfl, nI_add, nI_add, nI_clamp (n := rdX q f i) (by omega), nI_clamp (n := rdX q f i + 1) (by omega), nI_clamp (n := rdX q f i + 2) (by omega), z0, z1, z2]
        refine ⟨vp_in_nI (by omega) (by omega), vp_in_nI (by omega) (by omega), vp_in_nI (by omega) (by omega), ?_⟩
        have hM' := MR_of hM (m := m) (fun a' j q => b2 a' j (by omega) (by omega))
        unfold PX7_put
        refine r_isLot_y hM' hw ht ha hu ⟨fun _ => ?_, fun d => absurd d np1⟩
        rw [show (280 : Int32) + (4 : Int32) * nI t + nI a = nI (280 + (4 * t + a)) by rw [show (4 : Int32) * nI t = nI (4 * t) from pk_mul 4 t, show (280 : Int32) = nI 280 from rfl, nI_add, nI_add, Nat.add_assoc], nI_clamp (by omega)]
        refine ⟨vp_in_nI (by omega) (by omega), fun x hx => ⟨vp_in_nI (by omega) (by omega), ?_⟩⟩
        rw [nI_add]
        refine ih _ ⟨?_, fun a' j p1 p2 => ?_, ?_⟩
        · show KM (ms m (100 + 14) (280 + (4 * t + a)) (nI u)) 280 (putK (rdK κ c q f i) (4 * (c (rdX q f i)).toInt.toNat + (c (rdX q f i + 1)).toInt.toNat) (c (rdX q f i + 2)).toInt.toNat)
          rw [y1, y2, y3, nI_toInt (by omega), nI_toInt (by omega), nI_toInt (by omega), Int.toNat_natCast, Int.toNat_natCast, Int.toNat_natCast]
          exact KM_u b1 (by omega)
        · rw [ms_1]
          by_cases z : a' = 100 + 14
          · have := p1 (by omega)
            rw [if_pos z, if_neg (by omega)]; exact b2 a' j p1 p2
          · rw [if_neg z]; exact b2 a' j p1 p2
        · rw [ms_1, if_neg (by decide)]; exact b3
      · intro m ⟨b1, b2, b3⟩
        apply hS208
        unfold nX7_read_208
        exact ⟨fun _ => fin hnw v m h0 h2 b1 b2 b3, fun d => absurd (nI_le (by omega) (by omega)) d⟩
    refine lp 0 _ (by omega) ⟨KM_of hK (fun j hj => by rw [ms_1, if_neg (by decide)]), fun a j p1 p2 => ?_, by rw [ms_1, if_pos rfl, if_pos rfl]⟩
    rw [ms_1]
    by_cases z : a = 100
    · rw [if_pos z, if_neg (p2 z)]
    · rw [if_neg z]
  have e3 : ∀ i j : Nat, i < 13 → j < 3 → (f.toInt64 + ((3 : Int32) * nI i).toInt64 + (nI j).toInt64).toInt = f.toInt + 3 * (i : Int) + (j : Int) := fun i j hi hj => by
    have e1 : (f.toInt64 + ((3 : Int32) * nI i).toInt64).toInt = f.toInt + 3 * (i : Int) := by
      rw [ladd (by rw [Int32.toInt_toInt64]; omega) (by rw [Int32.toInt_toInt64]; omega) (by rw [l3j i hi]; omega) (by rw [l3j i hi]; omega), Int32.toInt_toInt64, l3j i hi]
    rw [ladd (by rw [e1]; omega) (by rw [e1]; omega) (by rw [Int32.toInt_toInt64, nI_toInt (by omega)]; omega) (by rw [Int32.toInt_toInt64, nI_toInt (by omega)]; omega), e1, Int32.toInt_toInt64, nI_toInt (by omega)]
  -- one cell
  have r47 : ∀ i j : Nat, i < 13 → j < 3 → μ.1 122 q = nI l → (0 ≤ f.toInt + 3 * (i : Int) + (j : Int) → f.toInt + 3 * (i : Int) + (j : Int) < (s : Int) → S47 0 (nI i) (nI i) (nI (j + 1)) μ) → (¬ (0 ≤ f.toInt + 3 * (i : Int) + (j : Int) ∧ f.toInt + 3 * (i : Int) + (j : Int) < (s : Int)) → S32 2 (nI i) (nI (i + 1)) μ) → S47 0 (nI i) (nI i) (nI j) μ := by
    intro i j hi hj e122 hy hno
    have f2 : nX7_read_126 100 (nI q) (nI l) f (nI n) Q S32 S47 S208 (nI i) (nI i) (nI j) 2 μ ↔ S47 2 (nI i) (nI i) (nI j + 1) μ := Iff.rfl
    have bd : ¬ (0 ≤ f.toInt + 3 * (i : Int) + (j : Int) ∧ f.toInt + 3 * (i : Int) + (j : Int) < (s : Int)) → S47 2 (nI i) (nI i) (nI j + 1) μ := by
      intro z
      apply hS47
      unfold nX7_read_47 nX7_read_134 nX7_read_193
      rw [nI_1 i]
      have := hno z
      exact ⟨fun _ => ⟨fun _ => this, fun d => absurd d (by decide)⟩, fun _ => ⟨fun _ => ⟨fun _ => this, fun d => absurd d (by decide)⟩, fun d => absurd d (by decide)⟩⟩
    have e122' : μ.1 (100 + 22) q = nI l := e122
    have e123' : μ.1 (100 + 23) q = nI s := e123
    apply hS47
    unfold nX7_read_47 nX7_read_121 nX7_read_126
    rw [nI_clamp (n := q) (by omega), e122', e123', lg_cmp_lt, lg_cmp_lt, Int64.lt_iff_toInt_lt, Int64.lt_iff_toInt_lt, e3 i j hi hj, Int32.toInt_toInt64, nI_toInt (n := s) (by omega), show (0 : Int64).toInt = 0 from by decide]
    refine ⟨fun d => absurd d (nI_ge (b := 3) hj (by omega)), fun _ => ⟨fun d => absurd rfl d, fun _ => ⟨vp_in_nI (by omega) (by omega), fun _ => ⟨vp_in_nI (by omega) (by omega), fun _ => ⟨fun z => bd (fun y => by omega), fun z => ⟨vp_in_nI (by omega) (by omega), fun y => ?_, fun y => bd (fun x => by omega)⟩⟩, fun d => absurd rfl d⟩, fun d => ?_⟩⟩⟩
    · rw [nI_1]; exact hy (by omega) y
    · rcases (show l = 0 ∨ l = 1 ∨ l = 2 by omega) with rfl | rfl | rfl <;> exact absurd d (by decide)
  have lp : ∀ i m, i ≤ w → m = μ → S32 0 (nI i) (nI i) m := by
    refine up_loop (T := fun i m => S32 0 (nI i) (nI i) m) ?_ ?_
    · intro i m hi hm ih
      obtain ⟨g1, g2⟩ := hG i hi
      have gg1 := g1.1
      have gg2 := g1.2
      have e122 : μ.1 122 q = nI l := e122.resolve_left (by omega)
      have xl := rdX_lt (q := q) hq hs g1
      rw [hm]
      apply hS32
      unfold nX7_read_32
      refine ⟨fun d => absurd d (nI_ge (by omega) (by omega)), fun _ => ⟨fun d => absurd rfl d, fun _ => ?_⟩⟩
      refine r47 i 0 (by omega) (by omega) e122 (fun _ _ => r47 i 1 (by omega) (by omega) e122 (fun _ _ => r47 i 2 (by omega) (by omega) e122 (fun _ _ => ?_) (fun z => absurd (show _ by omega) z)) (fun z => absurd (show _ by omega) z)) (fun z => absurd (show _ by omega) z)
      apply hS47
      unfold nX7_read_47 nX7_read_134 nX7_read_193
      refine ⟨fun _ => ⟨fun d => absurd rfl d, fun _ => ?_⟩, fun d => absurd (by decide) d⟩
      obtain ⟨t, a, u, ht, ha, hu, y1, y2, y3⟩ := id g2
      have z0 : μ.1 (100 + 24) (rdX q f i) = nI t := by rw [← y1]; exact hc _ (by omega)
      have z1 : μ.1 (100 + 24) (rdX q f i + 1) = nI a := by rw [← y2]; exact hc _ (by omega)
      have z2 : μ.1 (100 + 24) (rdX q f i + 2) = nI u := by rw [← y3]; exact hc _ (by omega)
      rw [rdX_r (by omega) hs g1, show (1 : Int32) = nI 1 from rfl, show (2 : Int32) = nI 2 from rfl, nI_add, nI_add, nI_clamp (n := rdX q f i) (by omega), nI_clamp (n := rdX q f i + 1) (by omega), nI_clamp (n := rdX q f i + 2) (by omega), z0, z1, z2]
      refine ⟨vp_in_nI (by omega) (by omega), vp_in_nI (by omega) (by omega), vp_in_nI (by omega) (by omega), ?_⟩
      refine r_isLot_y hM hw ht ha hu ⟨fun _ => ?_, fun d => absurd d np1⟩
      rw [nI_add]
      exact ih μ rfl
    · intro m hm
      rw [hm]
      apply hS32
      unfold nX7_read_32 nX7_read_199
      by_cases z : w = n
      · exact ⟨fun _ => ap 0 (fun y => absurd y (by omega)) (fun _ => rfl) (fun y => absurd y (by omega)), fun d => absurd (nI_le (by omega) (by omega)) d⟩
      · have e122 : μ.1 122 q = nI l := e122.resolve_left (by omega)
        refine ⟨fun d => absurd d (nI_ge (by omega) (by omega)), fun _ => ⟨fun d => absurd rfl d, fun _ => ?_⟩⟩
        have torn2 : ¬ rdW f s w → S32 2 (nI w) (nI (w + 1)) μ := fun g => by
          apply hS32
          unfold nX7_read_32 nX7_read_199
          have := ap 2 (fun _ => g) (fun y => absurd y z) (fun _ => rfl)
          exact ⟨fun _ => this, fun _ => ⟨fun _ => this, fun d => absurd d (by decide)⟩⟩
        refine r47 w 0 (by omega) (by omega) e122 (fun a0 b0 => r47 w 1 (by omega) (by omega) e122 (fun a1 b1 => r47 w 2 (by omega) (by omega) e122 (fun a2 b2 => ?_) (fun y => torn2 (fun x => ?_))) (fun y => torn2 (fun x => ?_))) (fun y => torn2 (fun x => ?_))
        · have g1 : rdW f s w := ⟨by omega, by omega⟩
          have xl := rdX_lt (q := q) hq hs g1
          obtain ⟨x1, x2⟩ := bad (by omega) g1
          have z0 : μ.1 (100 + 24) (rdX q f w) = c (rdX q f w) := hc _ (by omega)
          have z1 : μ.1 (100 + 24) (rdX q f w + 1) = c (rdX q f w + 1) := hc _ (by omega)
          have z2 : μ.1 (100 + 24) (rdX q f w + 2) = c (rdX q f w + 2) := hc _ (by omega)
          apply hS47
          unfold nX7_read_47 nX7_read_134 nX7_read_193
          refine ⟨fun _ => ⟨fun d => absurd rfl d, fun _ => ?_⟩, fun d => absurd (by decide) d⟩
          rw [rdX_r (by omega) hs g1, show (1 : Int32) = nI 1 from rfl, show (2 : Int32) = nI 2 from rfl, nI_add, nI_add, nI_clamp (n := rdX q f w) (by omega), nI_clamp (n := rdX q f w + 1) (by omega), nI_clamp (n := rdX q f w + 2) (by omega), z0, z1, z2]
          refine ⟨vp_in_nI (by omega) (by omega), vp_in_nI (by omega) (by omega), vp_in_nI (by omega) (by omega), ?_⟩
          exact r_isLot_n hM hw x1 ⟨fun d => absurd rfl d, fun _ => x2⟩
        all_goals
          have := x.1
          have := x.2
          omega
  exact lp 0 μ (by omega) rfl
