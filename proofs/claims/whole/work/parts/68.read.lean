def rdW (f : Int32) (s i : Nat) : Prop := 0 ≤ f.toInt + 3 * (i : Int) ∧ f.toInt + 3 * (i : Int) + 2 < (s : Int)
def rdX (q : Nat) (f : Int32) (i : Nat) : Nat := 40 * q + (f.toInt + 3 * (i : Int)).toNat
def rdL (ρ : RA) (c : Nat → Int32) (x : Nat) : Prop := lotOK ρ (c x) (c (x + 1)) (c (x + 2))
def rdK (κ : KA) (c : Nat → Int32) (q : Nat) (f : Int32) : Nat → KA
  | 0 => κ
  | i + 1 => putK (rdK κ c q f i) (4 * (c (rdX q f i)).toInt.toNat + (c (rdX q f i + 1)).toInt.toNat) (c (rdX q f i + 2)).toInt.toNat
theorem rdK_2 (κ : KA) (c : Nat → Int32) (q : Nat) (f : Int32) : ∀ i : Nat, (rdK κ c q f i).2 = κ.2 := fun i => by
  induction i with
  | zero => rfl
  | succ i ih => exact ih
theorem rd_find (G : Nat → Prop) : ∀ n : Nat, ∃ w : Nat, w ≤ n ∧ (∀ i : Nat, i < w → G i) ∧ (w < n → ¬ G w) := fun n => by
  induction n with
  | zero => exact ⟨0, by omega, fun i h => absurd h (by omega), fun h => absurd h (by omega)⟩
  | succ n ih =>
    obtain ⟨w, h1, h2, h3⟩ := ih
    by_cases c : w < n
    · exact ⟨w, by omega, h2, fun _ => h3 c⟩
    · by_cases d : G n
      · exact ⟨n + 1, by omega, fun i hi => by
          by_cases e : i = n
          · rw [e]; exact d
          · exact h2 i (by omega), fun h => absurd h (by omega)⟩
      · exact ⟨n, by omega, fun i hi => h2 i (by omega), fun _ => d⟩
theorem fadd {x : Int32} {c : Nat} (hc : c < 1000000) (h : 0 ≤ x.toInt + (c : Int)) (h2 : x.toInt + (c : Int) < 1000000) : x + nI c = nI (x.toInt + (c : Int)).toNat := by
  apply Int32.toInt_inj.1
  rw [Int32.toInt_add, nI_toInt (by omega), nI_toInt (by omega), Int.toNat_of_nonneg h]
  apply Int.bmod_eq_of_le <;> omega
theorem ladd {x y : Int64} (h1 : -(2 ^ 40 : Int) ≤ x.toInt) (h2 : x.toInt ≤ 2 ^ 40) (h3 : -(2 ^ 40 : Int) ≤ y.toInt) (h4 : y.toInt ≤ 2 ^ 40) : (x + y).toInt = x.toInt + y.toInt := by
  rw [Int64.toInt_add]
  apply Int.bmod_eq_of_le <;> omega
theorem l3i : ∀ i : Nat, i < 13 → ((3 : Int64) * (nI i).toInt64).toInt = 3 * (i : Int) := by decide
theorem i32b (x : Int32) : -(2 ^ 31 : Int) ≤ x.toInt ∧ x.toInt < 2 ^ 31 := ⟨Int32.le_toInt x, Int32.toInt_lt x⟩
theorem c_whole {q i s : Nat} {f : Int32} {μ : Mem} {Q : Int32 → Mem → Prop} (hq : q < 4) (hi : i < 13) (hs : s ≤ 40) (e : μ.1 98 q = nI s) (hy : rdW f s i → Q 1 μ) (hn : ¬ rdW f s i → Q 0 μ) : PX4_isLotWhole (0 + 96) (nI q) (f.toInt64 + (3 : Int64) * (nI i).toInt64) μ Q := by
  obtain ⟨b1, b2⟩ := i32b f
  have e1 : (f.toInt64 + (3 : Int64) * (nI i).toInt64).toInt = f.toInt + 3 * (i : Int) := by
    rw [ladd (by rw [Int32.toInt_toInt64]; omega) (by rw [Int32.toInt_toInt64]; omega) (by rw [l3i i hi]; omega) (by rw [l3i i hi]; omega), Int32.toInt_toInt64, l3i i hi]
  have e2 : (f.toInt64 + (3 : Int64) * (nI i).toInt64 + (2 : Int64)).toInt = f.toInt + 3 * (i : Int) + 2 := by
    rw [ladd (by rw [e1]; omega) (by rw [e1]; omega) (by decide) (by decide), e1]; rfl
  have e' : μ.1 (0 + 96 + 2) q = nI s := e
  unfold PX4_isLotWhole nX4_isLotWhole_26
  rw [nI_clamp (n := q) (by omega), e', lg_cmp_lt, lg_cmp_ge, Int64.lt_iff_toInt_lt, Int64.le_iff_toInt_le, e1, e2, Int32.toInt_toInt64, nI_toInt (by omega), show (0 : Int64).toInt = 0 from by decide]
  refine ⟨fun c => hn (fun z => ?_), fun c => ⟨vp_in_nI (by omega) (by omega), fun d => hn (fun z => ?_), fun d => hy ⟨by omega, by omega⟩⟩⟩
  · have := z.1; omega
  · have := z.2; omega
theorem rdX_lt {q s i : Nat} {f : Int32} (hq : q < 4) (hs : s ≤ 40) (h : rdW f s i) : rdX q f i + 2 < 160 := by
  unfold rdX
  have h1 := h.1
  have h2 := h.2
  omega
theorem rdX_c {q s i : Nat} {f : Int32} (hi : i < 13) (hs : s ≤ 40) (h : rdW f s i) : nI q * (40 : Int32) + (f + (3 : Int32) * nI i) = nI (rdX q f i) := by
  have h1 := h.1
  have h2 := h.2
  rw [show (3 : Int32) * nI i = nI (3 * i) from pk_mul 3 i, fadd (by omega) (by omega) (by omega), show nI q * (40 : Int32) = nI (q * 40) from pk_mul q 40, nI_add, Nat.mul_comm q 40, show ((3 * i : Nat) : Int) = 3 * (i : Int) by omega]
  rfl
theorem rdX_r {q s i : Nat} {f : Int32} (hi : i < 13) (hs : s ≤ 40) (h : rdW f s i) : (40 : Int32) * nI q + f + (3 : Int32) * nI i = nI (rdX q f i) := by
  rw [Int32.add_assoc, show (40 : Int32) * nI q = nI q * (40 : Int32) from Int32.mul_comm _ _]
  exact rdX_c hi hs h
theorem c_cellAt {q s i d : Nat} {f : Int32} {μ : Mem} {Q : Int32 → Mem → Prop} (hq : q < 4) (hi : i < 13) (hs : s ≤ 40) (h : rdW f s i) (hd : d < 3) (k : Q (μ.1 99 (rdX q f i + d)) μ) : PX4_cellAt (0 + 96) (nI q) (f + (3 : Int32) * nI i + nI d) μ Q := by
  have := rdX_lt (q := q) hq hs h
  unfold PX4_cellAt
  rw [← Int32.add_assoc (nI q * (40 : Int32)), rdX_c hi hs h, nI_add, nI_clamp (by omega)]
  exact ⟨vp_in_nI (by omega) (by omega), k⟩
theorem c_cellAt0 {q s i : Nat} {f : Int32} {μ : Mem} {Q : Int32 → Mem → Prop} (hq : q < 4) (hi : i < 13) (hs : s ≤ 40) (h : rdW f s i) (k : Q (μ.1 99 (rdX q f i)) μ) : PX4_cellAt (0 + 96) (nI q) (f + (3 : Int32) * nI i) μ Q := by
  have := rdX_lt (q := q) hq hs h
  unfold PX4_cellAt
  rw [rdX_c hi hs h, nI_clamp (by omega)]
  exact ⟨vp_in_nI (by omega) (by omega), k⟩
theorem c_canLot {q s i : Nat} {f : Int32} {ρ : RA} {μ : Mem} {Q : Int32 → Mem → Prop} (hC : CR μ 1 ρ) (hw : RW ρ) (hq : q < 4) (hi : i < 13) (hs : s ≤ 40) (h : rdW f s i) (hy : rdL ρ (μ.1 99) (rdX q f i) → Q 1 μ) (hn : ¬ rdL ρ (μ.1 99) (rdX q f i) → Q 0 μ) : PX6_canPutLot 0 (nI q) (f + (3 : Int32) * nI i) μ Q := by
  unfold PX6_canPutLot
  refine c_cellAt0 hq hi hs h (c_cellAt (d := 1) hq hi hs h (by omega) (c_cellAt (d := 2) hq hi hs h (by omega) ?_))
  by_cases c : rdL ρ (μ.1 99) (rdX q f i)
  · obtain ⟨t, a, v, ht, ha, hv, e1, e2, e3⟩ := id c
    rw [e1, e2, e3]
    exact c_canPut_y hC hw ht ha hv ⟨nz1, hy c⟩
  · exact c_canPut_n hC hw c ⟨nz0, hn c⟩
theorem c_putLot {q s i : Nat} {f : Int32} {ρ : RA} {κ : KA} {μ m : Mem} {Q : Mem → Prop} (hw : RW ρ) (hq : q < 4) (hi : i < 13) (hs : s ≤ 40) (h : rdW f s i) (hL : rdL ρ (μ.1 99) (rdX q f i)) (hK : KC m 40 (rdK κ (μ.1 99) q f i)) (hf : ∀ a j : Nat, a ≠ 41 → m.1 a j = μ.1 a j) (k : ∀ m' : Mem, KC m' 40 (rdK κ (μ.1 99) q f (i + 1)) → (∀ a j : Nat, a ≠ 41 → m'.1 a j = μ.1 a j) → Q m') : PX6_putLot 0 (nI q) (f + (3 : Int32) * nI i) m Q := by
  have t6 := hw.1
  unfold PX6_putLot
  refine c_cellAt0 hq hi hs h (c_cellAt (d := 1) hq hi hs h (by omega) (c_cellAt (d := 2) hq hi hs h (by omega) ?_))
  rw [hf 99 _ (by decide), hf 99 _ (by decide), hf 99 _ (by decide)]
  obtain ⟨t, a, v, ht, ha, hv, e1, e2, e3⟩ := id hL
  have k4 := (hw.2.2.2.2.2.1 t ht).1
  rw [e1, e2, e3, show nI t * (4 : Int32) = nI (t * 4) from pk_mul t 4, nI_add, nI_clamp (by omega), Nat.mul_comm t 4]
  refine ⟨vp_in_nI (by omega) (by omega), k _ ?_ (fun a' j q => ?_)⟩
  · show KC (ms m (0 + 40 + 1) (4 * t + a) (nI v)) 40 (putK (rdK κ (μ.1 99) q f i) (4 * (μ.1 99 (rdX q f i)).toInt.toNat + (μ.1 99 (rdX q f i + 1)).toInt.toNat) (μ.1 99 (rdX q f i + 2)).toInt.toNat)
    rw [e1, e2, e3, nI_toInt (by omega), nI_toInt (by omega), nI_toInt (by omega), Int.toNat_natCast, Int.toNat_natCast, Int.toNat_natCast]
    exact KC_u hK (by omega)
  · rw [ms_1, if_neg (by omega)]; exact hf a' j q
theorem c_readS {q s n w l k : Nat} {p2 p4 f : Int32} {ρ : RA} {κ : KA} {μ : Mem} {Q : Int32 → Mem → Prop} {S58 S129 : Int32 → Int32 → Int32 → Mem → Prop}
    (hS58 : ∀ (v5 : Int32) (v6 : Int32) (v7 : Int32) (μ : Mem), nX6_read_58 0 (nI q) p2 f (nI n) Q S58 S129 v5 v6 v7 μ → S58 v5 v6 v7 μ)
    (hS129 : ∀ (v5 : Int32) (v6 : Int32) (v7 : Int32) (μ : Mem), nX6_read_129 0 (nI q) p2 f (nI n) Q S58 S129 v5 v6 v7 μ → S129 v5 v6 v7 μ)
    (hC : CR μ 1 ρ) (hw : RW ρ) (hK : KC μ 40 κ) (hq : q < 4) (hn : n < 13) (hs : s ≤ 40) (e98 : μ.1 98 q = nI s) (hwn : w ≤ n) (hG : ∀ i : Nat, i < w → rdW f s i ∧ rdL ρ (μ.1 99) (rdX q f i))
    (bad : w < n → rdW f s w → ¬ rdL ρ (μ.1 99) (rdX q f w) ∧ Q ((-20 : Int32) - nI w) μ)
    (fin : (w < n → ¬ rdW f s w) → ∀ (v : Int32) (m : Mem), (w = n → v = 0) → (w < n → v = 2) → KC m 40 (rdK κ (μ.1 99) q f w) → (∀ a j : Nat, a ≠ 41 → m.1 a j = μ.1 a j) → Q (nI w) (ms m 0 12 v)) :
    S58 0 (nI 0) (nI 0) μ := by
  have ap : ∀ v : Int32, (w < n → ¬ rdW f s w) → (w = n → v = 0) → (w < n → v = 2) → S129 v (nI w) 0 μ := by
    intro v hnw h0 h2
    have lp : ∀ i m, i ≤ w → (KC m 40 (rdK κ (μ.1 99) q f i) ∧ (∀ a j : Nat, a ≠ 41 → m.1 a j = μ.1 a j)) → S129 v (nI w) (nI i) m := by
      refine up_loop (T := fun i m => S129 v (nI w) (nI i) m) ?_ ?_
      · intro i m hi ⟨b1, b2⟩ ih
        obtain ⟨g1, g2⟩ := hG i hi
        apply hS129
        unfold nX6_read_129
        refine ⟨fun d => absurd d (nI_ge (by omega) (by omega)), fun _ => ?_⟩
        refine c_putLot hw hq (by omega) hs g1 g2 b1 b2 (fun m' c1 c2 => ?_)
        rw [nI_1]
        exact ih m' ⟨c1, c2⟩
      · intro m ⟨b1, b2⟩
        apply hS129
        unfold nX6_read_129
        exact ⟨fun _ => fin hnw v m h0 h2 b1 b2, fun d => absurd (nI_le (by omega) (by omega)) d⟩
    exact lp 0 μ (by omega) ⟨hK, fun _ _ _ => rfl⟩
  have lp : ∀ i m, i ≤ w → m = μ → S58 0 (nI i) (nI i) m := by
    refine up_loop (T := fun i m => S58 0 (nI i) (nI i) m) ?_ ?_
    · intro i m hi hm ih
      obtain ⟨g1, g2⟩ := hG i hi
      rw [hm]
      apply hS58
      unfold nX6_read_58 nX6_read_120
      refine ⟨fun d => absurd d (nI_ge (by omega) (by omega)), fun _ => ⟨fun d => absurd rfl d, fun _ => ?_⟩⟩
      refine c_whole hq (by omega) hs e98 (fun _ => ⟨fun _ => ?_, fun d => absurd d np1⟩) (fun d => absurd g1 d)
      refine c_canLot hC hw hq (by omega) hs g1 (fun _ => ⟨fun _ => ?_, fun d => absurd d np1⟩) (fun d => absurd g2 d)
      rw [nI_1]
      exact ih μ rfl
    · intro m hm
      rw [hm]
      apply hS58
      unfold nX6_read_58 nX6_read_120 nX6_read_126
      by_cases c : w = n
      · refine ⟨fun _ => ap 0 (fun z => absurd z (by omega)) (fun _ => rfl) (fun z => absurd z (by omega)), fun d => absurd (nI_le (by omega) (by omega)) d⟩
      · refine ⟨fun d => absurd d (nI_ge (by omega) (by omega)), fun _ => ⟨fun d => absurd rfl d, fun _ => ?_⟩⟩
        refine c_whole hq (by omega) hs e98 (fun g => ⟨fun _ => ?_, fun d => absurd d np1⟩) (fun g => ⟨fun d => absurd rfl d, fun _ => ?_⟩)
        · obtain ⟨b1, b2⟩ := bad (by omega) g
          exact c_canLot hC hw hq (by omega) hs g (fun z => absurd z b1) (fun _ => ⟨fun d => absurd rfl d, fun _ => b2⟩)
        · apply hS58
          unfold nX6_read_58 nX6_read_126
          have := ap 2 (fun _ => g) (fun z => absurd z c) (fun _ => rfl)
          exact ⟨fun _ => this, fun _ => ⟨fun _ => this, fun d => absurd d (by decide)⟩⟩
  exact lp 0 μ (by omega) rfl
