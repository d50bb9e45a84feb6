def ftb (p : Int64) (s : Nat) : Nat := (p.toBitVec >>> s).toNat % 256
theorem ftb_lt (p : Int64) (s : Nat) : ftb p s < 256 := Nat.mod_lt _ (by decide)
theorem ftb_bit (p : Int64) (s i : Nat) : (ftb p s).testBit i = (decide (i < 8) && p.toBitVec.getLsbD (s + i)) := by
  unfold ftb
  rw [show (256 : Nat) = 2 ^ 8 by decide, Nat.testBit_mod_two_pow]
  show (decide (i < 8) && (p.toBitVec >>> s).getLsbD i) = _
  rw [BitVec.getLsbD_ushiftRight]
theorem rfb (p a : Int64) (s : Nat) (hs : s ≤ 56) (ha : (a.toBitVec.smod 64).toNat = s) : ((p >>> a) &&& (255 : Int64)).toInt32 = nI (ftb p s) := by
  apply Int32.toBitVec_inj.1
  show ((p.toBitVec.sshiftRight (a.toBitVec.smod 64).toNat) &&& 255#64).signExtend 32 = BitVec.ofNat 32 (ftb p s)
  rw [ha]
  apply BitVec.eq_of_getLsbD_eq
  intro i hi
  rw [BitVec.getLsbD_ofNat, ftb_bit, BitVec.getLsbD_signExtend, BitVec.getLsbD_and, BitVec.getLsbD_sshiftRight]
  have h255 : (255#64).getLsbD i = decide (i < 8) := by
    rw [show (255#64).getLsbD i = (2 ^ 8 - 1 : Nat).testBit i from rfl, Nat.testBit_two_pow_sub_one]
  rw [h255]
  by_cases c : i < 8
  · simp [c, hi, show s + i < 64 by omega, show ¬ 64 ≤ i by omega, show i < 64 by omega]
  · simp [c, hi, show i < 64 by omega]
theorem cfb (p : Int64) (a : UInt64) (s : Nat) (hs : s ≤ 56) (ha : (a.toBitVec % 64).toNat = s) : vp_nar .byte (((p.toUInt64 >>> a).toInt64.toInt32).toInt8.toInt32) = sg (ftb p s) := by
  have e : ((p.toUInt64 >>> a).toInt64.toInt32).toInt8 = (nI (ftb p s)).toInt8 := by
    apply Int8.toBitVec_inj.1
    show (((p.toBitVec >>> (a.toBitVec % 64).toNat)).signExtend 32).signExtend 8 = (BitVec.ofNat 32 (ftb p s)).signExtend 8
    rw [ha]
    apply BitVec.eq_of_getLsbD_eq
    intro i hi
    rw [BitVec.getLsbD_signExtend, BitVec.getLsbD_signExtend, BitVec.getLsbD_signExtend, BitVec.getLsbD_ofNat, ftb_bit, BitVec.getLsbD_ushiftRight]
    simp [hi, show i < 32 by omega, show i < 64 by omega]
  unfold sg
  rw [e]
  show ((nI (ftb p s)).toInt8.toInt32).toInt8.toInt32 = _
  rw [Int8.toInt8_toInt32]
def fdv (n : Nat) : Int32 := Int32.ofInt (8 * (n : Int) - 8)
theorem fdv_s : ∀ n : Nat, n < 8 → ¬ fdv (n + 1) < 0 ∧ fdv (n + 1) + (-8) = fdv n ∧ ((((fdv (n + 1)).toInt64 &&& 63).toBitVec.smod 64).toNat = 8 * n ∧ (((fdv (n + 1)).toInt64.toUInt64 &&& Int64.toUInt64 63).toBitVec % 64).toNat = 8 * n) := by decide
theorem c_feedL {p1 : Int64} {Q : Int32 → Mem → Prop} {S : Int32 → Mem → Prop} {μ : Mem} {tl : Nat} (hS : ∀ (v3 : Int32) (μ : Mem), nX6_feed_19 0 p1 Q S v3 μ → S v3 μ) (ht : tl ≤ 392)
    (fin : ∀ m : Mem, m.1 25 1 = nI (tl + 8) → (∀ a j : Nat, a ≠ 26 → (a = 25 → j ≠ 1) → m.1 a j = μ.1 a j) → (∀ j : Nat, m.1 26 j = if tl ≤ j ∧ j < tl + 8 then sg (ftb p1 (56 - 8 * (j - tl))) else μ.1 26 j) → Q (nI (tl + 8)) m) :
    ∀ n : Nat, n ≤ 8 → ∀ m : Mem, m.1 25 1 = nI (tl + (8 - n)) → (∀ a j : Nat, a ≠ 26 → (a = 25 → j ≠ 1) → m.1 a j = μ.1 a j) → (∀ j : Nat, m.1 26 j = if tl ≤ j ∧ j < tl + (8 - n) then sg (ftb p1 (56 - 8 * (j - tl))) else μ.1 26 j) → S (fdv n) m := by
  intro n
  induction n with
  | zero =>
    intro _ m f1 f2 f3
    apply hS
    unfold nX6_feed_19
    refine ⟨fun _ => ?_, fun d => absurd (by decide) d⟩
    show Q (m.1 25 1) m
    rw [f1]
    exact fin m f1 f2 f3
  | succ n ih =>
    intro hn m f1 f2 f3
    obtain ⟨e1, e2, e3, e4⟩ := fdv_s n (by omega)
    apply hS
    unfold nX6_feed_19
    refine ⟨fun d => absurd d e1, fun _ => ?_⟩
    have f1' : m.1 (0 + 25) 1 = nI (tl + (8 - (n + 1))) := f1
    rw [f1', nI_clamp (n := tl + (8 - (n + 1))) (by omega), cfb p1 _ (8 * n) (by omega) e4, e2]
    refine ⟨vp_in_nI (by omega) (by omega), fun m3 hm3 => ?_⟩
    have g3 : m3.1 (0 + 25) 1 = nI (tl + (8 - (n + 1))) := by rw [hm3, ms_1, if_neg (by decide)]; exact f1
    rw [g3, nI_1, show tl + (8 - (n + 1)) + 1 = tl + (8 - n) by omega]
    refine ih (by omega) _ ?_ (fun a j q1 q2 => ?_) (fun j => ?_)
    · rw [ms_1, if_pos rfl, if_pos rfl]
    · rw [ms_1]
      by_cases c : a = 0 + 25
      · rw [if_pos c, if_neg (q2 (by omega)), hm3, ms_1, if_neg (by omega)]; exact f2 a j q1 q2
      · rw [if_neg c, hm3, ms_1, if_neg (by omega)]; exact f2 a j q1 q2
    · rw [ms_1, if_neg (by decide), hm3]
      show (ms m 26 (tl + (8 - (n + 1))) (sg (ftb p1 (8 * n)))).1 26 j = _
      rw [ms_1, if_pos rfl, f3 j]
      by_cases c : j = tl + (8 - (n + 1))
      · rw [if_pos c, if_pos (show tl ≤ j ∧ j < tl + (8 - n) by omega), show 56 - 8 * (j - tl) = 8 * n by omega]
      · rw [if_neg c]
        by_cases c2 : tl ≤ j ∧ j < tl + (8 - (n + 1))
        · rw [if_pos c2, if_pos (show tl ≤ j ∧ j < tl + (8 - n) by omega)]
        · rw [if_neg c2, if_neg (show ¬ (tl ≤ j ∧ j < tl + (8 - n)) by omega)]
theorem r_feedL {p1 : Int64} {Q : Int32 → Mem → Prop} {S : Int32 → Mem → Prop} {μ : Mem} {tl : Nat} (hS : ∀ (v3 : Int32) (μ : Mem), nX7_feed_19 100 p1 Q S v3 μ → S v3 μ) (ht : tl ≤ 392)
    (fin : ∀ m : Mem, m.1 100 26 = nI (tl + 8) → (∀ a j : Nat, a ≠ 113 → (a = 100 → j ≠ 26) → m.1 a j = μ.1 a j) → (∀ j : Nat, m.1 113 j = if tl ≤ j ∧ j < tl + 8 then nI (ftb p1 (56 - 8 * (j - tl))) else μ.1 113 j) → Q (nI (tl + 8)) m) :
    ∀ n : Nat, n ≤ 8 → ∀ m : Mem, m.1 100 26 = nI (tl + (8 - n)) → (∀ a j : Nat, a ≠ 113 → (a = 100 → j ≠ 26) → m.1 a j = μ.1 a j) → (∀ j : Nat, m.1 113 j = if tl ≤ j ∧ j < tl + (8 - n) then nI (ftb p1 (56 - 8 * (j - tl))) else μ.1 113 j) → S (fdv n) m := by
  intro n
  induction n with
  | zero =>
    intro _ m f1 f2 f3
    apply hS
    unfold nX7_feed_19
    refine ⟨fun _ => ?_, fun d => absurd (by decide) d⟩
    rw [f1]
    exact fin m f1 f2 f3
  | succ n ih =>
    intro hn m f1 f2 f3
    obtain ⟨e1, e2, e3, e4⟩ := fdv_s n (by omega)
    apply hS
    unfold nX7_feed_19
    refine ⟨fun d => absurd d e1, fun _ => ?_⟩
    rw [f1, nI_clamp (n := tl + (8 - (n + 1))) (by omega), rfb p1 _ (8 * n) (by omega) e3, e2]
    refine ⟨vp_in_nI (by omega) (by omega), fun m3 hm3 => ?_⟩
    have g3 : m3.1 100 26 = nI (tl + (8 - (n + 1))) := by rw [hm3, ms_1, if_neg (by decide)]; exact f1
    rw [g3, nI_1, show tl + (8 - (n + 1)) + 1 = tl + (8 - n) by omega]
    refine ih (by omega) _ ?_ (fun a j q1 q2 => ?_) (fun j => ?_)
    · rw [ms_1, if_pos rfl, if_pos rfl]
    · rw [ms_1]
      by_cases c : a = 100
      · rw [if_pos c, if_neg (q2 (by omega)), hm3, ms_1, if_neg (by omega)]; exact f2 a j q1 q2
      · rw [if_neg c, hm3, ms_1, if_neg (by omega)]; exact f2 a j q1 q2
    · rw [ms_1, if_neg (by decide), hm3]
      show (ms m 113 (tl + (8 - (n + 1))) (nI (ftb p1 (8 * n)))).1 113 j = _
      rw [ms_1, if_pos rfl, f3 j]
      by_cases c : j = tl + (8 - (n + 1))
      · rw [if_pos c, if_pos (show tl ≤ j ∧ j < tl + (8 - n) by omega), show 56 - 8 * (j - tl) = 8 * n by omega]
      · rw [if_neg c]
        by_cases c2 : tl ≤ j ∧ j < tl + (8 - (n + 1))
        · rw [if_pos c2, if_pos (show tl ≤ j ∧ j < tl + (8 - n) by omega)]
        · rw [if_neg c2, if_neg (show ¬ (tl ≤ j ∧ j < tl + (8 - n)) by omega)]
theorem st_feed : St_feed Inv := by
  intro k μ p1 hk hI
  obtain ⟨ρ, κ, im, g, R, rl, tl, tp, ln, sz, h1, h2, h3, h4, ⟨t1, t2, t3, t4⟩, h6, h7⟩ := id hI
  unfold PX6_feed
  intro S hS
  have t1' : μ.1 (0 + 25) 1 = nI tl := t1
  rw [t1']
  by_cases c : tl ≤ 392
  · refine ⟨fun _ => ?_, fun d => absurd (nI_le (b := 392) (by omega) (by omega)) d⟩
    refine c_feedL hS c (fun m b1 b2 b3 => ?_) 8 (by omega) μ t1 (fun _ _ _ _ => rfl) (fun j => by rw [if_neg (by omega)])
    intro S2 hS2
    have u2 : m.1 100 26 = nI tl := by rw [b2 100 26 (by decide) (by decide)]; exact t2
    rw [u2, show (8 : Int32) = nI 8 from rfl, nI_add]
    refine ⟨fun _ => ?_, fun d => absurd (nI_le (b := 400) (by omega) (by omega)) d⟩
    refine r_feedL hS2 c (fun m2 c1 c2 c3 => ?_) 8 (by omega) m u2 (fun _ _ _ _ => rfl) (fun j => by rw [if_neg (by omega)])
    have ff : ∀ a j : Nat, a ≠ 26 → a ≠ 113 → (a = 25 → j ≠ 1) → (a = 100 → j ≠ 26) → m2.1 a j = μ.1 a j := fun a j q1 q2 q3 q4 => by rw [c2 a j q2 q4, b2 a j q1 q3]
    refine ⟨rfl, ρ, κ, im, g, R, rl, tl + 8, fun i => if tl ≤ i ∧ i < tl + 8 then ftb p1 (56 - 8 * (i - tl)) else tp i, ln, sz, IRules_fr h1 (fun a j q => ff a j (by omega) (by omega) (by omega) (by omega)), IKit_fr h2 (fun a j q => ff a j (by omega) (by omega) (by omega) (by omega)), IImg_fr h3 (fun a j q => ff a j (by omega) (by omega) (by omega) (by omega)), IRow_fr h4 (fun a j q => ff a j (by omega) (by omega) (by omega) (by omega)), ⟨?_, c1, by omega, fun i hi => ?_⟩, ISheet_fr h6 (fun a j q => ff a j (by omega) (by omega) (by omega) (by omega)), IFlt_fr h7 (fun a j q => ff a j (by omega) (by omega) (by omega) (by omega))⟩
    · rw [c2 25 1 (by decide) (by decide)]; exact b1
    · rw [c3, c2 26 i (by decide) (fun h => absurd h (by decide)), b3, b2 113 i (by decide) (fun h => absurd h (by decide))]
      show (if tl ≤ i ∧ i < tl + 8 then ftb p1 (56 - 8 * (i - tl)) else tp i) < 256 ∧ _ = nI (if tl ≤ i ∧ i < tl + 8 then ftb p1 (56 - 8 * (i - tl)) else tp i) ∧ _ = sg (if tl ≤ i ∧ i < tl + 8 then ftb p1 (56 - 8 * (i - tl)) else tp i)
      by_cases z : tl ≤ i ∧ i < tl + 8
      · rw [if_pos z, if_pos z, if_pos z]
        exact ⟨ftb_lt _ _, rfl, rfl⟩
      · rw [if_neg z, if_neg z, if_neg z]
        exact t4 i (by omega)
  · refine ⟨fun d => absurd d (fun e => absurd ((i_le (k := 392) (by omega)).1 e) (by rw [nI_toInt (by omega)]; omega)), fun _ => ?_⟩
    intro S2 hS2
    rw [t2, show (8 : Int32) = nI 8 from rfl, nI_add]
    exact ⟨fun e => absurd ((i_le (k := 400) (by omega)).1 e) (by rw [nI_toInt (by omega)]; omega), fun _ => ⟨rfl, Inv_s hI⟩⟩
