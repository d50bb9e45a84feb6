theorem isI_tr {Y Y' : YT} {j a n : Nat} (h : isI Y a n) (K : Keep Y Y' j) (ne : a ≠ j) : isI Y' a n := by
  refine ⟨Nat.lt_of_lt_of_le h.1 K.2.1, ?_⟩
  rw [K.2.2.2 a h.1 ne, h.2]
  show sI Y.2.1.1 n = sI Y'.2.1.1 n
  rw [K.1.2.1]
theorem isI_new {Y Y' : YT} {j a n : Nat} (h : Y'.sh a = sI Y.cI n) (K : Keep Y Y' j) (hN : Y'.N = a + 1) : isI Y' a n := by
  refine ⟨by omega, ?_⟩
  rw [h]
  show sI Y.2.1.1 n = sI Y'.2.1.1 n
  rw [K.1.2.1]
theorem isB_tr {Y Y' : YT} {j a n : Nat} (h : isB Y a n) (K : Keep Y Y' j) (ne : a ≠ j) : isB Y' a n := by
  refine ⟨Nat.lt_of_lt_of_le h.1 K.2.1, ?_⟩
  rw [K.2.2.2 a h.1 ne, h.2]
  show sI Y.2.1.2.1 n = sI Y'.2.1.2.1 n
  rw [K.1.2.1]
theorem isB_new {Y Y' : YT} {j a n : Nat} (h : Y'.sh a = sI Y.cB n) (K : Keep Y Y' j) (hN : Y'.N = a + 1) : isB Y' a n := by
  refine ⟨by omega, ?_⟩
  rw [h]
  show sI Y.2.1.2.1 n = sI Y'.2.1.2.1 n
  rw [K.1.2.1]
theorem isZ_tr {Y Y' : YT} {j a n : Nat} (h : isZ Y a n) (K : Keep Y Y' j) (ne : a ≠ j) : isZ Y' a n := by
  refine ⟨Nat.lt_of_lt_of_le h.1 K.2.1, ?_⟩
  rw [K.2.2.2 a h.1 ne, h.2]
  show sI Y.2.1.2.2.1 n = sI Y'.2.1.2.2.1 n
  rw [K.1.2.1]
theorem isZ_new {Y Y' : YT} {j a n : Nat} (h : Y'.sh a = sI Y.cZ n) (K : Keep Y Y' j) (hN : Y'.N = a + 1) : isZ Y' a n := by
  refine ⟨by omega, ?_⟩
  rw [h]
  show sI Y.2.1.2.2.1 n = sI Y'.2.1.2.2.1 n
  rw [K.1.2.1]
theorem isX0_tr {Y Y' : YT} {j b : Nat} (h : isX0 Y b) (K : Keep Y Y' j) (ne : j < b ∨ b + 4 ≤ j) : isX0 Y' b :=
  ⟨Nat.lt_of_lt_of_le (isX0_lt h) K.2.1, by rw [K.2.2.2 b (isX0_lt h) (by omega), isX0_sh h]; unfold sX0; rw [K.2.2.1 (b + 1) (isX0_units h).1, K.2.2.1 (b + 2) (isX0_eatenLast h).1, K.2.2.1 (b + 3) (isX0_taken h).1], isI_tr (isX0_units h) K (by omega), isI_tr (isX0_eatenLast h) K (by omega), isI_tr (isX0_taken h) K (by omega)⟩
theorem isX2_tr {Y Y' : YT} {j b : Nat} (h : isX2 Y b) (K : Keep Y Y' j) (ne : j < b ∨ b + 12 ≤ j) : isX2 Y' b :=
  ⟨Nat.lt_of_lt_of_le (isX2_lt h) K.2.1, by rw [K.2.2.2 b (isX2_lt h) (by omega), isX2_sh h]; unfold sX2; rw [K.2.2.1 (b + 1) (isX2_keeps h).1, K.2.2.1 (b + 2) (isX2_pack h).1, K.2.2.1 (b + 3) (isX2_price h).1, K.2.2.1 (b + 4) (isX2_kind h).1, K.2.2.1 (b + 5) (isX2_likes h).1, K.2.2.1 (b + 6) (isX2_wont h).1, K.2.2.1 (b + 7) (isX2_soupUnits h).1, K.2.2.1 (b + 8) (isX2_soupThings h).1, K.2.2.1 (b + 9) (isX2_wants h).1, K.2.2.1 (b + 10) (isX2_leaves h).1, K.2.2.1 (b + 11) (isX2_chances h).1], isI_tr (isX2_keeps h) K (by omega), isI_tr (isX2_pack h) K (by omega), isI_tr (isX2_price h) K (by omega), isI_tr (isX2_kind h) K (by omega), isI_tr (isX2_likes h) K (by omega), isI_tr (isX2_wont h) K (by omega), isI_tr (isX2_soupUnits h) K (by omega), isI_tr (isX2_soupThings h) K (by omega), isI_tr (isX2_wants h) K (by omega), isI_tr (isX2_leaves h) K (by omega), isI_tr (isX2_chances h) K (by omega)⟩
theorem isX1_tr {Y Y' : YT} {j b : Nat} (h : isX1 Y b) (K : Keep Y Y' j) (ne : j < b ∨ b + 15 ≤ j) : isX1 Y' b :=
  ⟨Nat.lt_of_lt_of_le (isX1_lt h) K.2.1, by rw [K.2.2.2 b (isX1_lt h) (by omega), isX1_sh h]; unfold sX1; rw [K.2.2.1 (b + 1) (isX1_tape h).1, K.2.2.1 (b + 2) (isX2_lt (isX1_told h)), K.2.2.1 (b + 14) (isX1_firstUse h).1], isB_tr (isX1_tape h) K (by omega), isX2_tr (isX1_told h) K (by omega), isI_tr (isX1_firstUse h) K (by omega)⟩
theorem isX5_tr {Y Y' : YT} {j b : Nat} (h : isX5 Y b) (K : Keep Y Y' j) (ne : j < b ∨ b + 5 ≤ j) : isX5 Y' b :=
  ⟨Nat.lt_of_lt_of_le (isX5_lt h) K.2.1, by rw [K.2.2.2 b (isX5_lt h) (by omega), isX5_sh h]; unfold sX5; rw [K.2.2.1 (b + 1) (isX0_lt (isX5_behind h))], isX0_tr (isX5_behind h) K (by omega)⟩
theorem isX3_tr {Y Y' : YT} {j b : Nat} (h : isX3 Y b) (K : Keep Y Y' j) (ne : j < b ∨ b + 36 ≤ j) : isX3 Y' b :=
  ⟨Nat.lt_of_lt_of_le (isX3_lt h) K.2.1, by rw [K.2.2.2 b (isX3_lt h) (by omega), isX3_sh h]; unfold sX3; rw [K.2.2.1 (b + 1) (isX3_steps h).1, K.2.2.1 (b + 26) (isX3_places h).1, K.2.2.1 (b + 27) (isX5_lt (isX3_walk h)), K.2.2.1 (b + 32) (isX3_bestRow h).1, K.2.2.1 (b + 33) (isX3_fairestRow h).1, K.2.2.1 (b + 34) (isX3_surestRow h).1, K.2.2.1 (b + 35) (isX3_closingRow h).1], ⟨Nat.lt_of_lt_of_le (isX3_steps h).1 K.2.1, by
    obtain ⟨f, h1, h2⟩ := (isX3_steps h).2.1
    refine ⟨f, ?_, fun i hi => ?_⟩
    · rw [K.2.2.2 _ (isX3_steps h).1 (by omega), h1]
      show sO Y.2.1.2.2.2 _ f = sO Y'.2.1.2.2.2 _ f
      rw [K.1.2.1]
    · rw [h2 i hi, K.2.2.1 _ (isX0_lt ((isX3_steps h).2.2 i hi))], fun i hi => isX0_tr ((isX3_steps h).2.2 i hi) K (by omega)⟩, isI_tr (isX3_places h) K (by omega), isX5_tr (isX3_walk h) K (by omega), isI_tr (isX3_bestRow h) K (by omega), isI_tr (isX3_fairestRow h) K (by omega), isI_tr (isX3_surestRow h) K (by omega), isI_tr (isX3_closingRow h) K (by omega)⟩
theorem isX4_tr {Y Y' : YT} {j b : Nat} (h : isX4 Y b) (K : Keep Y Y' j) (ne : j < b ∨ b + 4 ≤ j) : isX4 Y' b :=
  ⟨Nat.lt_of_lt_of_le (isX4_lt h) K.2.1, by rw [K.2.2.2 b (isX4_lt h) (by omega), isX4_sh h]; unfold sX4; rw [K.2.2.1 (b + 1) (isX4_laneOf h).1, K.2.2.1 (b + 2) (isX4_cellCount h).1, K.2.2.1 (b + 3) (isX4_cells h).1], isI_tr (isX4_laneOf h) K (by omega), isI_tr (isX4_cellCount h) K (by omega), isI_tr (isX4_cells h) K (by omega)⟩
theorem isX6_tr {Y Y' : YT} {j b : Nat} (h : isX6 Y b) (K : Keep Y Y' j) (ne : j < b ∨ b + 100 ≤ j) : isX6 Y' b :=
  ⟨Nat.lt_of_lt_of_le (isX6_lt h) K.2.1, by rw [K.2.2.2 b (isX6_lt h) (by omega), isX6_sh h]; unfold sX6; rw [K.2.2.1 (b + 1) (isX2_lt (isX6_rules h)), K.2.2.1 (b + 13) (isX2_lt (isX6_otherRules h)), K.2.2.1 (b + 25) (isX1_lt (isX6_reader h)), K.2.2.1 (b + 40) (isX0_lt (isX6_kitchen h)), K.2.2.1 (b + 44) (isX6_images h).1, K.2.2.1 (b + 53) (isX6_imageKept h).1, K.2.2.1 (b + 54) (isX6_rowByHand h).1, K.2.2.1 (b + 55) (isX5_lt (isX6_walk h)), K.2.2.1 (b + 60) (isX3_lt (isX6_search h)), K.2.2.1 (b + 96) (isX4_lt (isX6_sheets h))], isX2_tr (isX6_rules h) K (by omega), isX2_tr (isX6_otherRules h) K (by omega), isX1_tr (isX6_reader h) K (by omega), isX0_tr (isX6_kitchen h) K (by omega), ⟨Nat.lt_of_lt_of_le (isX6_images h).1 K.2.1, by
    obtain ⟨f, h1, h2⟩ := (isX6_images h).2.1
    refine ⟨f, ?_, fun i hi => ?_⟩
    · rw [K.2.2.2 _ (isX6_images h).1 (by omega), h1]
      show sO Y.2.1.2.2.2 _ f = sO Y'.2.1.2.2.2 _ f
      rw [K.1.2.1]
    · rw [h2 i hi, K.2.2.1 _ (isX0_lt ((isX6_images h).2.2 i hi))], fun i hi => isX0_tr ((isX6_images h).2.2 i hi) K (by omega)⟩, isZ_tr (isX6_imageKept h) K (by omega), isI_tr (isX6_rowByHand h) K (by omega), isX5_tr (isX6_walk h) K (by omega), isX3_tr (isX6_search h) K (by omega), isX4_tr (isX6_sheets h) K (by omega)⟩
theorem isX7_tr {Y Y' : YT} {j b : Nat} (h : isX7 Y b) (K : Keep Y Y' j) (ne : j < b ∨ b + 25 ≤ j) : isX7 Y' b :=
  ⟨Nat.lt_of_lt_of_le (isX7_lt h) K.2.1, by rw [K.2.2.2 b (isX7_lt h) (by omega), isX7_sh h]; unfold sX7; rw [K.2.2.1 (b + 1) (isX7_thing h).1, K.2.2.1 (b + 2) (isX7_supper h).1, K.2.2.1 (b + 3) (isX7_wants h).1, K.2.2.1 (b + 4) (isX7_leaves h).1, K.2.2.1 (b + 5) (isX7_chance h).1, K.2.2.1 (b + 6) (isX7_dThing h).1, K.2.2.1 (b + 7) (isX7_dSupper h).1, K.2.2.1 (b + 8) (isX7_dWants h).1, K.2.2.1 (b + 9) (isX7_dLeaves h).1, K.2.2.1 (b + 10) (isX7_dChance h).1, K.2.2.1 (b + 11) (isX7_usedThing h).1, K.2.2.1 (b + 12) (isX7_usedAt h).1, K.2.2.1 (b + 13) (isX7_tape h).1, K.2.2.1 (b + 14) (isX7_st h).1, K.2.2.1 (b + 15) (isX7_isKept h).1, K.2.2.1 (b + 16) (isX7_taken h).1, K.2.2.1 (b + 17) (isX7_bought h).1, K.2.2.1 (b + 18) (isX7_row h).1, K.2.2.1 (b + 19) (isX7_pick h).1, K.2.2.1 (b + 20) (isX7_bestPick h).1, K.2.2.1 (b + 21) (isX7_keptRow h).1, K.2.2.1 (b + 22) (isX7_lanes h).1, K.2.2.1 (b + 23) (isX7_sizes h).1, K.2.2.1 (b + 24) (isX7_cells h).1], isI_tr (isX7_thing h) K (by omega), isI_tr (isX7_supper h) K (by omega), isI_tr (isX7_wants h) K (by omega), isI_tr (isX7_leaves h) K (by omega), isI_tr (isX7_chance h) K (by omega), isI_tr (isX7_dThing h) K (by omega), isI_tr (isX7_dSupper h) K (by omega), isI_tr (isX7_dWants h) K (by omega), isI_tr (isX7_dLeaves h) K (by omega), isI_tr (isX7_dChance h) K (by omega), isI_tr (isX7_usedThing h) K (by omega), isI_tr (isX7_usedAt h) K (by omega), isI_tr (isX7_tape h) K (by omega), isI_tr (isX7_st h) K (by omega), isZ_tr (isX7_isKept h) K (by omega), isI_tr (isX7_taken h) K (by omega), isI_tr (isX7_bought h) K (by omega), isI_tr (isX7_row h) K (by omega), isI_tr (isX7_pick h) K (by omega), isI_tr (isX7_bestPick h) K (by omega), isI_tr (isX7_keptRow h) K (by omega), isI_tr (isX7_lanes h) K (by omega), isI_tr (isX7_sizes h) K (by omega), isI_tr (isX7_cells h) K (by omega)⟩
theorem keep_rf {Y : YT} {b : Nat} : Keep Y Y b := ⟨⟨rfl, rfl, rfl, rfl⟩, Nat.le_refl _, fun _ _ => rfl, fun _ _ _ => rfl⟩
theorem keep_tr {Y Y1 Y2 : YT} {b j : Nat} (K1 : Keep Y Y1 b) (K2 : Keep Y1 Y2 j) (hj : j = b ∨ Y.N ≤ j) : Keep Y Y2 b := by
  obtain ⟨⟨a1, a2, a3, a4⟩, a5, a6, a7⟩ := K1
  obtain ⟨⟨b1, b2, b3, b4⟩, b5, b6, b7⟩ := K2
  refine ⟨⟨b1.trans a1, b2.trans a2, b3.trans a3, b4.trans a4⟩, Nat.le_trans a5 b5, fun i hi => (b6 i (by omega)).trans (a6 i hi), fun i hi h => (b7 i (by omega) (by omega)).trans (a7 i hi h)⟩
def fX0 : Row → va_E := rt (fun c => [.null, .null, .int (c.1 2), .int (c.1 3), .int (c.1 4), .int (c.1 5), .int (c.1 6), .null]) 0
def fX2 : Row → va_E := rt (fun c => [.int (c.1 0), .null, .null, .null, .int (c.1 4), .null, .null, .null, .null, .null, .null, .null, .int (c.1 12), .int (c.1 13), .int (c.1 14), .null]) 2
def fX1 : Row → va_E := rt (fun c => [.null, .int (c.1 1), .null, .int (c.1 3), .int (c.1 4), .int (c.1 5), .int (c.1 6), .int (c.1 7), .int (c.1 8), .int (c.1 9), .int (c.1 10), .null]) 1
def fX5 : Row → va_E := rt (fun c => [.null, .int (c.1 1)]) 5
def fX3 : Row → va_E := rt (fun c => [.null, .null, .null, .int (c.1 3), .long (c.2 4), .int (c.1 5), .int (c.1 6), .int (c.1 7), .int (c.1 8), .null, .long (c.2 10), .int (c.1 11), .null, .int (c.1 13), .null, .int (c.1 15), .int (c.1 16), .null]) 3
def fX4 : Row → va_E := rt (fun c => [.null, .null, .null]) 4
def fX6 : Row → va_E := rt (fun c => [.null, .null, .null, .int (c.1 3), .null, .null, .null, .null, .int (c.1 8), .null, .null, .null, .int (c.1 12)]) 6
def fX7 : Row → va_E := rt (fun c => [.int (c.1 0), .null, .int (c.1 2), .null, .null, .null, .int (c.1 6), .int (c.1 7), .int (c.1 8), .null, .int (c.1 10), .null, .int (c.1 12), .null, .null, .null, .int (c.1 16), .int (c.1 17), .int (c.1 18), .null, .int (c.1 20), .int (c.1 21), .int (c.1 22), .null, .null, .null, .int (c.1 26), .int (c.1 27), .int (c.1 28), .int (c.1 29), .int (c.1 30), .int (c.1 31), .int (c.1 32), .null, .null, .null, .null, .int (c.1 37), .null, .int (c.1 39), .null, .int (c.1 41), .null, .int (c.1 43), .int (c.1 44), .int (c.1 45), .int (c.1 46), .int (c.1 47), .int (c.1 48), .null, .int (c.1 50), .int (c.1 51), .null, .null, .null, .int (c.1 55)]) 7
def PSX0_init (b : Nat) (μ : Mem) (Q : Mem → Prop) : Prop := (PX0_reset b μ (fun (m1 : Mem) => Q m1))
def PX0_init (b : Nat) (μ : Mem) (Q : Mem → Prop) : Prop := PSX0_init b (mz (mz (mz μ (b + 1)) (b + 2)) (b + 3)) Q
def PSX2_init (b : Nat) (μ : Mem) (Q : Mem → Prop) : Prop := (PX2_reset b μ (fun (m1 : Mem) => Q m1))
def PX2_init (b : Nat) (μ : Mem) (Q : Mem → Prop) : Prop := PSX2_init b (mz (mz (mz (mz (mz (mz (mz (mz (mz (mz (mz μ (b + 1)) (b + 2)) (b + 3)) (b + 4)) (b + 5)) (b + 6)) (b + 7)) (b + 8)) (b + 9)) (b + 10)) (b + 11)) Q
def nX4_init_29 (b : Nat) (Q : Mem → Prop) (S29 : Int32 → Mem → Prop) (v1 : Int32) (μ : Mem) : Prop := (((4 : Int32)) ≤ v1 → Q μ) ∧ (¬ ((4 : Int32)) ≤ v1 → vp_in v1 4 ∧ (S29 (v1 + 1) (ms μ (b + 1) v1.toNatClampNeg ((-4 : Int32)))))
def PSX4_init (b : Nat) (μ : Mem) (Q : Mem → Prop) : Prop := ∀ (S29 : Int32 → Mem → Prop), (∀ (v1 : Int32) (μ : Mem), nX4_init_29 b Q S29 v1 μ → S29 v1 μ) → (S29 ((0 : Int32)) μ)
def PX4_init (b : Nat) (μ : Mem) (Q : Mem → Prop) : Prop := PSX4_init b (mz (mz (mz μ (b + 1)) (b + 2)) (b + 3)) Q
def PSX1_init (b : Nat) (μ : Mem) (Q : Mem → Prop) : Prop := (Q μ)
def PX1_init (b : Nat) (μ : Mem) (Q : Mem → Prop) : Prop := PX2_init (b + 2) (mz (mz μ (b + 1)) (b + 2)) (fun (m35 : Mem) => PSX1_init b (mz (m35) (b + 14)) Q)
def PSX5_init (b : Nat) (μ : Mem) (Q : Mem → Prop) : Prop := (Q μ)
def PX5_init (b : Nat) (μ : Mem) (Q : Mem → Prop) : Prop := PX0_init (b + 1) (mz μ (b + 1)) (fun (m12 : Mem) => PSX5_init b m12 Q)
def PSX3_init (b : Nat) (μ : Mem) (Q : Mem → Prop) : Prop := (Q μ)
def PX3_init (b : Nat) (μ : Mem) (Q : Mem → Prop) : Prop := PX0_init (b + 2) (mz (mz μ (b + 1)) (b + 2)) (fun (m25 : Mem) => PX0_init (b + 6) (mz (m25) (b + 6)) (fun (m64 : Mem) => PX0_init (b + 10) (mz (m64) (b + 10)) (fun (m109 : Mem) => PX0_init (b + 14) (mz (m109) (b + 14)) (fun (m160 : Mem) => PX0_init (b + 18) (mz (m160) (b + 18)) (fun (m217 : Mem) => PX0_init (b + 22) (mz (m217) (b + 22)) (fun (m280 : Mem) => PX5_init (b + 27) (mz (mz (m280) (b + 26)) (b + 27)) (fun (m421 : Mem) => PSX3_init b (mz (mz (mz (mz (m421) (b + 32)) (b + 33)) (b + 34)) (b + 35)) Q)))))))
def PSX6_init (b : Nat) (μ : Mem) (Q : Mem → Prop) : Prop := (Q (ms μ b 12 ((0 : Int32))))
def PX6_init (b : Nat) (μ : Mem) (Q : Mem → Prop) : Prop := PX2_init (b + 1) (mz μ (b + 1)) (fun (m12 : Mem) => PX2_init (b + 13) (mz (m12) (b + 13)) (fun (m45 : Mem) => PX1_init (b + 25) (mz (m45) (b + 25)) (fun (m84 : Mem) => PX0_init (b + 40) (mz (ms m84 b 3 (0 : Int32)) (b + 40)) (fun (m129 : Mem) => PX0_init (b + 45) (mz (mz (m129) (b + 44)) (b + 45)) (fun (m201 : Mem) => PX0_init (b + 49) (mz (m201) (b + 49)) (fun (m264 : Mem) => PX5_init (b + 55) (mz (ms (mz (mz (m264) (b + 53)) (b + 54)) b 8 (0 : Int32)) (b + 55)) (fun (m459 : Mem) => PX3_init (b + 60) (mz (m459) (b + 60)) (fun (m546 : Mem) => PX4_init (b + 96) (mz (m546) (b + 96)) (fun (m639 : Mem) => PSX6_init b m639 Q)))))))))
def nX7_init_200 (b : Nat) (Q : Mem → Prop) (S200 : Int32 → Mem → Prop) (v1 : Int32) (μ : Mem) : Prop := (((4 : Int32)) ≤ v1 → PX7_firstDraft b μ (fun (m2 : Mem) => PX7_keepDraft b m2 (fun (m4 : Mem) => Q m4))) ∧ (¬ ((4 : Int32)) ≤ v1 → vp_in v1 4 ∧ (S200 (v1 + 1) (ms μ (b + 22) v1.toNatClampNeg ((-4 : Int32)))))
def PSX7_init (b : Nat) (μ : Mem) (Q : Mem → Prop) : Prop := ∀ (S200 : Int32 → Mem → Prop), (∀ (v1 : Int32) (μ : Mem), nX7_init_200 b Q S200 v1 μ → S200 v1 μ) → (S200 ((0 : Int32)) μ)
def PX7_init (b : Nat) (μ : Mem) (Q : Mem → Prop) : Prop := PSX7_init b (mz (mz (mz (mz (mz (mz (mz (mz (mz (mz (mz (mz (mz (mz (mz (mz (mz (mz (mz (mz (mz (mz (mz (mz μ (b + 1)) (b + 2)) (b + 3)) (b + 4)) (b + 5)) (b + 6)) (b + 7)) (b + 8)) (b + 9)) (b + 10)) (b + 11)) (b + 12)) (b + 13)) (b + 14)) (b + 15)) (b + 16)) (b + 17)) (b + 18)) (b + 19)) (b + 20)) (b + 21)) (b + 22)) (b + 23)) (b + 24)) Q
set_option maxRecDepth 20000 in
set_option maxHeartbeats 4000000 in
theorem sf_X0_init {X : XT} {Y : YT} {l0 : Launch} {b : Nat} {Q : Mem → Prop} {μ : Mem} (C : Cx X Y 1 cX0_init RX0 WX0_init (rmC 2 41 3 39) l0) (hr : RVn X Y 1 cX0_init Q) (hI : YI Y) (h0 : isX0 Y b) (h : PSX0_init b μ Q) : G X Y 1 28 [(0, .ref (Y.ad b))] [] μ := by
  unfold PSX0_init at h
  refine g_aload_n C 0 dX0_init_28 rfl ?_
  refine g_callVV C [] [] (ok_X0_reset hI h0 h) (cw_RX0_21 _) rfl dc_X0_reset ⟨Nat.le_of_ble_eq_true rfl, Nat.le_of_ble_eq_true rfl⟩ (isX0_lt h0) (isX0_sh h0) rfl rfl rfl rfl (Nat.le_of_ble_eq_true rfl) dX0_init_29 (fun m1 h => ?_)
  exact hr _ _ _ dX0_init_32 h
set_option maxRecDepth 20000 in
set_option maxHeartbeats 8000000 in
theorem ok_X0_init {Y : YT} {l0 : Launch} {b : Nat} {μ : Mem} {Q : Mem → Prop} (hI : YI Y) (hN : Y.N = b + 1) (hS : Y.sh b = fX0) (h : PX0_init b μ Q) : MC l0 yX0_init WX0_init 2 41 3 39 Y b μ (fun Y' μ' => Y'.N = b + 4 ∧ isX0 Y' b ∧ Q μ') := by
  refine mC_of (cc := cX0_init) (maxL := 1) (by decide +kernel) rfl rfl hI (by decide) (fun X C hXa hXi hr => ?_)
  replace C : Cx (xset X 0 0) Y 1 cX0_init RX0 WX0_init (rmC 2 41 3 39) l0 := C
  obtain ⟨x0, hx0⟩ : ∃ x0, Y.ad b = x0 := ⟨_, rfl⟩
  rw [hx0]
  unfold PX0_init at h
  refine g_aload_n C 0 dX0_init_0 rfl ?_
  refine g_obj C (List.mem_cons_of_mem _ mM_RX0_3) (List.mem_cons_of_mem _ mObj_i) (List.mem_cons_of_mem _ mObj_c) (by decide) (by decide) dX0_init_1 ?_
  refine g_aload_n C 0 dX0_init_4 rfl ?_
  refine g_bipush C (v := (24 : Int32)) dX0_init_5 (by decide) ?_
  refine g_newA C hXa (id := b + 1) hN .int .int rfl (List.mem_cons_of_mem _ mArr_I) Y.cI 0 rfl (fun _ _ z => z) rfl (k := 24) (by decide) (by decide) (by decide) (by decide) (by decide) dX0_init_7 (fun Y1 x2 C3 K4 n5 a6 s7 => ?_)
  have a8 := (K4.2.2.1 b (by omega)).trans hx0
  have s9 := (K4.2.2.2 b (by omega) (by omega)).trans hS
  have f10 := isI_new s7 K4 n5
  have k11 := keep_tr (keep_rf) K4 (by omega)
  refine g_putR C3 hXi (i := b) (ty := (.array .int)) (ty0 := tyX0) (k := 0) (Nc := 8) (Cn := RX0) (T := TX0) (ci := 0) (by omega) a8 s9 rfl rfl (fun w hw => List.mem_cons_of_mem _ (inX0 w hw)) tyX0_ok nmX0 (by decide) (List.mem_cons_of_mem _ mF_RX0_9) rfl rfl rfl rfl rfl rfl (by decide : 0 < 8) (rt (fun c => [.ref x2, .null, .int (c.1 2), .int (c.1 3), .int (c.1 4), .int (c.1 5), .int (c.1 6), .null]) 0) rfl dX0_init_9 (fun Y12 C13 K14 n15 a16 s17 => ?_)
  have f18 := isI_tr f10 K14 (by omega)
  have a19 := (K14.2.2.1 (b + 1) (by omega)).trans a6
  have a20 := (K14.2.2.1 b (by omega)).trans a8
  have k21 := keep_tr k11 K14 (by omega)
  have n15 : Y12.N = b + 2 := by omega
  refine g_aload_n C13 0 dX0_init_12 rfl ?_
  refine g_bipush C13 (v := (9 : Int32)) dX0_init_13 (by decide) ?_
  refine g_newA C13 hXa (id := b + 2) n15 .int .int rfl (List.mem_cons_of_mem _ mArr_I) Y12.cI 0 rfl (fun _ _ z => z) rfl (k := 9) (by decide) (by decide) (by decide) (by decide) (by decide) dX0_init_15 (fun Y22 x23 C24 K25 n26 a27 s28 => ?_)
  have f29 := isI_tr f18 K25 (by omega)
  have a30 := (K25.2.2.1 (b + 1) (by omega)).trans a19
  have a31 := (K25.2.2.1 b (by omega)).trans a16
  have s32 := (K25.2.2.2 b (by omega) (by omega)).trans s17
  have f33 := isI_new s28 K25 n26
  have k34 := keep_tr k21 K25 (by omega)
  refine g_putR C24 hXi (i := b) (ty := (.array .int)) (ty0 := tyX0) (k := 1) (Nc := 8) (Cn := RX0) (T := TX0) (ci := 0) (by omega) a31 s32 rfl rfl (fun w hw => List.mem_cons_of_mem _ (inX0 w hw)) tyX0_ok nmX0 (by decide) (List.mem_cons_of_mem _ mF_RX0_15) rfl rfl rfl rfl rfl rfl (by decide : 1 < 8) (rt (fun c => [.ref x2, .ref x23, .int (c.1 2), .int (c.1 3), .int (c.1 4), .int (c.1 5), .int (c.1 6), .null]) 0) rfl dX0_init_17 (fun Y35 C36 K37 n38 a39 s40 => ?_)
  have f41 := isI_tr f29 K37 (by omega)
  have f42 := isI_tr f33 K37 (by omega)
  have a43 := (K37.2.2.1 (b + 1) (by omega)).trans a30
  have a44 := (K37.2.2.1 (b + 2) (by omega)).trans a27
  have a45 := (K37.2.2.1 b (by omega)).trans a31
  have k46 := keep_tr k34 K37 (by omega)
  have n38 : Y35.N = b + 3 := by omega
  refine g_aload_n C36 0 dX0_init_20 rfl ?_
  refine g_bipush C36 (v := (6 : Int32)) dX0_init_21 (by decide) ?_
  refine g_newA C36 hXa (id := b + 3) n38 .int .int rfl (List.mem_cons_of_mem _ mArr_I) Y35.cI 0 rfl (fun _ _ z => z) rfl (k := 6) (by decide) (by decide) (by decide) (by decide) (by decide) dX0_init_23 (fun Y47 x48 C49 K50 n51 a52 s53 => ?_)
  have f54 := isI_tr f41 K50 (by omega)
  have f55 := isI_tr f42 K50 (by omega)
  have a56 := (K50.2.2.1 (b + 1) (by omega)).trans a43
  have a57 := (K50.2.2.1 (b + 2) (by omega)).trans a44
  have a58 := (K50.2.2.1 b (by omega)).trans a39
  have s59 := (K50.2.2.2 b (by omega) (by omega)).trans s40
  have f60 := isI_new s53 K50 n51
  have k61 := keep_tr k46 K50 (by omega)
  refine g_putR C49 hXi (i := b) (ty := (.array .int)) (ty0 := tyX0) (k := 7) (Nc := 8) (Cn := RX0) (T := TX0) (ci := 0) (by omega) a58 s59 rfl rfl (fun w hw => List.mem_cons_of_mem _ (inX0 w hw)) tyX0_ok nmX0 (by decide) (List.mem_cons_of_mem _ mF_RX0_18) rfl rfl rfl rfl rfl rfl (by decide : 7 < 8) (rt (fun c => [.ref x2, .ref x23, .int (c.1 2), .int (c.1 3), .int (c.1 4), .int (c.1 5), .int (c.1 6), .ref x48]) 0) rfl dX0_init_25 (fun Y62 C63 K64 n65 a66 s67 => ?_)
  have f68 := isI_tr f54 K64 (by omega)
  have f69 := isI_tr f55 K64 (by omega)
  have f70 := isI_tr f60 K64 (by omega)
  have a71 := (K64.2.2.1 (b + 1) (by omega)).trans a56
  have a72 := (K64.2.2.1 (b + 2) (by omega)).trans a57
  have a73 := (K64.2.2.1 (b + 3) (by omega)).trans a52
  have a74 := (K64.2.2.1 b (by omega)).trans a58
  have k75 := keep_tr k61 K64 (by omega)
  have n65 : Y62.N = b + 4 := by omega
  have f76 : isX0 Y62 b := ⟨by omega, by rw [s67]; unfold sX0; rw [a71, a72, a73], f68, f69, f70⟩
  rw [← a66]
  exact sf_X0_init C63 (fun pc lv μ' hd q => hr pc lv Y62 μ' hd C63 k75 ⟨n65, f76, q⟩) (cx_YI C63) f76 h
set_option maxRecDepth 20000 in
set_option maxHeartbeats 4000000 in
theorem sf_X2_init {X : XT} {Y : YT} {l0 : Launch} {b : Nat} {Q : Mem → Prop} {μ : Mem} (C : Cx X Y 1 cX2_init RX2 WX2_init (rmC 2 43 11 178) l0) (hr : RVn X Y 1 cX2_init Q) (hI : YI Y) (h0 : isX2 Y b) (h : PSX2_init b μ Q) : G X Y 1 92 [(0, .ref (Y.ad b))] [] μ := by
  unfold PSX2_init at h
  refine g_aload_n C 0 dX2_init_92 rfl ?_
  refine g_callVV C [] [] (ok_X2_reset hI h0 h) (cw_RX2_45 _) rfl dc_X2_reset ⟨Nat.le_of_ble_eq_true rfl, Nat.le_of_ble_eq_true rfl⟩ (isX2_lt h0) (isX2_sh h0) rfl rfl rfl rfl (Nat.le_of_ble_eq_true rfl) dX2_init_93 (fun m1 h => ?_)
  exact hr _ _ _ dX2_init_96 h
set_option maxRecDepth 20000 in
set_option maxHeartbeats 8000000 in
theorem ok_X2_init {Y : YT} {l0 : Launch} {b : Nat} {μ : Mem} {Q : Mem → Prop} (hI : YI Y) (hN : Y.N = b + 1) (hS : Y.sh b = fX2) (h : PX2_init b μ Q) : MC l0 yX2_init WX2_init 2 43 11 178 Y b μ (fun Y' μ' => Y'.N = b + 12 ∧ isX2 Y' b ∧ Q μ') := by
  refine mC_of (cc := cX2_init) (maxL := 1) (by decide +kernel) rfl rfl hI (by decide) (fun X C hXa hXi hr => ?_)
  replace C : Cx (xset X 0 0) Y 1 cX2_init RX2 WX2_init (rmC 2 43 11 178) l0 := C
  obtain ⟨x0, hx0⟩ : ∃ x0, Y.ad b = x0 := ⟨_, rfl⟩
  rw [hx0]
  unfold PX2_init at h
  refine g_aload_n C 0 dX2_init_0 rfl ?_
  refine g_obj C (List.mem_cons_of_mem _ mM_RX2_3) (List.mem_cons_of_mem _ mObj_i) (List.mem_cons_of_mem _ mObj_c) (by decide) (by decide) dX2_init_1 ?_
  refine g_aload_n C 0 dX2_init_4 rfl ?_
  refine g_bipush C (v := (6 : Int32)) dX2_init_5 (by decide) ?_
  refine g_newA C hXa (id := b + 1) hN .int .int rfl (List.mem_cons_of_mem _ mArr_I) Y.cI 0 rfl (fun _ _ z => z) rfl (k := 6) (by decide) (by decide) (by decide) (by decide) (by decide) dX2_init_7 (fun Y1 x2 C3 K4 n5 a6 s7 => ?_)
  have a8 := (K4.2.2.1 b (by omega)).trans hx0
  have s9 := (K4.2.2.2 b (by omega) (by omega)).trans hS
  have f10 := isI_new s7 K4 n5
  have k11 := keep_tr (keep_rf) K4 (by omega)
  refine g_putR C3 hXi (i := b) (ty := (.array .int)) (ty0 := tyX2) (k := 1) (Nc := 16) (Cn := RX2) (T := TX2) (ci := 2) (by omega) a8 s9 rfl rfl (fun w hw => List.mem_cons_of_mem _ (inX2 w hw)) tyX2_ok nmX2 (by decide) (List.mem_cons_of_mem _ mF_RX2_9) rfl rfl rfl rfl rfl rfl (by decide : 1 < 16) (rt (fun c => [.int (c.1 0), .ref x2, .null, .null, .int (c.1 4), .null, .null, .null, .null, .null, .null, .null, .int (c.1 12), .int (c.1 13), .int (c.1 14), .null]) 2) rfl dX2_init_9 (fun Y12 C13 K14 n15 a16 s17 => ?_)
  have f18 := isI_tr f10 K14 (by omega)
  have a19 := (K14.2.2.1 (b + 1) (by omega)).trans a6
  have a20 := (K14.2.2.1 b (by omega)).trans a8
  have k21 := keep_tr k11 K14 (by omega)
  have n15 : Y12.N = b + 2 := by omega
  refine g_aload_n C13 0 dX2_init_12 rfl ?_
  refine g_bipush C13 (v := (6 : Int32)) dX2_init_13 (by decide) ?_
  refine g_newA C13 hXa (id := b + 2) n15 .int .int rfl (List.mem_cons_of_mem _ mArr_I) Y12.cI 0 rfl (fun _ _ z => z) rfl (k := 6) (by decide) (by decide) (by decide) (by decide) (by decide) dX2_init_15 (fun Y22 x23 C24 K25 n26 a27 s28 => ?_)
  have f29 := isI_tr f18 K25 (by omega)
  have a30 := (K25.2.2.1 (b + 1) (by omega)).trans a19
  have a31 := (K25.2.2.1 b (by omega)).trans a16
  have s32 := (K25.2.2.2 b (by omega) (by omega)).trans s17
  have f33 := isI_new s28 K25 n26
  have k34 := keep_tr k21 K25 (by omega)
  refine g_putR C24 hXi (i := b) (ty := (.array .int)) (ty0 := tyX2) (k := 2) (Nc := 16) (Cn := RX2) (T := TX2) (ci := 2) (by omega) a31 s32 rfl rfl (fun w hw => List.mem_cons_of_mem _ (inX2 w hw)) tyX2_ok nmX2 (by decide) (List.mem_cons_of_mem _ mF_RX2_15) rfl rfl rfl rfl rfl rfl (by decide : 2 < 16) (rt (fun c => [.int (c.1 0), .ref x2, .ref x23, .null, .int (c.1 4), .null, .null, .null, .null, .null, .null, .null, .int (c.1 12), .int (c.1 13), .int (c.1 14), .null]) 2) rfl dX2_init_17 (fun Y35 C36 K37 n38 a39 s40 => ?_)
  have f41 := isI_tr f29 K37 (by omega)
  have f42 := isI_tr f33 K37 (by omega)
  have a43 := (K37.2.2.1 (b + 1) (by omega)).trans a30
  have a44 := (K37.2.2.1 (b + 2) (by omega)).trans a27
  have a45 := (K37.2.2.1 b (by omega)).trans a31
  have k46 := keep_tr k34 K37 (by omega)
  have n38 : Y35.N = b + 3 := by omega
  refine g_aload_n C36 0 dX2_init_20 rfl ?_
  refine g_bipush C36 (v := (6 : Int32)) dX2_init_21 (by decide) ?_
  refine g_newA C36 hXa (id := b + 3) n38 .int .int rfl (List.mem_cons_of_mem _ mArr_I) Y35.cI 0 rfl (fun _ _ z => z) rfl (k := 6) (by decide) (by decide) (by decide) (by decide) (by decide) dX2_init_23 (fun Y47 x48 C49 K50 n51 a52 s53 => ?_)
  have f54 := isI_tr f41 K50 (by omega)
  have f55 := isI_tr f42 K50 (by omega)
  have a56 := (K50.2.2.1 (b + 1) (by omega)).trans a43
  have a57 := (K50.2.2.1 (b + 2) (by omega)).trans a44
  have a58 := (K50.2.2.1 b (by omega)).trans a39
  have s59 := (K50.2.2.2 b (by omega) (by omega)).trans s40
  have f60 := isI_new s53 K50 n51
  have k61 := keep_tr k46 K50 (by omega)
  refine g_putR C49 hXi (i := b) (ty := (.array .int)) (ty0 := tyX2) (k := 3) (Nc := 16) (Cn := RX2) (T := TX2) (ci := 2) (by omega) a58 s59 rfl rfl (fun w hw => List.mem_cons_of_mem _ (inX2 w hw)) tyX2_ok nmX2 (by decide) (List.mem_cons_of_mem _ mF_RX2_18) rfl rfl rfl rfl rfl rfl (by decide : 3 < 16) (rt (fun c => [.int (c.1 0), .ref x2, .ref x23, .ref x48, .int (c.1 4), .null, .null, .null, .null, .null, .null, .null, .int (c.1 12), .int (c.1 13), .int (c.1 14), .null]) 2) rfl dX2_init_25 (fun Y62 C63 K64 n65 a66 s67 => ?_)
  have f68 := isI_tr f54 K64 (by omega)
  have f69 := isI_tr f55 K64 (by omega)
  have f70 := isI_tr f60 K64 (by omega)
  have a71 := (K64.2.2.1 (b + 1) (by omega)).trans a56
  have a72 := (K64.2.2.1 (b + 2) (by omega)).trans a57
  have a73 := (K64.2.2.1 (b + 3) (by omega)).trans a52
  have a74 := (K64.2.2.1 b (by omega)).trans a58
  have k75 := keep_tr k61 K64 (by omega)
  have n65 : Y62.N = b + 4 := by omega
  refine g_aload_n C63 0 dX2_init_28 rfl ?_
  refine g_bipush C63 (v := (9 : Int32)) dX2_init_29 (by decide) ?_
  refine g_newA C63 hXa (id := b + 4) n65 .int .int rfl (List.mem_cons_of_mem _ mArr_I) Y62.cI 0 rfl (fun _ _ z => z) rfl (k := 9) (by decide) (by decide) (by decide) (by decide) (by decide) dX2_init_31 (fun Y76 x77 C78 K79 n80 a81 s82 => ?_)
  have f83 := isI_tr f68 K79 (by omega)
  have f84 := isI_tr f69 K79 (by omega)
  have f85 := isI_tr f70 K79 (by omega)
  have a86 := (K79.2.2.1 (b + 1) (by omega)).trans a71
  have a87 := (K79.2.2.1 (b + 2) (by omega)).trans a72
  have a88 := (K79.2.2.1 (b + 3) (by omega)).trans a73
  have a89 := (K79.2.2.1 b (by omega)).trans a66
  have s90 := (K79.2.2.2 b (by omega) (by omega)).trans s67
  have f91 := isI_new s82 K79 n80
  have k92 := keep_tr k75 K79 (by omega)
  refine g_putR C78 hXi (i := b) (ty := (.array .int)) (ty0 := tyX2) (k := 5) (Nc := 16) (Cn := RX2) (T := TX2) (ci := 2) (by omega) a89 s90 rfl rfl (fun w hw => List.mem_cons_of_mem _ (inX2 w hw)) tyX2_ok nmX2 (by decide) (List.mem_cons_of_mem _ mF_RX2_21) rfl rfl rfl rfl rfl rfl (by decide : 5 < 16) (rt (fun c => [.int (c.1 0), .ref x2, .ref x23, .ref x48, .int (c.1 4), .ref x77, .null, .null, .null, .null, .null, .null, .int (c.1 12), .int (c.1 13), .int (c.1 14), .null]) 2) rfl dX2_init_33 (fun Y93 C94 K95 n96 a97 s98 => ?_)
  have f99 := isI_tr f83 K95 (by omega)
  have f100 := isI_tr f84 K95 (by omega)
  have f101 := isI_tr f85 K95 (by omega)
  have f102 := isI_tr f91 K95 (by omega)
  have a103 := (K95.2.2.1 (b + 1) (by omega)).trans a86
  have a104 := (K95.2.2.1 (b + 2) (by omega)).trans a87
  have a105 := (K95.2.2.1 (b + 3) (by omega)).trans a88
  have a106 := (K95.2.2.1 (b + 4) (by omega)).trans a81
  have a107 := (K95.2.2.1 b (by omega)).trans a89
  have k108 := keep_tr k92 K95 (by omega)
  have n96 : Y93.N = b + 5 := by omega
  refine g_aload_n C94 0 dX2_init_36 rfl ?_
  refine g_bipush C94 (v := (9 : Int32)) dX2_init_37 (by decide) ?_
  refine g_newA C94 hXa (id := b + 5) n96 .int .int rfl (List.mem_cons_of_mem _ mArr_I) Y93.cI 0 rfl (fun _ _ z => z) rfl (k := 9) (by decide) (by decide) (by decide) (by decide) (by decide) dX2_init_39 (fun Y109 x110 C111 K112 n113 a114 s115 => ?_)
  have f116 := isI_tr f99 K112 (by omega)
  have f117 := isI_tr f100 K112 (by omega)
  have f118 := isI_tr f101 K112 (by omega)
  have f119 := isI_tr f102 K112 (by omega)
  have a120 := (K112.2.2.1 (b + 1) (by omega)).trans a103
  have a121 := (K112.2.2.1 (b + 2) (by omega)).trans a104
  have a122 := (K112.2.2.1 (b + 3) (by omega)).trans a105
  have a123 := (K112.2.2.1 (b + 4) (by omega)).trans a106
  have a124 := (K112.2.2.1 b (by omega)).trans a97
  have s125 := (K112.2.2.2 b (by omega) (by omega)).trans s98
  have f126 := isI_new s115 K112 n113
  have k127 := keep_tr k108 K112 (by omega)
  refine g_putR C111 hXi (i := b) (ty := (.array .int)) (ty0 := tyX2) (k := 6) (Nc := 16) (Cn := RX2) (T := TX2) (ci := 2) (by omega) a124 s125 rfl rfl (fun w hw => List.mem_cons_of_mem _ (inX2 w hw)) tyX2_ok nmX2 (by decide) (List.mem_cons_of_mem _ mF_RX2_24) rfl rfl rfl rfl rfl rfl (by decide : 6 < 16) (rt (fun c => [.int (c.1 0), .ref x2, .ref x23, .ref x48, .int (c.1 4), .ref x77, .ref x110, .null, .null, .null, .null, .null, .int (c.1 12), .int (c.1 13), .int (c.1 14), .null]) 2) rfl dX2_init_41 (fun Y128 C129 K130 n131 a132 s133 => ?_)
  have f134 := isI_tr f116 K130 (by omega)
  have f135 := isI_tr f117 K130 (by omega)
  have f136 := isI_tr f118 K130 (by omega)
  have f137 := isI_tr f119 K130 (by omega)
  have f138 := isI_tr f126 K130 (by omega)
  have a139 := (K130.2.2.1 (b + 1) (by omega)).trans a120
  have a140 := (K130.2.2.1 (b + 2) (by omega)).trans a121
  have a141 := (K130.2.2.1 (b + 3) (by omega)).trans a122
  have a142 := (K130.2.2.1 (b + 4) (by omega)).trans a123
  have a143 := (K130.2.2.1 (b + 5) (by omega)).trans a114
  have a144 := (K130.2.2.1 b (by omega)).trans a124
  have k145 := keep_tr k127 K130 (by omega)
  have n131 : Y128.N = b + 6 := by omega
  refine g_aload_n C129 0 dX2_init_44 rfl ?_
  refine g_bipush C129 (v := (9 : Int32)) dX2_init_45 (by decide) ?_
  refine g_newA C129 hXa (id := b + 6) n131 .int .int rfl (List.mem_cons_of_mem _ mArr_I) Y128.cI 0 rfl (fun _ _ z => z) rfl (k := 9) (by decide) (by decide) (by decide) (by decide) (by decide) dX2_init_47 (fun Y146 x147 C148 K149 n150 a151 s152 => ?_)
  have f153 := isI_tr f134 K149 (by omega)
  have f154 := isI_tr f135 K149 (by omega)
  have f155 := isI_tr f136 K149 (by omega)
  have f156 := isI_tr f137 K149 (by omega)
  have f157 := isI_tr f138 K149 (by omega)
  have a158 := (K149.2.2.1 (b + 1) (by omega)).trans a139
  have a159 := (K149.2.2.1 (b + 2) (by omega)).trans a140
  have a160 := (K149.2.2.1 (b + 3) (by omega)).trans a141
  have a161 := (K149.2.2.1 (b + 4) (by omega)).trans a142
  have a162 := (K149.2.2.1 (b + 5) (by omega)).trans a143
  have a163 := (K149.2.2.1 b (by omega)).trans a132
  have s164 := (K149.2.2.2 b (by omega) (by omega)).trans s133
  have f165 := isI_new s152 K149 n150
  have k166 := keep_tr k145 K149 (by omega)
  refine g_putR C148 hXi (i := b) (ty := (.array .int)) (ty0 := tyX2) (k := 7) (Nc := 16) (Cn := RX2) (T := TX2) (ci := 2) (by omega) a163 s164 rfl rfl (fun w hw => List.mem_cons_of_mem _ (inX2 w hw)) tyX2_ok nmX2 (by decide) (List.mem_cons_of_mem _ mF_RX2_27) rfl rfl rfl rfl rfl rfl (by decide : 7 < 16) (rt (fun c => [.int (c.1 0), .ref x2, .ref x23, .ref x48, .int (c.1 4), .ref x77, .ref x110, .ref x147, .null, .null, .null, .null, .int (c.1 12), .int (c.1 13), .int (c.1 14), .null]) 2) rfl dX2_init_49 (fun Y167 C168 K169 n170 a171 s172 => ?_)
  have f173 := isI_tr f153 K169 (by omega)
  have f174 := isI_tr f154 K169 (by omega)
  have f175 := isI_tr f155 K169 (by omega)
  have f176 := isI_tr f156 K169 (by omega)
  have f177 := isI_tr f157 K169 (by omega)
  have f178 := isI_tr f165 K169 (by omega)
  have a179 := (K169.2.2.1 (b + 1) (by omega)).trans a158
  have a180 := (K169.2.2.1 (b + 2) (by omega)).trans a159
  have a181 := (K169.2.2.1 (b + 3) (by omega)).trans a160
  have a182 := (K169.2.2.1 (b + 4) (by omega)).trans a161
  have a183 := (K169.2.2.1 (b + 5) (by omega)).trans a162
  have a184 := (K169.2.2.1 (b + 6) (by omega)).trans a151
  have a185 := (K169.2.2.1 b (by omega)).trans a163
  have k186 := keep_tr k166 K169 (by omega)
  have n170 : Y167.N = b + 7 := by omega
  refine g_aload_n C168 0 dX2_init_52 rfl ?_
  refine g_bipush C168 (v := (9 : Int32)) dX2_init_53 (by decide) ?_
  refine g_newA C168 hXa (id := b + 7) n170 .int .int rfl (List.mem_cons_of_mem _ mArr_I) Y167.cI 0 rfl (fun _ _ z => z) rfl (k := 9) (by decide) (by decide) (by decide) (by decide) (by decide) dX2_init_55 (fun Y187 x188 C189 K190 n191 a192 s193 => ?_)
  have f194 := isI_tr f173 K190 (by omega)
  have f195 := isI_tr f174 K190 (by omega)
  have f196 := isI_tr f175 K190 (by omega)
  have f197 := isI_tr f176 K190 (by omega)
  have f198 := isI_tr f177 K190 (by omega)
  have f199 := isI_tr f178 K190 (by omega)
  have a200 := (K190.2.2.1 (b + 1) (by omega)).trans a179
  have a201 := (K190.2.2.1 (b + 2) (by omega)).trans a180
  have a202 := (K190.2.2.1 (b + 3) (by omega)).trans a181
  have a203 := (K190.2.2.1 (b + 4) (by omega)).trans a182
  have a204 := (K190.2.2.1 (b + 5) (by omega)).trans a183
  have a205 := (K190.2.2.1 (b + 6) (by omega)).trans a184
  have a206 := (K190.2.2.1 b (by omega)).trans a171
  have s207 := (K190.2.2.2 b (by omega) (by omega)).trans s172
  have f208 := isI_new s193 K190 n191
  have k209 := keep_tr k186 K190 (by omega)
  refine g_putR C189 hXi (i := b) (ty := (.array .int)) (ty0 := tyX2) (k := 8) (Nc := 16) (Cn := RX2) (T := TX2) (ci := 2) (by omega) a206 s207 rfl rfl (fun w hw => List.mem_cons_of_mem _ (inX2 w hw)) tyX2_ok nmX2 (by decide) (List.mem_cons_of_mem _ mF_RX2_30) rfl rfl rfl rfl rfl rfl (by decide : 8 < 16) (rt (fun c => [.int (c.1 0), .ref x2, .ref x23, .ref x48, .int (c.1 4), .ref x77, .ref x110, .ref x147, .ref x188, .null, .null, .null, .int (c.1 12), .int (c.1 13), .int (c.1 14), .null]) 2) rfl dX2_init_57 (fun Y210 C211 K212 n213 a214 s215 => ?_)
  have f216 := isI_tr f194 K212 (by omega)
  have f217 := isI_tr f195 K212 (by omega)
  have f218 := isI_tr f196 K212 (by omega)
  have f219 := isI_tr f197 K212 (by omega)
  have f220 := isI_tr f198 K212 (by omega)
  have f221 := isI_tr f199 K212 (by omega)
  have f222 := isI_tr f208 K212 (by omega)
  have a223 := (K212.2.2.1 (b + 1) (by omega)).trans a200
  have a224 := (K212.2.2.1 (b + 2) (by omega)).trans a201
  have a225 := (K212.2.2.1 (b + 3) (by omega)).trans a202
  have a226 := (K212.2.2.1 (b + 4) (by omega)).trans a203
  have a227 := (K212.2.2.1 (b + 5) (by omega)).trans a204
  have a228 := (K212.2.2.1 (b + 6) (by omega)).trans a205
  have a229 := (K212.2.2.1 (b + 7) (by omega)).trans a192
  have a230 := (K212.2.2.1 b (by omega)).trans a206
  have k231 := keep_tr k209 K212 (by omega)
  have n213 : Y210.N = b + 8 := by omega
  refine g_aload_n C211 0 dX2_init_60 rfl ?_
  refine g_bipush C211 (v := (9 : Int32)) dX2_init_61 (by decide) ?_
  refine g_newA C211 hXa (id := b + 8) n213 .int .int rfl (List.mem_cons_of_mem _ mArr_I) Y210.cI 0 rfl (fun _ _ z => z) rfl (k := 9) (by decide) (by decide) (by decide) (by decide) (by decide) dX2_init_63 (fun Y232 x233 C234 K235 n236 a237 s238 => ?_)
  have f239 := isI_tr f216 K235 (by omega)
  have f240 := isI_tr f217 K235 (by omega)
  have f241 := isI_tr f218 K235 (by omega)
  have f242 := isI_tr f219 K235 (by omega)
  have f243 := isI_tr f220 K235 (by omega)
  have f244 := isI_tr f221 K235 (by omega)
  have f245 := isI_tr f222 K235 (by omega)
  have a246 := (K235.2.2.1 (b + 1) (by omega)).trans a223
  have a247 := (K235.2.2.1 (b + 2) (by omega)).trans a224
  have a248 := (K235.2.2.1 (b + 3) (by omega)).trans a225
  have a249 := (K235.2.2.1 (b + 4) (by omega)).trans a226
  have a250 := (K235.2.2.1 (b + 5) (by omega)).trans a227
  have a251 := (K235.2.2.1 (b + 6) (by omega)).trans a228
  have a252 := (K235.2.2.1 (b + 7) (by omega)).trans a229
  have a253 := (K235.2.2.1 b (by omega)).trans a214
  have s254 := (K235.2.2.2 b (by omega) (by omega)).trans s215
  have f255 := isI_new s238 K235 n236
  have k256 := keep_tr k231 K235 (by omega)
  refine g_putR C234 hXi (i := b) (ty := (.array .int)) (ty0 := tyX2) (k := 9) (Nc := 16) (Cn := RX2) (T := TX2) (ci := 2) (by omega) a253 s254 rfl rfl (fun w hw => List.mem_cons_of_mem _ (inX2 w hw)) tyX2_ok nmX2 (by decide) (List.mem_cons_of_mem _ mF_RX2_33) rfl rfl rfl rfl rfl rfl (by decide : 9 < 16) (rt (fun c => [.int (c.1 0), .ref x2, .ref x23, .ref x48, .int (c.1 4), .ref x77, .ref x110, .ref x147, .ref x188, .ref x233, .null, .null, .int (c.1 12), .int (c.1 13), .int (c.1 14), .null]) 2) rfl dX2_init_65 (fun Y257 C258 K259 n260 a261 s262 => ?_)
  have f263 := isI_tr f239 K259 (by omega)
  have f264 := isI_tr f240 K259 (by omega)
  have f265 := isI_tr f241 K259 (by omega)
  have f266 := isI_tr f242 K259 (by omega)
  have f267 := isI_tr f243 K259 (by omega)
  have f268 := isI_tr f244 K259 (by omega)
  have f269 := isI_tr f245 K259 (by omega)
  have f270 := isI_tr f255 K259 (by omega)
  have a271 := (K259.2.2.1 (b + 1) (by omega)).trans a246
  have a272 := (K259.2.2.1 (b + 2) (by omega)).trans a247
  have a273 := (K259.2.2.1 (b + 3) (by omega)).trans a248
  have a274 := (K259.2.2.1 (b + 4) (by omega)).trans a249
  have a275 := (K259.2.2.1 (b + 5) (by omega)).trans a250
  have a276 := (K259.2.2.1 (b + 6) (by omega)).trans a251
  have a277 := (K259.2.2.1 (b + 7) (by omega)).trans a252
  have a278 := (K259.2.2.1 (b + 8) (by omega)).trans a237
  have a279 := (K259.2.2.1 b (by omega)).trans a253
  have k280 := keep_tr k256 K259 (by omega)
  have n260 : Y257.N = b + 9 := by omega
  refine g_aload_n C258 0 dX2_init_68 rfl ?_
  refine g_bipush C258 (v := (54 : Int32)) dX2_init_69 (by decide) ?_
  refine g_newA C258 hXa (id := b + 9) n260 .int .int rfl (List.mem_cons_of_mem _ mArr_I) Y257.cI 0 rfl (fun _ _ z => z) rfl (k := 54) (by decide) (by decide) (by decide) (by decide) (by decide) dX2_init_71 (fun Y281 x282 C283 K284 n285 a286 s287 => ?_)
  have f288 := isI_tr f263 K284 (by omega)
  have f289 := isI_tr f264 K284 (by omega)
  have f290 := isI_tr f265 K284 (by omega)
  have f291 := isI_tr f266 K284 (by omega)
  have f292 := isI_tr f267 K284 (by omega)
  have f293 := isI_tr f268 K284 (by omega)
  have f294 := isI_tr f269 K284 (by omega)
  have f295 := isI_tr f270 K284 (by omega)
  have a296 := (K284.2.2.1 (b + 1) (by omega)).trans a271
  have a297 := (K284.2.2.1 (b + 2) (by omega)).trans a272
  have a298 := (K284.2.2.1 (b + 3) (by omega)).trans a273
  have a299 := (K284.2.2.1 (b + 4) (by omega)).trans a274
  have a300 := (K284.2.2.1 (b + 5) (by omega)).trans a275
  have a301 := (K284.2.2.1 (b + 6) (by omega)).trans a276
  have a302 := (K284.2.2.1 (b + 7) (by omega)).trans a277
  have a303 := (K284.2.2.1 (b + 8) (by omega)).trans a278
  have a304 := (K284.2.2.1 b (by omega)).trans a261
  have s305 := (K284.2.2.2 b (by omega) (by omega)).trans s262
  have f306 := isI_new s287 K284 n285
  have k307 := keep_tr k280 K284 (by omega)
  refine g_putR C283 hXi (i := b) (ty := (.array .int)) (ty0 := tyX2) (k := 10) (Nc := 16) (Cn := RX2) (T := TX2) (ci := 2) (by omega) a304 s305 rfl rfl (fun w hw => List.mem_cons_of_mem _ (inX2 w hw)) tyX2_ok nmX2 (by decide) (List.mem_cons_of_mem _ mF_RX2_36) rfl rfl rfl rfl rfl rfl (by decide : 10 < 16) (rt (fun c => [.int (c.1 0), .ref x2, .ref x23, .ref x48, .int (c.1 4), .ref x77, .ref x110, .ref x147, .ref x188, .ref x233, .ref x282, .null, .int (c.1 12), .int (c.1 13), .int (c.1 14), .null]) 2) rfl dX2_init_73 (fun Y308 C309 K310 n311 a312 s313 => ?_)
  have f314 := isI_tr f288 K310 (by omega)
  have f315 := isI_tr f289 K310 (by omega)
  have f316 := isI_tr f290 K310 (by omega)
  have f317 := isI_tr f291 K310 (by omega)
  have f318 := isI_tr f292 K310 (by omega)
  have f319 := isI_tr f293 K310 (by omega)
  have f320 := isI_tr f294 K310 (by omega)
  have f321 := isI_tr f295 K310 (by omega)
  have f322 := isI_tr f306 K310 (by omega)
  have a323 := (K310.2.2.1 (b + 1) (by omega)).trans a296
  have a324 := (K310.2.2.1 (b + 2) (by omega)).trans a297
  have a325 := (K310.2.2.1 (b + 3) (by omega)).trans a298
  have a326 := (K310.2.2.1 (b + 4) (by omega)).trans a299
  have a327 := (K310.2.2.1 (b + 5) (by omega)).trans a300
  have a328 := (K310.2.2.1 (b + 6) (by omega)).trans a301
  have a329 := (K310.2.2.1 (b + 7) (by omega)).trans a302
  have a330 := (K310.2.2.1 (b + 8) (by omega)).trans a303
  have a331 := (K310.2.2.1 (b + 9) (by omega)).trans a286
  have a332 := (K310.2.2.1 b (by omega)).trans a304
  have k333 := keep_tr k307 K310 (by omega)
  have n311 : Y308.N = b + 10 := by omega
  refine g_aload_n C309 0 dX2_init_76 rfl ?_
  refine g_bipush C309 (v := (54 : Int32)) dX2_init_77 (by decide) ?_
  refine g_newA C309 hXa (id := b + 10) n311 .int .int rfl (List.mem_cons_of_mem _ mArr_I) Y308.cI 0 rfl (fun _ _ z => z) rfl (k := 54) (by decide) (by decide) (by decide) (by decide) (by decide) dX2_init_79 (fun Y334 x335 C336 K337 n338 a339 s340 => ?_)
  have f341 := isI_tr f314 K337 (by omega)
  have f342 := isI_tr f315 K337 (by omega)
  have f343 := isI_tr f316 K337 (by omega)
  have f344 := isI_tr f317 K337 (by omega)
  have f345 := isI_tr f318 K337 (by omega)
  have f346 := isI_tr f319 K337 (by omega)
  have f347 := isI_tr f320 K337 (by omega)
  have f348 := isI_tr f321 K337 (by omega)
  have f349 := isI_tr f322 K337 (by omega)
  have a350 := (K337.2.2.1 (b + 1) (by omega)).trans a323
  have a351 := (K337.2.2.1 (b + 2) (by omega)).trans a324
  have a352 := (K337.2.2.1 (b + 3) (by omega)).trans a325
  have a353 := (K337.2.2.1 (b + 4) (by omega)).trans a326
  have a354 := (K337.2.2.1 (b + 5) (by omega)).trans a327
  have a355 := (K337.2.2.1 (b + 6) (by omega)).trans a328
  have a356 := (K337.2.2.1 (b + 7) (by omega)).trans a329
  have a357 := (K337.2.2.1 (b + 8) (by omega)).trans a330
  have a358 := (K337.2.2.1 (b + 9) (by omega)).trans a331
  have a359 := (K337.2.2.1 b (by omega)).trans a312
  have s360 := (K337.2.2.2 b (by omega) (by omega)).trans s313
  have f361 := isI_new s340 K337 n338
  have k362 := keep_tr k333 K337 (by omega)
  refine g_putR C336 hXi (i := b) (ty := (.array .int)) (ty0 := tyX2) (k := 11) (Nc := 16) (Cn := RX2) (T := TX2) (ci := 2) (by omega) a359 s360 rfl rfl (fun w hw => List.mem_cons_of_mem _ (inX2 w hw)) tyX2_ok nmX2 (by decide) (List.mem_cons_of_mem _ mF_RX2_39) rfl rfl rfl rfl rfl rfl (by decide : 11 < 16) (rt (fun c => [.int (c.1 0), .ref x2, .ref x23, .ref x48, .int (c.1 4), .ref x77, .ref x110, .ref x147, .ref x188, .ref x233, .ref x282, .ref x335, .int (c.1 12), .int (c.1 13), .int (c.1 14), .null]) 2) rfl dX2_init_81 (fun Y363 C364 K365 n366 a367 s368 => ?_)
  have f369 := isI_tr f341 K365 (by omega)
  have f370 := isI_tr f342 K365 (by omega)
  have f371 := isI_tr f343 K365 (by omega)
  have f372 := isI_tr f344 K365 (by omega)
  have f373 := isI_tr f345 K365 (by omega)
  have f374 := isI_tr f346 K365 (by omega)
  have f375 := isI_tr f347 K365 (by omega)
  have f376 := isI_tr f348 K365 (by omega)
  have f377 := isI_tr f349 K365 (by omega)
  have f378 := isI_tr f361 K365 (by omega)
  have a379 := (K365.2.2.1 (b + 1) (by omega)).trans a350
  have a380 := (K365.2.2.1 (b + 2) (by omega)).trans a351
  have a381 := (K365.2.2.1 (b + 3) (by omega)).trans a352
  have a382 := (K365.2.2.1 (b + 4) (by omega)).trans a353
  have a383 := (K365.2.2.1 (b + 5) (by omega)).trans a354
  have a384 := (K365.2.2.1 (b + 6) (by omega)).trans a355
  have a385 := (K365.2.2.1 (b + 7) (by omega)).trans a356
  have a386 := (K365.2.2.1 (b + 8) (by omega)).trans a357
  have a387 := (K365.2.2.1 (b + 9) (by omega)).trans a358
  have a388 := (K365.2.2.1 (b + 10) (by omega)).trans a339
  have a389 := (K365.2.2.1 b (by omega)).trans a359
  have k390 := keep_tr k362 K365 (by omega)
  have n366 : Y363.N = b + 11 := by omega
  refine g_aload_n C364 0 dX2_init_84 rfl ?_
  refine g_bipush C364 (v := (7 : Int32)) dX2_init_85 (by decide) ?_
  refine g_newA C364 hXa (id := b + 11) n366 .int .int rfl (List.mem_cons_of_mem _ mArr_I) Y363.cI 0 rfl (fun _ _ z => z) rfl (k := 7) (by decide) (by decide) (by decide) (by decide) (by decide) dX2_init_87 (fun Y391 x392 C393 K394 n395 a396 s397 => ?_)
  have f398 := isI_tr f369 K394 (by omega)
  have f399 := isI_tr f370 K394 (by omega)
  have f400 := isI_tr f371 K394 (by omega)
  have f401 := isI_tr f372 K394 (by omega)
  have f402 := isI_tr f373 K394 (by omega)
  have f403 := isI_tr f374 K394 (by omega)
  have f404 := isI_tr f375 K394 (by omega)
  have f405 := isI_tr f376 K394 (by omega)
  have f406 := isI_tr f377 K394 (by omega)
  have f407 := isI_tr f378 K394 (by omega)
  have a408 := (K394.2.2.1 (b + 1) (by omega)).trans a379
  have a409 := (K394.2.2.1 (b + 2) (by omega)).trans a380
  have a410 := (K394.2.2.1 (b + 3) (by omega)).trans a381
  have a411 := (K394.2.2.1 (b + 4) (by omega)).trans a382
  have a412 := (K394.2.2.1 (b + 5) (by omega)).trans a383
  have a413 := (K394.2.2.1 (b + 6) (by omega)).trans a384
  have a414 := (K394.2.2.1 (b + 7) (by omega)).trans a385
  have a415 := (K394.2.2.1 (b + 8) (by omega)).trans a386
  have a416 := (K394.2.2.1 (b + 9) (by omega)).trans a387
  have a417 := (K394.2.2.1 (b + 10) (by omega)).trans a388
  have a418 := (K394.2.2.1 b (by omega)).trans a367
  have s419 := (K394.2.2.2 b (by omega) (by omega)).trans s368
  have f420 := isI_new s397 K394 n395
  have k421 := keep_tr k390 K394 (by omega)
  refine g_putR C393 hXi (i := b) (ty := (.array .int)) (ty0 := tyX2) (k := 15) (Nc := 16) (Cn := RX2) (T := TX2) (ci := 2) (by omega) a418 s419 rfl rfl (fun w hw => List.mem_cons_of_mem _ (inX2 w hw)) tyX2_ok nmX2 (by decide) (List.mem_cons_of_mem _ mF_RX2_42) rfl rfl rfl rfl rfl rfl (by decide : 15 < 16) (rt (fun c => [.int (c.1 0), .ref x2, .ref x23, .ref x48, .int (c.1 4), .ref x77, .ref x110, .ref x147, .ref x188, .ref x233, .ref x282, .ref x335, .int (c.1 12), .int (c.1 13), .int (c.1 14), .ref x392]) 2) rfl dX2_init_89 (fun Y422 C423 K424 n425 a426 s427 => ?_)
  have f428 := isI_tr f398 K424 (by omega)
  have f429 := isI_tr f399 K424 (by omega)
  have f430 := isI_tr f400 K424 (by omega)
  have f431 := isI_tr f401 K424 (by omega)
  have f432 := isI_tr f402 K424 (by omega)
  have f433 := isI_tr f403 K424 (by omega)
  have f434 := isI_tr f404 K424 (by omega)
  have f435 := isI_tr f405 K424 (by omega)
  have f436 := isI_tr f406 K424 (by omega)
  have f437 := isI_tr f407 K424 (by omega)
  have f438 := isI_tr f420 K424 (by omega)
  have a439 := (K424.2.2.1 (b + 1) (by omega)).trans a408
  have a440 := (K424.2.2.1 (b + 2) (by omega)).trans a409
  have a441 := (K424.2.2.1 (b + 3) (by omega)).trans a410
  have a442 := (K424.2.2.1 (b + 4) (by omega)).trans a411
  have a443 := (K424.2.2.1 (b + 5) (by omega)).trans a412
  have a444 := (K424.2.2.1 (b + 6) (by omega)).trans a413
  have a445 := (K424.2.2.1 (b + 7) (by omega)).trans a414
  have a446 := (K424.2.2.1 (b + 8) (by omega)).trans a415
  have a447 := (K424.2.2.1 (b + 9) (by omega)).trans a416
  have a448 := (K424.2.2.1 (b + 10) (by omega)).trans a417
  have a449 := (K424.2.2.1 (b + 11) (by omega)).trans a396
  have a450 := (K424.2.2.1 b (by omega)).trans a418
  have k451 := keep_tr k421 K424 (by omega)
  have n425 : Y422.N = b + 12 := by omega
  have f452 : isX2 Y422 b := ⟨by omega, by rw [s427]; unfold sX2; rw [a439, a440, a441, a442, a443, a444, a445, a446, a447, a448, a449], f428, f429, f430, f431, f432, f433, f434, f435, f436, f437, f438⟩
  rw [← a426]
  exact sf_X2_init C423 (fun pc lv μ' hd q => hr pc lv Y422 μ' hd C423 k451 ⟨n425, f452, q⟩) (cx_YI C423) f452 h
def SX4_init_29 (X : XT) (Y : YT) (b : Nat) : Int32 → Mem → Prop := fun v1 μ => G X Y 2 29 [(0, .ref (Y.ad b)), (1, .int v1)] [] μ
set_option maxRecDepth 20000 in
set_option maxHeartbeats 4000000 in
theorem tX4_init_29 {X : XT} {Y : YT} {l0 : Launch} {b : Nat} {Q : Mem → Prop} (C : Cx X Y 2 cX4_init RX4 WX4_init (rmC 1 12 3 168) l0) (hr : RVn X Y 2 cX4_init Q) (hI : YI Y) (h0 : isX4 Y b) (v1 : Int32) (μ : Mem) (h : nX4_init_29 b Q (SX4_init_29 X Y b) v1 μ) : G X Y 2 29 [(0, .ref (Y.ad b)), (1, .int v1)] [] μ := by
  unfold nX4_init_29 at h
  refine g_iload_n C 1 dX4_init_29 rfl ?_
  refine g_iconst C (v := (4 : Int32)) dX4_init_30 (by decide) ?_
  refine g_icmp_ge C 48 dX4_init_31 (by decide) (fun c1 => ?_) (fun c1 => ?_)
  · replace h := h.1 c1
    exact hr _ _ _ dX4_init_48 h
  · replace h := h.2 c1
    refine g_aload_n C 0 dX4_init_34 rfl ?_
    refine gf_RX4_9 C h0 dX4_init_35 ?_
    refine g_iload_n C 1 dX4_init_38 rfl ?_
    refine g_bipush C (v := (-4 : Int32)) dX4_init_39 (by decide) ?_
    refine g_iast C (isX4_laneOf h0).1 (isX4_laneOf h0).2 h.1 dX4_init_41 ?_
    replace h := h.2
    refine g_iinc C (v := v1 + 1) 1 [(1, .int (v1 + 1)), (0, .ref (Y.ad b))] dX4_init_42 rfl rfl (by decide) rfl ?_
    refine g_goto C 29 dX4_init_45 (by decide) ?_
    refine g_lv (lv2 := [(0, .ref (Y.ad b)), (1, .int (v1 + 1))]) [1, 0] ?_ rfl
    exact h
set_option maxRecDepth 20000 in
set_option maxHeartbeats 4000000 in
theorem sf_X4_init {X : XT} {Y : YT} {l0 : Launch} {b : Nat} {Q : Mem → Prop} {μ : Mem} (C : Cx X Y 2 cX4_init RX4 WX4_init (rmC 1 12 3 168) l0) (hr : RVn X Y 2 cX4_init Q) (hI : YI Y) (h0 : isX4 Y b) (h : PSX4_init b μ Q) : G X Y 2 27 [(0, .ref (Y.ad b))] [] μ := by
  unfold PSX4_init at h
  replace h := h (SX4_init_29 X Y b) (fun v1 μ z => tX4_init_29 C hr hI h0 v1 μ z)
  refine g_iconst C (v := (0 : Int32)) dX4_init_27 (by decide) ?_
  refine g_istore_n C [(1, .int ((0 : Int32))), (0, .ref (Y.ad b))] dX4_init_28 (by decide) rfl ?_
  refine g_lv (lv2 := [(0, .ref (Y.ad b)), (1, .int ((0 : Int32)))]) [1, 0] ?_ rfl
  exact h
set_option maxRecDepth 20000 in
set_option maxHeartbeats 8000000 in
theorem ok_X4_init {Y : YT} {l0 : Launch} {b : Nat} {μ : Mem} {Q : Mem → Prop} (hI : YI Y) (hN : Y.N = b + 1) (hS : Y.sh b = fX4) (h : PX4_init b μ Q) : MC l0 yX4_init WX4_init 1 12 3 168 Y b μ (fun Y' μ' => Y'.N = b + 4 ∧ isX4 Y' b ∧ Q μ') := by
  refine mC_of (cc := cX4_init) (maxL := 2) (by decide +kernel) rfl rfl hI (by decide) (fun X C hXa hXi hr => ?_)
  replace C : Cx (xset X 0 0) Y 2 cX4_init RX4 WX4_init (rmC 1 12 3 168) l0 := C
  obtain ⟨x0, hx0⟩ : ∃ x0, Y.ad b = x0 := ⟨_, rfl⟩
  rw [hx0]
  unfold PX4_init at h
  refine g_aload_n C 0 dX4_init_0 rfl ?_
  refine g_obj C (List.mem_cons_of_mem _ mM_RX4_3) (List.mem_cons_of_mem _ mObj_i) (List.mem_cons_of_mem _ mObj_c) (by decide) (by decide) dX4_init_1 ?_
  refine g_aload_n C 0 dX4_init_4 rfl ?_
  refine g_iconst C (v := (4 : Int32)) dX4_init_5 (by decide) ?_
  refine g_newA C hXa (id := b + 1) hN .int .int rfl (List.mem_cons_of_mem _ mArr_I) Y.cI 0 rfl (fun _ _ z => z) rfl (k := 4) (by decide) (by decide) (by decide) (by decide) (by decide) dX4_init_6 (fun Y1 x2 C3 K4 n5 a6 s7 => ?_)
  have a8 := (K4.2.2.1 b (by omega)).trans hx0
  have s9 := (K4.2.2.2 b (by omega) (by omega)).trans hS
  have f10 := isI_new s7 K4 n5
  have k11 := keep_tr (keep_rf) K4 (by omega)
  refine g_putR C3 hXi (i := b) (ty := (.array .int)) (ty0 := tyX4) (k := 0) (Nc := 3) (Cn := RX4) (T := TX4) (ci := 4) (by omega) a8 s9 rfl rfl (fun w hw => List.mem_cons_of_mem _ (inX4 w hw)) tyX4_ok nmX4 (by decide) (List.mem_cons_of_mem _ mF_RX4_9) rfl rfl rfl rfl rfl rfl (by decide : 0 < 3) (rt (fun c => [.ref x2, .null, .null]) 4) rfl dX4_init_8 (fun Y12 C13 K14 n15 a16 s17 => ?_)
  have f18 := isI_tr f10 K14 (by omega)
  have a19 := (K14.2.2.1 (b + 1) (by omega)).trans a6
  have a20 := (K14.2.2.1 b (by omega)).trans a8
  have k21 := keep_tr k11 K14 (by omega)
  have n15 : Y12.N = b + 2 := by omega
  refine g_aload_n C13 0 dX4_init_11 rfl ?_
  refine g_iconst C13 (v := (4 : Int32)) dX4_init_12 (by decide) ?_
  refine g_newA C13 hXa (id := b + 2) n15 .int .int rfl (List.mem_cons_of_mem _ mArr_I) Y12.cI 0 rfl (fun _ _ z => z) rfl (k := 4) (by decide) (by decide) (by decide) (by decide) (by decide) dX4_init_13 (fun Y22 x23 C24 K25 n26 a27 s28 => ?_)
  have f29 := isI_tr f18 K25 (by omega)
  have a30 := (K25.2.2.1 (b + 1) (by omega)).trans a19
  have a31 := (K25.2.2.1 b (by omega)).trans a16
  have s32 := (K25.2.2.2 b (by omega) (by omega)).trans s17
  have f33 := isI_new s28 K25 n26
  have k34 := keep_tr k21 K25 (by omega)
  refine g_putR C24 hXi (i := b) (ty := (.array .int)) (ty0 := tyX4) (k := 1) (Nc := 3) (Cn := RX4) (T := TX4) (ci := 4) (by omega) a31 s32 rfl rfl (fun w hw => List.mem_cons_of_mem _ (inX4 w hw)) tyX4_ok nmX4 (by decide) (List.mem_cons_of_mem _ mF_RX4_15) rfl rfl rfl rfl rfl rfl (by decide : 1 < 3) (rt (fun c => [.ref x2, .ref x23, .null]) 4) rfl dX4_init_15 (fun Y35 C36 K37 n38 a39 s40 => ?_)
  have f41 := isI_tr f29 K37 (by omega)
  have f42 := isI_tr f33 K37 (by omega)
  have a43 := (K37.2.2.1 (b + 1) (by omega)).trans a30
  have a44 := (K37.2.2.1 (b + 2) (by omega)).trans a27
  have a45 := (K37.2.2.1 b (by omega)).trans a31
  have k46 := keep_tr k34 K37 (by omega)
  have n38 : Y35.N = b + 3 := by omega
  refine g_aload_n C36 0 dX4_init_18 rfl ?_
  refine g_sipush C36 (v := (160 : Int32)) dX4_init_19 (by decide) ?_
  refine g_newA C36 hXa (id := b + 3) n38 .int .int rfl (List.mem_cons_of_mem _ mArr_I) Y35.cI 0 rfl (fun _ _ z => z) rfl (k := 160) (by decide) (by decide) (by decide) (by decide) (by decide) dX4_init_22 (fun Y47 x48 C49 K50 n51 a52 s53 => ?_)
  have f54 := isI_tr f41 K50 (by omega)
  have f55 := isI_tr f42 K50 (by omega)
  have a56 := (K50.2.2.1 (b + 1) (by omega)).trans a43
  have a57 := (K50.2.2.1 (b + 2) (by omega)).trans a44
  have a58 := (K50.2.2.1 b (by omega)).trans a39
  have s59 := (K50.2.2.2 b (by omega) (by omega)).trans s40
  have f60 := isI_new s53 K50 n51
  have k61 := keep_tr k46 K50 (by omega)
  refine g_putR C49 hXi (i := b) (ty := (.array .int)) (ty0 := tyX4) (k := 2) (Nc := 3) (Cn := RX4) (T := TX4) (ci := 4) (by omega) a58 s59 rfl rfl (fun w hw => List.mem_cons_of_mem _ (inX4 w hw)) tyX4_ok nmX4 (by decide) (List.mem_cons_of_mem _ mF_RX4_18) rfl rfl rfl rfl rfl rfl (by decide : 2 < 3) (rt (fun c => [.ref x2, .ref x23, .ref x48]) 4) rfl dX4_init_24 (fun Y62 C63 K64 n65 a66 s67 => ?_)
  have f68 := isI_tr f54 K64 (by omega)
  have f69 := isI_tr f55 K64 (by omega)
  have f70 := isI_tr f60 K64 (by omega)
  have a71 := (K64.2.2.1 (b + 1) (by omega)).trans a56
  have a72 := (K64.2.2.1 (b + 2) (by omega)).trans a57
  have a73 := (K64.2.2.1 (b + 3) (by omega)).trans a52
  have a74 := (K64.2.2.1 b (by omega)).trans a58
  have k75 := keep_tr k61 K64 (by omega)
  have n65 : Y62.N = b + 4 := by omega
  have f76 : isX4 Y62 b := ⟨by omega, by rw [s67]; unfold sX4; rw [a71, a72, a73], f68, f69, f70⟩
  rw [← a66]
  exact sf_X4_init C63 (fun pc lv μ' hd q => hr pc lv Y62 μ' hd C63 k75 ⟨n65, f76, q⟩) (cx_YI C63) f76 h
set_option maxRecDepth 20000 in
set_option maxHeartbeats 4000000 in
theorem sf_X1_init {X : XT} {Y : YT} {l0 : Launch} {b : Nat} {Q : Mem → Prop} {μ : Mem} (C : Cx X Y 1 cX1_init RX1 WX1_init (rmC 3 63 14 600) l0) (hr : RVn X Y 1 cX1_init Q) (hI : YI Y) (h0 : isX1 Y b) (h : PSX1_init b μ Q) : G X Y 1 32 [(0, .ref (Y.ad b))] [] μ := by
  unfold PSX1_init at h
  exact hr _ _ _ dX1_init_32 h
set_option maxRecDepth 20000 in
set_option maxHeartbeats 8000000 in
theorem ok_X1_init {Y : YT} {l0 : Launch} {b : Nat} {μ : Mem} {Q : Mem → Prop} (hI : YI Y) (hN : Y.N = b + 1) (hS : Y.sh b = fX1) (h : PX1_init b μ Q) : MC l0 yX1_init WX1_init 3 63 14 600 Y b μ (fun Y' μ' => Y'.N = b + 15 ∧ isX1 Y' b ∧ Q μ') := by
  refine mC_of (cc := cX1_init) (maxL := 1) (by decide +kernel) rfl rfl hI (by decide) (fun X C hXa hXi hr => ?_)
  replace C : Cx (xset X 0 0) Y 1 cX1_init RX1 WX1_init (rmC 3 63 14 600) l0 := C
  obtain ⟨x0, hx0⟩ : ∃ x0, Y.ad b = x0 := ⟨_, rfl⟩
  rw [hx0]
  unfold PX1_init at h
  refine g_aload_n C 0 dX1_init_0 rfl ?_
  refine g_obj C (List.mem_cons_of_mem _ mM_RX1_3) (List.mem_cons_of_mem _ mObj_i) (List.mem_cons_of_mem _ mObj_c) (by decide) (by decide) dX1_init_1 ?_
  refine g_aload_n C 0 dX1_init_4 rfl ?_
  refine g_sipush C (v := (400 : Int32)) dX1_init_5 (by decide) ?_
  refine g_newA C hXa (id := b + 1) hN .byte .byte rfl (List.mem_cons_of_mem _ mArr_B) Y.cB 1 rfl (fun _ _ z => z) rfl (k := 400) (by decide) (by decide) (by decide) (by decide) (by decide) dX1_init_8 (fun Y1 x2 C3 K4 n5 a6 s7 => ?_)
  have a8 := (K4.2.2.1 b (by omega)).trans hx0
  have s9 := (K4.2.2.2 b (by omega) (by omega)).trans hS
  have f10 := isB_new s7 K4 n5
  have k11 := keep_tr (keep_rf) K4 (by omega)
  refine g_putR C3 hXi (i := b) (ty := (.array .byte)) (ty0 := tyX1) (k := 0) (Nc := 12) (Cn := RX1) (T := TX1) (ci := 1) (by omega) a8 s9 rfl rfl (fun w hw => List.mem_cons_of_mem _ (inX1 w hw)) tyX1_ok nmX1 (by decide) (List.mem_cons_of_mem _ mF_RX1_9) rfl rfl rfl rfl rfl rfl (by decide : 0 < 12) (rt (fun c => [.ref x2, .int (c.1 1), .null, .int (c.1 3), .int (c.1 4), .int (c.1 5), .int (c.1 6), .int (c.1 7), .int (c.1 8), .int (c.1 9), .int (c.1 10), .null]) 1) rfl dX1_init_10 (fun Y12 C13 K14 n15 a16 s17 => ?_)
  have f18 := isB_tr f10 K14 (by omega)
  have a19 := (K14.2.2.1 (b + 1) (by omega)).trans a6
  have a20 := (K14.2.2.1 b (by omega)).trans a8
  have k21 := keep_tr k11 K14 (by omega)
  have n15 : Y12.N = b + 2 := by omega
  refine g_aload_n C13 0 dX1_init_13 rfl ?_
  refine g_newO C13 hXa (id := b + 2) n15 (Cn := RX2) (T := TX2) (Nc := 16) (ci := 2) (ty := tyX2) (fun w hw => List.mem_cons_of_mem _ (inX2 w hw)) tyX2_ok (List.mem_cons_of_mem _ mCl_RX1_15) (List.mem_cons_of_mem _ mIns_X2) (List.mem_cons_of_mem _ mInit_RX2) rfl [.int 0, .null, .null, .null, .int 0, .null, .null, .null, .null, .null, .null, .null, .int 0, .int 0, .int 0, .null] dfX2 fX2 rfl (by decide) (by decide) dX1_init_14 (fun Y22 x23 C24 K25 n26 a27 s28 => ?_)
  have f29 := isB_tr f18 K25 (by omega)
  have a30 := (K25.2.2.1 (b + 1) (by omega)).trans a19
  have a31 := (K25.2.2.1 b (by omega)).trans a16
  have s32 := (K25.2.2.2 b (by omega) (by omega)).trans s17
  have k33 := keep_tr k21 K25 (by omega)
  refine g_dup C24 dX1_init_17 rfl ?_
  refine g_callC C24 hXa (ok_X2_init (cx_YI C24) (b := b + 2) n26 s28 h) (by omega) a27 (gw_good (fun w hw => by rcases List.mem_cons.mp hw with rfl | hw; exacts [mC_X2_init, hw])) rfl (List.mem_cons_of_mem _ mInit_RX2) (List.mem_cons_of_mem _ mM_RX1_17) (List.mem_cons_of_mem _ mI_X2_init) rfl dc_X2_init ⟨by decide, by decide⟩ (by decide) (by decide) (by decide) dX1_init_18 (fun Y34 m35 C36 K37 p38 => ?_)
  obtain ⟨n39, f40, h⟩ := p38
  have f41 := isB_tr f29 K37 (by omega)
  have a42 := (K37.2.2.1 (b + 1) (by omega)).trans a30
  have a43 := (K37.2.2.1 (b + 2) (by omega)).trans a27
  have a44 := (K37.2.2.1 b (by omega)).trans a31
  have s45 := (K37.2.2.2 b (by omega) (by omega)).trans s32
  have k46 := keep_tr k33 K37 (by omega)
  have n39 : Y34.N = b + 14 := by rw [n39]
  refine g_putR C36 hXi (i := b) (ty := (.object "NothingLeft$Rules")) (ty0 := tyX1) (k := 2) (Nc := 12) (Cn := RX1) (T := TX1) (ci := 1) (by omega) a44 s45 rfl rfl (fun w hw => List.mem_cons_of_mem _ (inX1 w hw)) tyX1_ok nmX1 (by decide) (List.mem_cons_of_mem _ mF_RX1_18) rfl rfl rfl rfl rfl rfl (by decide : 2 < 12) (rt (fun c => [.ref x2, .int (c.1 1), .ref x23, .int (c.1 3), .int (c.1 4), .int (c.1 5), .int (c.1 6), .int (c.1 7), .int (c.1 8), .int (c.1 9), .int (c.1 10), .null]) 1) rfl dX1_init_21 (fun Y47 C48 K49 n50 a51 s52 => ?_)
  have f53 := isB_tr f41 K49 (by omega)
  have f54 := isX2_tr f40 K49 (by omega)
  have a55 := (K49.2.2.1 (b + 1) (by omega)).trans a42
  have a56 := (K49.2.2.1 (b + 2) (by omega)).trans a43
  have a57 := (K49.2.2.1 b (by omega)).trans a44
  have k58 := keep_tr k46 K49 (by omega)
  have n50 : Y47.N = b + 14 := by omega
  refine g_aload_n C48 0 dX1_init_24 rfl ?_
  refine g_bipush C48 (v := (6 : Int32)) dX1_init_25 (by decide) ?_
  refine g_newA C48 hXa (id := b + 14) n50 .int .int rfl (List.mem_cons_of_mem _ mArr_I) Y47.cI 0 rfl (fun _ _ z => z) rfl (k := 6) (by decide) (by decide) (by decide) (by decide) (by decide) dX1_init_27 (fun Y59 x60 C61 K62 n63 a64 s65 => ?_)
  have f66 := isB_tr f53 K62 (by omega)
  have f67 := isX2_tr f54 K62 (by omega)
  have a68 := (K62.2.2.1 (b + 1) (by omega)).trans a55
  have a69 := (K62.2.2.1 (b + 2) (by omega)).trans a56
  have a70 := (K62.2.2.1 b (by omega)).trans a51
  have s71 := (K62.2.2.2 b (by omega) (by omega)).trans s52
  have f72 := isI_new s65 K62 n63
  have k73 := keep_tr k58 K62 (by omega)
  refine g_putR C61 hXi (i := b) (ty := (.array .int)) (ty0 := tyX1) (k := 11) (Nc := 12) (Cn := RX1) (T := TX1) (ci := 1) (by omega) a70 s71 rfl rfl (fun w hw => List.mem_cons_of_mem _ (inX1 w hw)) tyX1_ok nmX1 (by decide) (List.mem_cons_of_mem _ mF_RX1_22) rfl rfl rfl rfl rfl rfl (by decide : 11 < 12) (rt (fun c => [.ref x2, .int (c.1 1), .ref x23, .int (c.1 3), .int (c.1 4), .int (c.1 5), .int (c.1 6), .int (c.1 7), .int (c.1 8), .int (c.1 9), .int (c.1 10), .ref x60]) 1) rfl dX1_init_29 (fun Y74 C75 K76 n77 a78 s79 => ?_)
  have f80 := isB_tr f66 K76 (by omega)
  have f81 := isX2_tr f67 K76 (by omega)
  have f82 := isI_tr f72 K76 (by omega)
  have a83 := (K76.2.2.1 (b + 1) (by omega)).trans a68
  have a84 := (K76.2.2.1 (b + 2) (by omega)).trans a69
  have a85 := (K76.2.2.1 (b + 14) (by omega)).trans a64
  have a86 := (K76.2.2.1 b (by omega)).trans a70
  have k87 := keep_tr k73 K76 (by omega)
  have n77 : Y74.N = b + 15 := by omega
  have f88 : isX1 Y74 b := ⟨by omega, by rw [s79]; unfold sX1; rw [a83, a84, a85], f80, f81, f82⟩
  rw [← a78]
  exact sf_X1_init C75 (fun pc lv μ' hd q => hr pc lv Y74 μ' hd C75 k87 ⟨n77, f88, q⟩) (cx_YI C75) f88 h
set_option maxRecDepth 20000 in
set_option maxHeartbeats 4000000 in
theorem sf_X5_init {X : XT} {Y : YT} {l0 : Launch} {b : Nat} {Q : Mem → Prop} {μ : Mem} (C : Cx X Y 1 cX5_init RX5 WX5_init (rmC 3 61 4 47) l0) (hr : RVn X Y 1 cX5_init Q) (hI : YI Y) (h0 : isX5 Y b) (h : PSX5_init b μ Q) : G X Y 1 15 [(0, .ref (Y.ad b))] [] μ := by
  unfold PSX5_init at h
  exact hr _ _ _ dX5_init_15 h
set_option maxRecDepth 20000 in
set_option maxHeartbeats 8000000 in
theorem ok_X5_init {Y : YT} {l0 : Launch} {b : Nat} {μ : Mem} {Q : Mem → Prop} (hI : YI Y) (hN : Y.N = b + 1) (hS : Y.sh b = fX5) (h : PX5_init b μ Q) : MC l0 yX5_init WX5_init 3 61 4 47 Y b μ (fun Y' μ' => Y'.N = b + 5 ∧ isX5 Y' b ∧ Q μ') := by
  refine mC_of (cc := cX5_init) (maxL := 1) (by decide +kernel) rfl rfl hI (by decide) (fun X C hXa hXi hr => ?_)
  replace C : Cx (xset X 0 0) Y 1 cX5_init RX5 WX5_init (rmC 3 61 4 47) l0 := C
  obtain ⟨x0, hx0⟩ : ∃ x0, Y.ad b = x0 := ⟨_, rfl⟩
  rw [hx0]
  unfold PX5_init at h
  refine g_aload_n C 0 dX5_init_0 rfl ?_
  refine g_obj C (List.mem_cons_of_mem _ mM_RX5_3) (List.mem_cons_of_mem _ mObj_i) (List.mem_cons_of_mem _ mObj_c) (by decide) (by decide) dX5_init_1 ?_
  refine g_aload_n C 0 dX5_init_4 rfl ?_
  refine g_newO C hXa (id := b + 1) hN (Cn := RX0) (T := TX0) (Nc := 8) (ci := 0) (ty := tyX0) (fun w hw => List.mem_cons_of_mem _ (inX0 w hw)) tyX0_ok (List.mem_cons_of_mem _ mCl_RX5_9) (List.mem_cons_of_mem _ mIns_X0) (List.mem_cons_of_mem _ mInit_RX0) rfl [.null, .null, .int 0, .int 0, .int 0, .int 0, .int 0, .null] dfX0 fX0 rfl (by decide) (by decide) dX5_init_5 (fun Y1 x2 C3 K4 n5 a6 s7 => ?_)
  have a8 := (K4.2.2.1 b (by omega)).trans hx0
  have s9 := (K4.2.2.2 b (by omega) (by omega)).trans hS
  have k10 := keep_tr (keep_rf) K4 (by omega)
  refine g_dup C3 dX5_init_8 rfl ?_
  refine g_callC C3 hXa (ok_X0_init (cx_YI C3) (b := b + 1) n5 s7 h) (by omega) a6 (gw_good (fun w hw => by rcases List.mem_cons.mp hw with rfl | hw; exacts [mC_X0_init, hw])) rfl (List.mem_cons_of_mem _ mInit_RX0) (List.mem_cons_of_mem _ mM_RX5_11) (List.mem_cons_of_mem _ mI_X0_init) rfl dc_X0_init ⟨by decide, by decide⟩ (by decide) (by decide) (by decide) dX5_init_9 (fun Y11 m12 C13 K14 p15 => ?_)
  obtain ⟨n16, f17, h⟩ := p15
  have a18 := (K14.2.2.1 (b + 1) (by omega)).trans a6
  have a19 := (K14.2.2.1 b (by omega)).trans a8
  have s20 := (K14.2.2.2 b (by omega) (by omega)).trans s9
  have k21 := keep_tr k10 K14 (by omega)
  have n16 : Y11.N = b + 5 := by rw [n16]
  refine g_putR C13 hXi (i := b) (ty := (.object "NothingLeft$Kitchen")) (ty0 := tyX5) (k := 0) (Nc := 2) (Cn := RX5) (T := TX5) (ci := 5) (by omega) a19 s20 rfl rfl (fun w hw => List.mem_cons_of_mem _ (inX5 w hw)) tyX5_ok nmX5 (by decide) (List.mem_cons_of_mem _ mF_RX5_12) rfl rfl rfl rfl rfl rfl (by decide : 0 < 2) (rt (fun c => [.ref x2, .int (c.1 1)]) 5) rfl dX5_init_12 (fun Y22 C23 K24 n25 a26 s27 => ?_)
  have f28 := isX0_tr f17 K24 (by omega)
  have a29 := (K24.2.2.1 (b + 1) (by omega)).trans a18
  have a30 := (K24.2.2.1 b (by omega)).trans a19
  have k31 := keep_tr k21 K24 (by omega)
  have n25 : Y22.N = b + 5 := by omega
  have f32 : isX5 Y22 b := ⟨by omega, by rw [s27]; unfold sX5; rw [a29], f28⟩
  rw [← a26]
  exact sf_X5_init C23 (fun pc lv μ' hd q => hr pc lv Y22 μ' hd C23 k31 ⟨n25, f32, q⟩) (cx_YI C23) f32 h
set_option maxRecDepth 20000 in
set_option maxHeartbeats 4000000 in
theorem sf_X3_init {X : XT} {Y : YT} {l0 : Launch} {b : Nat} {Q : Mem → Prop} {μ : Mem} (C : Cx X Y 1 cX3_init RX3 WX3_init (rmC 4 81 35 362) l0) (hr : RVn X Y 1 cX3_init Q) (hI : YI Y) (h0 : isX3 Y b) (h : PSX3_init b μ Q) : G X Y 1 119 [(0, .ref (Y.ad b))] [] μ := by
  unfold PSX3_init at h
  exact hr _ _ _ dX3_init_119 h
set_option maxRecDepth 20000 in
set_option maxHeartbeats 8000000 in
theorem ok_X3_init {Y : YT} {l0 : Launch} {b : Nat} {μ : Mem} {Q : Mem → Prop} (hI : YI Y) (hN : Y.N = b + 1) (hS : Y.sh b = fX3) (h : PX3_init b μ Q) : MC l0 yX3_init WX3_init 4 81 35 362 Y b μ (fun Y' μ' => Y'.N = b + 36 ∧ isX3 Y' b ∧ Q μ') := by
  refine mC_of (cc := cX3_init) (maxL := 1) (by decide +kernel) rfl rfl hI (by decide) (fun X C hXa hXi hr => ?_)
  replace C : Cx (xset X 0 0) Y 1 cX3_init RX3 WX3_init (rmC 4 81 35 362) l0 := C
  obtain ⟨x0, hx0⟩ : ∃ x0, Y.ad b = x0 := ⟨_, rfl⟩
  rw [hx0]
  unfold PX3_init at h
  refine g_aload_n C 0 dX3_init_0 rfl ?_
  refine g_obj C (List.mem_cons_of_mem _ mM_RX3_3) (List.mem_cons_of_mem _ mObj_i) (List.mem_cons_of_mem _ mObj_c) (by decide) (by decide) dX3_init_1 ?_
  refine g_aload_n C 0 dX3_init_4 rfl ?_
  refine g_bipush C (v := (6 : Int32)) dX3_init_5 (by decide) ?_
  refine g_newQ C hXa (id := b + 1) hN (List.mem_cons_of_mem _ mCl_RX3_9) (k := 6) (by decide) (by decide) (by decide) (by decide) (by decide) dX3_init_7 (fun Y1 x2 C3 K4 n5 a6 s7 => ?_)
  have a8 := (K4.2.2.1 b (by omega)).trans hx0
  have s9 := (K4.2.2.2 b (by omega) (by omega)).trans hS
  have k10 := keep_tr (keep_rf) K4 (by omega)
  have s11 : Y1.sh (b + 1) = sO Y1.cK 6 (fun _ => none) := by rw [s7]; show sO Y.2.1.2.2.2 _ _ = sO Y1.2.1.2.2.2 _ _; rw [K4.1.2.1]
  refine g_dup C3 dX3_init_10 rfl ?_
  refine g_iconst C3 (v := (0 : Int32)) dX3_init_11 (by decide) ?_
  refine g_newO C3 hXa (id := b + 2) n5 (Cn := RX0) (T := TX0) (Nc := 8) (ci := 0) (ty := tyX0) (fun w hw => List.mem_cons_of_mem _ (inX0 w hw)) tyX0_ok (List.mem_cons_of_mem _ mCl_RX3_9) (List.mem_cons_of_mem _ mIns_X0) (List.mem_cons_of_mem _ mInit_RX0) rfl [.null, .null, .int 0, .int 0, .int 0, .int 0, .int 0, .null] dfX0 fX0 rfl (by decide) (by decide) dX3_init_12 (fun Y12 x13 C14 K15 n16 a17 s18 => ?_)
  have a19 := (K15.2.2.1 (b + 1) (by omega)).trans a6
  have a20 := (K15.2.2.1 b (by omega)).trans a8
  have s21 := (K15.2.2.2 b (by omega) (by omega)).trans s9
  have s22 : Y12.sh (b + 1) = sO Y12.cK 6 (fun _ => none) := by rw [K15.2.2.2 (b + 1) (by omega) (by omega), s11]; show sO Y1.2.1.2.2.2 _ _ = sO Y12.2.1.2.2.2 _ _; rw [K15.1.2.1]
  have k23 := keep_tr k10 K15 (by omega)
  refine g_dup C14 dX3_init_15 rfl ?_
  refine g_callC C14 hXa (ok_X0_init (cx_YI C14) (b := b + 2) n16 s18 h) (by omega) a17 (gw_good (fun w hw => by rcases List.mem_cons.mp hw with rfl | hw; exacts [mC_X0_init, hw])) rfl (List.mem_cons_of_mem _ mInit_RX0) (List.mem_cons_of_mem _ mM_RX3_11) (List.mem_cons_of_mem _ mI_X0_init) rfl dc_X0_init ⟨by decide, by decide⟩ (by decide) (by decide) (by decide) dX3_init_16 (fun Y24 m25 C26 K27 p28 => ?_)
  obtain ⟨n29, f30, h⟩ := p28
  have a31 := (K27.2.2.1 (b + 1) (by omega)).trans a19
  have a32 := (K27.2.2.1 (b + 2) (by omega)).trans a17
  have a33 := (K27.2.2.1 b (by omega)).trans a20
  have s34 := (K27.2.2.2 b (by omega) (by omega)).trans s21
  have s35 : Y24.sh (b + 1) = sO Y24.cK 6 (fun _ => none) := by rw [K27.2.2.2 (b + 1) (by omega) (by omega), s22]; show sO Y12.2.1.2.2.2 _ _ = sO Y24.2.1.2.2.2 _ _; rw [K27.1.2.1]
  have k36 := keep_tr k23 K27 (by omega)
  have n29 : Y24.N = b + 6 := by rw [n29]
  refine g_astq C26 (a := b + 1) (b := b + 2) (n := 6) (f := (fun _ => none)) (by omega) a31 s35 (by omega) a32 (by rw [isX0_sh f30]; rfl) (by decide) dX3_init_19 (fun Y37 C38 K39 n40 a41 s42 => ?_)
  have f43 := isX0_tr f30 K39 (by omega)
  have a44 := (K39.2.2.1 (b + 2) (by omega)).trans a32
  have a45 := (K39.2.2.1 b (by omega)).trans a33
  have s46 := (K39.2.2.2 b (by omega) (by omega)).trans s34
  have s47 : Y37.sh (b + 1) = sO Y37.cK 6 (va_up (fun _ => none) (0 : Int32).toNatClampNeg (some x13)) := by rw [s42]; show sO Y24.2.1.2.2.2 _ _ = sO Y37.2.1.2.2.2 _ _; rw [K39.1.2.1]
  have k48 := keep_tr k36 K39 (by omega)
  have n40 : Y37.N = b + 6 := by omega
  refine g_dup C38 dX3_init_20 rfl ?_
  refine g_iconst C38 (v := (1 : Int32)) dX3_init_21 (by decide) ?_
  refine g_newO C38 hXa (id := b + 6) n40 (Cn := RX0) (T := TX0) (Nc := 8) (ci := 0) (ty := tyX0) (fun w hw => List.mem_cons_of_mem _ (inX0 w hw)) tyX0_ok (List.mem_cons_of_mem _ mCl_RX3_9) (List.mem_cons_of_mem _ mIns_X0) (List.mem_cons_of_mem _ mInit_RX0) rfl [.null, .null, .int 0, .int 0, .int 0, .int 0, .int 0, .null] dfX0 fX0 rfl (by decide) (by decide) dX3_init_22 (fun Y49 x50 C51 K52 n53 a54 s55 => ?_)
  have f56 := isX0_tr f43 K52 (by omega)
  have a57 := (K52.2.2.1 (b + 2) (by omega)).trans a44
  have a58 := (K52.2.2.1 (b + 1) (by omega)).trans a41
  have a59 := (K52.2.2.1 b (by omega)).trans a45
  have s60 := (K52.2.2.2 b (by omega) (by omega)).trans s46
  have s61 : Y49.sh (b + 1) = sO Y49.cK 6 (va_up (fun _ => none) (0 : Int32).toNatClampNeg (some x13)) := by rw [K52.2.2.2 (b + 1) (by omega) (by omega), s47]; show sO Y37.2.1.2.2.2 _ _ = sO Y49.2.1.2.2.2 _ _; rw [K52.1.2.1]
  have k62 := keep_tr k48 K52 (by omega)
  refine g_dup C51 dX3_init_25 rfl ?_
  refine g_callC C51 hXa (ok_X0_init (cx_YI C51) (b := b + 6) n53 s55 h) (by omega) a54 (gw_good (fun w hw => by rcases List.mem_cons.mp hw with rfl | hw; exacts [mC_X0_init, hw])) rfl (List.mem_cons_of_mem _ mInit_RX0) (List.mem_cons_of_mem _ mM_RX3_11) (List.mem_cons_of_mem _ mI_X0_init) rfl dc_X0_init ⟨by decide, by decide⟩ (by decide) (by decide) (by decide) dX3_init_26 (fun Y63 m64 C65 K66 p67 => ?_)
  obtain ⟨n68, f69, h⟩ := p67
  have f70 := isX0_tr f56 K66 (by omega)
  have a71 := (K66.2.2.1 (b + 2) (by omega)).trans a57
  have a72 := (K66.2.2.1 (b + 1) (by omega)).trans a58
  have a73 := (K66.2.2.1 (b + 6) (by omega)).trans a54
  have a74 := (K66.2.2.1 b (by omega)).trans a59
  have s75 := (K66.2.2.2 b (by omega) (by omega)).trans s60
  have s76 : Y63.sh (b + 1) = sO Y63.cK 6 (va_up (fun _ => none) (0 : Int32).toNatClampNeg (some x13)) := by rw [K66.2.2.2 (b + 1) (by omega) (by omega), s61]; show sO Y49.2.1.2.2.2 _ _ = sO Y63.2.1.2.2.2 _ _; rw [K66.1.2.1]
  have k77 := keep_tr k62 K66 (by omega)
  have n68 : Y63.N = b + 10 := by rw [n68]
  refine g_astq C65 (a := b + 1) (b := b + 6) (n := 6) (f := (va_up (fun _ => none) (0 : Int32).toNatClampNeg (some x13))) (by omega) a72 s76 (by omega) a73 (by rw [isX0_sh f69]; rfl) (by decide) dX3_init_29 (fun Y78 C79 K80 n81 a82 s83 => ?_)
  have f84 := isX0_tr f70 K80 (by omega)
  have f85 := isX0_tr f69 K80 (by omega)
  have a86 := (K80.2.2.1 (b + 2) (by omega)).trans a71
  have a87 := (K80.2.2.1 (b + 6) (by omega)).trans a73
  have a88 := (K80.2.2.1 b (by omega)).trans a74
  have s89 := (K80.2.2.2 b (by omega) (by omega)).trans s75
  have s90 : Y78.sh (b + 1) = sO Y78.cK 6 (va_up (va_up (fun _ => none) (0 : Int32).toNatClampNeg (some x13)) (1 : Int32).toNatClampNeg (some x50)) := by rw [s83]; show sO Y63.2.1.2.2.2 _ _ = sO Y78.2.1.2.2.2 _ _; rw [K80.1.2.1]
  have k91 := keep_tr k77 K80 (by omega)
  have n81 : Y78.N = b + 10 := by omega
  refine g_dup C79 dX3_init_30 rfl ?_
  refine g_iconst C79 (v := (2 : Int32)) dX3_init_31 (by decide) ?_
  refine g_newO C79 hXa (id := b + 10) n81 (Cn := RX0) (T := TX0) (Nc := 8) (ci := 0) (ty := tyX0) (fun w hw => List.mem_cons_of_mem _ (inX0 w hw)) tyX0_ok (List.mem_cons_of_mem _ mCl_RX3_9) (List.mem_cons_of_mem _ mIns_X0) (List.mem_cons_of_mem _ mInit_RX0) rfl [.null, .null, .int 0, .int 0, .int 0, .int 0, .int 0, .null] dfX0 fX0 rfl (by decide) (by decide) dX3_init_32 (fun Y92 x93 C94 K95 n96 a97 s98 => ?_)
  have f99 := isX0_tr f84 K95 (by omega)
  have f100 := isX0_tr f85 K95 (by omega)
  have a101 := (K95.2.2.1 (b + 2) (by omega)).trans a86
  have a102 := (K95.2.2.1 (b + 6) (by omega)).trans a87
  have a103 := (K95.2.2.1 (b + 1) (by omega)).trans a82
  have a104 := (K95.2.2.1 b (by omega)).trans a88
  have s105 := (K95.2.2.2 b (by omega) (by omega)).trans s89
  have s106 : Y92.sh (b + 1) = sO Y92.cK 6 (va_up (va_up (fun _ => none) (0 : Int32).toNatClampNeg (some x13)) (1 : Int32).toNatClampNeg (some x50)) := by rw [K95.2.2.2 (b + 1) (by omega) (by omega), s90]; show sO Y78.2.1.2.2.2 _ _ = sO Y92.2.1.2.2.2 _ _; rw [K95.1.2.1]
  have k107 := keep_tr k91 K95 (by omega)
  refine g_dup C94 dX3_init_35 rfl ?_
  refine g_callC C94 hXa (ok_X0_init (cx_YI C94) (b := b + 10) n96 s98 h) (by omega) a97 (gw_good (fun w hw => by rcases List.mem_cons.mp hw with rfl | hw; exacts [mC_X0_init, hw])) rfl (List.mem_cons_of_mem _ mInit_RX0) (List.mem_cons_of_mem _ mM_RX3_11) (List.mem_cons_of_mem _ mI_X0_init) rfl dc_X0_init ⟨by decide, by decide⟩ (by decide) (by decide) (by decide) dX3_init_36 (fun Y108 m109 C110 K111 p112 => ?_)
  obtain ⟨n113, f114, h⟩ := p112
  have f115 := isX0_tr f99 K111 (by omega)
  have f116 := isX0_tr f100 K111 (by omega)
  have a117 := (K111.2.2.1 (b + 2) (by omega)).trans a101
  have a118 := (K111.2.2.1 (b + 6) (by omega)).trans a102
  have a119 := (K111.2.2.1 (b + 1) (by omega)).trans a103
  have a120 := (K111.2.2.1 (b + 10) (by omega)).trans a97
  have a121 := (K111.2.2.1 b (by omega)).trans a104
  have s122 := (K111.2.2.2 b (by omega) (by omega)).trans s105
  have s123 : Y108.sh (b + 1) = sO Y108.cK 6 (va_up (va_up (fun _ => none) (0 : Int32).toNatClampNeg (some x13)) (1 : Int32).toNatClampNeg (some x50)) := by rw [K111.2.2.2 (b + 1) (by omega) (by omega), s106]; show sO Y92.2.1.2.2.2 _ _ = sO Y108.2.1.2.2.2 _ _; rw [K111.1.2.1]
  have k124 := keep_tr k107 K111 (by omega)
  have n113 : Y108.N = b + 14 := by rw [n113]
  refine g_astq C110 (a := b + 1) (b := b + 10) (n := 6) (f := (va_up (va_up (fun _ => none) (0 : Int32).toNatClampNeg (some x13)) (1 : Int32).toNatClampNeg (some x50))) (by omega) a119 s123 (by omega) a120 (by rw [isX0_sh f114]; rfl) (by decide) dX3_init_39 (fun Y125 C126 K127 n128 a129 s130 => ?_)
  have f131 := isX0_tr f115 K127 (by omega)
  have f132 := isX0_tr f116 K127 (by omega)
  have f133 := isX0_tr f114 K127 (by omega)
  have a134 := (K127.2.2.1 (b + 2) (by omega)).trans a117
  have a135 := (K127.2.2.1 (b + 6) (by omega)).trans a118
  have a136 := (K127.2.2.1 (b + 10) (by omega)).trans a120
  have a137 := (K127.2.2.1 b (by omega)).trans a121
  have s138 := (K127.2.2.2 b (by omega) (by omega)).trans s122
  have s139 : Y125.sh (b + 1) = sO Y125.cK 6 (va_up (va_up (va_up (fun _ => none) (0 : Int32).toNatClampNeg (some x13)) (1 : Int32).toNatClampNeg (some x50)) (2 : Int32).toNatClampNeg (some x93)) := by rw [s130]; show sO Y108.2.1.2.2.2 _ _ = sO Y125.2.1.2.2.2 _ _; rw [K127.1.2.1]
  have k140 := keep_tr k124 K127 (by omega)
  have n128 : Y125.N = b + 14 := by omega
  refine g_dup C126 dX3_init_40 rfl ?_
  refine g_iconst C126 (v := (3 : Int32)) dX3_init_41 (by decide) ?_
  refine g_newO C126 hXa (id := b + 14) n128 (Cn := RX0) (T := TX0) (Nc := 8) (ci := 0) (ty := tyX0) (fun w hw => List.mem_cons_of_mem _ (inX0 w hw)) tyX0_ok (List.mem_cons_of_mem _ mCl_RX3_9) (List.mem_cons_of_mem _ mIns_X0) (List.mem_cons_of_mem _ mInit_RX0) rfl [.null, .null, .int 0, .int 0, .int 0, .int 0, .int 0, .null] dfX0 fX0 rfl (by decide) (by decide) dX3_init_42 (fun Y141 x142 C143 K144 n145 a146 s147 => ?_)
  have f148 := isX0_tr f131 K144 (by omega)
  have f149 := isX0_tr f132 K144 (by omega)
  have f150 := isX0_tr f133 K144 (by omega)
  have a151 := (K144.2.2.1 (b + 2) (by omega)).trans a134
  have a152 := (K144.2.2.1 (b + 6) (by omega)).trans a135
  have a153 := (K144.2.2.1 (b + 10) (by omega)).trans a136
  have a154 := (K144.2.2.1 (b + 1) (by omega)).trans a129
  have a155 := (K144.2.2.1 b (by omega)).trans a137
  have s156 := (K144.2.2.2 b (by omega) (by omega)).trans s138
  have s157 : Y141.sh (b + 1) = sO Y141.cK 6 (va_up (va_up (va_up (fun _ => none) (0 : Int32).toNatClampNeg (some x13)) (1 : Int32).toNatClampNeg (some x50)) (2 : Int32).toNatClampNeg (some x93)) := by rw [K144.2.2.2 (b + 1) (by omega) (by omega), s139]; show sO Y125.2.1.2.2.2 _ _ = sO Y141.2.1.2.2.2 _ _; rw [K144.1.2.1]
  have k158 := keep_tr k140 K144 (by omega)
  refine g_dup C143 dX3_init_45 rfl ?_
  refine g_callC C143 hXa (ok_X0_init (cx_YI C143) (b := b + 14) n145 s147 h) (by omega) a146 (gw_good (fun w hw => by rcases List.mem_cons.mp hw with rfl | hw; exacts [mC_X0_init, hw])) rfl (List.mem_cons_of_mem _ mInit_RX0) (List.mem_cons_of_mem _ mM_RX3_11) (List.mem_cons_of_mem _ mI_X0_init) rfl dc_X0_init ⟨by decide, by decide⟩ (by decide) (by decide) (by decide) dX3_init_46 (fun Y159 m160 C161 K162 p163 => ?_)
  obtain ⟨n164, f165, h⟩ := p163
  have f166 := isX0_tr f148 K162 (by omega)
  have f167 := isX0_tr f149 K162 (by omega)
  have f168 := isX0_tr f150 K162 (by omega)
  have a169 := (K162.2.2.1 (b + 2) (by omega)).trans a151
  have a170 := (K162.2.2.1 (b + 6) (by omega)).trans a152
  have a171 := (K162.2.2.1 (b + 10) (by omega)).trans a153
  have a172 := (K162.2.2.1 (b + 1) (by omega)).trans a154
  have a173 := (K162.2.2.1 (b + 14) (by omega)).trans a146
  have a174 := (K162.2.2.1 b (by omega)).trans a155
  have s175 := (K162.2.2.2 b (by omega) (by omega)).trans s156
  have s176 : Y159.sh (b + 1) = sO Y159.cK 6 (va_up (va_up (va_up (fun _ => none) (0 : Int32).toNatClampNeg (some x13)) (1 : Int32).toNatClampNeg (some x50)) (2 : Int32).toNatClampNeg (some x93)) := by rw [K162.2.2.2 (b + 1) (by omega) (by omega), s157]; show sO Y141.2.1.2.2.2 _ _ = sO Y159.2.1.2.2.2 _ _; rw [K162.1.2.1]
  have k177 := keep_tr k158 K162 (by omega)
  have n164 : Y159.N = b + 18 := by rw [n164]
  refine g_astq C161 (a := b + 1) (b := b + 14) (n := 6) (f := (va_up (va_up (va_up (fun _ => none) (0 : Int32).toNatClampNeg (some x13)) (1 : Int32).toNatClampNeg (some x50)) (2 : Int32).toNatClampNeg (some x93))) (by omega) a172 s176 (by omega) a173 (by rw [isX0_sh f165]; rfl) (by decide) dX3_init_49 (fun Y178 C179 K180 n181 a182 s183 => ?_)
  have f184 := isX0_tr f166 K180 (by omega)
  have f185 := isX0_tr f167 K180 (by omega)
  have f186 := isX0_tr f168 K180 (by omega)
  have f187 := isX0_tr f165 K180 (by omega)
  have a188 := (K180.2.2.1 (b + 2) (by omega)).trans a169
  have a189 := (K180.2.2.1 (b + 6) (by omega)).trans a170
  have a190 := (K180.2.2.1 (b + 10) (by omega)).trans a171
  have a191 := (K180.2.2.1 (b + 14) (by omega)).trans a173
  have a192 := (K180.2.2.1 b (by omega)).trans a174
  have s193 := (K180.2.2.2 b (by omega) (by omega)).trans s175
  have s194 : Y178.sh (b + 1) = sO Y178.cK 6 (va_up (va_up (va_up (va_up (fun _ => none) (0 : Int32).toNatClampNeg (some x13)) (1 : Int32).toNatClampNeg (some x50)) (2 : Int32).toNatClampNeg (some x93)) (3 : Int32).toNatClampNeg (some x142)) := by rw [s183]; show sO Y159.2.1.2.2.2 _ _ = sO Y178.2.1.2.2.2 _ _; rw [K180.1.2.1]
  have k195 := keep_tr k177 K180 (by omega)
  have n181 : Y178.N = b + 18 := by omega
  refine g_dup C179 dX3_init_50 rfl ?_
  refine g_iconst C179 (v := (4 : Int32)) dX3_init_51 (by decide) ?_
  refine g_newO C179 hXa (id := b + 18) n181 (Cn := RX0) (T := TX0) (Nc := 8) (ci := 0) (ty := tyX0) (fun w hw => List.mem_cons_of_mem _ (inX0 w hw)) tyX0_ok (List.mem_cons_of_mem _ mCl_RX3_9) (List.mem_cons_of_mem _ mIns_X0) (List.mem_cons_of_mem _ mInit_RX0) rfl [.null, .null, .int 0, .int 0, .int 0, .int 0, .int 0, .null] dfX0 fX0 rfl (by decide) (by decide) dX3_init_52 (fun Y196 x197 C198 K199 n200 a201 s202 => ?_)
  have f203 := isX0_tr f184 K199 (by omega)
  have f204 := isX0_tr f185 K199 (by omega)
  have f205 := isX0_tr f186 K199 (by omega)
  have f206 := isX0_tr f187 K199 (by omega)
  have a207 := (K199.2.2.1 (b + 2) (by omega)).trans a188
  have a208 := (K199.2.2.1 (b + 6) (by omega)).trans a189
  have a209 := (K199.2.2.1 (b + 10) (by omega)).trans a190
  have a210 := (K199.2.2.1 (b + 14) (by omega)).trans a191
  have a211 := (K199.2.2.1 (b + 1) (by omega)).trans a182
  have a212 := (K199.2.2.1 b (by omega)).trans a192
  have s213 := (K199.2.2.2 b (by omega) (by omega)).trans s193
  have s214 : Y196.sh (b + 1) = sO Y196.cK 6 (va_up (va_up (va_up (va_up (fun _ => none) (0 : Int32).toNatClampNeg (some x13)) (1 : Int32).toNatClampNeg (some x50)) (2 : Int32).toNatClampNeg (some x93)) (3 : Int32).toNatClampNeg (some x142)) := by rw [K199.2.2.2 (b + 1) (by omega) (by omega), s194]; show sO Y178.2.1.2.2.2 _ _ = sO Y196.2.1.2.2.2 _ _; rw [K199.1.2.1]
  have k215 := keep_tr k195 K199 (by omega)
  refine g_dup C198 dX3_init_55 rfl ?_
  refine g_callC C198 hXa (ok_X0_init (cx_YI C198) (b := b + 18) n200 s202 h) (by omega) a201 (gw_good (fun w hw => by rcases List.mem_cons.mp hw with rfl | hw; exacts [mC_X0_init, hw])) rfl (List.mem_cons_of_mem _ mInit_RX0) (List.mem_cons_of_mem _ mM_RX3_11) (List.mem_cons_of_mem _ mI_X0_init) rfl dc_X0_init ⟨by decide, by decide⟩ (by decide) (by decide) (by decide) dX3_init_56 (fun Y216 m217 C218 K219 p220 => ?_)
  obtain ⟨n221, f222, h⟩ := p220
  have f223 := isX0_tr f203 K219 (by omega)
  have f224 := isX0_tr f204 K219 (by omega)
  have f225 := isX0_tr f205 K219 (by omega)
  have f226 := isX0_tr f206 K219 (by omega)
  have a227 := (K219.2.2.1 (b + 2) (by omega)).trans a207
  have a228 := (K219.2.2.1 (b + 6) (by omega)).trans a208
  have a229 := (K219.2.2.1 (b + 10) (by omega)).trans a209
  have a230 := (K219.2.2.1 (b + 14) (by omega)).trans a210
  have a231 := (K219.2.2.1 (b + 1) (by omega)).trans a211
  have a232 := (K219.2.2.1 (b + 18) (by omega)).trans a201
  have a233 := (K219.2.2.1 b (by omega)).trans a212
  have s234 := (K219.2.2.2 b (by omega) (by omega)).trans s213
  have s235 : Y216.sh (b + 1) = sO Y216.cK 6 (va_up (va_up (va_up (va_up (fun _ => none) (0 : Int32).toNatClampNeg (some x13)) (1 : Int32).toNatClampNeg (some x50)) (2 : Int32).toNatClampNeg (some x93)) (3 : Int32).toNatClampNeg (some x142)) := by rw [K219.2.2.2 (b + 1) (by omega) (by omega), s214]; show sO Y196.2.1.2.2.2 _ _ = sO Y216.2.1.2.2.2 _ _; rw [K219.1.2.1]
  have k236 := keep_tr k215 K219 (by omega)
  have n221 : Y216.N = b + 22 := by rw [n221]
  refine g_astq C218 (a := b + 1) (b := b + 18) (n := 6) (f := (va_up (va_up (va_up (va_up (fun _ => none) (0 : Int32).toNatClampNeg (some x13)) (1 : Int32).toNatClampNeg (some x50)) (2 : Int32).toNatClampNeg (some x93)) (3 : Int32).toNatClampNeg (some x142))) (by omega) a231 s235 (by omega) a232 (by rw [isX0_sh f222]; rfl) (by decide) dX3_init_59 (fun Y237 C238 K239 n240 a241 s242 => ?_)
  have f243 := isX0_tr f223 K239 (by omega)
  have f244 := isX0_tr f224 K239 (by omega)
  have f245 := isX0_tr f225 K239 (by omega)
  have f246 := isX0_tr f226 K239 (by omega)
  have f247 := isX0_tr f222 K239 (by omega)
  have a248 := (K239.2.2.1 (b + 2) (by omega)).trans a227
  have a249 := (K239.2.2.1 (b + 6) (by omega)).trans a228
  have a250 := (K239.2.2.1 (b + 10) (by omega)).trans a229
  have a251 := (K239.2.2.1 (b + 14) (by omega)).trans a230
  have a252 := (K239.2.2.1 (b + 18) (by omega)).trans a232
  have a253 := (K239.2.2.1 b (by omega)).trans a233
  have s254 := (K239.2.2.2 b (by omega) (by omega)).trans s234
  have s255 : Y237.sh (b + 1) = sO Y237.cK 6 (va_up (va_up (va_up (va_up (va_up (fun _ => none) (0 : Int32).toNatClampNeg (some x13)) (1 : Int32).toNatClampNeg (some x50)) (2 : Int32).toNatClampNeg (some x93)) (3 : Int32).toNatClampNeg (some x142)) (4 : Int32).toNatClampNeg (some x197)) := by rw [s242]; show sO Y216.2.1.2.2.2 _ _ = sO Y237.2.1.2.2.2 _ _; rw [K239.1.2.1]
  have k256 := keep_tr k236 K239 (by omega)
  have n240 : Y237.N = b + 22 := by omega
  refine g_dup C238 dX3_init_60 rfl ?_
  refine g_iconst C238 (v := (5 : Int32)) dX3_init_61 (by decide) ?_
  refine g_newO C238 hXa (id := b + 22) n240 (Cn := RX0) (T := TX0) (Nc := 8) (ci := 0) (ty := tyX0) (fun w hw => List.mem_cons_of_mem _ (inX0 w hw)) tyX0_ok (List.mem_cons_of_mem _ mCl_RX3_9) (List.mem_cons_of_mem _ mIns_X0) (List.mem_cons_of_mem _ mInit_RX0) rfl [.null, .null, .int 0, .int 0, .int 0, .int 0, .int 0, .null] dfX0 fX0 rfl (by decide) (by decide) dX3_init_62 (fun Y257 x258 C259 K260 n261 a262 s263 => ?_)
  have f264 := isX0_tr f243 K260 (by omega)
  have f265 := isX0_tr f244 K260 (by omega)
  have f266 := isX0_tr f245 K260 (by omega)
  have f267 := isX0_tr f246 K260 (by omega)
  have f268 := isX0_tr f247 K260 (by omega)
  have a269 := (K260.2.2.1 (b + 2) (by omega)).trans a248
  have a270 := (K260.2.2.1 (b + 6) (by omega)).trans a249
  have a271 := (K260.2.2.1 (b + 10) (by omega)).trans a250
  have a272 := (K260.2.2.1 (b + 14) (by omega)).trans a251
  have a273 := (K260.2.2.1 (b + 18) (by omega)).trans a252
  have a274 := (K260.2.2.1 (b + 1) (by omega)).trans a241
  have a275 := (K260.2.2.1 b (by omega)).trans a253
  have s276 := (K260.2.2.2 b (by omega) (by omega)).trans s254
  have s277 : Y257.sh (b + 1) = sO Y257.cK 6 (va_up (va_up (va_up (va_up (va_up (fun _ => none) (0 : Int32).toNatClampNeg (some x13)) (1 : Int32).toNatClampNeg (some x50)) (2 : Int32).toNatClampNeg (some x93)) (3 : Int32).toNatClampNeg (some x142)) (4 : Int32).toNatClampNeg (some x197)) := by rw [K260.2.2.2 (b + 1) (by omega) (by omega), s255]; show sO Y237.2.1.2.2.2 _ _ = sO Y257.2.1.2.2.2 _ _; rw [K260.1.2.1]
  have k278 := keep_tr k256 K260 (by omega)
  refine g_dup C259 dX3_init_65 rfl ?_
  refine g_callC C259 hXa (ok_X0_init (cx_YI C259) (b := b + 22) n261 s263 h) (by omega) a262 (gw_good (fun w hw => by rcases List.mem_cons.mp hw with rfl | hw; exacts [mC_X0_init, hw])) rfl (List.mem_cons_of_mem _ mInit_RX0) (List.mem_cons_of_mem _ mM_RX3_11) (List.mem_cons_of_mem _ mI_X0_init) rfl dc_X0_init ⟨by decide, by decide⟩ (by decide) (by decide) (by decide) dX3_init_66 (fun Y279 m280 C281 K282 p283 => ?_)
  obtain ⟨n284, f285, h⟩ := p283
  have f286 := isX0_tr f264 K282 (by omega)
  have f287 := isX0_tr f265 K282 (by omega)
  have f288 := isX0_tr f266 K282 (by omega)
  have f289 := isX0_tr f267 K282 (by omega)
  have f290 := isX0_tr f268 K282 (by omega)
  have a291 := (K282.2.2.1 (b + 2) (by omega)).trans a269
  have a292 := (K282.2.2.1 (b + 6) (by omega)).trans a270
  have a293 := (K282.2.2.1 (b + 10) (by omega)).trans a271
  have a294 := (K282.2.2.1 (b + 14) (by omega)).trans a272
  have a295 := (K282.2.2.1 (b + 18) (by omega)).trans a273
  have a296 := (K282.2.2.1 (b + 1) (by omega)).trans a274
  have a297 := (K282.2.2.1 (b + 22) (by omega)).trans a262
  have a298 := (K282.2.2.1 b (by omega)).trans a275
  have s299 := (K282.2.2.2 b (by omega) (by omega)).trans s276
  have s300 : Y279.sh (b + 1) = sO Y279.cK 6 (va_up (va_up (va_up (va_up (va_up (fun _ => none) (0 : Int32).toNatClampNeg (some x13)) (1 : Int32).toNatClampNeg (some x50)) (2 : Int32).toNatClampNeg (some x93)) (3 : Int32).toNatClampNeg (some x142)) (4 : Int32).toNatClampNeg (some x197)) := by rw [K282.2.2.2 (b + 1) (by omega) (by omega), s277]; show sO Y257.2.1.2.2.2 _ _ = sO Y279.2.1.2.2.2 _ _; rw [K282.1.2.1]
  have k301 := keep_tr k278 K282 (by omega)
  have n284 : Y279.N = b + 26 := by rw [n284]
  refine g_astq C281 (a := b + 1) (b := b + 22) (n := 6) (f := (va_up (va_up (va_up (va_up (va_up (fun _ => none) (0 : Int32).toNatClampNeg (some x13)) (1 : Int32).toNatClampNeg (some x50)) (2 : Int32).toNatClampNeg (some x93)) (3 : Int32).toNatClampNeg (some x142)) (4 : Int32).toNatClampNeg (some x197))) (by omega) a296 s300 (by omega) a297 (by rw [isX0_sh f285]; rfl) (by decide) dX3_init_69 (fun Y302 C303 K304 n305 a306 s307 => ?_)
  have f308 := isX0_tr f286 K304 (by omega)
  have f309 := isX0_tr f287 K304 (by omega)
  have f310 := isX0_tr f288 K304 (by omega)
  have f311 := isX0_tr f289 K304 (by omega)
  have f312 := isX0_tr f290 K304 (by omega)
  have f313 := isX0_tr f285 K304 (by omega)
  have a314 := (K304.2.2.1 (b + 2) (by omega)).trans a291
  have a315 := (K304.2.2.1 (b + 6) (by omega)).trans a292
  have a316 := (K304.2.2.1 (b + 10) (by omega)).trans a293
  have a317 := (K304.2.2.1 (b + 14) (by omega)).trans a294
  have a318 := (K304.2.2.1 (b + 18) (by omega)).trans a295
  have a319 := (K304.2.2.1 (b + 22) (by omega)).trans a297
  have a320 := (K304.2.2.1 b (by omega)).trans a298
  have s321 := (K304.2.2.2 b (by omega) (by omega)).trans s299
  have s322 : Y302.sh (b + 1) = sO Y302.cK 6 (va_up (va_up (va_up (va_up (va_up (va_up (fun _ => none) (0 : Int32).toNatClampNeg (some x13)) (1 : Int32).toNatClampNeg (some x50)) (2 : Int32).toNatClampNeg (some x93)) (3 : Int32).toNatClampNeg (some x142)) (4 : Int32).toNatClampNeg (some x197)) (5 : Int32).toNatClampNeg (some x258)) := by rw [s307]; show sO Y279.2.1.2.2.2 _ _ = sO Y302.2.1.2.2.2 _ _; rw [K304.1.2.1]
  have k323 := keep_tr k301 K304 (by omega)
  have n305 : Y302.N = b + 26 := by omega
  refine g_putR C303 hXi (i := b) (ty := (.array (.object "NothingLeft$Kitchen"))) (ty0 := tyX3) (k := 0) (Nc := 18) (Cn := RX3) (T := TX3) (ci := 3) (by omega) a320 s321 rfl rfl (fun w hw => List.mem_cons_of_mem _ (inX3 w hw)) tyX3_ok nmX3 (by decide) (List.mem_cons_of_mem _ mF_RX3_12) rfl rfl rfl rfl rfl rfl (by decide : 0 < 18) (rt (fun c => [.ref x2, .null, .null, .int (c.1 3), .long (c.2 4), .int (c.1 5), .int (c.1 6), .int (c.1 7), .int (c.1 8), .null, .long (c.2 10), .int (c.1 11), .null, .int (c.1 13), .null, .int (c.1 15), .int (c.1 16), .null]) 3) rfl dX3_init_70 (fun Y324 C325 K326 n327 a328 s329 => ?_)
  have f330 := isX0_tr f308 K326 (by omega)
  have f331 := isX0_tr f309 K326 (by omega)
  have f332 := isX0_tr f310 K326 (by omega)
  have f333 := isX0_tr f311 K326 (by omega)
  have f334 := isX0_tr f312 K326 (by omega)
  have f335 := isX0_tr f313 K326 (by omega)
  have a336 := (K326.2.2.1 (b + 2) (by omega)).trans a314
  have a337 := (K326.2.2.1 (b + 6) (by omega)).trans a315
  have a338 := (K326.2.2.1 (b + 10) (by omega)).trans a316
  have a339 := (K326.2.2.1 (b + 14) (by omega)).trans a317
  have a340 := (K326.2.2.1 (b + 18) (by omega)).trans a318
  have a341 := (K326.2.2.1 (b + 22) (by omega)).trans a319
  have a342 := (K326.2.2.1 (b + 1) (by omega)).trans a306
  have a343 := (K326.2.2.1 b (by omega)).trans a320
  have s344 : Y324.sh (b + 1) = sO Y324.cK 6 (va_up (va_up (va_up (va_up (va_up (va_up (fun _ => none) (0 : Int32).toNatClampNeg (some x13)) (1 : Int32).toNatClampNeg (some x50)) (2 : Int32).toNatClampNeg (some x93)) (3 : Int32).toNatClampNeg (some x142)) (4 : Int32).toNatClampNeg (some x197)) (5 : Int32).toNatClampNeg (some x258)) := by rw [K326.2.2.2 (b + 1) (by omega) (by omega), s322]; show sO Y302.2.1.2.2.2 _ _ = sO Y324.2.1.2.2.2 _ _; rw [K326.1.2.1]
  have k345 := keep_tr k323 K326 (by omega)
  have n327 : Y324.N = b + 26 := by omega
  refine g_aload_n C325 0 dX3_init_73 rfl ?_
  refine g_iconst C325 (v := (5 : Int32)) dX3_init_74 (by decide) ?_
  refine g_newA C325 hXa (id := b + 26) n327 .int .int rfl (List.mem_cons_of_mem _ mArr_I) Y324.cI 0 rfl (fun _ _ z => z) rfl (k := 5) (by decide) (by decide) (by decide) (by decide) (by decide) dX3_init_75 (fun Y346 x347 C348 K349 n350 a351 s352 => ?_)
  have f353 := isX0_tr f330 K349 (by omega)
  have f354 := isX0_tr f331 K349 (by omega)
  have f355 := isX0_tr f332 K349 (by omega)
  have f356 := isX0_tr f333 K349 (by omega)
  have f357 := isX0_tr f334 K349 (by omega)
  have f358 := isX0_tr f335 K349 (by omega)
  have a359 := (K349.2.2.1 (b + 2) (by omega)).trans a336
  have a360 := (K349.2.2.1 (b + 6) (by omega)).trans a337
  have a361 := (K349.2.2.1 (b + 10) (by omega)).trans a338
  have a362 := (K349.2.2.1 (b + 14) (by omega)).trans a339
  have a363 := (K349.2.2.1 (b + 18) (by omega)).trans a340
  have a364 := (K349.2.2.1 (b + 22) (by omega)).trans a341
  have a365 := (K349.2.2.1 (b + 1) (by omega)).trans a342
  have a366 := (K349.2.2.1 b (by omega)).trans a328
  have s367 := (K349.2.2.2 b (by omega) (by omega)).trans s329
  have f368 := isI_new s352 K349 n350
  have k369 := keep_tr k345 K349 (by omega)
  refine g_putR C348 hXi (i := b) (ty := (.array .int)) (ty0 := tyX3) (k := 1) (Nc := 18) (Cn := RX3) (T := TX3) (ci := 3) (by omega) a366 s367 rfl rfl (fun w hw => List.mem_cons_of_mem _ (inX3 w hw)) tyX3_ok nmX3 (by decide) (List.mem_cons_of_mem _ mF_RX3_18) rfl rfl rfl rfl rfl rfl (by decide : 1 < 18) (rt (fun c => [.ref x2, .ref x347, .null, .int (c.1 3), .long (c.2 4), .int (c.1 5), .int (c.1 6), .int (c.1 7), .int (c.1 8), .null, .long (c.2 10), .int (c.1 11), .null, .int (c.1 13), .null, .int (c.1 15), .int (c.1 16), .null]) 3) rfl dX3_init_77 (fun Y370 C371 K372 n373 a374 s375 => ?_)
  have f376 := isX0_tr f353 K372 (by omega)
  have f377 := isX0_tr f354 K372 (by omega)
  have f378 := isX0_tr f355 K372 (by omega)
  have f379 := isX0_tr f356 K372 (by omega)
  have f380 := isX0_tr f357 K372 (by omega)
  have f381 := isX0_tr f358 K372 (by omega)
  have f382 := isI_tr f368 K372 (by omega)
  have a383 := (K372.2.2.1 (b + 2) (by omega)).trans a359
  have a384 := (K372.2.2.1 (b + 6) (by omega)).trans a360
  have a385 := (K372.2.2.1 (b + 10) (by omega)).trans a361
  have a386 := (K372.2.2.1 (b + 14) (by omega)).trans a362
  have a387 := (K372.2.2.1 (b + 18) (by omega)).trans a363
  have a388 := (K372.2.2.1 (b + 22) (by omega)).trans a364
  have a389 := (K372.2.2.1 (b + 1) (by omega)).trans a365
  have a390 := (K372.2.2.1 (b + 26) (by omega)).trans a351
  have a391 := (K372.2.2.1 b (by omega)).trans a366
  have s392 : Y370.sh (b + 1) = sO Y370.cK 6 (va_up (va_up (va_up (va_up (va_up (va_up (fun _ => none) (0 : Int32).toNatClampNeg (some x13)) (1 : Int32).toNatClampNeg (some x50)) (2 : Int32).toNatClampNeg (some x93)) (3 : Int32).toNatClampNeg (some x142)) (4 : Int32).toNatClampNeg (some x197)) (5 : Int32).toNatClampNeg (some x258)) := by rw [K372.2.2.2 (b + 1) (by omega) (by omega), s344]; show sO Y346.2.1.2.2.2 _ _ = sO Y370.2.1.2.2.2 _ _; rw [K372.1.2.1]
  have k393 := keep_tr k369 K372 (by omega)
  have n373 : Y370.N = b + 27 := by omega
  refine g_aload_n C371 0 dX3_init_80 rfl ?_
  refine g_newO C371 hXa (id := b + 27) n373 (Cn := RX5) (T := TX5) (Nc := 2) (ci := 5) (ty := tyX5) (fun w hw => List.mem_cons_of_mem _ (inX5 w hw)) tyX5_ok (List.mem_cons_of_mem _ mCl_RX3_22) (List.mem_cons_of_mem _ mIns_X5) (List.mem_cons_of_mem _ mInit_RX5) rfl [.null, .int 0] dfX5 fX5 rfl (by decide) (by decide) dX3_init_81 (fun Y394 x395 C396 K397 n398 a399 s400 => ?_)
  have f401 := isX0_tr f376 K397 (by omega)
  have f402 := isX0_tr f377 K397 (by omega)
  have f403 := isX0_tr f378 K397 (by omega)
  have f404 := isX0_tr f379 K397 (by omega)
  have f405 := isX0_tr f380 K397 (by omega)
  have f406 := isX0_tr f381 K397 (by omega)
  have f407 := isI_tr f382 K397 (by omega)
  have a408 := (K397.2.2.1 (b + 2) (by omega)).trans a383
  have a409 := (K397.2.2.1 (b + 6) (by omega)).trans a384
  have a410 := (K397.2.2.1 (b + 10) (by omega)).trans a385
  have a411 := (K397.2.2.1 (b + 14) (by omega)).trans a386
  have a412 := (K397.2.2.1 (b + 18) (by omega)).trans a387
  have a413 := (K397.2.2.1 (b + 22) (by omega)).trans a388
  have a414 := (K397.2.2.1 (b + 1) (by omega)).trans a389
  have a415 := (K397.2.2.1 (b + 26) (by omega)).trans a390
  have a416 := (K397.2.2.1 b (by omega)).trans a374
  have s417 := (K397.2.2.2 b (by omega) (by omega)).trans s375
  have s418 : Y394.sh (b + 1) = sO Y394.cK 6 (va_up (va_up (va_up (va_up (va_up (va_up (fun _ => none) (0 : Int32).toNatClampNeg (some x13)) (1 : Int32).toNatClampNeg (some x50)) (2 : Int32).toNatClampNeg (some x93)) (3 : Int32).toNatClampNeg (some x142)) (4 : Int32).toNatClampNeg (some x197)) (5 : Int32).toNatClampNeg (some x258)) := by rw [K397.2.2.2 (b + 1) (by omega) (by omega), s392]; show sO Y370.2.1.2.2.2 _ _ = sO Y394.2.1.2.2.2 _ _; rw [K397.1.2.1]
  have k419 := keep_tr k393 K397 (by omega)
  refine g_dup C396 dX3_init_84 rfl ?_
  refine g_callN C396 hXa (ok_X5_init (cx_YI C396) (b := b + 27) n398 s400 h) (by omega) a399 (gw_good (fun w hw => by rcases List.mem_cons.mp hw with rfl | hw; exacts [mC_X5_init, hw])) rfl (List.mem_cons_of_mem _ mInit_RX5) (host := RX6) (by simp [sNst]) (List.mem_cons_of_mem _ mI_X5_init) rfl dc_X5_init ⟨by decide, by decide⟩ (by decide) (by decide) (by decide) dX3_init_85 (fun Y420 m421 C422 K423 p424 => ?_)
  obtain ⟨n425, f426, h⟩ := p424
  have f427 := isX0_tr f401 K423 (by omega)
  have f428 := isX0_tr f402 K423 (by omega)
  have f429 := isX0_tr f403 K423 (by omega)
  have f430 := isX0_tr f404 K423 (by omega)
  have f431 := isX0_tr f405 K423 (by omega)
  have f432 := isX0_tr f406 K423 (by omega)
  have f433 := isI_tr f407 K423 (by omega)
  have a434 := (K423.2.2.1 (b + 2) (by omega)).trans a408
  have a435 := (K423.2.2.1 (b + 6) (by omega)).trans a409
  have a436 := (K423.2.2.1 (b + 10) (by omega)).trans a410
  have a437 := (K423.2.2.1 (b + 14) (by omega)).trans a411
  have a438 := (K423.2.2.1 (b + 18) (by omega)).trans a412
  have a439 := (K423.2.2.1 (b + 22) (by omega)).trans a413
  have a440 := (K423.2.2.1 (b + 1) (by omega)).trans a414
  have a441 := (K423.2.2.1 (b + 26) (by omega)).trans a415
  have a442 := (K423.2.2.1 (b + 27) (by omega)).trans a399
  have a443 := (K423.2.2.1 b (by omega)).trans a416
  have s444 := (K423.2.2.2 b (by omega) (by omega)).trans s417
  have s445 : Y420.sh (b + 1) = sO Y420.cK 6 (va_up (va_up (va_up (va_up (va_up (va_up (fun _ => none) (0 : Int32).toNatClampNeg (some x13)) (1 : Int32).toNatClampNeg (some x50)) (2 : Int32).toNatClampNeg (some x93)) (3 : Int32).toNatClampNeg (some x142)) (4 : Int32).toNatClampNeg (some x197)) (5 : Int32).toNatClampNeg (some x258)) := by rw [K423.2.2.2 (b + 1) (by omega) (by omega), s418]; show sO Y394.2.1.2.2.2 _ _ = sO Y420.2.1.2.2.2 _ _; rw [K423.1.2.1]
  have k446 := keep_tr k419 K423 (by omega)
  have n425 : Y420.N = b + 32 := by rw [n425]
  refine g_putR C422 hXi (i := b) (ty := (.object "NothingLeft$Walk")) (ty0 := tyX3) (k := 2) (Nc := 18) (Cn := RX3) (T := TX3) (ci := 3) (by omega) a443 s444 rfl rfl (fun w hw => List.mem_cons_of_mem _ (inX3 w hw)) tyX3_ok nmX3 (by decide) (List.mem_cons_of_mem _ mF_RX3_25) rfl rfl rfl rfl rfl rfl (by decide : 2 < 18) (rt (fun c => [.ref x2, .ref x347, .ref x395, .int (c.1 3), .long (c.2 4), .int (c.1 5), .int (c.1 6), .int (c.1 7), .int (c.1 8), .null, .long (c.2 10), .int (c.1 11), .null, .int (c.1 13), .null, .int (c.1 15), .int (c.1 16), .null]) 3) rfl dX3_init_88 (fun Y447 C448 K449 n450 a451 s452 => ?_)
  have f453 := isX0_tr f427 K449 (by omega)
  have f454 := isX0_tr f428 K449 (by omega)
  have f455 := isX0_tr f429 K449 (by omega)
  have f456 := isX0_tr f430 K449 (by omega)
  have f457 := isX0_tr f431 K449 (by omega)
  have f458 := isX0_tr f432 K449 (by omega)
  have f459 := isI_tr f433 K449 (by omega)
  have f460 := isX5_tr f426 K449 (by omega)
  have a461 := (K449.2.2.1 (b + 2) (by omega)).trans a434
  have a462 := (K449.2.2.1 (b + 6) (by omega)).trans a435
  have a463 := (K449.2.2.1 (b + 10) (by omega)).trans a436
  have a464 := (K449.2.2.1 (b + 14) (by omega)).trans a437
  have a465 := (K449.2.2.1 (b + 18) (by omega)).trans a438
  have a466 := (K449.2.2.1 (b + 22) (by omega)).trans a439
  have a467 := (K449.2.2.1 (b + 1) (by omega)).trans a440
  have a468 := (K449.2.2.1 (b + 26) (by omega)).trans a441
  have a469 := (K449.2.2.1 (b + 27) (by omega)).trans a442
  have a470 := (K449.2.2.1 b (by omega)).trans a443
  have s471 : Y447.sh (b + 1) = sO Y447.cK 6 (va_up (va_up (va_up (va_up (va_up (va_up (fun _ => none) (0 : Int32).toNatClampNeg (some x13)) (1 : Int32).toNatClampNeg (some x50)) (2 : Int32).toNatClampNeg (some x93)) (3 : Int32).toNatClampNeg (some x142)) (4 : Int32).toNatClampNeg (some x197)) (5 : Int32).toNatClampNeg (some x258)) := by rw [K449.2.2.2 (b + 1) (by omega) (by omega), s445]; show sO Y420.2.1.2.2.2 _ _ = sO Y447.2.1.2.2.2 _ _; rw [K449.1.2.1]
  have k472 := keep_tr k446 K449 (by omega)
  have n450 : Y447.N = b + 32 := by omega
  refine g_aload_n C448 0 dX3_init_91 rfl ?_
  refine g_iconst C448 (v := (5 : Int32)) dX3_init_92 (by decide) ?_
  refine g_newA C448 hXa (id := b + 32) n450 .int .int rfl (List.mem_cons_of_mem _ mArr_I) Y447.cI 0 rfl (fun _ _ z => z) rfl (k := 5) (by decide) (by decide) (by decide) (by decide) (by decide) dX3_init_93 (fun Y473 x474 C475 K476 n477 a478 s479 => ?_)
  have f480 := isX0_tr f453 K476 (by omega)
  have f481 := isX0_tr f454 K476 (by omega)
  have f482 := isX0_tr f455 K476 (by omega)
  have f483 := isX0_tr f456 K476 (by omega)
  have f484 := isX0_tr f457 K476 (by omega)
  have f485 := isX0_tr f458 K476 (by omega)
  have f486 := isI_tr f459 K476 (by omega)
  have f487 := isX5_tr f460 K476 (by omega)
  have a488 := (K476.2.2.1 (b + 2) (by omega)).trans a461
  have a489 := (K476.2.2.1 (b + 6) (by omega)).trans a462
  have a490 := (K476.2.2.1 (b + 10) (by omega)).trans a463
  have a491 := (K476.2.2.1 (b + 14) (by omega)).trans a464
  have a492 := (K476.2.2.1 (b + 18) (by omega)).trans a465
  have a493 := (K476.2.2.1 (b + 22) (by omega)).trans a466
  have a494 := (K476.2.2.1 (b + 1) (by omega)).trans a467
  have a495 := (K476.2.2.1 (b + 26) (by omega)).trans a468
  have a496 := (K476.2.2.1 (b + 27) (by omega)).trans a469
  have a497 := (K476.2.2.1 b (by omega)).trans a451
  have s498 := (K476.2.2.2 b (by omega) (by omega)).trans s452
  have f499 := isI_new s479 K476 n477
  have k500 := keep_tr k472 K476 (by omega)
  refine g_putR C475 hXi (i := b) (ty := (.array .int)) (ty0 := tyX3) (k := 9) (Nc := 18) (Cn := RX3) (T := TX3) (ci := 3) (by omega) a497 s498 rfl rfl (fun w hw => List.mem_cons_of_mem _ (inX3 w hw)) tyX3_ok nmX3 (by decide) (List.mem_cons_of_mem _ mF_RX3_29) rfl rfl rfl rfl rfl rfl (by decide : 9 < 18) (rt (fun c => [.ref x2, .ref x347, .ref x395, .int (c.1 3), .long (c.2 4), .int (c.1 5), .int (c.1 6), .int (c.1 7), .int (c.1 8), .ref x474, .long (c.2 10), .int (c.1 11), .null, .int (c.1 13), .null, .int (c.1 15), .int (c.1 16), .null]) 3) rfl dX3_init_95 (fun Y501 C502 K503 n504 a505 s506 => ?_)
  have f507 := isX0_tr f480 K503 (by omega)
  have f508 := isX0_tr f481 K503 (by omega)
  have f509 := isX0_tr f482 K503 (by omega)
  have f510 := isX0_tr f483 K503 (by omega)
  have f511 := isX0_tr f484 K503 (by omega)
  have f512 := isX0_tr f485 K503 (by omega)
  have f513 := isI_tr f486 K503 (by omega)
  have f514 := isX5_tr f487 K503 (by omega)
  have f515 := isI_tr f499 K503 (by omega)
  have a516 := (K503.2.2.1 (b + 2) (by omega)).trans a488
  have a517 := (K503.2.2.1 (b + 6) (by omega)).trans a489
  have a518 := (K503.2.2.1 (b + 10) (by omega)).trans a490
  have a519 := (K503.2.2.1 (b + 14) (by omega)).trans a491
  have a520 := (K503.2.2.1 (b + 18) (by omega)).trans a492
  have a521 := (K503.2.2.1 (b + 22) (by omega)).trans a493
  have a522 := (K503.2.2.1 (b + 1) (by omega)).trans a494
  have a523 := (K503.2.2.1 (b + 26) (by omega)).trans a495
  have a524 := (K503.2.2.1 (b + 27) (by omega)).trans a496
  have a525 := (K503.2.2.1 (b + 32) (by omega)).trans a478
  have a526 := (K503.2.2.1 b (by omega)).trans a497
  have s527 : Y501.sh (b + 1) = sO Y501.cK 6 (va_up (va_up (va_up (va_up (va_up (va_up (fun _ => none) (0 : Int32).toNatClampNeg (some x13)) (1 : Int32).toNatClampNeg (some x50)) (2 : Int32).toNatClampNeg (some x93)) (3 : Int32).toNatClampNeg (some x142)) (4 : Int32).toNatClampNeg (some x197)) (5 : Int32).toNatClampNeg (some x258)) := by rw [K503.2.2.2 (b + 1) (by omega) (by omega), s471]; show sO Y473.2.1.2.2.2 _ _ = sO Y501.2.1.2.2.2 _ _; rw [K503.1.2.1]
  have k528 := keep_tr k500 K503 (by omega)
  have n504 : Y501.N = b + 33 := by omega
  refine g_aload_n C502 0 dX3_init_98 rfl ?_
  refine g_iconst C502 (v := (5 : Int32)) dX3_init_99 (by decide) ?_
  refine g_newA C502 hXa (id := b + 33) n504 .int .int rfl (List.mem_cons_of_mem _ mArr_I) Y501.cI 0 rfl (fun _ _ z => z) rfl (k := 5) (by decide) (by decide) (by decide) (by decide) (by decide) dX3_init_100 (fun Y529 x530 C531 K532 n533 a534 s535 => ?_)
  have f536 := isX0_tr f507 K532 (by omega)
  have f537 := isX0_tr f508 K532 (by omega)
  have f538 := isX0_tr f509 K532 (by omega)
  have f539 := isX0_tr f510 K532 (by omega)
  have f540 := isX0_tr f511 K532 (by omega)
  have f541 := isX0_tr f512 K532 (by omega)
  have f542 := isI_tr f513 K532 (by omega)
  have f543 := isX5_tr f514 K532 (by omega)
  have f544 := isI_tr f515 K532 (by omega)
  have a545 := (K532.2.2.1 (b + 2) (by omega)).trans a516
  have a546 := (K532.2.2.1 (b + 6) (by omega)).trans a517
  have a547 := (K532.2.2.1 (b + 10) (by omega)).trans a518
  have a548 := (K532.2.2.1 (b + 14) (by omega)).trans a519
  have a549 := (K532.2.2.1 (b + 18) (by omega)).trans a520
  have a550 := (K532.2.2.1 (b + 22) (by omega)).trans a521
  have a551 := (K532.2.2.1 (b + 1) (by omega)).trans a522
  have a552 := (K532.2.2.1 (b + 26) (by omega)).trans a523
  have a553 := (K532.2.2.1 (b + 27) (by omega)).trans a524
  have a554 := (K532.2.2.1 (b + 32) (by omega)).trans a525
  have a555 := (K532.2.2.1 b (by omega)).trans a505
  have s556 := (K532.2.2.2 b (by omega) (by omega)).trans s506
  have f557 := isI_new s535 K532 n533
  have k558 := keep_tr k528 K532 (by omega)
  refine g_putR C531 hXi (i := b) (ty := (.array .int)) (ty0 := tyX3) (k := 12) (Nc := 18) (Cn := RX3) (T := TX3) (ci := 3) (by omega) a555 s556 rfl rfl (fun w hw => List.mem_cons_of_mem _ (inX3 w hw)) tyX3_ok nmX3 (by decide) (List.mem_cons_of_mem _ mF_RX3_32) rfl rfl rfl rfl rfl rfl (by decide : 12 < 18) (rt (fun c => [.ref x2, .ref x347, .ref x395, .int (c.1 3), .long (c.2 4), .int (c.1 5), .int (c.1 6), .int (c.1 7), .int (c.1 8), .ref x474, .long (c.2 10), .int (c.1 11), .ref x530, .int (c.1 13), .null, .int (c.1 15), .int (c.1 16), .null]) 3) rfl dX3_init_102 (fun Y559 C560 K561 n562 a563 s564 => ?_)
  have f565 := isX0_tr f536 K561 (by omega)
  have f566 := isX0_tr f537 K561 (by omega)
  have f567 := isX0_tr f538 K561 (by omega)
  have f568 := isX0_tr f539 K561 (by omega)
  have f569 := isX0_tr f540 K561 (by omega)
  have f570 := isX0_tr f541 K561 (by omega)
  have f571 := isI_tr f542 K561 (by omega)
  have f572 := isX5_tr f543 K561 (by omega)
  have f573 := isI_tr f544 K561 (by omega)
  have f574 := isI_tr f557 K561 (by omega)
  have a575 := (K561.2.2.1 (b + 2) (by omega)).trans a545
  have a576 := (K561.2.2.1 (b + 6) (by omega)).trans a546
  have a577 := (K561.2.2.1 (b + 10) (by omega)).trans a547
  have a578 := (K561.2.2.1 (b + 14) (by omega)).trans a548
  have a579 := (K561.2.2.1 (b + 18) (by omega)).trans a549
  have a580 := (K561.2.2.1 (b + 22) (by omega)).trans a550
  have a581 := (K561.2.2.1 (b + 1) (by omega)).trans a551
  have a582 := (K561.2.2.1 (b + 26) (by omega)).trans a552
  have a583 := (K561.2.2.1 (b + 27) (by omega)).trans a553
  have a584 := (K561.2.2.1 (b + 32) (by omega)).trans a554
  have a585 := (K561.2.2.1 (b + 33) (by omega)).trans a534
  have a586 := (K561.2.2.1 b (by omega)).trans a555
  have s587 : Y559.sh (b + 1) = sO Y559.cK 6 (va_up (va_up (va_up (va_up (va_up (va_up (fun _ => none) (0 : Int32).toNatClampNeg (some x13)) (1 : Int32).toNatClampNeg (some x50)) (2 : Int32).toNatClampNeg (some x93)) (3 : Int32).toNatClampNeg (some x142)) (4 : Int32).toNatClampNeg (some x197)) (5 : Int32).toNatClampNeg (some x258)) := by rw [K561.2.2.2 (b + 1) (by omega) (by omega), s527]; show sO Y529.2.1.2.2.2 _ _ = sO Y559.2.1.2.2.2 _ _; rw [K561.1.2.1]
  have k588 := keep_tr k558 K561 (by omega)
  have n562 : Y559.N = b + 34 := by omega
  refine g_aload_n C560 0 dX3_init_105 rfl ?_
  refine g_iconst C560 (v := (5 : Int32)) dX3_init_106 (by decide) ?_
  refine g_newA C560 hXa (id := b + 34) n562 .int .int rfl (List.mem_cons_of_mem _ mArr_I) Y559.cI 0 rfl (fun _ _ z => z) rfl (k := 5) (by decide) (by decide) (by decide) (by decide) (by decide) dX3_init_107 (fun Y589 x590 C591 K592 n593 a594 s595 => ?_)
  have f596 := isX0_tr f565 K592 (by omega)
  have f597 := isX0_tr f566 K592 (by omega)
  have f598 := isX0_tr f567 K592 (by omega)
  have f599 := isX0_tr f568 K592 (by omega)
  have f600 := isX0_tr f569 K592 (by omega)
  have f601 := isX0_tr f570 K592 (by omega)
  have f602 := isI_tr f571 K592 (by omega)
  have f603 := isX5_tr f572 K592 (by omega)
  have f604 := isI_tr f573 K592 (by omega)
  have f605 := isI_tr f574 K592 (by omega)
  have a606 := (K592.2.2.1 (b + 2) (by omega)).trans a575
  have a607 := (K592.2.2.1 (b + 6) (by omega)).trans a576
  have a608 := (K592.2.2.1 (b + 10) (by omega)).trans a577
  have a609 := (K592.2.2.1 (b + 14) (by omega)).trans a578
  have a610 := (K592.2.2.1 (b + 18) (by omega)).trans a579
  have a611 := (K592.2.2.1 (b + 22) (by omega)).trans a580
  have a612 := (K592.2.2.1 (b + 1) (by omega)).trans a581
  have a613 := (K592.2.2.1 (b + 26) (by omega)).trans a582
  have a614 := (K592.2.2.1 (b + 27) (by omega)).trans a583
  have a615 := (K592.2.2.1 (b + 32) (by omega)).trans a584
  have a616 := (K592.2.2.1 (b + 33) (by omega)).trans a585
  have a617 := (K592.2.2.1 b (by omega)).trans a563
  have s618 := (K592.2.2.2 b (by omega) (by omega)).trans s564
  have f619 := isI_new s595 K592 n593
  have k620 := keep_tr k588 K592 (by omega)
  refine g_putR C591 hXi (i := b) (ty := (.array .int)) (ty0 := tyX3) (k := 14) (Nc := 18) (Cn := RX3) (T := TX3) (ci := 3) (by omega) a617 s618 rfl rfl (fun w hw => List.mem_cons_of_mem _ (inX3 w hw)) tyX3_ok nmX3 (by decide) (List.mem_cons_of_mem _ mF_RX3_35) rfl rfl rfl rfl rfl rfl (by decide : 14 < 18) (rt (fun c => [.ref x2, .ref x347, .ref x395, .int (c.1 3), .long (c.2 4), .int (c.1 5), .int (c.1 6), .int (c.1 7), .int (c.1 8), .ref x474, .long (c.2 10), .int (c.1 11), .ref x530, .int (c.1 13), .ref x590, .int (c.1 15), .int (c.1 16), .null]) 3) rfl dX3_init_109 (fun Y621 C622 K623 n624 a625 s626 => ?_)
  have f627 := isX0_tr f596 K623 (by omega)
  have f628 := isX0_tr f597 K623 (by omega)
  have f629 := isX0_tr f598 K623 (by omega)
  have f630 := isX0_tr f599 K623 (by omega)
  have f631 := isX0_tr f600 K623 (by omega)
  have f632 := isX0_tr f601 K623 (by omega)
  have f633 := isI_tr f602 K623 (by omega)
  have f634 := isX5_tr f603 K623 (by omega)
  have f635 := isI_tr f604 K623 (by omega)
  have f636 := isI_tr f605 K623 (by omega)
  have f637 := isI_tr f619 K623 (by omega)
  have a638 := (K623.2.2.1 (b + 2) (by omega)).trans a606
  have a639 := (K623.2.2.1 (b + 6) (by omega)).trans a607
  have a640 := (K623.2.2.1 (b + 10) (by omega)).trans a608
  have a641 := (K623.2.2.1 (b + 14) (by omega)).trans a609
  have a642 := (K623.2.2.1 (b + 18) (by omega)).trans a610
  have a643 := (K623.2.2.1 (b + 22) (by omega)).trans a611
  have a644 := (K623.2.2.1 (b + 1) (by omega)).trans a612
  have a645 := (K623.2.2.1 (b + 26) (by omega)).trans a613
  have a646 := (K623.2.2.1 (b + 27) (by omega)).trans a614
  have a647 := (K623.2.2.1 (b + 32) (by omega)).trans a615
  have a648 := (K623.2.2.1 (b + 33) (by omega)).trans a616
  have a649 := (K623.2.2.1 (b + 34) (by omega)).trans a594
  have a650 := (K623.2.2.1 b (by omega)).trans a617
  have s651 : Y621.sh (b + 1) = sO Y621.cK 6 (va_up (va_up (va_up (va_up (va_up (va_up (fun _ => none) (0 : Int32).toNatClampNeg (some x13)) (1 : Int32).toNatClampNeg (some x50)) (2 : Int32).toNatClampNeg (some x93)) (3 : Int32).toNatClampNeg (some x142)) (4 : Int32).toNatClampNeg (some x197)) (5 : Int32).toNatClampNeg (some x258)) := by rw [K623.2.2.2 (b + 1) (by omega) (by omega), s587]; show sO Y589.2.1.2.2.2 _ _ = sO Y621.2.1.2.2.2 _ _; rw [K623.1.2.1]
  have k652 := keep_tr k620 K623 (by omega)
  have n624 : Y621.N = b + 35 := by omega
  refine g_aload_n C622 0 dX3_init_112 rfl ?_
  refine g_iconst C622 (v := (5 : Int32)) dX3_init_113 (by decide) ?_
  refine g_newA C622 hXa (id := b + 35) n624 .int .int rfl (List.mem_cons_of_mem _ mArr_I) Y621.cI 0 rfl (fun _ _ z => z) rfl (k := 5) (by decide) (by decide) (by decide) (by decide) (by decide) dX3_init_114 (fun Y653 x654 C655 K656 n657 a658 s659 => ?_)
  have f660 := isX0_tr f627 K656 (by omega)
  have f661 := isX0_tr f628 K656 (by omega)
  have f662 := isX0_tr f629 K656 (by omega)
  have f663 := isX0_tr f630 K656 (by omega)
  have f664 := isX0_tr f631 K656 (by omega)
  have f665 := isX0_tr f632 K656 (by omega)
  have f666 := isI_tr f633 K656 (by omega)
  have f667 := isX5_tr f634 K656 (by omega)
  have f668 := isI_tr f635 K656 (by omega)
  have f669 := isI_tr f636 K656 (by omega)
  have f670 := isI_tr f637 K656 (by omega)
  have a671 := (K656.2.2.1 (b + 2) (by omega)).trans a638
  have a672 := (K656.2.2.1 (b + 6) (by omega)).trans a639
  have a673 := (K656.2.2.1 (b + 10) (by omega)).trans a640
  have a674 := (K656.2.2.1 (b + 14) (by omega)).trans a641
  have a675 := (K656.2.2.1 (b + 18) (by omega)).trans a642
  have a676 := (K656.2.2.1 (b + 22) (by omega)).trans a643
  have a677 := (K656.2.2.1 (b + 1) (by omega)).trans a644
  have a678 := (K656.2.2.1 (b + 26) (by omega)).trans a645
  have a679 := (K656.2.2.1 (b + 27) (by omega)).trans a646
  have a680 := (K656.2.2.1 (b + 32) (by omega)).trans a647
  have a681 := (K656.2.2.1 (b + 33) (by omega)).trans a648
  have a682 := (K656.2.2.1 (b + 34) (by omega)).trans a649
  have a683 := (K656.2.2.1 b (by omega)).trans a625
  have s684 := (K656.2.2.2 b (by omega) (by omega)).trans s626
  have f685 := isI_new s659 K656 n657
  have k686 := keep_tr k652 K656 (by omega)
  refine g_putR C655 hXi (i := b) (ty := (.array .int)) (ty0 := tyX3) (k := 17) (Nc := 18) (Cn := RX3) (T := TX3) (ci := 3) (by omega) a683 s684 rfl rfl (fun w hw => List.mem_cons_of_mem _ (inX3 w hw)) tyX3_ok nmX3 (by decide) (List.mem_cons_of_mem _ mF_RX3_38) rfl rfl rfl rfl rfl rfl (by decide : 17 < 18) (rt (fun c => [.ref x2, .ref x347, .ref x395, .int (c.1 3), .long (c.2 4), .int (c.1 5), .int (c.1 6), .int (c.1 7), .int (c.1 8), .ref x474, .long (c.2 10), .int (c.1 11), .ref x530, .int (c.1 13), .ref x590, .int (c.1 15), .int (c.1 16), .ref x654]) 3) rfl dX3_init_116 (fun Y687 C688 K689 n690 a691 s692 => ?_)
  have f693 := isX0_tr f660 K689 (by omega)
  have f694 := isX0_tr f661 K689 (by omega)
  have f695 := isX0_tr f662 K689 (by omega)
  have f696 := isX0_tr f663 K689 (by omega)
  have f697 := isX0_tr f664 K689 (by omega)
  have f698 := isX0_tr f665 K689 (by omega)
  have f699 := isI_tr f666 K689 (by omega)
  have f700 := isX5_tr f667 K689 (by omega)
  have f701 := isI_tr f668 K689 (by omega)
  have f702 := isI_tr f669 K689 (by omega)
  have f703 := isI_tr f670 K689 (by omega)
  have f704 := isI_tr f685 K689 (by omega)
  have a705 := (K689.2.2.1 (b + 2) (by omega)).trans a671
  have a706 := (K689.2.2.1 (b + 6) (by omega)).trans a672
  have a707 := (K689.2.2.1 (b + 10) (by omega)).trans a673
  have a708 := (K689.2.2.1 (b + 14) (by omega)).trans a674
  have a709 := (K689.2.2.1 (b + 18) (by omega)).trans a675
  have a710 := (K689.2.2.1 (b + 22) (by omega)).trans a676
  have a711 := (K689.2.2.1 (b + 1) (by omega)).trans a677
  have a712 := (K689.2.2.1 (b + 26) (by omega)).trans a678
  have a713 := (K689.2.2.1 (b + 27) (by omega)).trans a679
  have a714 := (K689.2.2.1 (b + 32) (by omega)).trans a680
  have a715 := (K689.2.2.1 (b + 33) (by omega)).trans a681
  have a716 := (K689.2.2.1 (b + 34) (by omega)).trans a682
  have a717 := (K689.2.2.1 (b + 35) (by omega)).trans a658
  have a718 := (K689.2.2.1 b (by omega)).trans a683
  have s719 : Y687.sh (b + 1) = sO Y687.cK 6 (va_up (va_up (va_up (va_up (va_up (va_up (fun _ => none) (0 : Int32).toNatClampNeg (some x13)) (1 : Int32).toNatClampNeg (some x50)) (2 : Int32).toNatClampNeg (some x93)) (3 : Int32).toNatClampNeg (some x142)) (4 : Int32).toNatClampNeg (some x197)) (5 : Int32).toNatClampNeg (some x258)) := by rw [K689.2.2.2 (b + 1) (by omega) (by omega), s651]; show sO Y653.2.1.2.2.2 _ _ = sO Y687.2.1.2.2.2 _ _; rw [K689.1.2.1]
  have k720 := keep_tr k686 K689 (by omega)
  have n690 : Y687.N = b + 36 := by omega
  have f721 : isX3 Y687 b := ⟨by omega, by rw [s692]; unfold sX3; rw [a711, a712, a713, a714, a715, a716, a717], ⟨by omega, ⟨_, s719, fun i hi => match i, hi with | 0, _ => (a705 ▸ rfl) | 1, _ => (a706 ▸ rfl) | 2, _ => (a707 ▸ rfl) | 3, _ => (a708 ▸ rfl) | 4, _ => (a709 ▸ rfl) | 5, _ => (a710 ▸ rfl) | i + 6, z => absurd z (by omega)⟩, fun i hi => match i, hi with | 0, _ => f693 | 1, _ => f694 | 2, _ => f695 | 3, _ => f696 | 4, _ => f697 | 5, _ => f698 | i + 6, z => absurd z (by omega)⟩, f699, f700, f701, f702, f703, f704⟩
  rw [← a691]
  exact sf_X3_init C688 (fun pc lv μ' hd q => hr pc lv Y687 μ' hd C688 k720 ⟨n690, f721, q⟩) (cx_YI C688) f721 h
set_option maxRecDepth 20000 in
set_option maxHeartbeats 4000000 in
theorem sf_X6_init {X : XT} {Y : YT} {l0 : Launch} {b : Nat} {Q : Mem → Prop} {μ : Mem} (C : Cx X Y 1 cX6_init RX6 WX6_init (rmC 5 101 99 1752) l0) (hr : RVn X Y 1 cX6_init Q) (hI : YI Y) (h0 : isX6 Y b) (h : PSX6_init b μ Q) : G X Y 1 134 [(0, .ref (Y.ad b))] [] μ := by
  unfold PSX6_init at h
  refine g_aload_n C 0 dX6_init_134 rfl ?_
  refine g_iconst C (v := (0 : Int32)) dX6_init_135 (by decide) ?_
  refine gp_RX6_73 C h0 dX6_init_136 ?_
  exact hr _ _ _ dX6_init_139 h
set_option maxRecDepth 20000 in
set_option maxHeartbeats 8000000 in
theorem ok_X6_init {Y : YT} {l0 : Launch} {b : Nat} {μ : Mem} {Q : Mem → Prop} (hI : YI Y) (hN : Y.N = b + 1) (hS : Y.sh b = fX6) (h : PX6_init b μ Q) : MC l0 yX6_init WX6_init 5 101 99 1752 Y b μ (fun Y' μ' => Y'.N = b + 100 ∧ isX6 Y' b ∧ Q μ') := by
  refine mC_of (cc := cX6_init) (maxL := 1) (by decide +kernel) rfl rfl hI (by decide) (fun X C hXa hXi hr => ?_)
  replace C : Cx (xset X 0 0) Y 1 cX6_init RX6 WX6_init (rmC 5 101 99 1752) l0 := C
  obtain ⟨x0, hx0⟩ : ∃ x0, Y.ad b = x0 := ⟨_, rfl⟩
  rw [hx0]
  unfold PX6_init at h
  refine g_aload_n C 0 dX6_init_0 rfl ?_
  refine g_obj C (List.mem_cons_of_mem _ mM_RX6_1) (List.mem_cons_of_mem _ mObj_i) (List.mem_cons_of_mem _ mObj_c) (by decide) (by decide) dX6_init_1 ?_
  refine g_aload_n C 0 dX6_init_4 rfl ?_
  refine g_newO C hXa (id := b + 1) hN (Cn := RX2) (T := TX2) (Nc := 16) (ci := 2) (ty := tyX2) (fun w hw => List.mem_cons_of_mem _ (inX2 w hw)) tyX2_ok (List.mem_cons_of_mem _ mCl_RX6_7) (List.mem_cons_of_mem _ mIns_X2) (List.mem_cons_of_mem _ mInit_RX2) rfl [.int 0, .null, .null, .null, .int 0, .null, .null, .null, .null, .null, .null, .null, .int 0, .int 0, .int 0, .null] dfX2 fX2 rfl (by decide) (by decide) dX6_init_5 (fun Y1 x2 C3 K4 n5 a6 s7 => ?_)
  have a8 := (K4.2.2.1 b (by omega)).trans hx0
  have s9 := (K4.2.2.2 b (by omega) (by omega)).trans hS
  have k10 := keep_tr (keep_rf) K4 (by omega)
  refine g_dup C3 dX6_init_8 rfl ?_
  refine g_callC C3 hXa (ok_X2_init (cx_YI C3) (b := b + 1) n5 s7 h) (by omega) a6 (gw_good (fun w hw => by rcases List.mem_cons.mp hw with rfl | hw; exacts [mC_X2_init, hw])) rfl (List.mem_cons_of_mem _ mInit_RX2) (List.mem_cons_of_mem _ mM_RX6_9) (List.mem_cons_of_mem _ mI_X2_init) rfl dc_X2_init ⟨by decide, by decide⟩ (by decide) (by decide) (by decide) dX6_init_9 (fun Y11 m12 C13 K14 p15 => ?_)
  obtain ⟨n16, f17, h⟩ := p15
  have a18 := (K14.2.2.1 (b + 1) (by omega)).trans a6
  have a19 := (K14.2.2.1 b (by omega)).trans a8
  have s20 := (K14.2.2.2 b (by omega) (by omega)).trans s9
  have k21 := keep_tr k10 K14 (by omega)
  have n16 : Y11.N = b + 13 := by rw [n16]
  refine g_putR C13 hXi (i := b) (ty := (.object "NothingLeft$Rules")) (ty0 := tyX6) (k := 0) (Nc := 13) (Cn := RX6) (T := TX6) (ci := 6) (by omega) a19 s20 rfl rfl (fun w hw => List.mem_cons_of_mem _ (inX6 w hw)) tyX6_ok nmX6 (by decide) (List.mem_cons_of_mem _ mF_RX6_10) rfl rfl rfl rfl rfl rfl (by decide : 0 < 13) (rt (fun c => [.ref x2, .null, .null, .int (c.1 3), .null, .null, .null, .null, .int (c.1 8), .null, .null, .null, .int (c.1 12)]) 6) rfl dX6_init_12 (fun Y22 C23 K24 n25 a26 s27 => ?_)
  have f28 := isX2_tr f17 K24 (by omega)
  have a29 := (K24.2.2.1 (b + 1) (by omega)).trans a18
  have a30 := (K24.2.2.1 b (by omega)).trans a19
  have k31 := keep_tr k21 K24 (by omega)
  have n25 : Y22.N = b + 13 := by omega
  refine g_aload_n C23 0 dX6_init_15 rfl ?_
  refine g_newO C23 hXa (id := b + 13) n25 (Cn := RX2) (T := TX2) (Nc := 16) (ci := 2) (ty := tyX2) (fun w hw => List.mem_cons_of_mem _ (inX2 w hw)) tyX2_ok (List.mem_cons_of_mem _ mCl_RX6_7) (List.mem_cons_of_mem _ mIns_X2) (List.mem_cons_of_mem _ mInit_RX2) rfl [.int 0, .null, .null, .null, .int 0, .null, .null, .null, .null, .null, .null, .null, .int 0, .int 0, .int 0, .null] dfX2 fX2 rfl (by decide) (by decide) dX6_init_16 (fun Y32 x33 C34 K35 n36 a37 s38 => ?_)
  have f39 := isX2_tr f28 K35 (by omega)
  have a40 := (K35.2.2.1 (b + 1) (by omega)).trans a29
  have a41 := (K35.2.2.1 b (by omega)).trans a26
  have s42 := (K35.2.2.2 b (by omega) (by omega)).trans s27
  have k43 := keep_tr k31 K35 (by omega)
  refine g_dup C34 dX6_init_19 rfl ?_
  refine g_callC C34 hXa (ok_X2_init (cx_YI C34) (b := b + 13) n36 s38 h) (by omega) a37 (gw_good (fun w hw => by rcases List.mem_cons.mp hw with rfl | hw; exacts [mC_X2_init, hw])) rfl (List.mem_cons_of_mem _ mInit_RX2) (List.mem_cons_of_mem _ mM_RX6_9) (List.mem_cons_of_mem _ mI_X2_init) rfl dc_X2_init ⟨by decide, by decide⟩ (by decide) (by decide) (by decide) dX6_init_20 (fun Y44 m45 C46 K47 p48 => ?_)
  obtain ⟨n49, f50, h⟩ := p48
  have f51 := isX2_tr f39 K47 (by omega)
  have a52 := (K47.2.2.1 (b + 1) (by omega)).trans a40
  have a53 := (K47.2.2.1 (b + 13) (by omega)).trans a37
  have a54 := (K47.2.2.1 b (by omega)).trans a41
  have s55 := (K47.2.2.2 b (by omega) (by omega)).trans s42
  have k56 := keep_tr k43 K47 (by omega)
  have n49 : Y44.N = b + 25 := by rw [n49]
  refine g_putR C46 hXi (i := b) (ty := (.object "NothingLeft$Rules")) (ty0 := tyX6) (k := 1) (Nc := 13) (Cn := RX6) (T := TX6) (ci := 6) (by omega) a54 s55 rfl rfl (fun w hw => List.mem_cons_of_mem _ (inX6 w hw)) tyX6_ok nmX6 (by decide) (List.mem_cons_of_mem _ mF_RX6_16) rfl rfl rfl rfl rfl rfl (by decide : 1 < 13) (rt (fun c => [.ref x2, .ref x33, .null, .int (c.1 3), .null, .null, .null, .null, .int (c.1 8), .null, .null, .null, .int (c.1 12)]) 6) rfl dX6_init_23 (fun Y57 C58 K59 n60 a61 s62 => ?_)
  have f63 := isX2_tr f51 K59 (by omega)
  have f64 := isX2_tr f50 K59 (by omega)
  have a65 := (K59.2.2.1 (b + 1) (by omega)).trans a52
  have a66 := (K59.2.2.1 (b + 13) (by omega)).trans a53
  have a67 := (K59.2.2.1 b (by omega)).trans a54
  have k68 := keep_tr k56 K59 (by omega)
  have n60 : Y57.N = b + 25 := by omega
  refine g_aload_n C58 0 dX6_init_26 rfl ?_
  refine g_newO C58 hXa (id := b + 25) n60 (Cn := RX1) (T := TX1) (Nc := 12) (ci := 1) (ty := tyX1) (fun w hw => List.mem_cons_of_mem _ (inX1 w hw)) tyX1_ok (List.mem_cons_of_mem _ mCl_RX6_19) (List.mem_cons_of_mem _ mIns_X1) (List.mem_cons_of_mem _ mInit_RX1) rfl [.null, .int 0, .null, .int 0, .int 0, .int 0, .int 0, .int 0, .int 0, .int 0, .int 0, .null] dfX1 fX1 rfl (by decide) (by decide) dX6_init_27 (fun Y69 x70 C71 K72 n73 a74 s75 => ?_)
  have f76 := isX2_tr f63 K72 (by omega)
  have f77 := isX2_tr f64 K72 (by omega)
  have a78 := (K72.2.2.1 (b + 1) (by omega)).trans a65
  have a79 := (K72.2.2.1 (b + 13) (by omega)).trans a66
  have a80 := (K72.2.2.1 b (by omega)).trans a61
  have s81 := (K72.2.2.2 b (by omega) (by omega)).trans s62
  have k82 := keep_tr k68 K72 (by omega)
  refine g_dup C71 dX6_init_30 rfl ?_
  refine g_callN C71 hXa (ok_X1_init (cx_YI C71) (b := b + 25) n73 s75 h) (by omega) a74 (gw_good (fun w hw => by rcases List.mem_cons.mp hw with rfl | hw; exacts [mC_X1_init, hw])) rfl (List.mem_cons_of_mem _ mInit_RX1) (host := RX6) (by simp [sNst]) (List.mem_cons_of_mem _ mI_X1_init) rfl dc_X1_init ⟨by decide, by decide⟩ (by decide) (by decide) (by decide) dX6_init_31 (fun Y83 m84 C85 K86 p87 => ?_)
  obtain ⟨n88, f89, h⟩ := p87
  have f90 := isX2_tr f76 K86 (by omega)
  have f91 := isX2_tr f77 K86 (by omega)
  have a92 := (K86.2.2.1 (b + 1) (by omega)).trans a78
  have a93 := (K86.2.2.1 (b + 13) (by omega)).trans a79
  have a94 := (K86.2.2.1 (b + 25) (by omega)).trans a74
  have a95 := (K86.2.2.1 b (by omega)).trans a80
  have s96 := (K86.2.2.2 b (by omega) (by omega)).trans s81
  have k97 := keep_tr k82 K86 (by omega)
  have n88 : Y83.N = b + 40 := by rw [n88]
  refine g_putR C85 hXi (i := b) (ty := (.object "NothingLeft$Reader")) (ty0 := tyX6) (k := 2) (Nc := 13) (Cn := RX6) (T := TX6) (ci := 6) (by omega) a95 s96 rfl rfl (fun w hw => List.mem_cons_of_mem _ (inX6 w hw)) tyX6_ok nmX6 (by decide) (List.mem_cons_of_mem _ mF_RX6_22) rfl rfl rfl rfl rfl rfl (by decide : 2 < 13) (rt (fun c => [.ref x2, .ref x33, .ref x70, .int (c.1 3), .null, .null, .null, .null, .int (c.1 8), .null, .null, .null, .int (c.1 12)]) 6) rfl dX6_init_34 (fun Y98 C99 K100 n101 a102 s103 => ?_)
  have f104 := isX2_tr f90 K100 (by omega)
  have f105 := isX2_tr f91 K100 (by omega)
  have f106 := isX1_tr f89 K100 (by omega)
  have a107 := (K100.2.2.1 (b + 1) (by omega)).trans a92
  have a108 := (K100.2.2.1 (b + 13) (by omega)).trans a93
  have a109 := (K100.2.2.1 (b + 25) (by omega)).trans a94
  have a110 := (K100.2.2.1 b (by omega)).trans a95
  have k111 := keep_tr k97 K100 (by omega)
  have n101 : Y98.N = b + 40 := by omega
  refine g_aload_n C99 0 dX6_init_37 rfl ?_
  refine g_iconst C99 (v := (0 : Int32)) dX6_init_38 (by decide) ?_
  rw [← a102]
  refine g_put C99 (μ' := ms m84 b 3 (0 : Int32)) (ty := .int) (ty0 := tyX6) (k := 3) (Nc := 13) (Cn := RX6) (T := TX6) (ci := 6) (by omega) s103 rfl rfl (fun w hw => List.mem_cons_of_mem _ (inX6 w hw)) tyX6_ok nmX6 (by decide) (List.mem_cons_of_mem _ mF_RX6_26) rfl rfl rfl rfl rfl (by decide : 3 < 13) (by rw [mrow_ms]; rfl) (fun b h => mrow_ms_ne h) dX6_init_39 ?_
  rw [a102]
  refine g_aload_n C99 0 dX6_init_42 rfl ?_
  refine g_newO C99 hXa (id := b + 40) n101 (Cn := RX0) (T := TX0) (Nc := 8) (ci := 0) (ty := tyX0) (fun w hw => List.mem_cons_of_mem _ (inX0 w hw)) tyX0_ok (List.mem_cons_of_mem _ mCl_RX6_30) (List.mem_cons_of_mem _ mIns_X0) (List.mem_cons_of_mem _ mInit_RX0) rfl [.null, .null, .int 0, .int 0, .int 0, .int 0, .int 0, .null] dfX0 fX0 rfl (by decide) (by decide) dX6_init_43 (fun Y112 x113 C114 K115 n116 a117 s118 => ?_)
  have f119 := isX2_tr f104 K115 (by omega)
  have f120 := isX2_tr f105 K115 (by omega)
  have f121 := isX1_tr f106 K115 (by omega)
  have a122 := (K115.2.2.1 (b + 1) (by omega)).trans a107
  have a123 := (K115.2.2.1 (b + 13) (by omega)).trans a108
  have a124 := (K115.2.2.1 (b + 25) (by omega)).trans a109
  have a125 := (K115.2.2.1 b (by omega)).trans a102
  have s126 := (K115.2.2.2 b (by omega) (by omega)).trans s103
  have k127 := keep_tr k111 K115 (by omega)
  refine g_dup C114 dX6_init_46 rfl ?_
  refine g_callC C114 hXa (ok_X0_init (cx_YI C114) (b := b + 40) n116 s118 h) (by omega) a117 (gw_good (fun w hw => by rcases List.mem_cons.mp hw with rfl | hw; exacts [mC_X0_init, hw])) rfl (List.mem_cons_of_mem _ mInit_RX0) (List.mem_cons_of_mem _ mM_RX6_32) (List.mem_cons_of_mem _ mI_X0_init) rfl dc_X0_init ⟨by decide, by decide⟩ (by decide) (by decide) (by decide) dX6_init_47 (fun Y128 m129 C130 K131 p132 => ?_)
  obtain ⟨n133, f134, h⟩ := p132
  have f135 := isX2_tr f119 K131 (by omega)
  have f136 := isX2_tr f120 K131 (by omega)
  have f137 := isX1_tr f121 K131 (by omega)
  have a138 := (K131.2.2.1 (b + 1) (by omega)).trans a122
  have a139 := (K131.2.2.1 (b + 13) (by omega)).trans a123
  have a140 := (K131.2.2.1 (b + 25) (by omega)).trans a124
  have a141 := (K131.2.2.1 (b + 40) (by omega)).trans a117
  have a142 := (K131.2.2.1 b (by omega)).trans a125
  have s143 := (K131.2.2.2 b (by omega) (by omega)).trans s126
  have k144 := keep_tr k127 K131 (by omega)
  have n133 : Y128.N = b + 44 := by rw [n133]
  refine g_putR C130 hXi (i := b) (ty := (.object "NothingLeft$Kitchen")) (ty0 := tyX6) (k := 4) (Nc := 13) (Cn := RX6) (T := TX6) (ci := 6) (by omega) a142 s143 rfl rfl (fun w hw => List.mem_cons_of_mem _ (inX6 w hw)) tyX6_ok nmX6 (by decide) (List.mem_cons_of_mem _ mF_RX6_33) rfl rfl rfl rfl rfl rfl (by decide : 4 < 13) (rt (fun c => [.ref x2, .ref x33, .ref x70, .int (c.1 3), .ref x113, .null, .null, .null, .int (c.1 8), .null, .null, .null, .int (c.1 12)]) 6) rfl dX6_init_50 (fun Y145 C146 K147 n148 a149 s150 => ?_)
  have f151 := isX2_tr f135 K147 (by omega)
  have f152 := isX2_tr f136 K147 (by omega)
  have f153 := isX1_tr f137 K147 (by omega)
  have f154 := isX0_tr f134 K147 (by omega)
  have a155 := (K147.2.2.1 (b + 1) (by omega)).trans a138
  have a156 := (K147.2.2.1 (b + 13) (by omega)).trans a139
  have a157 := (K147.2.2.1 (b + 25) (by omega)).trans a140
  have a158 := (K147.2.2.1 (b + 40) (by omega)).trans a141
  have a159 := (K147.2.2.1 b (by omega)).trans a142
  have k160 := keep_tr k144 K147 (by omega)
  have n148 : Y145.N = b + 44 := by omega
  refine g_aload_n C146 0 dX6_init_53 rfl ?_
  refine g_iconst C146 (v := (2 : Int32)) dX6_init_54 (by decide) ?_
  refine g_newQ C146 hXa (id := b + 44) n148 (List.mem_cons_of_mem _ mCl_RX6_30) (k := 2) (by decide) (by decide) (by decide) (by decide) (by decide) dX6_init_55 (fun Y161 x162 C163 K164 n165 a166 s167 => ?_)
  have f168 := isX2_tr f151 K164 (by omega)
  have f169 := isX2_tr f152 K164 (by omega)
  have f170 := isX1_tr f153 K164 (by omega)
  have f171 := isX0_tr f154 K164 (by omega)
  have a172 := (K164.2.2.1 (b + 1) (by omega)).trans a155
  have a173 := (K164.2.2.1 (b + 13) (by omega)).trans a156
  have a174 := (K164.2.2.1 (b + 25) (by omega)).trans a157
  have a175 := (K164.2.2.1 (b + 40) (by omega)).trans a158
  have a176 := (K164.2.2.1 b (by omega)).trans a149
  have s177 := (K164.2.2.2 b (by omega) (by omega)).trans s150
  have k178 := keep_tr k160 K164 (by omega)
  have s179 : Y161.sh (b + 44) = sO Y161.cK 2 (fun _ => none) := by rw [s167]; show sO Y145.2.1.2.2.2 _ _ = sO Y161.2.1.2.2.2 _ _; rw [K164.1.2.1]
  refine g_dup C163 dX6_init_58 rfl ?_
  refine g_iconst C163 (v := (0 : Int32)) dX6_init_59 (by decide) ?_
  refine g_newO C163 hXa (id := b + 45) n165 (Cn := RX0) (T := TX0) (Nc := 8) (ci := 0) (ty := tyX0) (fun w hw => List.mem_cons_of_mem _ (inX0 w hw)) tyX0_ok (List.mem_cons_of_mem _ mCl_RX6_30) (List.mem_cons_of_mem _ mIns_X0) (List.mem_cons_of_mem _ mInit_RX0) rfl [.null, .null, .int 0, .int 0, .int 0, .int 0, .int 0, .null] dfX0 fX0 rfl (by decide) (by decide) dX6_init_60 (fun Y180 x181 C182 K183 n184 a185 s186 => ?_)
  have f187 := isX2_tr f168 K183 (by omega)
  have f188 := isX2_tr f169 K183 (by omega)
  have f189 := isX1_tr f170 K183 (by omega)
  have f190 := isX0_tr f171 K183 (by omega)
  have a191 := (K183.2.2.1 (b + 1) (by omega)).trans a172
  have a192 := (K183.2.2.1 (b + 13) (by omega)).trans a173
  have a193 := (K183.2.2.1 (b + 25) (by omega)).trans a174
  have a194 := (K183.2.2.1 (b + 40) (by omega)).trans a175
  have a195 := (K183.2.2.1 (b + 44) (by omega)).trans a166
  have a196 := (K183.2.2.1 b (by omega)).trans a176
  have s197 := (K183.2.2.2 b (by omega) (by omega)).trans s177
  have s198 : Y180.sh (b + 44) = sO Y180.cK 2 (fun _ => none) := by rw [K183.2.2.2 (b + 44) (by omega) (by omega), s179]; show sO Y161.2.1.2.2.2 _ _ = sO Y180.2.1.2.2.2 _ _; rw [K183.1.2.1]
  have k199 := keep_tr k178 K183 (by omega)
  refine g_dup C182 dX6_init_63 rfl ?_
  refine g_callC C182 hXa (ok_X0_init (cx_YI C182) (b := b + 45) n184 s186 h) (by omega) a185 (gw_good (fun w hw => by rcases List.mem_cons.mp hw with rfl | hw; exacts [mC_X0_init, hw])) rfl (List.mem_cons_of_mem _ mInit_RX0) (List.mem_cons_of_mem _ mM_RX6_32) (List.mem_cons_of_mem _ mI_X0_init) rfl dc_X0_init ⟨by decide, by decide⟩ (by decide) (by decide) (by decide) dX6_init_64 (fun Y200 m201 C202 K203 p204 => ?_)
  obtain ⟨n205, f206, h⟩ := p204
  have f207 := isX2_tr f187 K203 (by omega)
  have f208 := isX2_tr f188 K203 (by omega)
  have f209 := isX1_tr f189 K203 (by omega)
  have f210 := isX0_tr f190 K203 (by omega)
  have a211 := (K203.2.2.1 (b + 1) (by omega)).trans a191
  have a212 := (K203.2.2.1 (b + 13) (by omega)).trans a192
  have a213 := (K203.2.2.1 (b + 25) (by omega)).trans a193
  have a214 := (K203.2.2.1 (b + 40) (by omega)).trans a194
  have a215 := (K203.2.2.1 (b + 44) (by omega)).trans a195
  have a216 := (K203.2.2.1 (b + 45) (by omega)).trans a185
  have a217 := (K203.2.2.1 b (by omega)).trans a196
  have s218 := (K203.2.2.2 b (by omega) (by omega)).trans s197
  have s219 : Y200.sh (b + 44) = sO Y200.cK 2 (fun _ => none) := by rw [K203.2.2.2 (b + 44) (by omega) (by omega), s198]; show sO Y180.2.1.2.2.2 _ _ = sO Y200.2.1.2.2.2 _ _; rw [K203.1.2.1]
  have k220 := keep_tr k199 K203 (by omega)
  have n205 : Y200.N = b + 49 := by rw [n205]
  refine g_astq C202 (a := b + 44) (b := b + 45) (n := 2) (f := (fun _ => none)) (by omega) a215 s219 (by omega) a216 (by rw [isX0_sh f206]; rfl) (by decide) dX6_init_67 (fun Y221 C222 K223 n224 a225 s226 => ?_)
  have f227 := isX2_tr f207 K223 (by omega)
  have f228 := isX2_tr f208 K223 (by omega)
  have f229 := isX1_tr f209 K223 (by omega)
  have f230 := isX0_tr f210 K223 (by omega)
  have f231 := isX0_tr f206 K223 (by omega)
  have a232 := (K223.2.2.1 (b + 1) (by omega)).trans a211
  have a233 := (K223.2.2.1 (b + 13) (by omega)).trans a212
  have a234 := (K223.2.2.1 (b + 25) (by omega)).trans a213
  have a235 := (K223.2.2.1 (b + 40) (by omega)).trans a214
  have a236 := (K223.2.2.1 (b + 45) (by omega)).trans a216
  have a237 := (K223.2.2.1 b (by omega)).trans a217
  have s238 := (K223.2.2.2 b (by omega) (by omega)).trans s218
  have s239 : Y221.sh (b + 44) = sO Y221.cK 2 (va_up (fun _ => none) (0 : Int32).toNatClampNeg (some x181)) := by rw [s226]; show sO Y200.2.1.2.2.2 _ _ = sO Y221.2.1.2.2.2 _ _; rw [K223.1.2.1]
  have k240 := keep_tr k220 K223 (by omega)
  have n224 : Y221.N = b + 49 := by omega
  refine g_dup C222 dX6_init_68 rfl ?_
  refine g_iconst C222 (v := (1 : Int32)) dX6_init_69 (by decide) ?_
  refine g_newO C222 hXa (id := b + 49) n224 (Cn := RX0) (T := TX0) (Nc := 8) (ci := 0) (ty := tyX0) (fun w hw => List.mem_cons_of_mem _ (inX0 w hw)) tyX0_ok (List.mem_cons_of_mem _ mCl_RX6_30) (List.mem_cons_of_mem _ mIns_X0) (List.mem_cons_of_mem _ mInit_RX0) rfl [.null, .null, .int 0, .int 0, .int 0, .int 0, .int 0, .null] dfX0 fX0 rfl (by decide) (by decide) dX6_init_70 (fun Y241 x242 C243 K244 n245 a246 s247 => ?_)
  have f248 := isX2_tr f227 K244 (by omega)
  have f249 := isX2_tr f228 K244 (by omega)
  have f250 := isX1_tr f229 K244 (by omega)
  have f251 := isX0_tr f230 K244 (by omega)
  have f252 := isX0_tr f231 K244 (by omega)
  have a253 := (K244.2.2.1 (b + 1) (by omega)).trans a232
  have a254 := (K244.2.2.1 (b + 13) (by omega)).trans a233
  have a255 := (K244.2.2.1 (b + 25) (by omega)).trans a234
  have a256 := (K244.2.2.1 (b + 40) (by omega)).trans a235
  have a257 := (K244.2.2.1 (b + 45) (by omega)).trans a236
  have a258 := (K244.2.2.1 (b + 44) (by omega)).trans a225
  have a259 := (K244.2.2.1 b (by omega)).trans a237
  have s260 := (K244.2.2.2 b (by omega) (by omega)).trans s238
  have s261 : Y241.sh (b + 44) = sO Y241.cK 2 (va_up (fun _ => none) (0 : Int32).toNatClampNeg (some x181)) := by rw [K244.2.2.2 (b + 44) (by omega) (by omega), s239]; show sO Y221.2.1.2.2.2 _ _ = sO Y241.2.1.2.2.2 _ _; rw [K244.1.2.1]
  have k262 := keep_tr k240 K244 (by omega)
  refine g_dup C243 dX6_init_73 rfl ?_
  refine g_callC C243 hXa (ok_X0_init (cx_YI C243) (b := b + 49) n245 s247 h) (by omega) a246 (gw_good (fun w hw => by rcases List.mem_cons.mp hw with rfl | hw; exacts [mC_X0_init, hw])) rfl (List.mem_cons_of_mem _ mInit_RX0) (List.mem_cons_of_mem _ mM_RX6_32) (List.mem_cons_of_mem _ mI_X0_init) rfl dc_X0_init ⟨by decide, by decide⟩ (by decide) (by decide) (by decide) dX6_init_74 (fun Y263 m264 C265 K266 p267 => ?_)
  obtain ⟨n268, f269, h⟩ := p267
  have f270 := isX2_tr f248 K266 (by omega)
  have f271 := isX2_tr f249 K266 (by omega)
  have f272 := isX1_tr f250 K266 (by omega)
  have f273 := isX0_tr f251 K266 (by omega)
  have f274 := isX0_tr f252 K266 (by omega)
  have a275 := (K266.2.2.1 (b + 1) (by omega)).trans a253
  have a276 := (K266.2.2.1 (b + 13) (by omega)).trans a254
  have a277 := (K266.2.2.1 (b + 25) (by omega)).trans a255
  have a278 := (K266.2.2.1 (b + 40) (by omega)).trans a256
  have a279 := (K266.2.2.1 (b + 45) (by omega)).trans a257
  have a280 := (K266.2.2.1 (b + 44) (by omega)).trans a258
  have a281 := (K266.2.2.1 (b + 49) (by omega)).trans a246
  have a282 := (K266.2.2.1 b (by omega)).trans a259
  have s283 := (K266.2.2.2 b (by omega) (by omega)).trans s260
  have s284 : Y263.sh (b + 44) = sO Y263.cK 2 (va_up (fun _ => none) (0 : Int32).toNatClampNeg (some x181)) := by rw [K266.2.2.2 (b + 44) (by omega) (by omega), s261]; show sO Y241.2.1.2.2.2 _ _ = sO Y263.2.1.2.2.2 _ _; rw [K266.1.2.1]
  have k285 := keep_tr k262 K266 (by omega)
  have n268 : Y263.N = b + 53 := by rw [n268]
  refine g_astq C265 (a := b + 44) (b := b + 49) (n := 2) (f := (va_up (fun _ => none) (0 : Int32).toNatClampNeg (some x181))) (by omega) a280 s284 (by omega) a281 (by rw [isX0_sh f269]; rfl) (by decide) dX6_init_77 (fun Y286 C287 K288 n289 a290 s291 => ?_)
  have f292 := isX2_tr f270 K288 (by omega)
  have f293 := isX2_tr f271 K288 (by omega)
  have f294 := isX1_tr f272 K288 (by omega)
  have f295 := isX0_tr f273 K288 (by omega)
  have f296 := isX0_tr f274 K288 (by omega)
  have f297 := isX0_tr f269 K288 (by omega)
  have a298 := (K288.2.2.1 (b + 1) (by omega)).trans a275
  have a299 := (K288.2.2.1 (b + 13) (by omega)).trans a276
  have a300 := (K288.2.2.1 (b + 25) (by omega)).trans a277
  have a301 := (K288.2.2.1 (b + 40) (by omega)).trans a278
  have a302 := (K288.2.2.1 (b + 45) (by omega)).trans a279
  have a303 := (K288.2.2.1 (b + 49) (by omega)).trans a281
  have a304 := (K288.2.2.1 b (by omega)).trans a282
  have s305 := (K288.2.2.2 b (by omega) (by omega)).trans s283
  have s306 : Y286.sh (b + 44) = sO Y286.cK 2 (va_up (va_up (fun _ => none) (0 : Int32).toNatClampNeg (some x181)) (1 : Int32).toNatClampNeg (some x242)) := by rw [s291]; show sO Y263.2.1.2.2.2 _ _ = sO Y286.2.1.2.2.2 _ _; rw [K288.1.2.1]
  have k307 := keep_tr k285 K288 (by omega)
  have n289 : Y286.N = b + 53 := by omega
  refine g_putR C287 hXi (i := b) (ty := (.array (.object "NothingLeft$Kitchen"))) (ty0 := tyX6) (k := 5) (Nc := 13) (Cn := RX6) (T := TX6) (ci := 6) (by omega) a304 s305 rfl rfl (fun w hw => List.mem_cons_of_mem _ (inX6 w hw)) tyX6_ok nmX6 (by decide) (List.mem_cons_of_mem _ mF_RX6_37) rfl rfl rfl rfl rfl rfl (by decide : 5 < 13) (rt (fun c => [.ref x2, .ref x33, .ref x70, .int (c.1 3), .ref x113, .ref x162, .null, .null, .int (c.1 8), .null, .null, .null, .int (c.1 12)]) 6) rfl dX6_init_78 (fun Y308 C309 K310 n311 a312 s313 => ?_)
  have f314 := isX2_tr f292 K310 (by omega)
  have f315 := isX2_tr f293 K310 (by omega)
  have f316 := isX1_tr f294 K310 (by omega)
  have f317 := isX0_tr f295 K310 (by omega)
  have f318 := isX0_tr f296 K310 (by omega)
  have f319 := isX0_tr f297 K310 (by omega)
  have a320 := (K310.2.2.1 (b + 1) (by omega)).trans a298
  have a321 := (K310.2.2.1 (b + 13) (by omega)).trans a299
  have a322 := (K310.2.2.1 (b + 25) (by omega)).trans a300
  have a323 := (K310.2.2.1 (b + 40) (by omega)).trans a301
  have a324 := (K310.2.2.1 (b + 45) (by omega)).trans a302
  have a325 := (K310.2.2.1 (b + 49) (by omega)).trans a303
  have a326 := (K310.2.2.1 (b + 44) (by omega)).trans a290
  have a327 := (K310.2.2.1 b (by omega)).trans a304
  have s328 : Y308.sh (b + 44) = sO Y308.cK 2 (va_up (va_up (fun _ => none) (0 : Int32).toNatClampNeg (some x181)) (1 : Int32).toNatClampNeg (some x242)) := by rw [K310.2.2.2 (b + 44) (by omega) (by omega), s306]; show sO Y286.2.1.2.2.2 _ _ = sO Y308.2.1.2.2.2 _ _; rw [K310.1.2.1]
  have k329 := keep_tr k307 K310 (by omega)
  have n311 : Y308.N = b + 53 := by omega
  refine g_aload_n C309 0 dX6_init_81 rfl ?_
  refine g_iconst C309 (v := (2 : Int32)) dX6_init_82 (by decide) ?_
  refine g_newA C309 hXa (id := b + 53) n311 .boolean .boolean rfl (List.mem_cons_of_mem _ mArr_Z) Y308.cZ 2 rfl (fun _ _ z => z) rfl (k := 2) (by decide) (by decide) (by decide) (by decide) (by decide) dX6_init_83 (fun Y330 x331 C332 K333 n334 a335 s336 => ?_)
  have f337 := isX2_tr f314 K333 (by omega)
  have f338 := isX2_tr f315 K333 (by omega)
  have f339 := isX1_tr f316 K333 (by omega)
  have f340 := isX0_tr f317 K333 (by omega)
  have f341 := isX0_tr f318 K333 (by omega)
  have f342 := isX0_tr f319 K333 (by omega)
  have a343 := (K333.2.2.1 (b + 1) (by omega)).trans a320
  have a344 := (K333.2.2.1 (b + 13) (by omega)).trans a321
  have a345 := (K333.2.2.1 (b + 25) (by omega)).trans a322
  have a346 := (K333.2.2.1 (b + 40) (by omega)).trans a323
  have a347 := (K333.2.2.1 (b + 45) (by omega)).trans a324
  have a348 := (K333.2.2.1 (b + 49) (by omega)).trans a325
  have a349 := (K333.2.2.1 (b + 44) (by omega)).trans a326
  have a350 := (K333.2.2.1 b (by omega)).trans a312
  have s351 := (K333.2.2.2 b (by omega) (by omega)).trans s313
  have f352 := isZ_new s336 K333 n334
  have k353 := keep_tr k329 K333 (by omega)
  refine g_putR C332 hXi (i := b) (ty := (.array .boolean)) (ty0 := tyX6) (k := 6) (Nc := 13) (Cn := RX6) (T := TX6) (ci := 6) (by omega) a350 s351 rfl rfl (fun w hw => List.mem_cons_of_mem _ (inX6 w hw)) tyX6_ok nmX6 (by decide) (List.mem_cons_of_mem _ mF_RX6_41) rfl rfl rfl rfl rfl rfl (by decide : 6 < 13) (rt (fun c => [.ref x2, .ref x33, .ref x70, .int (c.1 3), .ref x113, .ref x162, .ref x331, .null, .int (c.1 8), .null, .null, .null, .int (c.1 12)]) 6) rfl dX6_init_85 (fun Y354 C355 K356 n357 a358 s359 => ?_)
  have f360 := isX2_tr f337 K356 (by omega)
  have f361 := isX2_tr f338 K356 (by omega)
  have f362 := isX1_tr f339 K356 (by omega)
  have f363 := isX0_tr f340 K356 (by omega)
  have f364 := isX0_tr f341 K356 (by omega)
  have f365 := isX0_tr f342 K356 (by omega)
  have f366 := isZ_tr f352 K356 (by omega)
  have a367 := (K356.2.2.1 (b + 1) (by omega)).trans a343
  have a368 := (K356.2.2.1 (b + 13) (by omega)).trans a344
  have a369 := (K356.2.2.1 (b + 25) (by omega)).trans a345
  have a370 := (K356.2.2.1 (b + 40) (by omega)).trans a346
  have a371 := (K356.2.2.1 (b + 45) (by omega)).trans a347
  have a372 := (K356.2.2.1 (b + 49) (by omega)).trans a348
  have a373 := (K356.2.2.1 (b + 44) (by omega)).trans a349
  have a374 := (K356.2.2.1 (b + 53) (by omega)).trans a335
  have a375 := (K356.2.2.1 b (by omega)).trans a350
  have s376 : Y354.sh (b + 44) = sO Y354.cK 2 (va_up (va_up (fun _ => none) (0 : Int32).toNatClampNeg (some x181)) (1 : Int32).toNatClampNeg (some x242)) := by rw [K356.2.2.2 (b + 44) (by omega) (by omega), s328]; show sO Y330.2.1.2.2.2 _ _ = sO Y354.2.1.2.2.2 _ _; rw [K356.1.2.1]
  have k377 := keep_tr k353 K356 (by omega)
  have n357 : Y354.N = b + 54 := by omega
  refine g_aload_n C355 0 dX6_init_88 rfl ?_
  refine g_bipush C355 (v := (7 : Int32)) dX6_init_89 (by decide) ?_
  refine g_newA C355 hXa (id := b + 54) n357 .int .int rfl (List.mem_cons_of_mem _ mArr_I) Y354.cI 0 rfl (fun _ _ z => z) rfl (k := 7) (by decide) (by decide) (by decide) (by decide) (by decide) dX6_init_91 (fun Y378 x379 C380 K381 n382 a383 s384 => ?_)
  have f385 := isX2_tr f360 K381 (by omega)
  have f386 := isX2_tr f361 K381 (by omega)
  have f387 := isX1_tr f362 K381 (by omega)
  have f388 := isX0_tr f363 K381 (by omega)
  have f389 := isX0_tr f364 K381 (by omega)
  have f390 := isX0_tr f365 K381 (by omega)
  have f391 := isZ_tr f366 K381 (by omega)
  have a392 := (K381.2.2.1 (b + 1) (by omega)).trans a367
  have a393 := (K381.2.2.1 (b + 13) (by omega)).trans a368
  have a394 := (K381.2.2.1 (b + 25) (by omega)).trans a369
  have a395 := (K381.2.2.1 (b + 40) (by omega)).trans a370
  have a396 := (K381.2.2.1 (b + 45) (by omega)).trans a371
  have a397 := (K381.2.2.1 (b + 49) (by omega)).trans a372
  have a398 := (K381.2.2.1 (b + 44) (by omega)).trans a373
  have a399 := (K381.2.2.1 (b + 53) (by omega)).trans a374
  have a400 := (K381.2.2.1 b (by omega)).trans a358
  have s401 := (K381.2.2.2 b (by omega) (by omega)).trans s359
  have f402 := isI_new s384 K381 n382
  have k403 := keep_tr k377 K381 (by omega)
  refine g_putR C380 hXi (i := b) (ty := (.array .int)) (ty0 := tyX6) (k := 7) (Nc := 13) (Cn := RX6) (T := TX6) (ci := 6) (by omega) a400 s401 rfl rfl (fun w hw => List.mem_cons_of_mem _ (inX6 w hw)) tyX6_ok nmX6 (by decide) (List.mem_cons_of_mem _ mF_RX6_45) rfl rfl rfl rfl rfl rfl (by decide : 7 < 13) (rt (fun c => [.ref x2, .ref x33, .ref x70, .int (c.1 3), .ref x113, .ref x162, .ref x331, .ref x379, .int (c.1 8), .null, .null, .null, .int (c.1 12)]) 6) rfl dX6_init_93 (fun Y404 C405 K406 n407 a408 s409 => ?_)
  have f410 := isX2_tr f385 K406 (by omega)
  have f411 := isX2_tr f386 K406 (by omega)
  have f412 := isX1_tr f387 K406 (by omega)
  have f413 := isX0_tr f388 K406 (by omega)
  have f414 := isX0_tr f389 K406 (by omega)
  have f415 := isX0_tr f390 K406 (by omega)
  have f416 := isZ_tr f391 K406 (by omega)
  have f417 := isI_tr f402 K406 (by omega)
  have a418 := (K406.2.2.1 (b + 1) (by omega)).trans a392
  have a419 := (K406.2.2.1 (b + 13) (by omega)).trans a393
  have a420 := (K406.2.2.1 (b + 25) (by omega)).trans a394
  have a421 := (K406.2.2.1 (b + 40) (by omega)).trans a395
  have a422 := (K406.2.2.1 (b + 45) (by omega)).trans a396
  have a423 := (K406.2.2.1 (b + 49) (by omega)).trans a397
  have a424 := (K406.2.2.1 (b + 44) (by omega)).trans a398
  have a425 := (K406.2.2.1 (b + 53) (by omega)).trans a399
  have a426 := (K406.2.2.1 (b + 54) (by omega)).trans a383
  have a427 := (K406.2.2.1 b (by omega)).trans a400
  have s428 : Y404.sh (b + 44) = sO Y404.cK 2 (va_up (va_up (fun _ => none) (0 : Int32).toNatClampNeg (some x181)) (1 : Int32).toNatClampNeg (some x242)) := by rw [K406.2.2.2 (b + 44) (by omega) (by omega), s376]; show sO Y378.2.1.2.2.2 _ _ = sO Y404.2.1.2.2.2 _ _; rw [K406.1.2.1]
  have k429 := keep_tr k403 K406 (by omega)
  have n407 : Y404.N = b + 55 := by omega
  refine g_aload_n C405 0 dX6_init_96 rfl ?_
  refine g_iconst C405 (v := (0 : Int32)) dX6_init_97 (by decide) ?_
  rw [← a408]
  refine g_put C405 (μ' := ms (mz (mz (m264) (b + 53)) (b + 54)) b 8 (0 : Int32)) (ty := .int) (ty0 := tyX6) (k := 8) (Nc := 13) (Cn := RX6) (T := TX6) (ci := 6) (by omega) s409 rfl rfl (fun w hw => List.mem_cons_of_mem _ (inX6 w hw)) tyX6_ok nmX6 (by decide) (List.mem_cons_of_mem _ mF_RX6_49) rfl rfl rfl rfl rfl (by decide : 8 < 13) (by rw [mrow_ms]; rfl) (fun b h => mrow_ms_ne h) dX6_init_98 ?_
  rw [a408]
  refine g_aload_n C405 0 dX6_init_101 rfl ?_
  refine g_newO C405 hXa (id := b + 55) n407 (Cn := RX5) (T := TX5) (Nc := 2) (ci := 5) (ty := tyX5) (fun w hw => List.mem_cons_of_mem _ (inX5 w hw)) tyX5_ok (List.mem_cons_of_mem _ mCl_RX6_52) (List.mem_cons_of_mem _ mIns_X5) (List.mem_cons_of_mem _ mInit_RX5) rfl [.null, .int 0] dfX5 fX5 rfl (by decide) (by decide) dX6_init_102 (fun Y430 x431 C432 K433 n434 a435 s436 => ?_)
  have f437 := isX2_tr f410 K433 (by omega)
  have f438 := isX2_tr f411 K433 (by omega)
  have f439 := isX1_tr f412 K433 (by omega)
  have f440 := isX0_tr f413 K433 (by omega)
  have f441 := isX0_tr f414 K433 (by omega)
  have f442 := isX0_tr f415 K433 (by omega)
  have f443 := isZ_tr f416 K433 (by omega)
  have f444 := isI_tr f417 K433 (by omega)
  have a445 := (K433.2.2.1 (b + 1) (by omega)).trans a418
  have a446 := (K433.2.2.1 (b + 13) (by omega)).trans a419
  have a447 := (K433.2.2.1 (b + 25) (by omega)).trans a420
  have a448 := (K433.2.2.1 (b + 40) (by omega)).trans a421
  have a449 := (K433.2.2.1 (b + 45) (by omega)).trans a422
  have a450 := (K433.2.2.1 (b + 49) (by omega)).trans a423
  have a451 := (K433.2.2.1 (b + 44) (by omega)).trans a424
  have a452 := (K433.2.2.1 (b + 53) (by omega)).trans a425
  have a453 := (K433.2.2.1 (b + 54) (by omega)).trans a426
  have a454 := (K433.2.2.1 b (by omega)).trans a408
  have s455 := (K433.2.2.2 b (by omega) (by omega)).trans s409
  have s456 : Y430.sh (b + 44) = sO Y430.cK 2 (va_up (va_up (fun _ => none) (0 : Int32).toNatClampNeg (some x181)) (1 : Int32).toNatClampNeg (some x242)) := by rw [K433.2.2.2 (b + 44) (by omega) (by omega), s428]; show sO Y404.2.1.2.2.2 _ _ = sO Y430.2.1.2.2.2 _ _; rw [K433.1.2.1]
  have k457 := keep_tr k429 K433 (by omega)
  refine g_dup C432 dX6_init_105 rfl ?_
  refine g_callN C432 hXa (ok_X5_init (cx_YI C432) (b := b + 55) n434 s436 h) (by omega) a435 (gw_good (fun w hw => by rcases List.mem_cons.mp hw with rfl | hw; exacts [mC_X5_init, hw])) rfl (List.mem_cons_of_mem _ mInit_RX5) (host := RX6) (by simp [sNst]) (List.mem_cons_of_mem _ mI_X5_init) rfl dc_X5_init ⟨by decide, by decide⟩ (by decide) (by decide) (by decide) dX6_init_106 (fun Y458 m459 C460 K461 p462 => ?_)
  obtain ⟨n463, f464, h⟩ := p462
  have f465 := isX2_tr f437 K461 (by omega)
  have f466 := isX2_tr f438 K461 (by omega)
  have f467 := isX1_tr f439 K461 (by omega)
  have f468 := isX0_tr f440 K461 (by omega)
  have f469 := isX0_tr f441 K461 (by omega)
  have f470 := isX0_tr f442 K461 (by omega)
  have f471 := isZ_tr f443 K461 (by omega)
  have f472 := isI_tr f444 K461 (by omega)
  have a473 := (K461.2.2.1 (b + 1) (by omega)).trans a445
  have a474 := (K461.2.2.1 (b + 13) (by omega)).trans a446
  have a475 := (K461.2.2.1 (b + 25) (by omega)).trans a447
  have a476 := (K461.2.2.1 (b + 40) (by omega)).trans a448
  have a477 := (K461.2.2.1 (b + 45) (by omega)).trans a449
  have a478 := (K461.2.2.1 (b + 49) (by omega)).trans a450
  have a479 := (K461.2.2.1 (b + 44) (by omega)).trans a451
  have a480 := (K461.2.2.1 (b + 53) (by omega)).trans a452
  have a481 := (K461.2.2.1 (b + 54) (by omega)).trans a453
  have a482 := (K461.2.2.1 (b + 55) (by omega)).trans a435
  have a483 := (K461.2.2.1 b (by omega)).trans a454
  have s484 := (K461.2.2.2 b (by omega) (by omega)).trans s455
  have s485 : Y458.sh (b + 44) = sO Y458.cK 2 (va_up (va_up (fun _ => none) (0 : Int32).toNatClampNeg (some x181)) (1 : Int32).toNatClampNeg (some x242)) := by rw [K461.2.2.2 (b + 44) (by omega) (by omega), s456]; show sO Y430.2.1.2.2.2 _ _ = sO Y458.2.1.2.2.2 _ _; rw [K461.1.2.1]
  have k486 := keep_tr k457 K461 (by omega)
  have n463 : Y458.N = b + 60 := by rw [n463]
  refine g_putR C460 hXi (i := b) (ty := (.object "NothingLeft$Walk")) (ty0 := tyX6) (k := 9) (Nc := 13) (Cn := RX6) (T := TX6) (ci := 6) (by omega) a483 s484 rfl rfl (fun w hw => List.mem_cons_of_mem _ (inX6 w hw)) tyX6_ok nmX6 (by decide) (List.mem_cons_of_mem _ mF_RX6_55) rfl rfl rfl rfl rfl rfl (by decide : 9 < 13) (rt (fun c => [.ref x2, .ref x33, .ref x70, .int (c.1 3), .ref x113, .ref x162, .ref x331, .ref x379, .int (c.1 8), .ref x431, .null, .null, .int (c.1 12)]) 6) rfl dX6_init_109 (fun Y487 C488 K489 n490 a491 s492 => ?_)
  have f493 := isX2_tr f465 K489 (by omega)
  have f494 := isX2_tr f466 K489 (by omega)
  have f495 := isX1_tr f467 K489 (by omega)
  have f496 := isX0_tr f468 K489 (by omega)
  have f497 := isX0_tr f469 K489 (by omega)
  have f498 := isX0_tr f470 K489 (by omega)
  have f499 := isZ_tr f471 K489 (by omega)
  have f500 := isI_tr f472 K489 (by omega)
  have f501 := isX5_tr f464 K489 (by omega)
  have a502 := (K489.2.2.1 (b + 1) (by omega)).trans a473
  have a503 := (K489.2.2.1 (b + 13) (by omega)).trans a474
  have a504 := (K489.2.2.1 (b + 25) (by omega)).trans a475
  have a505 := (K489.2.2.1 (b + 40) (by omega)).trans a476
  have a506 := (K489.2.2.1 (b + 45) (by omega)).trans a477
  have a507 := (K489.2.2.1 (b + 49) (by omega)).trans a478
  have a508 := (K489.2.2.1 (b + 44) (by omega)).trans a479
  have a509 := (K489.2.2.1 (b + 53) (by omega)).trans a480
  have a510 := (K489.2.2.1 (b + 54) (by omega)).trans a481
  have a511 := (K489.2.2.1 (b + 55) (by omega)).trans a482
  have a512 := (K489.2.2.1 b (by omega)).trans a483
  have s513 : Y487.sh (b + 44) = sO Y487.cK 2 (va_up (va_up (fun _ => none) (0 : Int32).toNatClampNeg (some x181)) (1 : Int32).toNatClampNeg (some x242)) := by rw [K489.2.2.2 (b + 44) (by omega) (by omega), s485]; show sO Y458.2.1.2.2.2 _ _ = sO Y487.2.1.2.2.2 _ _; rw [K489.1.2.1]
  have k514 := keep_tr k486 K489 (by omega)
  have n490 : Y487.N = b + 60 := by omega
  refine g_aload_n C488 0 dX6_init_112 rfl ?_
  refine g_newO C488 hXa (id := b + 60) n490 (Cn := RX3) (T := TX3) (Nc := 18) (ci := 3) (ty := tyX3) (fun w hw => List.mem_cons_of_mem _ (inX3 w hw)) tyX3_ok (List.mem_cons_of_mem _ mCl_RX6_59) (List.mem_cons_of_mem _ mIns_X3) (List.mem_cons_of_mem _ mInit_RX3) rfl [.null, .null, .null, .int 0, .long 0, .int 0, .int 0, .int 0, .int 0, .null, .long 0, .int 0, .null, .int 0, .null, .int 0, .int 0, .null] dfX3 fX3 rfl (by decide) (by decide) dX6_init_113 (fun Y515 x516 C517 K518 n519 a520 s521 => ?_)
  have f522 := isX2_tr f493 K518 (by omega)
  have f523 := isX2_tr f494 K518 (by omega)
  have f524 := isX1_tr f495 K518 (by omega)
  have f525 := isX0_tr f496 K518 (by omega)
  have f526 := isX0_tr f497 K518 (by omega)
  have f527 := isX0_tr f498 K518 (by omega)
  have f528 := isZ_tr f499 K518 (by omega)
  have f529 := isI_tr f500 K518 (by omega)
  have f530 := isX5_tr f501 K518 (by omega)
  have a531 := (K518.2.2.1 (b + 1) (by omega)).trans a502
  have a532 := (K518.2.2.1 (b + 13) (by omega)).trans a503
  have a533 := (K518.2.2.1 (b + 25) (by omega)).trans a504
  have a534 := (K518.2.2.1 (b + 40) (by omega)).trans a505
  have a535 := (K518.2.2.1 (b + 45) (by omega)).trans a506
  have a536 := (K518.2.2.1 (b + 49) (by omega)).trans a507
  have a537 := (K518.2.2.1 (b + 44) (by omega)).trans a508
  have a538 := (K518.2.2.1 (b + 53) (by omega)).trans a509
  have a539 := (K518.2.2.1 (b + 54) (by omega)).trans a510
  have a540 := (K518.2.2.1 (b + 55) (by omega)).trans a511
  have a541 := (K518.2.2.1 b (by omega)).trans a491
  have s542 := (K518.2.2.2 b (by omega) (by omega)).trans s492
  have s543 : Y515.sh (b + 44) = sO Y515.cK 2 (va_up (va_up (fun _ => none) (0 : Int32).toNatClampNeg (some x181)) (1 : Int32).toNatClampNeg (some x242)) := by rw [K518.2.2.2 (b + 44) (by omega) (by omega), s513]; show sO Y487.2.1.2.2.2 _ _ = sO Y515.2.1.2.2.2 _ _; rw [K518.1.2.1]
  have k544 := keep_tr k514 K518 (by omega)
  refine g_dup C517 dX6_init_116 rfl ?_
  refine g_callN C517 hXa (ok_X3_init (cx_YI C517) (b := b + 60) n519 s521 h) (by omega) a520 (gw_good (fun w hw => by rcases List.mem_cons.mp hw with rfl | hw; exacts [mC_X3_init, hw])) rfl (List.mem_cons_of_mem _ mInit_RX3) (host := RX6) (by simp [sNst]) (List.mem_cons_of_mem _ mI_X3_init) rfl dc_X3_init ⟨by decide, by decide⟩ (by decide) (by decide) (by decide) dX6_init_117 (fun Y545 m546 C547 K548 p549 => ?_)
  obtain ⟨n550, f551, h⟩ := p549
  have f552 := isX2_tr f522 K548 (by omega)
  have f553 := isX2_tr f523 K548 (by omega)
  have f554 := isX1_tr f524 K548 (by omega)
  have f555 := isX0_tr f525 K548 (by omega)
  have f556 := isX0_tr f526 K548 (by omega)
  have f557 := isX0_tr f527 K548 (by omega)
  have f558 := isZ_tr f528 K548 (by omega)
  have f559 := isI_tr f529 K548 (by omega)
  have f560 := isX5_tr f530 K548 (by omega)
  have a561 := (K548.2.2.1 (b + 1) (by omega)).trans a531
  have a562 := (K548.2.2.1 (b + 13) (by omega)).trans a532
  have a563 := (K548.2.2.1 (b + 25) (by omega)).trans a533
  have a564 := (K548.2.2.1 (b + 40) (by omega)).trans a534
  have a565 := (K548.2.2.1 (b + 45) (by omega)).trans a535
  have a566 := (K548.2.2.1 (b + 49) (by omega)).trans a536
  have a567 := (K548.2.2.1 (b + 44) (by omega)).trans a537
  have a568 := (K548.2.2.1 (b + 53) (by omega)).trans a538
  have a569 := (K548.2.2.1 (b + 54) (by omega)).trans a539
  have a570 := (K548.2.2.1 (b + 55) (by omega)).trans a540
  have a571 := (K548.2.2.1 (b + 60) (by omega)).trans a520
  have a572 := (K548.2.2.1 b (by omega)).trans a541
  have s573 := (K548.2.2.2 b (by omega) (by omega)).trans s542
  have s574 : Y545.sh (b + 44) = sO Y545.cK 2 (va_up (va_up (fun _ => none) (0 : Int32).toNatClampNeg (some x181)) (1 : Int32).toNatClampNeg (some x242)) := by rw [K548.2.2.2 (b + 44) (by omega) (by omega), s543]; show sO Y515.2.1.2.2.2 _ _ = sO Y545.2.1.2.2.2 _ _; rw [K548.1.2.1]
  have k575 := keep_tr k544 K548 (by omega)
  have n550 : Y545.N = b + 96 := by rw [n550]
  refine g_putR C547 hXi (i := b) (ty := (.object "NothingLeft$Search")) (ty0 := tyX6) (k := 10) (Nc := 13) (Cn := RX6) (T := TX6) (ci := 6) (by omega) a572 s573 rfl rfl (fun w hw => List.mem_cons_of_mem _ (inX6 w hw)) tyX6_ok nmX6 (by decide) (List.mem_cons_of_mem _ mF_RX6_62) rfl rfl rfl rfl rfl rfl (by decide : 10 < 13) (rt (fun c => [.ref x2, .ref x33, .ref x70, .int (c.1 3), .ref x113, .ref x162, .ref x331, .ref x379, .int (c.1 8), .ref x431, .ref x516, .null, .int (c.1 12)]) 6) rfl dX6_init_120 (fun Y576 C577 K578 n579 a580 s581 => ?_)
  have f582 := isX2_tr f552 K578 (by omega)
  have f583 := isX2_tr f553 K578 (by omega)
  have f584 := isX1_tr f554 K578 (by omega)
  have f585 := isX0_tr f555 K578 (by omega)
  have f586 := isX0_tr f556 K578 (by omega)
  have f587 := isX0_tr f557 K578 (by omega)
  have f588 := isZ_tr f558 K578 (by omega)
  have f589 := isI_tr f559 K578 (by omega)
  have f590 := isX5_tr f560 K578 (by omega)
  have f591 := isX3_tr f551 K578 (by omega)
  have a592 := (K578.2.2.1 (b + 1) (by omega)).trans a561
  have a593 := (K578.2.2.1 (b + 13) (by omega)).trans a562
  have a594 := (K578.2.2.1 (b + 25) (by omega)).trans a563
  have a595 := (K578.2.2.1 (b + 40) (by omega)).trans a564
  have a596 := (K578.2.2.1 (b + 45) (by omega)).trans a565
  have a597 := (K578.2.2.1 (b + 49) (by omega)).trans a566
  have a598 := (K578.2.2.1 (b + 44) (by omega)).trans a567
  have a599 := (K578.2.2.1 (b + 53) (by omega)).trans a568
  have a600 := (K578.2.2.1 (b + 54) (by omega)).trans a569
  have a601 := (K578.2.2.1 (b + 55) (by omega)).trans a570
  have a602 := (K578.2.2.1 (b + 60) (by omega)).trans a571
  have a603 := (K578.2.2.1 b (by omega)).trans a572
  have s604 : Y576.sh (b + 44) = sO Y576.cK 2 (va_up (va_up (fun _ => none) (0 : Int32).toNatClampNeg (some x181)) (1 : Int32).toNatClampNeg (some x242)) := by rw [K578.2.2.2 (b + 44) (by omega) (by omega), s574]; show sO Y545.2.1.2.2.2 _ _ = sO Y576.2.1.2.2.2 _ _; rw [K578.1.2.1]
  have k605 := keep_tr k575 K578 (by omega)
  have n579 : Y576.N = b + 96 := by omega
  refine g_aload_n C577 0 dX6_init_123 rfl ?_
  refine g_newO C577 hXa (id := b + 96) n579 (Cn := RX4) (T := TX4) (Nc := 3) (ci := 4) (ty := tyX4) (fun w hw => List.mem_cons_of_mem _ (inX4 w hw)) tyX4_ok (List.mem_cons_of_mem _ mCl_RX6_66) (List.mem_cons_of_mem _ mIns_X4) (List.mem_cons_of_mem _ mInit_RX4) rfl [.null, .null, .null] dfX4 fX4 rfl (by decide) (by decide) dX6_init_124 (fun Y606 x607 C608 K609 n610 a611 s612 => ?_)
  have f613 := isX2_tr f582 K609 (by omega)
  have f614 := isX2_tr f583 K609 (by omega)
  have f615 := isX1_tr f584 K609 (by omega)
  have f616 := isX0_tr f585 K609 (by omega)
  have f617 := isX0_tr f586 K609 (by omega)
  have f618 := isX0_tr f587 K609 (by omega)
  have f619 := isZ_tr f588 K609 (by omega)
  have f620 := isI_tr f589 K609 (by omega)
  have f621 := isX5_tr f590 K609 (by omega)
  have f622 := isX3_tr f591 K609 (by omega)
  have a623 := (K609.2.2.1 (b + 1) (by omega)).trans a592
  have a624 := (K609.2.2.1 (b + 13) (by omega)).trans a593
  have a625 := (K609.2.2.1 (b + 25) (by omega)).trans a594
  have a626 := (K609.2.2.1 (b + 40) (by omega)).trans a595
  have a627 := (K609.2.2.1 (b + 45) (by omega)).trans a596
  have a628 := (K609.2.2.1 (b + 49) (by omega)).trans a597
  have a629 := (K609.2.2.1 (b + 44) (by omega)).trans a598
  have a630 := (K609.2.2.1 (b + 53) (by omega)).trans a599
  have a631 := (K609.2.2.1 (b + 54) (by omega)).trans a600
  have a632 := (K609.2.2.1 (b + 55) (by omega)).trans a601
  have a633 := (K609.2.2.1 (b + 60) (by omega)).trans a602
  have a634 := (K609.2.2.1 b (by omega)).trans a580
  have s635 := (K609.2.2.2 b (by omega) (by omega)).trans s581
  have s636 : Y606.sh (b + 44) = sO Y606.cK 2 (va_up (va_up (fun _ => none) (0 : Int32).toNatClampNeg (some x181)) (1 : Int32).toNatClampNeg (some x242)) := by rw [K609.2.2.2 (b + 44) (by omega) (by omega), s604]; show sO Y576.2.1.2.2.2 _ _ = sO Y606.2.1.2.2.2 _ _; rw [K609.1.2.1]
  have k637 := keep_tr k605 K609 (by omega)
  refine g_dup C608 dX6_init_127 rfl ?_
  refine g_callC C608 hXa (ok_X4_init (cx_YI C608) (b := b + 96) n610 s612 h) (by omega) a611 (gw_good (fun w hw => by rcases List.mem_cons.mp hw with rfl | hw; exacts [mC_X4_init, hw])) rfl (List.mem_cons_of_mem _ mInit_RX4) (List.mem_cons_of_mem _ mM_RX6_68) (List.mem_cons_of_mem _ mI_X4_init) rfl dc_X4_init ⟨by decide, by decide⟩ (by decide) (by decide) (by decide) dX6_init_128 (fun Y638 m639 C640 K641 p642 => ?_)
  obtain ⟨n643, f644, h⟩ := p642
  have f645 := isX2_tr f613 K641 (by omega)
  have f646 := isX2_tr f614 K641 (by omega)
  have f647 := isX1_tr f615 K641 (by omega)
  have f648 := isX0_tr f616 K641 (by omega)
  have f649 := isX0_tr f617 K641 (by omega)
  have f650 := isX0_tr f618 K641 (by omega)
  have f651 := isZ_tr f619 K641 (by omega)
  have f652 := isI_tr f620 K641 (by omega)
  have f653 := isX5_tr f621 K641 (by omega)
  have f654 := isX3_tr f622 K641 (by omega)
  have a655 := (K641.2.2.1 (b + 1) (by omega)).trans a623
  have a656 := (K641.2.2.1 (b + 13) (by omega)).trans a624
  have a657 := (K641.2.2.1 (b + 25) (by omega)).trans a625
  have a658 := (K641.2.2.1 (b + 40) (by omega)).trans a626
  have a659 := (K641.2.2.1 (b + 45) (by omega)).trans a627
  have a660 := (K641.2.2.1 (b + 49) (by omega)).trans a628
  have a661 := (K641.2.2.1 (b + 44) (by omega)).trans a629
  have a662 := (K641.2.2.1 (b + 53) (by omega)).trans a630
  have a663 := (K641.2.2.1 (b + 54) (by omega)).trans a631
  have a664 := (K641.2.2.1 (b + 55) (by omega)).trans a632
  have a665 := (K641.2.2.1 (b + 60) (by omega)).trans a633
  have a666 := (K641.2.2.1 (b + 96) (by omega)).trans a611
  have a667 := (K641.2.2.1 b (by omega)).trans a634
  have s668 := (K641.2.2.2 b (by omega) (by omega)).trans s635
  have s669 : Y638.sh (b + 44) = sO Y638.cK 2 (va_up (va_up (fun _ => none) (0 : Int32).toNatClampNeg (some x181)) (1 : Int32).toNatClampNeg (some x242)) := by rw [K641.2.2.2 (b + 44) (by omega) (by omega), s636]; show sO Y606.2.1.2.2.2 _ _ = sO Y638.2.1.2.2.2 _ _; rw [K641.1.2.1]
  have k670 := keep_tr k637 K641 (by omega)
  have n643 : Y638.N = b + 100 := by rw [n643]
  refine g_putR C640 hXi (i := b) (ty := (.object "NothingLeft$Sheets")) (ty0 := tyX6) (k := 11) (Nc := 13) (Cn := RX6) (T := TX6) (ci := 6) (by omega) a667 s668 rfl rfl (fun w hw => List.mem_cons_of_mem _ (inX6 w hw)) tyX6_ok nmX6 (by decide) (List.mem_cons_of_mem _ mF_RX6_69) rfl rfl rfl rfl rfl rfl (by decide : 11 < 13) (rt (fun c => [.ref x2, .ref x33, .ref x70, .int (c.1 3), .ref x113, .ref x162, .ref x331, .ref x379, .int (c.1 8), .ref x431, .ref x516, .ref x607, .int (c.1 12)]) 6) rfl dX6_init_131 (fun Y671 C672 K673 n674 a675 s676 => ?_)
  have f677 := isX2_tr f645 K673 (by omega)
  have f678 := isX2_tr f646 K673 (by omega)
  have f679 := isX1_tr f647 K673 (by omega)
  have f680 := isX0_tr f648 K673 (by omega)
  have f681 := isX0_tr f649 K673 (by omega)
  have f682 := isX0_tr f650 K673 (by omega)
  have f683 := isZ_tr f651 K673 (by omega)
  have f684 := isI_tr f652 K673 (by omega)
  have f685 := isX5_tr f653 K673 (by omega)
  have f686 := isX3_tr f654 K673 (by omega)
  have f687 := isX4_tr f644 K673 (by omega)
  have a688 := (K673.2.2.1 (b + 1) (by omega)).trans a655
  have a689 := (K673.2.2.1 (b + 13) (by omega)).trans a656
  have a690 := (K673.2.2.1 (b + 25) (by omega)).trans a657
  have a691 := (K673.2.2.1 (b + 40) (by omega)).trans a658
  have a692 := (K673.2.2.1 (b + 45) (by omega)).trans a659
  have a693 := (K673.2.2.1 (b + 49) (by omega)).trans a660
  have a694 := (K673.2.2.1 (b + 44) (by omega)).trans a661
  have a695 := (K673.2.2.1 (b + 53) (by omega)).trans a662
  have a696 := (K673.2.2.1 (b + 54) (by omega)).trans a663
  have a697 := (K673.2.2.1 (b + 55) (by omega)).trans a664
  have a698 := (K673.2.2.1 (b + 60) (by omega)).trans a665
  have a699 := (K673.2.2.1 (b + 96) (by omega)).trans a666
  have a700 := (K673.2.2.1 b (by omega)).trans a667
  have s701 : Y671.sh (b + 44) = sO Y671.cK 2 (va_up (va_up (fun _ => none) (0 : Int32).toNatClampNeg (some x181)) (1 : Int32).toNatClampNeg (some x242)) := by rw [K673.2.2.2 (b + 44) (by omega) (by omega), s669]; show sO Y638.2.1.2.2.2 _ _ = sO Y671.2.1.2.2.2 _ _; rw [K673.1.2.1]
  have k702 := keep_tr k670 K673 (by omega)
  have n674 : Y671.N = b + 100 := by omega
  have f703 : isX6 Y671 b := ⟨by omega, by rw [s676]; unfold sX6; rw [a688, a689, a690, a691, a694, a695, a696, a697, a698, a699], f677, f678, f679, f680, ⟨by omega, ⟨_, s701, fun i hi => match i, hi with | 0, _ => (a692 ▸ rfl) | 1, _ => (a693 ▸ rfl) | i + 2, z => absurd z (by omega)⟩, fun i hi => match i, hi with | 0, _ => f681 | 1, _ => f682 | i + 2, z => absurd z (by omega)⟩, f683, f684, f685, f686, f687⟩
  rw [← a675]
  exact sf_X6_init C672 (fun pc lv μ' hd q => hr pc lv Y671 μ' hd C672 k702 ⟨n674, f703, q⟩) (cx_YI C672) f703 h
def SX7_init_200 (X : XT) (Y : YT) (b : Nat) : Int32 → Mem → Prop := fun v1 μ => G X Y 2 200 [(0, .ref (Y.ad b)), (1, .int v1)] [] μ
set_option maxRecDepth 20000 in
set_option maxHeartbeats 4000000 in
theorem tX7_init_200 {X : XT} {Y : YT} {l0 : Launch} {b : Nat} {Q : Mem → Prop} (C : Cx X Y 2 cX7_init RX7 WX7_init (rmC 2 46 24 2184) l0) (hr : RVn X Y 2 cX7_init Q) (hI : YI Y) (h0 : isX7 Y b) (v1 : Int32) (μ : Mem) (h : nX7_init_200 b Q (SX7_init_200 X Y b) v1 μ) : G X Y 2 200 [(0, .ref (Y.ad b)), (1, .int v1)] [] μ := by
  unfold nX7_init_200 at h
  refine g_iload_n C 1 dX7_init_200 rfl ?_
  refine g_iconst C (v := (4 : Int32)) dX7_init_201 (by decide) ?_
  refine g_icmp_ge C 219 dX7_init_202 (by decide) (fun c1 => ?_) (fun c1 => ?_)
  · replace h := h.1 c1
    refine g_aload_n C 0 dX7_init_219 rfl ?_
    refine g_callVV C [] [] (ok_X7_firstDraft hI h0 h) (cw_RX7_83 _) rfl dc_X7_firstDraft ⟨Nat.le_of_ble_eq_true rfl, Nat.le_of_ble_eq_true rfl⟩ (isX7_lt h0) (isX7_sh h0) rfl rfl rfl rfl (Nat.le_of_ble_eq_true rfl) dX7_init_220 (fun m2 h => ?_)
    refine g_aload_n C 0 dX7_init_223 rfl ?_
    refine g_callVV C [] [] (ok_X7_keepDraft hI h0 h) (cw_RX7_86 _) rfl dc_X7_keepDraft ⟨Nat.le_of_ble_eq_true rfl, Nat.le_of_ble_eq_true rfl⟩ (isX7_lt h0) (isX7_sh h0) rfl rfl rfl rfl (Nat.le_of_ble_eq_true rfl) dX7_init_224 (fun m4 h => ?_)
    exact hr _ _ _ dX7_init_227 h
  · replace h := h.2 c1
    refine g_aload_n C 0 dX7_init_205 rfl ?_
    refine gf_RX7_74 C h0 dX7_init_206 ?_
    refine g_iload_n C 1 dX7_init_209 rfl ?_
    refine g_bipush C (v := (-4 : Int32)) dX7_init_210 (by decide) ?_
    refine g_iast C (isX7_lanes h0).1 (isX7_lanes h0).2 h.1 dX7_init_212 ?_
    replace h := h.2
    refine g_iinc C (v := v1 + 1) 1 [(1, .int (v1 + 1)), (0, .ref (Y.ad b))] dX7_init_213 rfl rfl (by decide) rfl ?_
    refine g_goto C 200 dX7_init_216 (by decide) ?_
    refine g_lv (lv2 := [(0, .ref (Y.ad b)), (1, .int (v1 + 1))]) [1, 0] ?_ rfl
    exact h
set_option maxRecDepth 20000 in
set_option maxHeartbeats 4000000 in
theorem sf_X7_init {X : XT} {Y : YT} {l0 : Launch} {b : Nat} {Q : Mem → Prop} {μ : Mem} (C : Cx X Y 2 cX7_init RX7 WX7_init (rmC 2 46 24 2184) l0) (hr : RVn X Y 2 cX7_init Q) (hI : YI Y) (h0 : isX7 Y b) (h : PSX7_init b μ Q) : G X Y 2 198 [(0, .ref (Y.ad b))] [] μ := by
  unfold PSX7_init at h
  replace h := h (SX7_init_200 X Y b) (fun v1 μ z => tX7_init_200 C hr hI h0 v1 μ z)
  refine g_iconst C (v := (0 : Int32)) dX7_init_198 (by decide) ?_
  refine g_istore_n C [(1, .int ((0 : Int32))), (0, .ref (Y.ad b))] dX7_init_199 (by decide) rfl ?_
  refine g_lv (lv2 := [(0, .ref (Y.ad b)), (1, .int ((0 : Int32)))]) [1, 0] ?_ rfl
  exact h
set_option maxRecDepth 20000 in
set_option maxHeartbeats 8000000 in
theorem ok_X7_init {Y : YT} {l0 : Launch} {b : Nat} {μ : Mem} {Q : Mem → Prop} (hI : YI Y) (hN : Y.N = b + 1) (hS : Y.sh b = fX7) (h : PX7_init b μ Q) : MC l0 yX7_init WX7_init 2 46 24 2184 Y b μ (fun Y' μ' => Y'.N = b + 25 ∧ isX7 Y' b ∧ Q μ') := by
  refine mC_of (cc := cX7_init) (maxL := 2) (by decide +kernel) rfl rfl hI (by decide) (fun X C hXa hXi hr => ?_)
  replace C : Cx (xset X 0 0) Y 2 cX7_init RX7 WX7_init (rmC 2 46 24 2184) l0 := C
  obtain ⟨x0, hx0⟩ : ∃ x0, Y.ad b = x0 := ⟨_, rfl⟩
  rw [hx0]
  unfold PX7_init at h
  refine g_aload_n C 0 dX7_init_0 rfl ?_
  refine g_obj C (List.mem_cons_of_mem _ mM_RX7_1) (List.mem_cons_of_mem _ mObj_i) (List.mem_cons_of_mem _ mObj_c) (by decide) (by decide) dX7_init_1 ?_
  refine g_aload_n C 0 dX7_init_4 rfl ?_
  refine g_bipush C (v := (18 : Int32)) dX7_init_5 (by decide) ?_
  refine g_newA C hXa (id := b + 1) hN .int .int rfl (List.mem_cons_of_mem _ mArr_I) Y.cI 0 rfl (fun _ _ z => z) rfl (k := 18) (by decide) (by decide) (by decide) (by decide) (by decide) dX7_init_7 (fun Y1 x2 C3 K4 n5 a6 s7 => ?_)
  have a8 := (K4.2.2.1 b (by omega)).trans hx0
  have s9 := (K4.2.2.2 b (by omega) (by omega)).trans hS
  have f10 := isI_new s7 K4 n5
  have k11 := keep_tr (keep_rf) K4 (by omega)
  refine g_putR C3 hXi (i := b) (ty := (.array .int)) (ty0 := tyX7) (k := 1) (Nc := 56) (Cn := RX7) (T := TX7) (ci := 7) (by omega) a8 s9 rfl rfl (fun w hw => List.mem_cons_of_mem _ (inX7 w hw)) tyX7_ok nmX7 (by decide) (List.mem_cons_of_mem _ mF_RX7_7) rfl rfl rfl rfl rfl rfl (by decide : 1 < 56) (rt (fun c => [.int (c.1 0), .ref x2, .int (c.1 2), .null, .null, .null, .int (c.1 6), .int (c.1 7), .int (c.1 8), .null, .int (c.1 10), .null, .int (c.1 12), .null, .null, .null, .int (c.1 16), .int (c.1 17), .int (c.1 18), .null, .int (c.1 20), .int (c.1 21), .int (c.1 22), .null, .null, .null, .int (c.1 26), .int (c.1 27), .int (c.1 28), .int (c.1 29), .int (c.1 30), .int (c.1 31), .int (c.1 32), .null, .null, .null, .null, .int (c.1 37), .null, .int (c.1 39), .null, .int (c.1 41), .null, .int (c.1 43), .int (c.1 44), .int (c.1 45), .int (c.1 46), .int (c.1 47), .int (c.1 48), .null, .int (c.1 50), .int (c.1 51), .null, .null, .null, .int (c.1 55)]) 7) rfl dX7_init_9 (fun Y12 C13 K14 n15 a16 s17 => ?_)
  have f18 := isI_tr f10 K14 (by omega)
  have a19 := (K14.2.2.1 (b + 1) (by omega)).trans a6
  have a20 := (K14.2.2.1 b (by omega)).trans a8
  have k21 := keep_tr k11 K14 (by omega)
  have n15 : Y12.N = b + 2 := by omega
  refine g_aload_n C13 0 dX7_init_12 rfl ?_
  refine g_bipush C13 (v := (45 : Int32)) dX7_init_13 (by decide) ?_
  refine g_newA C13 hXa (id := b + 2) n15 .int .int rfl (List.mem_cons_of_mem _ mArr_I) Y12.cI 0 rfl (fun _ _ z => z) rfl (k := 45) (by decide) (by decide) (by decide) (by decide) (by decide) dX7_init_15 (fun Y22 x23 C24 K25 n26 a27 s28 => ?_)
  have f29 := isI_tr f18 K25 (by omega)
  have a30 := (K25.2.2.1 (b + 1) (by omega)).trans a19
  have a31 := (K25.2.2.1 b (by omega)).trans a16
  have s32 := (K25.2.2.2 b (by omega) (by omega)).trans s17
  have f33 := isI_new s28 K25 n26
  have k34 := keep_tr k21 K25 (by omega)
  refine g_putR C24 hXi (i := b) (ty := (.array .int)) (ty0 := tyX7) (k := 3) (Nc := 56) (Cn := RX7) (T := TX7) (ci := 7) (by omega) a31 s32 rfl rfl (fun w hw => List.mem_cons_of_mem _ (inX7 w hw)) tyX7_ok nmX7 (by decide) (List.mem_cons_of_mem _ mF_RX7_13) rfl rfl rfl rfl rfl rfl (by decide : 3 < 56) (rt (fun c => [.int (c.1 0), .ref x2, .int (c.1 2), .ref x23, .null, .null, .int (c.1 6), .int (c.1 7), .int (c.1 8), .null, .int (c.1 10), .null, .int (c.1 12), .null, .null, .null, .int (c.1 16), .int (c.1 17), .int (c.1 18), .null, .int (c.1 20), .int (c.1 21), .int (c.1 22), .null, .null, .null, .int (c.1 26), .int (c.1 27), .int (c.1 28), .int (c.1 29), .int (c.1 30), .int (c.1 31), .int (c.1 32), .null, .null, .null, .null, .int (c.1 37), .null, .int (c.1 39), .null, .int (c.1 41), .null, .int (c.1 43), .int (c.1 44), .int (c.1 45), .int (c.1 46), .int (c.1 47), .int (c.1 48), .null, .int (c.1 50), .int (c.1 51), .null, .null, .null, .int (c.1 55)]) 7) rfl dX7_init_17 (fun Y35 C36 K37 n38 a39 s40 => ?_)
  have f41 := isI_tr f29 K37 (by omega)
  have f42 := isI_tr f33 K37 (by omega)
  have a43 := (K37.2.2.1 (b + 1) (by omega)).trans a30
  have a44 := (K37.2.2.1 (b + 2) (by omega)).trans a27
  have a45 := (K37.2.2.1 b (by omega)).trans a31
  have k46 := keep_tr k34 K37 (by omega)
  have n38 : Y35.N = b + 3 := by omega
  refine g_aload_n C36 0 dX7_init_20 rfl ?_
  refine g_bipush C36 (v := (54 : Int32)) dX7_init_21 (by decide) ?_
  refine g_newA C36 hXa (id := b + 3) n38 .int .int rfl (List.mem_cons_of_mem _ mArr_I) Y35.cI 0 rfl (fun _ _ z => z) rfl (k := 54) (by decide) (by decide) (by decide) (by decide) (by decide) dX7_init_23 (fun Y47 x48 C49 K50 n51 a52 s53 => ?_)
  have f54 := isI_tr f41 K50 (by omega)
  have f55 := isI_tr f42 K50 (by omega)
  have a56 := (K50.2.2.1 (b + 1) (by omega)).trans a43
  have a57 := (K50.2.2.1 (b + 2) (by omega)).trans a44
  have a58 := (K50.2.2.1 b (by omega)).trans a39
  have s59 := (K50.2.2.2 b (by omega) (by omega)).trans s40
  have f60 := isI_new s53 K50 n51
  have k61 := keep_tr k46 K50 (by omega)
  refine g_putR C49 hXi (i := b) (ty := (.array .int)) (ty0 := tyX7) (k := 4) (Nc := 56) (Cn := RX7) (T := TX7) (ci := 7) (by omega) a58 s59 rfl rfl (fun w hw => List.mem_cons_of_mem _ (inX7 w hw)) tyX7_ok nmX7 (by decide) (List.mem_cons_of_mem _ mF_RX7_16) rfl rfl rfl rfl rfl rfl (by decide : 4 < 56) (rt (fun c => [.int (c.1 0), .ref x2, .int (c.1 2), .ref x23, .ref x48, .null, .int (c.1 6), .int (c.1 7), .int (c.1 8), .null, .int (c.1 10), .null, .int (c.1 12), .null, .null, .null, .int (c.1 16), .int (c.1 17), .int (c.1 18), .null, .int (c.1 20), .int (c.1 21), .int (c.1 22), .null, .null, .null, .int (c.1 26), .int (c.1 27), .int (c.1 28), .int (c.1 29), .int (c.1 30), .int (c.1 31), .int (c.1 32), .null, .null, .null, .null, .int (c.1 37), .null, .int (c.1 39), .null, .int (c.1 41), .null, .int (c.1 43), .int (c.1 44), .int (c.1 45), .int (c.1 46), .int (c.1 47), .int (c.1 48), .null, .int (c.1 50), .int (c.1 51), .null, .null, .null, .int (c.1 55)]) 7) rfl dX7_init_25 (fun Y62 C63 K64 n65 a66 s67 => ?_)
  have f68 := isI_tr f54 K64 (by omega)
  have f69 := isI_tr f55 K64 (by omega)
  have f70 := isI_tr f60 K64 (by omega)
  have a71 := (K64.2.2.1 (b + 1) (by omega)).trans a56
  have a72 := (K64.2.2.1 (b + 2) (by omega)).trans a57
  have a73 := (K64.2.2.1 (b + 3) (by omega)).trans a52
  have a74 := (K64.2.2.1 b (by omega)).trans a58
  have k75 := keep_tr k61 K64 (by omega)
  have n65 : Y62.N = b + 4 := by omega
  refine g_aload_n C63 0 dX7_init_28 rfl ?_
  refine g_bipush C63 (v := (54 : Int32)) dX7_init_29 (by decide) ?_
  refine g_newA C63 hXa (id := b + 4) n65 .int .int rfl (List.mem_cons_of_mem _ mArr_I) Y62.cI 0 rfl (fun _ _ z => z) rfl (k := 54) (by decide) (by decide) (by decide) (by decide) (by decide) dX7_init_31 (fun Y76 x77 C78 K79 n80 a81 s82 => ?_)
  have f83 := isI_tr f68 K79 (by omega)
  have f84 := isI_tr f69 K79 (by omega)
  have f85 := isI_tr f70 K79 (by omega)
  have a86 := (K79.2.2.1 (b + 1) (by omega)).trans a71
  have a87 := (K79.2.2.1 (b + 2) (by omega)).trans a72
  have a88 := (K79.2.2.1 (b + 3) (by omega)).trans a73
  have a89 := (K79.2.2.1 b (by omega)).trans a66
  have s90 := (K79.2.2.2 b (by omega) (by omega)).trans s67
  have f91 := isI_new s82 K79 n80
  have k92 := keep_tr k75 K79 (by omega)
  refine g_putR C78 hXi (i := b) (ty := (.array .int)) (ty0 := tyX7) (k := 5) (Nc := 56) (Cn := RX7) (T := TX7) (ci := 7) (by omega) a89 s90 rfl rfl (fun w hw => List.mem_cons_of_mem _ (inX7 w hw)) tyX7_ok nmX7 (by decide) (List.mem_cons_of_mem _ mF_RX7_19) rfl rfl rfl rfl rfl rfl (by decide : 5 < 56) (rt (fun c => [.int (c.1 0), .ref x2, .int (c.1 2), .ref x23, .ref x48, .ref x77, .int (c.1 6), .int (c.1 7), .int (c.1 8), .null, .int (c.1 10), .null, .int (c.1 12), .null, .null, .null, .int (c.1 16), .int (c.1 17), .int (c.1 18), .null, .int (c.1 20), .int (c.1 21), .int (c.1 22), .null, .null, .null, .int (c.1 26), .int (c.1 27), .int (c.1 28), .int (c.1 29), .int (c.1 30), .int (c.1 31), .int (c.1 32), .null, .null, .null, .null, .int (c.1 37), .null, .int (c.1 39), .null, .int (c.1 41), .null, .int (c.1 43), .int (c.1 44), .int (c.1 45), .int (c.1 46), .int (c.1 47), .int (c.1 48), .null, .int (c.1 50), .int (c.1 51), .null, .null, .null, .int (c.1 55)]) 7) rfl dX7_init_33 (fun Y93 C94 K95 n96 a97 s98 => ?_)
  have f99 := isI_tr f83 K95 (by omega)
  have f100 := isI_tr f84 K95 (by omega)
  have f101 := isI_tr f85 K95 (by omega)
  have f102 := isI_tr f91 K95 (by omega)
  have a103 := (K95.2.2.1 (b + 1) (by omega)).trans a86
  have a104 := (K95.2.2.1 (b + 2) (by omega)).trans a87
  have a105 := (K95.2.2.1 (b + 3) (by omega)).trans a88
  have a106 := (K95.2.2.1 (b + 4) (by omega)).trans a81
  have a107 := (K95.2.2.1 b (by omega)).trans a89
  have k108 := keep_tr k92 K95 (by omega)
  have n96 : Y93.N = b + 5 := by omega
  refine g_aload_n C94 0 dX7_init_36 rfl ?_
  refine g_bipush C94 (v := (7 : Int32)) dX7_init_37 (by decide) ?_
  refine g_newA C94 hXa (id := b + 5) n96 .int .int rfl (List.mem_cons_of_mem _ mArr_I) Y93.cI 0 rfl (fun _ _ z => z) rfl (k := 7) (by decide) (by decide) (by decide) (by decide) (by decide) dX7_init_39 (fun Y109 x110 C111 K112 n113 a114 s115 => ?_)
  have f116 := isI_tr f99 K112 (by omega)
  have f117 := isI_tr f100 K112 (by omega)
  have f118 := isI_tr f101 K112 (by omega)
  have f119 := isI_tr f102 K112 (by omega)
  have a120 := (K112.2.2.1 (b + 1) (by omega)).trans a103
  have a121 := (K112.2.2.1 (b + 2) (by omega)).trans a104
  have a122 := (K112.2.2.1 (b + 3) (by omega)).trans a105
  have a123 := (K112.2.2.1 (b + 4) (by omega)).trans a106
  have a124 := (K112.2.2.1 b (by omega)).trans a97
  have s125 := (K112.2.2.2 b (by omega) (by omega)).trans s98
  have f126 := isI_new s115 K112 n113
  have k127 := keep_tr k108 K112 (by omega)
  refine g_putR C111 hXi (i := b) (ty := (.array .int)) (ty0 := tyX7) (k := 9) (Nc := 56) (Cn := RX7) (T := TX7) (ci := 7) (by omega) a124 s125 rfl rfl (fun w hw => List.mem_cons_of_mem _ (inX7 w hw)) tyX7_ok nmX7 (by decide) (List.mem_cons_of_mem _ mF_RX7_22) rfl rfl rfl rfl rfl rfl (by decide : 9 < 56) (rt (fun c => [.int (c.1 0), .ref x2, .int (c.1 2), .ref x23, .ref x48, .ref x77, .int (c.1 6), .int (c.1 7), .int (c.1 8), .ref x110, .int (c.1 10), .null, .int (c.1 12), .null, .null, .null, .int (c.1 16), .int (c.1 17), .int (c.1 18), .null, .int (c.1 20), .int (c.1 21), .int (c.1 22), .null, .null, .null, .int (c.1 26), .int (c.1 27), .int (c.1 28), .int (c.1 29), .int (c.1 30), .int (c.1 31), .int (c.1 32), .null, .null, .null, .null, .int (c.1 37), .null, .int (c.1 39), .null, .int (c.1 41), .null, .int (c.1 43), .int (c.1 44), .int (c.1 45), .int (c.1 46), .int (c.1 47), .int (c.1 48), .null, .int (c.1 50), .int (c.1 51), .null, .null, .null, .int (c.1 55)]) 7) rfl dX7_init_41 (fun Y128 C129 K130 n131 a132 s133 => ?_)
  have f134 := isI_tr f116 K130 (by omega)
  have f135 := isI_tr f117 K130 (by omega)
  have f136 := isI_tr f118 K130 (by omega)
  have f137 := isI_tr f119 K130 (by omega)
  have f138 := isI_tr f126 K130 (by omega)
  have a139 := (K130.2.2.1 (b + 1) (by omega)).trans a120
  have a140 := (K130.2.2.1 (b + 2) (by omega)).trans a121
  have a141 := (K130.2.2.1 (b + 3) (by omega)).trans a122
  have a142 := (K130.2.2.1 (b + 4) (by omega)).trans a123
  have a143 := (K130.2.2.1 (b + 5) (by omega)).trans a114
  have a144 := (K130.2.2.1 b (by omega)).trans a124
  have k145 := keep_tr k127 K130 (by omega)
  have n131 : Y128.N = b + 6 := by omega
  refine g_aload_n C129 0 dX7_init_44 rfl ?_
  refine g_bipush C129 (v := (18 : Int32)) dX7_init_45 (by decide) ?_
  refine g_newA C129 hXa (id := b + 6) n131 .int .int rfl (List.mem_cons_of_mem _ mArr_I) Y128.cI 0 rfl (fun _ _ z => z) rfl (k := 18) (by decide) (by decide) (by decide) (by decide) (by decide) dX7_init_47 (fun Y146 x147 C148 K149 n150 a151 s152 => ?_)
  have f153 := isI_tr f134 K149 (by omega)
  have f154 := isI_tr f135 K149 (by omega)
  have f155 := isI_tr f136 K149 (by omega)
  have f156 := isI_tr f137 K149 (by omega)
  have f157 := isI_tr f138 K149 (by omega)
  have a158 := (K149.2.2.1 (b + 1) (by omega)).trans a139
  have a159 := (K149.2.2.1 (b + 2) (by omega)).trans a140
  have a160 := (K149.2.2.1 (b + 3) (by omega)).trans a141
  have a161 := (K149.2.2.1 (b + 4) (by omega)).trans a142
  have a162 := (K149.2.2.1 (b + 5) (by omega)).trans a143
  have a163 := (K149.2.2.1 b (by omega)).trans a132
  have s164 := (K149.2.2.2 b (by omega) (by omega)).trans s133
  have f165 := isI_new s152 K149 n150
  have k166 := keep_tr k145 K149 (by omega)
  refine g_putR C148 hXi (i := b) (ty := (.array .int)) (ty0 := tyX7) (k := 11) (Nc := 56) (Cn := RX7) (T := TX7) (ci := 7) (by omega) a163 s164 rfl rfl (fun w hw => List.mem_cons_of_mem _ (inX7 w hw)) tyX7_ok nmX7 (by decide) (List.mem_cons_of_mem _ mF_RX7_25) rfl rfl rfl rfl rfl rfl (by decide : 11 < 56) (rt (fun c => [.int (c.1 0), .ref x2, .int (c.1 2), .ref x23, .ref x48, .ref x77, .int (c.1 6), .int (c.1 7), .int (c.1 8), .ref x110, .int (c.1 10), .ref x147, .int (c.1 12), .null, .null, .null, .int (c.1 16), .int (c.1 17), .int (c.1 18), .null, .int (c.1 20), .int (c.1 21), .int (c.1 22), .null, .null, .null, .int (c.1 26), .int (c.1 27), .int (c.1 28), .int (c.1 29), .int (c.1 30), .int (c.1 31), .int (c.1 32), .null, .null, .null, .null, .int (c.1 37), .null, .int (c.1 39), .null, .int (c.1 41), .null, .int (c.1 43), .int (c.1 44), .int (c.1 45), .int (c.1 46), .int (c.1 47), .int (c.1 48), .null, .int (c.1 50), .int (c.1 51), .null, .null, .null, .int (c.1 55)]) 7) rfl dX7_init_49 (fun Y167 C168 K169 n170 a171 s172 => ?_)
  have f173 := isI_tr f153 K169 (by omega)
  have f174 := isI_tr f154 K169 (by omega)
  have f175 := isI_tr f155 K169 (by omega)
  have f176 := isI_tr f156 K169 (by omega)
  have f177 := isI_tr f157 K169 (by omega)
  have f178 := isI_tr f165 K169 (by omega)
  have a179 := (K169.2.2.1 (b + 1) (by omega)).trans a158
  have a180 := (K169.2.2.1 (b + 2) (by omega)).trans a159
  have a181 := (K169.2.2.1 (b + 3) (by omega)).trans a160
  have a182 := (K169.2.2.1 (b + 4) (by omega)).trans a161
  have a183 := (K169.2.2.1 (b + 5) (by omega)).trans a162
  have a184 := (K169.2.2.1 (b + 6) (by omega)).trans a151
  have a185 := (K169.2.2.1 b (by omega)).trans a163
  have k186 := keep_tr k166 K169 (by omega)
  have n170 : Y167.N = b + 7 := by omega
  refine g_aload_n C168 0 dX7_init_52 rfl ?_
  refine g_bipush C168 (v := (45 : Int32)) dX7_init_53 (by decide) ?_
  refine g_newA C168 hXa (id := b + 7) n170 .int .int rfl (List.mem_cons_of_mem _ mArr_I) Y167.cI 0 rfl (fun _ _ z => z) rfl (k := 45) (by decide) (by decide) (by decide) (by decide) (by decide) dX7_init_55 (fun Y187 x188 C189 K190 n191 a192 s193 => ?_)
  have f194 := isI_tr f173 K190 (by omega)
  have f195 := isI_tr f174 K190 (by omega)
  have f196 := isI_tr f175 K190 (by omega)
  have f197 := isI_tr f176 K190 (by omega)
  have f198 := isI_tr f177 K190 (by omega)
  have f199 := isI_tr f178 K190 (by omega)
  have a200 := (K190.2.2.1 (b + 1) (by omega)).trans a179
  have a201 := (K190.2.2.1 (b + 2) (by omega)).trans a180
  have a202 := (K190.2.2.1 (b + 3) (by omega)).trans a181
  have a203 := (K190.2.2.1 (b + 4) (by omega)).trans a182
  have a204 := (K190.2.2.1 (b + 5) (by omega)).trans a183
  have a205 := (K190.2.2.1 (b + 6) (by omega)).trans a184
  have a206 := (K190.2.2.1 b (by omega)).trans a171
  have s207 := (K190.2.2.2 b (by omega) (by omega)).trans s172
  have f208 := isI_new s193 K190 n191
  have k209 := keep_tr k186 K190 (by omega)
  refine g_putR C189 hXi (i := b) (ty := (.array .int)) (ty0 := tyX7) (k := 13) (Nc := 56) (Cn := RX7) (T := TX7) (ci := 7) (by omega) a206 s207 rfl rfl (fun w hw => List.mem_cons_of_mem _ (inX7 w hw)) tyX7_ok nmX7 (by decide) (List.mem_cons_of_mem _ mF_RX7_28) rfl rfl rfl rfl rfl rfl (by decide : 13 < 56) (rt (fun c => [.int (c.1 0), .ref x2, .int (c.1 2), .ref x23, .ref x48, .ref x77, .int (c.1 6), .int (c.1 7), .int (c.1 8), .ref x110, .int (c.1 10), .ref x147, .int (c.1 12), .ref x188, .null, .null, .int (c.1 16), .int (c.1 17), .int (c.1 18), .null, .int (c.1 20), .int (c.1 21), .int (c.1 22), .null, .null, .null, .int (c.1 26), .int (c.1 27), .int (c.1 28), .int (c.1 29), .int (c.1 30), .int (c.1 31), .int (c.1 32), .null, .null, .null, .null, .int (c.1 37), .null, .int (c.1 39), .null, .int (c.1 41), .null, .int (c.1 43), .int (c.1 44), .int (c.1 45), .int (c.1 46), .int (c.1 47), .int (c.1 48), .null, .int (c.1 50), .int (c.1 51), .null, .null, .null, .int (c.1 55)]) 7) rfl dX7_init_57 (fun Y210 C211 K212 n213 a214 s215 => ?_)
  have f216 := isI_tr f194 K212 (by omega)
  have f217 := isI_tr f195 K212 (by omega)
  have f218 := isI_tr f196 K212 (by omega)
  have f219 := isI_tr f197 K212 (by omega)
  have f220 := isI_tr f198 K212 (by omega)
  have f221 := isI_tr f199 K212 (by omega)
  have f222 := isI_tr f208 K212 (by omega)
  have a223 := (K212.2.2.1 (b + 1) (by omega)).trans a200
  have a224 := (K212.2.2.1 (b + 2) (by omega)).trans a201
  have a225 := (K212.2.2.1 (b + 3) (by omega)).trans a202
  have a226 := (K212.2.2.1 (b + 4) (by omega)).trans a203
  have a227 := (K212.2.2.1 (b + 5) (by omega)).trans a204
  have a228 := (K212.2.2.1 (b + 6) (by omega)).trans a205
  have a229 := (K212.2.2.1 (b + 7) (by omega)).trans a192
  have a230 := (K212.2.2.1 b (by omega)).trans a206
  have k231 := keep_tr k209 K212 (by omega)
  have n213 : Y210.N = b + 8 := by omega
  refine g_aload_n C211 0 dX7_init_60 rfl ?_
  refine g_bipush C211 (v := (54 : Int32)) dX7_init_61 (by decide) ?_
  refine g_newA C211 hXa (id := b + 8) n213 .int .int rfl (List.mem_cons_of_mem _ mArr_I) Y210.cI 0 rfl (fun _ _ z => z) rfl (k := 54) (by decide) (by decide) (by decide) (by decide) (by decide) dX7_init_63 (fun Y232 x233 C234 K235 n236 a237 s238 => ?_)
  have f239 := isI_tr f216 K235 (by omega)
  have f240 := isI_tr f217 K235 (by omega)
  have f241 := isI_tr f218 K235 (by omega)
  have f242 := isI_tr f219 K235 (by omega)
  have f243 := isI_tr f220 K235 (by omega)
  have f244 := isI_tr f221 K235 (by omega)
  have f245 := isI_tr f222 K235 (by omega)
  have a246 := (K235.2.2.1 (b + 1) (by omega)).trans a223
  have a247 := (K235.2.2.1 (b + 2) (by omega)).trans a224
  have a248 := (K235.2.2.1 (b + 3) (by omega)).trans a225
  have a249 := (K235.2.2.1 (b + 4) (by omega)).trans a226
  have a250 := (K235.2.2.1 (b + 5) (by omega)).trans a227
  have a251 := (K235.2.2.1 (b + 6) (by omega)).trans a228
  have a252 := (K235.2.2.1 (b + 7) (by omega)).trans a229
  have a253 := (K235.2.2.1 b (by omega)).trans a214
  have s254 := (K235.2.2.2 b (by omega) (by omega)).trans s215
  have f255 := isI_new s238 K235 n236
  have k256 := keep_tr k231 K235 (by omega)
  refine g_putR C234 hXi (i := b) (ty := (.array .int)) (ty0 := tyX7) (k := 14) (Nc := 56) (Cn := RX7) (T := TX7) (ci := 7) (by omega) a253 s254 rfl rfl (fun w hw => List.mem_cons_of_mem _ (inX7 w hw)) tyX7_ok nmX7 (by decide) (List.mem_cons_of_mem _ mF_RX7_31) rfl rfl rfl rfl rfl rfl (by decide : 14 < 56) (rt (fun c => [.int (c.1 0), .ref x2, .int (c.1 2), .ref x23, .ref x48, .ref x77, .int (c.1 6), .int (c.1 7), .int (c.1 8), .ref x110, .int (c.1 10), .ref x147, .int (c.1 12), .ref x188, .ref x233, .null, .int (c.1 16), .int (c.1 17), .int (c.1 18), .null, .int (c.1 20), .int (c.1 21), .int (c.1 22), .null, .null, .null, .int (c.1 26), .int (c.1 27), .int (c.1 28), .int (c.1 29), .int (c.1 30), .int (c.1 31), .int (c.1 32), .null, .null, .null, .null, .int (c.1 37), .null, .int (c.1 39), .null, .int (c.1 41), .null, .int (c.1 43), .int (c.1 44), .int (c.1 45), .int (c.1 46), .int (c.1 47), .int (c.1 48), .null, .int (c.1 50), .int (c.1 51), .null, .null, .null, .int (c.1 55)]) 7) rfl dX7_init_65 (fun Y257 C258 K259 n260 a261 s262 => ?_)
  have f263 := isI_tr f239 K259 (by omega)
  have f264 := isI_tr f240 K259 (by omega)
  have f265 := isI_tr f241 K259 (by omega)
  have f266 := isI_tr f242 K259 (by omega)
  have f267 := isI_tr f243 K259 (by omega)
  have f268 := isI_tr f244 K259 (by omega)
  have f269 := isI_tr f245 K259 (by omega)
  have f270 := isI_tr f255 K259 (by omega)
  have a271 := (K259.2.2.1 (b + 1) (by omega)).trans a246
  have a272 := (K259.2.2.1 (b + 2) (by omega)).trans a247
  have a273 := (K259.2.2.1 (b + 3) (by omega)).trans a248
  have a274 := (K259.2.2.1 (b + 4) (by omega)).trans a249
  have a275 := (K259.2.2.1 (b + 5) (by omega)).trans a250
  have a276 := (K259.2.2.1 (b + 6) (by omega)).trans a251
  have a277 := (K259.2.2.1 (b + 7) (by omega)).trans a252
  have a278 := (K259.2.2.1 (b + 8) (by omega)).trans a237
  have a279 := (K259.2.2.1 b (by omega)).trans a253
  have k280 := keep_tr k256 K259 (by omega)
  have n260 : Y257.N = b + 9 := by omega
  refine g_aload_n C258 0 dX7_init_68 rfl ?_
  refine g_bipush C258 (v := (54 : Int32)) dX7_init_69 (by decide) ?_
  refine g_newA C258 hXa (id := b + 9) n260 .int .int rfl (List.mem_cons_of_mem _ mArr_I) Y257.cI 0 rfl (fun _ _ z => z) rfl (k := 54) (by decide) (by decide) (by decide) (by decide) (by decide) dX7_init_71 (fun Y281 x282 C283 K284 n285 a286 s287 => ?_)
  have f288 := isI_tr f263 K284 (by omega)
  have f289 := isI_tr f264 K284 (by omega)
  have f290 := isI_tr f265 K284 (by omega)
  have f291 := isI_tr f266 K284 (by omega)
  have f292 := isI_tr f267 K284 (by omega)
  have f293 := isI_tr f268 K284 (by omega)
  have f294 := isI_tr f269 K284 (by omega)
  have f295 := isI_tr f270 K284 (by omega)
  have a296 := (K284.2.2.1 (b + 1) (by omega)).trans a271
  have a297 := (K284.2.2.1 (b + 2) (by omega)).trans a272
  have a298 := (K284.2.2.1 (b + 3) (by omega)).trans a273
  have a299 := (K284.2.2.1 (b + 4) (by omega)).trans a274
  have a300 := (K284.2.2.1 (b + 5) (by omega)).trans a275
  have a301 := (K284.2.2.1 (b + 6) (by omega)).trans a276
  have a302 := (K284.2.2.1 (b + 7) (by omega)).trans a277
  have a303 := (K284.2.2.1 (b + 8) (by omega)).trans a278
  have a304 := (K284.2.2.1 b (by omega)).trans a261
  have s305 := (K284.2.2.2 b (by omega) (by omega)).trans s262
  have f306 := isI_new s287 K284 n285
  have k307 := keep_tr k280 K284 (by omega)
  refine g_putR C283 hXi (i := b) (ty := (.array .int)) (ty0 := tyX7) (k := 15) (Nc := 56) (Cn := RX7) (T := TX7) (ci := 7) (by omega) a304 s305 rfl rfl (fun w hw => List.mem_cons_of_mem _ (inX7 w hw)) tyX7_ok nmX7 (by decide) (List.mem_cons_of_mem _ mF_RX7_34) rfl rfl rfl rfl rfl rfl (by decide : 15 < 56) (rt (fun c => [.int (c.1 0), .ref x2, .int (c.1 2), .ref x23, .ref x48, .ref x77, .int (c.1 6), .int (c.1 7), .int (c.1 8), .ref x110, .int (c.1 10), .ref x147, .int (c.1 12), .ref x188, .ref x233, .ref x282, .int (c.1 16), .int (c.1 17), .int (c.1 18), .null, .int (c.1 20), .int (c.1 21), .int (c.1 22), .null, .null, .null, .int (c.1 26), .int (c.1 27), .int (c.1 28), .int (c.1 29), .int (c.1 30), .int (c.1 31), .int (c.1 32), .null, .null, .null, .null, .int (c.1 37), .null, .int (c.1 39), .null, .int (c.1 41), .null, .int (c.1 43), .int (c.1 44), .int (c.1 45), .int (c.1 46), .int (c.1 47), .int (c.1 48), .null, .int (c.1 50), .int (c.1 51), .null, .null, .null, .int (c.1 55)]) 7) rfl dX7_init_73 (fun Y308 C309 K310 n311 a312 s313 => ?_)
  have f314 := isI_tr f288 K310 (by omega)
  have f315 := isI_tr f289 K310 (by omega)
  have f316 := isI_tr f290 K310 (by omega)
  have f317 := isI_tr f291 K310 (by omega)
  have f318 := isI_tr f292 K310 (by omega)
  have f319 := isI_tr f293 K310 (by omega)
  have f320 := isI_tr f294 K310 (by omega)
  have f321 := isI_tr f295 K310 (by omega)
  have f322 := isI_tr f306 K310 (by omega)
  have a323 := (K310.2.2.1 (b + 1) (by omega)).trans a296
  have a324 := (K310.2.2.1 (b + 2) (by omega)).trans a297
  have a325 := (K310.2.2.1 (b + 3) (by omega)).trans a298
  have a326 := (K310.2.2.1 (b + 4) (by omega)).trans a299
  have a327 := (K310.2.2.1 (b + 5) (by omega)).trans a300
  have a328 := (K310.2.2.1 (b + 6) (by omega)).trans a301
  have a329 := (K310.2.2.1 (b + 7) (by omega)).trans a302
  have a330 := (K310.2.2.1 (b + 8) (by omega)).trans a303
  have a331 := (K310.2.2.1 (b + 9) (by omega)).trans a286
  have a332 := (K310.2.2.1 b (by omega)).trans a304
  have k333 := keep_tr k307 K310 (by omega)
  have n311 : Y308.N = b + 10 := by omega
  refine g_aload_n C309 0 dX7_init_76 rfl ?_
  refine g_bipush C309 (v := (7 : Int32)) dX7_init_77 (by decide) ?_
  refine g_newA C309 hXa (id := b + 10) n311 .int .int rfl (List.mem_cons_of_mem _ mArr_I) Y308.cI 0 rfl (fun _ _ z => z) rfl (k := 7) (by decide) (by decide) (by decide) (by decide) (by decide) dX7_init_79 (fun Y334 x335 C336 K337 n338 a339 s340 => ?_)
  have f341 := isI_tr f314 K337 (by omega)
  have f342 := isI_tr f315 K337 (by omega)
  have f343 := isI_tr f316 K337 (by omega)
  have f344 := isI_tr f317 K337 (by omega)
  have f345 := isI_tr f318 K337 (by omega)
  have f346 := isI_tr f319 K337 (by omega)
  have f347 := isI_tr f320 K337 (by omega)
  have f348 := isI_tr f321 K337 (by omega)
  have f349 := isI_tr f322 K337 (by omega)
  have a350 := (K337.2.2.1 (b + 1) (by omega)).trans a323
  have a351 := (K337.2.2.1 (b + 2) (by omega)).trans a324
  have a352 := (K337.2.2.1 (b + 3) (by omega)).trans a325
  have a353 := (K337.2.2.1 (b + 4) (by omega)).trans a326
  have a354 := (K337.2.2.1 (b + 5) (by omega)).trans a327
  have a355 := (K337.2.2.1 (b + 6) (by omega)).trans a328
  have a356 := (K337.2.2.1 (b + 7) (by omega)).trans a329
  have a357 := (K337.2.2.1 (b + 8) (by omega)).trans a330
  have a358 := (K337.2.2.1 (b + 9) (by omega)).trans a331
  have a359 := (K337.2.2.1 b (by omega)).trans a312
  have s360 := (K337.2.2.2 b (by omega) (by omega)).trans s313
  have f361 := isI_new s340 K337 n338
  have k362 := keep_tr k333 K337 (by omega)
  refine g_putR C336 hXi (i := b) (ty := (.array .int)) (ty0 := tyX7) (k := 19) (Nc := 56) (Cn := RX7) (T := TX7) (ci := 7) (by omega) a359 s360 rfl rfl (fun w hw => List.mem_cons_of_mem _ (inX7 w hw)) tyX7_ok nmX7 (by decide) (List.mem_cons_of_mem _ mF_RX7_37) rfl rfl rfl rfl rfl rfl (by decide : 19 < 56) (rt (fun c => [.int (c.1 0), .ref x2, .int (c.1 2), .ref x23, .ref x48, .ref x77, .int (c.1 6), .int (c.1 7), .int (c.1 8), .ref x110, .int (c.1 10), .ref x147, .int (c.1 12), .ref x188, .ref x233, .ref x282, .int (c.1 16), .int (c.1 17), .int (c.1 18), .ref x335, .int (c.1 20), .int (c.1 21), .int (c.1 22), .null, .null, .null, .int (c.1 26), .int (c.1 27), .int (c.1 28), .int (c.1 29), .int (c.1 30), .int (c.1 31), .int (c.1 32), .null, .null, .null, .null, .int (c.1 37), .null, .int (c.1 39), .null, .int (c.1 41), .null, .int (c.1 43), .int (c.1 44), .int (c.1 45), .int (c.1 46), .int (c.1 47), .int (c.1 48), .null, .int (c.1 50), .int (c.1 51), .null, .null, .null, .int (c.1 55)]) 7) rfl dX7_init_81 (fun Y363 C364 K365 n366 a367 s368 => ?_)
  have f369 := isI_tr f341 K365 (by omega)
  have f370 := isI_tr f342 K365 (by omega)
  have f371 := isI_tr f343 K365 (by omega)
  have f372 := isI_tr f344 K365 (by omega)
  have f373 := isI_tr f345 K365 (by omega)
  have f374 := isI_tr f346 K365 (by omega)
  have f375 := isI_tr f347 K365 (by omega)
  have f376 := isI_tr f348 K365 (by omega)
  have f377 := isI_tr f349 K365 (by omega)
  have f378 := isI_tr f361 K365 (by omega)
  have a379 := (K365.2.2.1 (b + 1) (by omega)).trans a350
  have a380 := (K365.2.2.1 (b + 2) (by omega)).trans a351
  have a381 := (K365.2.2.1 (b + 3) (by omega)).trans a352
  have a382 := (K365.2.2.1 (b + 4) (by omega)).trans a353
  have a383 := (K365.2.2.1 (b + 5) (by omega)).trans a354
  have a384 := (K365.2.2.1 (b + 6) (by omega)).trans a355
  have a385 := (K365.2.2.1 (b + 7) (by omega)).trans a356
  have a386 := (K365.2.2.1 (b + 8) (by omega)).trans a357
  have a387 := (K365.2.2.1 (b + 9) (by omega)).trans a358
  have a388 := (K365.2.2.1 (b + 10) (by omega)).trans a339
  have a389 := (K365.2.2.1 b (by omega)).trans a359
  have k390 := keep_tr k362 K365 (by omega)
  have n366 : Y363.N = b + 11 := by omega
  refine g_aload_n C364 0 dX7_init_84 rfl ?_
  refine g_sipush C364 (v := (400 : Int32)) dX7_init_85 (by decide) ?_
  refine g_newA C364 hXa (id := b + 11) n366 .int .int rfl (List.mem_cons_of_mem _ mArr_I) Y363.cI 0 rfl (fun _ _ z => z) rfl (k := 400) (by decide) (by decide) (by decide) (by decide) (by decide) dX7_init_88 (fun Y391 x392 C393 K394 n395 a396 s397 => ?_)
  have f398 := isI_tr f369 K394 (by omega)
  have f399 := isI_tr f370 K394 (by omega)
  have f400 := isI_tr f371 K394 (by omega)
  have f401 := isI_tr f372 K394 (by omega)
  have f402 := isI_tr f373 K394 (by omega)
  have f403 := isI_tr f374 K394 (by omega)
  have f404 := isI_tr f375 K394 (by omega)
  have f405 := isI_tr f376 K394 (by omega)
  have f406 := isI_tr f377 K394 (by omega)
  have f407 := isI_tr f378 K394 (by omega)
  have a408 := (K394.2.2.1 (b + 1) (by omega)).trans a379
  have a409 := (K394.2.2.1 (b + 2) (by omega)).trans a380
  have a410 := (K394.2.2.1 (b + 3) (by omega)).trans a381
  have a411 := (K394.2.2.1 (b + 4) (by omega)).trans a382
  have a412 := (K394.2.2.1 (b + 5) (by omega)).trans a383
  have a413 := (K394.2.2.1 (b + 6) (by omega)).trans a384
  have a414 := (K394.2.2.1 (b + 7) (by omega)).trans a385
  have a415 := (K394.2.2.1 (b + 8) (by omega)).trans a386
  have a416 := (K394.2.2.1 (b + 9) (by omega)).trans a387
  have a417 := (K394.2.2.1 (b + 10) (by omega)).trans a388
  have a418 := (K394.2.2.1 b (by omega)).trans a367
  have s419 := (K394.2.2.2 b (by omega) (by omega)).trans s368
  have f420 := isI_new s397 K394 n395
  have k421 := keep_tr k390 K394 (by omega)
  refine g_putR C393 hXi (i := b) (ty := (.array .int)) (ty0 := tyX7) (k := 23) (Nc := 56) (Cn := RX7) (T := TX7) (ci := 7) (by omega) a418 s419 rfl rfl (fun w hw => List.mem_cons_of_mem _ (inX7 w hw)) tyX7_ok nmX7 (by decide) (List.mem_cons_of_mem _ mF_RX7_40) rfl rfl rfl rfl rfl rfl (by decide : 23 < 56) (rt (fun c => [.int (c.1 0), .ref x2, .int (c.1 2), .ref x23, .ref x48, .ref x77, .int (c.1 6), .int (c.1 7), .int (c.1 8), .ref x110, .int (c.1 10), .ref x147, .int (c.1 12), .ref x188, .ref x233, .ref x282, .int (c.1 16), .int (c.1 17), .int (c.1 18), .ref x335, .int (c.1 20), .int (c.1 21), .int (c.1 22), .ref x392, .null, .null, .int (c.1 26), .int (c.1 27), .int (c.1 28), .int (c.1 29), .int (c.1 30), .int (c.1 31), .int (c.1 32), .null, .null, .null, .null, .int (c.1 37), .null, .int (c.1 39), .null, .int (c.1 41), .null, .int (c.1 43), .int (c.1 44), .int (c.1 45), .int (c.1 46), .int (c.1 47), .int (c.1 48), .null, .int (c.1 50), .int (c.1 51), .null, .null, .null, .int (c.1 55)]) 7) rfl dX7_init_90 (fun Y422 C423 K424 n425 a426 s427 => ?_)
  have f428 := isI_tr f398 K424 (by omega)
  have f429 := isI_tr f399 K424 (by omega)
  have f430 := isI_tr f400 K424 (by omega)
  have f431 := isI_tr f401 K424 (by omega)
  have f432 := isI_tr f402 K424 (by omega)
  have f433 := isI_tr f403 K424 (by omega)
  have f434 := isI_tr f404 K424 (by omega)
  have f435 := isI_tr f405 K424 (by omega)
  have f436 := isI_tr f406 K424 (by omega)
  have f437 := isI_tr f407 K424 (by omega)
  have f438 := isI_tr f420 K424 (by omega)
  have a439 := (K424.2.2.1 (b + 1) (by omega)).trans a408
  have a440 := (K424.2.2.1 (b + 2) (by omega)).trans a409
  have a441 := (K424.2.2.1 (b + 3) (by omega)).trans a410
  have a442 := (K424.2.2.1 (b + 4) (by omega)).trans a411
  have a443 := (K424.2.2.1 (b + 5) (by omega)).trans a412
  have a444 := (K424.2.2.1 (b + 6) (by omega)).trans a413
  have a445 := (K424.2.2.1 (b + 7) (by omega)).trans a414
  have a446 := (K424.2.2.1 (b + 8) (by omega)).trans a415
  have a447 := (K424.2.2.1 (b + 9) (by omega)).trans a416
  have a448 := (K424.2.2.1 (b + 10) (by omega)).trans a417
  have a449 := (K424.2.2.1 (b + 11) (by omega)).trans a396
  have a450 := (K424.2.2.1 b (by omega)).trans a418
  have k451 := keep_tr k421 K424 (by omega)
  have n425 : Y422.N = b + 12 := by omega
  refine g_aload_n C423 0 dX7_init_93 rfl ?_
  refine g_sipush C423 (v := (400 : Int32)) dX7_init_94 (by decide) ?_
  refine g_newA C423 hXa (id := b + 12) n425 .int .int rfl (List.mem_cons_of_mem _ mArr_I) Y422.cI 0 rfl (fun _ _ z => z) rfl (k := 400) (by decide) (by decide) (by decide) (by decide) (by decide) dX7_init_97 (fun Y452 x453 C454 K455 n456 a457 s458 => ?_)
  have f459 := isI_tr f428 K455 (by omega)
  have f460 := isI_tr f429 K455 (by omega)
  have f461 := isI_tr f430 K455 (by omega)
  have f462 := isI_tr f431 K455 (by omega)
  have f463 := isI_tr f432 K455 (by omega)
  have f464 := isI_tr f433 K455 (by omega)
  have f465 := isI_tr f434 K455 (by omega)
  have f466 := isI_tr f435 K455 (by omega)
  have f467 := isI_tr f436 K455 (by omega)
  have f468 := isI_tr f437 K455 (by omega)
  have f469 := isI_tr f438 K455 (by omega)
  have a470 := (K455.2.2.1 (b + 1) (by omega)).trans a439
  have a471 := (K455.2.2.1 (b + 2) (by omega)).trans a440
  have a472 := (K455.2.2.1 (b + 3) (by omega)).trans a441
  have a473 := (K455.2.2.1 (b + 4) (by omega)).trans a442
  have a474 := (K455.2.2.1 (b + 5) (by omega)).trans a443
  have a475 := (K455.2.2.1 (b + 6) (by omega)).trans a444
  have a476 := (K455.2.2.1 (b + 7) (by omega)).trans a445
  have a477 := (K455.2.2.1 (b + 8) (by omega)).trans a446
  have a478 := (K455.2.2.1 (b + 9) (by omega)).trans a447
  have a479 := (K455.2.2.1 (b + 10) (by omega)).trans a448
  have a480 := (K455.2.2.1 (b + 11) (by omega)).trans a449
  have a481 := (K455.2.2.1 b (by omega)).trans a426
  have s482 := (K455.2.2.2 b (by omega) (by omega)).trans s427
  have f483 := isI_new s458 K455 n456
  have k484 := keep_tr k451 K455 (by omega)
  refine g_putR C454 hXi (i := b) (ty := (.array .int)) (ty0 := tyX7) (k := 24) (Nc := 56) (Cn := RX7) (T := TX7) (ci := 7) (by omega) a481 s482 rfl rfl (fun w hw => List.mem_cons_of_mem _ (inX7 w hw)) tyX7_ok nmX7 (by decide) (List.mem_cons_of_mem _ mF_RX7_43) rfl rfl rfl rfl rfl rfl (by decide : 24 < 56) (rt (fun c => [.int (c.1 0), .ref x2, .int (c.1 2), .ref x23, .ref x48, .ref x77, .int (c.1 6), .int (c.1 7), .int (c.1 8), .ref x110, .int (c.1 10), .ref x147, .int (c.1 12), .ref x188, .ref x233, .ref x282, .int (c.1 16), .int (c.1 17), .int (c.1 18), .ref x335, .int (c.1 20), .int (c.1 21), .int (c.1 22), .ref x392, .ref x453, .null, .int (c.1 26), .int (c.1 27), .int (c.1 28), .int (c.1 29), .int (c.1 30), .int (c.1 31), .int (c.1 32), .null, .null, .null, .null, .int (c.1 37), .null, .int (c.1 39), .null, .int (c.1 41), .null, .int (c.1 43), .int (c.1 44), .int (c.1 45), .int (c.1 46), .int (c.1 47), .int (c.1 48), .null, .int (c.1 50), .int (c.1 51), .null, .null, .null, .int (c.1 55)]) 7) rfl dX7_init_99 (fun Y485 C486 K487 n488 a489 s490 => ?_)
  have f491 := isI_tr f459 K487 (by omega)
  have f492 := isI_tr f460 K487 (by omega)
  have f493 := isI_tr f461 K487 (by omega)
  have f494 := isI_tr f462 K487 (by omega)
  have f495 := isI_tr f463 K487 (by omega)
  have f496 := isI_tr f464 K487 (by omega)
  have f497 := isI_tr f465 K487 (by omega)
  have f498 := isI_tr f466 K487 (by omega)
  have f499 := isI_tr f467 K487 (by omega)
  have f500 := isI_tr f468 K487 (by omega)
  have f501 := isI_tr f469 K487 (by omega)
  have f502 := isI_tr f483 K487 (by omega)
  have a503 := (K487.2.2.1 (b + 1) (by omega)).trans a470
  have a504 := (K487.2.2.1 (b + 2) (by omega)).trans a471
  have a505 := (K487.2.2.1 (b + 3) (by omega)).trans a472
  have a506 := (K487.2.2.1 (b + 4) (by omega)).trans a473
  have a507 := (K487.2.2.1 (b + 5) (by omega)).trans a474
  have a508 := (K487.2.2.1 (b + 6) (by omega)).trans a475
  have a509 := (K487.2.2.1 (b + 7) (by omega)).trans a476
  have a510 := (K487.2.2.1 (b + 8) (by omega)).trans a477
  have a511 := (K487.2.2.1 (b + 9) (by omega)).trans a478
  have a512 := (K487.2.2.1 (b + 10) (by omega)).trans a479
  have a513 := (K487.2.2.1 (b + 11) (by omega)).trans a480
  have a514 := (K487.2.2.1 (b + 12) (by omega)).trans a457
  have a515 := (K487.2.2.1 b (by omega)).trans a481
  have k516 := keep_tr k484 K487 (by omega)
  have n488 : Y485.N = b + 13 := by omega
  refine g_aload_n C486 0 dX7_init_102 rfl ?_
  refine g_sipush C486 (v := (400 : Int32)) dX7_init_103 (by decide) ?_
  refine g_newA C486 hXa (id := b + 13) n488 .int .int rfl (List.mem_cons_of_mem _ mArr_I) Y485.cI 0 rfl (fun _ _ z => z) rfl (k := 400) (by decide) (by decide) (by decide) (by decide) (by decide) dX7_init_106 (fun Y517 x518 C519 K520 n521 a522 s523 => ?_)
  have f524 := isI_tr f491 K520 (by omega)
  have f525 := isI_tr f492 K520 (by omega)
  have f526 := isI_tr f493 K520 (by omega)
  have f527 := isI_tr f494 K520 (by omega)
  have f528 := isI_tr f495 K520 (by omega)
  have f529 := isI_tr f496 K520 (by omega)
  have f530 := isI_tr f497 K520 (by omega)
  have f531 := isI_tr f498 K520 (by omega)
  have f532 := isI_tr f499 K520 (by omega)
  have f533 := isI_tr f500 K520 (by omega)
  have f534 := isI_tr f501 K520 (by omega)
  have f535 := isI_tr f502 K520 (by omega)
  have a536 := (K520.2.2.1 (b + 1) (by omega)).trans a503
  have a537 := (K520.2.2.1 (b + 2) (by omega)).trans a504
  have a538 := (K520.2.2.1 (b + 3) (by omega)).trans a505
  have a539 := (K520.2.2.1 (b + 4) (by omega)).trans a506
  have a540 := (K520.2.2.1 (b + 5) (by omega)).trans a507
  have a541 := (K520.2.2.1 (b + 6) (by omega)).trans a508
  have a542 := (K520.2.2.1 (b + 7) (by omega)).trans a509
  have a543 := (K520.2.2.1 (b + 8) (by omega)).trans a510
  have a544 := (K520.2.2.1 (b + 9) (by omega)).trans a511
  have a545 := (K520.2.2.1 (b + 10) (by omega)).trans a512
  have a546 := (K520.2.2.1 (b + 11) (by omega)).trans a513
  have a547 := (K520.2.2.1 (b + 12) (by omega)).trans a514
  have a548 := (K520.2.2.1 b (by omega)).trans a489
  have s549 := (K520.2.2.2 b (by omega) (by omega)).trans s490
  have f550 := isI_new s523 K520 n521
  have k551 := keep_tr k516 K520 (by omega)
  refine g_putR C519 hXi (i := b) (ty := (.array .int)) (ty0 := tyX7) (k := 25) (Nc := 56) (Cn := RX7) (T := TX7) (ci := 7) (by omega) a548 s549 rfl rfl (fun w hw => List.mem_cons_of_mem _ (inX7 w hw)) tyX7_ok nmX7 (by decide) (List.mem_cons_of_mem _ mF_RX7_46) rfl rfl rfl rfl rfl rfl (by decide : 25 < 56) (rt (fun c => [.int (c.1 0), .ref x2, .int (c.1 2), .ref x23, .ref x48, .ref x77, .int (c.1 6), .int (c.1 7), .int (c.1 8), .ref x110, .int (c.1 10), .ref x147, .int (c.1 12), .ref x188, .ref x233, .ref x282, .int (c.1 16), .int (c.1 17), .int (c.1 18), .ref x335, .int (c.1 20), .int (c.1 21), .int (c.1 22), .ref x392, .ref x453, .ref x518, .int (c.1 26), .int (c.1 27), .int (c.1 28), .int (c.1 29), .int (c.1 30), .int (c.1 31), .int (c.1 32), .null, .null, .null, .null, .int (c.1 37), .null, .int (c.1 39), .null, .int (c.1 41), .null, .int (c.1 43), .int (c.1 44), .int (c.1 45), .int (c.1 46), .int (c.1 47), .int (c.1 48), .null, .int (c.1 50), .int (c.1 51), .null, .null, .null, .int (c.1 55)]) 7) rfl dX7_init_108 (fun Y552 C553 K554 n555 a556 s557 => ?_)
  have f558 := isI_tr f524 K554 (by omega)
  have f559 := isI_tr f525 K554 (by omega)
  have f560 := isI_tr f526 K554 (by omega)
  have f561 := isI_tr f527 K554 (by omega)
  have f562 := isI_tr f528 K554 (by omega)
  have f563 := isI_tr f529 K554 (by omega)
  have f564 := isI_tr f530 K554 (by omega)
  have f565 := isI_tr f531 K554 (by omega)
  have f566 := isI_tr f532 K554 (by omega)
  have f567 := isI_tr f533 K554 (by omega)
  have f568 := isI_tr f534 K554 (by omega)
  have f569 := isI_tr f535 K554 (by omega)
  have f570 := isI_tr f550 K554 (by omega)
  have a571 := (K554.2.2.1 (b + 1) (by omega)).trans a536
  have a572 := (K554.2.2.1 (b + 2) (by omega)).trans a537
  have a573 := (K554.2.2.1 (b + 3) (by omega)).trans a538
  have a574 := (K554.2.2.1 (b + 4) (by omega)).trans a539
  have a575 := (K554.2.2.1 (b + 5) (by omega)).trans a540
  have a576 := (K554.2.2.1 (b + 6) (by omega)).trans a541
  have a577 := (K554.2.2.1 (b + 7) (by omega)).trans a542
  have a578 := (K554.2.2.1 (b + 8) (by omega)).trans a543
  have a579 := (K554.2.2.1 (b + 9) (by omega)).trans a544
  have a580 := (K554.2.2.1 (b + 10) (by omega)).trans a545
  have a581 := (K554.2.2.1 (b + 11) (by omega)).trans a546
  have a582 := (K554.2.2.1 (b + 12) (by omega)).trans a547
  have a583 := (K554.2.2.1 (b + 13) (by omega)).trans a522
  have a584 := (K554.2.2.1 b (by omega)).trans a548
  have k585 := keep_tr k551 K554 (by omega)
  have n555 : Y552.N = b + 14 := by omega
  refine g_aload_n C553 0 dX7_init_111 rfl ?_
  refine g_sipush C553 (v := (400 : Int32)) dX7_init_112 (by decide) ?_
  refine g_newA C553 hXa (id := b + 14) n555 .int .int rfl (List.mem_cons_of_mem _ mArr_I) Y552.cI 0 rfl (fun _ _ z => z) rfl (k := 400) (by decide) (by decide) (by decide) (by decide) (by decide) dX7_init_115 (fun Y586 x587 C588 K589 n590 a591 s592 => ?_)
  have f593 := isI_tr f558 K589 (by omega)
  have f594 := isI_tr f559 K589 (by omega)
  have f595 := isI_tr f560 K589 (by omega)
  have f596 := isI_tr f561 K589 (by omega)
  have f597 := isI_tr f562 K589 (by omega)
  have f598 := isI_tr f563 K589 (by omega)
  have f599 := isI_tr f564 K589 (by omega)
  have f600 := isI_tr f565 K589 (by omega)
  have f601 := isI_tr f566 K589 (by omega)
  have f602 := isI_tr f567 K589 (by omega)
  have f603 := isI_tr f568 K589 (by omega)
  have f604 := isI_tr f569 K589 (by omega)
  have f605 := isI_tr f570 K589 (by omega)
  have a606 := (K589.2.2.1 (b + 1) (by omega)).trans a571
  have a607 := (K589.2.2.1 (b + 2) (by omega)).trans a572
  have a608 := (K589.2.2.1 (b + 3) (by omega)).trans a573
  have a609 := (K589.2.2.1 (b + 4) (by omega)).trans a574
  have a610 := (K589.2.2.1 (b + 5) (by omega)).trans a575
  have a611 := (K589.2.2.1 (b + 6) (by omega)).trans a576
  have a612 := (K589.2.2.1 (b + 7) (by omega)).trans a577
  have a613 := (K589.2.2.1 (b + 8) (by omega)).trans a578
  have a614 := (K589.2.2.1 (b + 9) (by omega)).trans a579
  have a615 := (K589.2.2.1 (b + 10) (by omega)).trans a580
  have a616 := (K589.2.2.1 (b + 11) (by omega)).trans a581
  have a617 := (K589.2.2.1 (b + 12) (by omega)).trans a582
  have a618 := (K589.2.2.1 (b + 13) (by omega)).trans a583
  have a619 := (K589.2.2.1 b (by omega)).trans a556
  have s620 := (K589.2.2.2 b (by omega) (by omega)).trans s557
  have f621 := isI_new s592 K589 n590
  have k622 := keep_tr k585 K589 (by omega)
  refine g_putR C588 hXi (i := b) (ty := (.array .int)) (ty0 := tyX7) (k := 33) (Nc := 56) (Cn := RX7) (T := TX7) (ci := 7) (by omega) a619 s620 rfl rfl (fun w hw => List.mem_cons_of_mem _ (inX7 w hw)) tyX7_ok nmX7 (by decide) (List.mem_cons_of_mem _ mF_RX7_49) rfl rfl rfl rfl rfl rfl (by decide : 33 < 56) (rt (fun c => [.int (c.1 0), .ref x2, .int (c.1 2), .ref x23, .ref x48, .ref x77, .int (c.1 6), .int (c.1 7), .int (c.1 8), .ref x110, .int (c.1 10), .ref x147, .int (c.1 12), .ref x188, .ref x233, .ref x282, .int (c.1 16), .int (c.1 17), .int (c.1 18), .ref x335, .int (c.1 20), .int (c.1 21), .int (c.1 22), .ref x392, .ref x453, .ref x518, .int (c.1 26), .int (c.1 27), .int (c.1 28), .int (c.1 29), .int (c.1 30), .int (c.1 31), .int (c.1 32), .ref x587, .null, .null, .null, .int (c.1 37), .null, .int (c.1 39), .null, .int (c.1 41), .null, .int (c.1 43), .int (c.1 44), .int (c.1 45), .int (c.1 46), .int (c.1 47), .int (c.1 48), .null, .int (c.1 50), .int (c.1 51), .null, .null, .null, .int (c.1 55)]) 7) rfl dX7_init_117 (fun Y623 C624 K625 n626 a627 s628 => ?_)
  have f629 := isI_tr f593 K625 (by omega)
  have f630 := isI_tr f594 K625 (by omega)
  have f631 := isI_tr f595 K625 (by omega)
  have f632 := isI_tr f596 K625 (by omega)
  have f633 := isI_tr f597 K625 (by omega)
  have f634 := isI_tr f598 K625 (by omega)
  have f635 := isI_tr f599 K625 (by omega)
  have f636 := isI_tr f600 K625 (by omega)
  have f637 := isI_tr f601 K625 (by omega)
  have f638 := isI_tr f602 K625 (by omega)
  have f639 := isI_tr f603 K625 (by omega)
  have f640 := isI_tr f604 K625 (by omega)
  have f641 := isI_tr f605 K625 (by omega)
  have f642 := isI_tr f621 K625 (by omega)
  have a643 := (K625.2.2.1 (b + 1) (by omega)).trans a606
  have a644 := (K625.2.2.1 (b + 2) (by omega)).trans a607
  have a645 := (K625.2.2.1 (b + 3) (by omega)).trans a608
  have a646 := (K625.2.2.1 (b + 4) (by omega)).trans a609
  have a647 := (K625.2.2.1 (b + 5) (by omega)).trans a610
  have a648 := (K625.2.2.1 (b + 6) (by omega)).trans a611
  have a649 := (K625.2.2.1 (b + 7) (by omega)).trans a612
  have a650 := (K625.2.2.1 (b + 8) (by omega)).trans a613
  have a651 := (K625.2.2.1 (b + 9) (by omega)).trans a614
  have a652 := (K625.2.2.1 (b + 10) (by omega)).trans a615
  have a653 := (K625.2.2.1 (b + 11) (by omega)).trans a616
  have a654 := (K625.2.2.1 (b + 12) (by omega)).trans a617
  have a655 := (K625.2.2.1 (b + 13) (by omega)).trans a618
  have a656 := (K625.2.2.1 (b + 14) (by omega)).trans a591
  have a657 := (K625.2.2.1 b (by omega)).trans a619
  have k658 := keep_tr k622 K625 (by omega)
  have n626 : Y623.N = b + 15 := by omega
  refine g_aload_n C624 0 dX7_init_120 rfl ?_
  refine g_iconst C624 (v := (2 : Int32)) dX7_init_121 (by decide) ?_
  refine g_newA C624 hXa (id := b + 15) n626 .boolean .boolean rfl (List.mem_cons_of_mem _ mArr_Z) Y623.cZ 2 rfl (fun _ _ z => z) rfl (k := 2) (by decide) (by decide) (by decide) (by decide) (by decide) dX7_init_122 (fun Y659 x660 C661 K662 n663 a664 s665 => ?_)
  have f666 := isI_tr f629 K662 (by omega)
  have f667 := isI_tr f630 K662 (by omega)
  have f668 := isI_tr f631 K662 (by omega)
  have f669 := isI_tr f632 K662 (by omega)
  have f670 := isI_tr f633 K662 (by omega)
  have f671 := isI_tr f634 K662 (by omega)
  have f672 := isI_tr f635 K662 (by omega)
  have f673 := isI_tr f636 K662 (by omega)
  have f674 := isI_tr f637 K662 (by omega)
  have f675 := isI_tr f638 K662 (by omega)
  have f676 := isI_tr f639 K662 (by omega)
  have f677 := isI_tr f640 K662 (by omega)
  have f678 := isI_tr f641 K662 (by omega)
  have f679 := isI_tr f642 K662 (by omega)
  have a680 := (K662.2.2.1 (b + 1) (by omega)).trans a643
  have a681 := (K662.2.2.1 (b + 2) (by omega)).trans a644
  have a682 := (K662.2.2.1 (b + 3) (by omega)).trans a645
  have a683 := (K662.2.2.1 (b + 4) (by omega)).trans a646
  have a684 := (K662.2.2.1 (b + 5) (by omega)).trans a647
  have a685 := (K662.2.2.1 (b + 6) (by omega)).trans a648
  have a686 := (K662.2.2.1 (b + 7) (by omega)).trans a649
  have a687 := (K662.2.2.1 (b + 8) (by omega)).trans a650
  have a688 := (K662.2.2.1 (b + 9) (by omega)).trans a651
  have a689 := (K662.2.2.1 (b + 10) (by omega)).trans a652
  have a690 := (K662.2.2.1 (b + 11) (by omega)).trans a653
  have a691 := (K662.2.2.1 (b + 12) (by omega)).trans a654
  have a692 := (K662.2.2.1 (b + 13) (by omega)).trans a655
  have a693 := (K662.2.2.1 (b + 14) (by omega)).trans a656
  have a694 := (K662.2.2.1 b (by omega)).trans a627
  have s695 := (K662.2.2.2 b (by omega) (by omega)).trans s628
  have f696 := isZ_new s665 K662 n663
  have k697 := keep_tr k658 K662 (by omega)
  refine g_putR C661 hXi (i := b) (ty := (.array .boolean)) (ty0 := tyX7) (k := 34) (Nc := 56) (Cn := RX7) (T := TX7) (ci := 7) (by omega) a694 s695 rfl rfl (fun w hw => List.mem_cons_of_mem _ (inX7 w hw)) tyX7_ok nmX7 (by decide) (List.mem_cons_of_mem _ mF_RX7_52) rfl rfl rfl rfl rfl rfl (by decide : 34 < 56) (rt (fun c => [.int (c.1 0), .ref x2, .int (c.1 2), .ref x23, .ref x48, .ref x77, .int (c.1 6), .int (c.1 7), .int (c.1 8), .ref x110, .int (c.1 10), .ref x147, .int (c.1 12), .ref x188, .ref x233, .ref x282, .int (c.1 16), .int (c.1 17), .int (c.1 18), .ref x335, .int (c.1 20), .int (c.1 21), .int (c.1 22), .ref x392, .ref x453, .ref x518, .int (c.1 26), .int (c.1 27), .int (c.1 28), .int (c.1 29), .int (c.1 30), .int (c.1 31), .int (c.1 32), .ref x587, .ref x660, .null, .null, .int (c.1 37), .null, .int (c.1 39), .null, .int (c.1 41), .null, .int (c.1 43), .int (c.1 44), .int (c.1 45), .int (c.1 46), .int (c.1 47), .int (c.1 48), .null, .int (c.1 50), .int (c.1 51), .null, .null, .null, .int (c.1 55)]) 7) rfl dX7_init_124 (fun Y698 C699 K700 n701 a702 s703 => ?_)
  have f704 := isI_tr f666 K700 (by omega)
  have f705 := isI_tr f667 K700 (by omega)
  have f706 := isI_tr f668 K700 (by omega)
  have f707 := isI_tr f669 K700 (by omega)
  have f708 := isI_tr f670 K700 (by omega)
  have f709 := isI_tr f671 K700 (by omega)
  have f710 := isI_tr f672 K700 (by omega)
  have f711 := isI_tr f673 K700 (by omega)
  have f712 := isI_tr f674 K700 (by omega)
  have f713 := isI_tr f675 K700 (by omega)
  have f714 := isI_tr f676 K700 (by omega)
  have f715 := isI_tr f677 K700 (by omega)
  have f716 := isI_tr f678 K700 (by omega)
  have f717 := isI_tr f679 K700 (by omega)
  have f718 := isZ_tr f696 K700 (by omega)
  have a719 := (K700.2.2.1 (b + 1) (by omega)).trans a680
  have a720 := (K700.2.2.1 (b + 2) (by omega)).trans a681
  have a721 := (K700.2.2.1 (b + 3) (by omega)).trans a682
  have a722 := (K700.2.2.1 (b + 4) (by omega)).trans a683
  have a723 := (K700.2.2.1 (b + 5) (by omega)).trans a684
  have a724 := (K700.2.2.1 (b + 6) (by omega)).trans a685
  have a725 := (K700.2.2.1 (b + 7) (by omega)).trans a686
  have a726 := (K700.2.2.1 (b + 8) (by omega)).trans a687
  have a727 := (K700.2.2.1 (b + 9) (by omega)).trans a688
  have a728 := (K700.2.2.1 (b + 10) (by omega)).trans a689
  have a729 := (K700.2.2.1 (b + 11) (by omega)).trans a690
  have a730 := (K700.2.2.1 (b + 12) (by omega)).trans a691
  have a731 := (K700.2.2.1 (b + 13) (by omega)).trans a692
  have a732 := (K700.2.2.1 (b + 14) (by omega)).trans a693
  have a733 := (K700.2.2.1 (b + 15) (by omega)).trans a664
  have a734 := (K700.2.2.1 b (by omega)).trans a694
  have k735 := keep_tr k697 K700 (by omega)
  have n701 : Y698.N = b + 16 := by omega
  refine g_aload_n C699 0 dX7_init_127 rfl ?_
  refine g_bipush C699 (v := (24 : Int32)) dX7_init_128 (by decide) ?_
  refine g_newA C699 hXa (id := b + 16) n701 .int .int rfl (List.mem_cons_of_mem _ mArr_I) Y698.cI 0 rfl (fun _ _ z => z) rfl (k := 24) (by decide) (by decide) (by decide) (by decide) (by decide) dX7_init_130 (fun Y736 x737 C738 K739 n740 a741 s742 => ?_)
  have f743 := isI_tr f704 K739 (by omega)
  have f744 := isI_tr f705 K739 (by omega)
  have f745 := isI_tr f706 K739 (by omega)
  have f746 := isI_tr f707 K739 (by omega)
  have f747 := isI_tr f708 K739 (by omega)
  have f748 := isI_tr f709 K739 (by omega)
  have f749 := isI_tr f710 K739 (by omega)
  have f750 := isI_tr f711 K739 (by omega)
  have f751 := isI_tr f712 K739 (by omega)
  have f752 := isI_tr f713 K739 (by omega)
  have f753 := isI_tr f714 K739 (by omega)
  have f754 := isI_tr f715 K739 (by omega)
  have f755 := isI_tr f716 K739 (by omega)
  have f756 := isI_tr f717 K739 (by omega)
  have f757 := isZ_tr f718 K739 (by omega)
  have a758 := (K739.2.2.1 (b + 1) (by omega)).trans a719
  have a759 := (K739.2.2.1 (b + 2) (by omega)).trans a720
  have a760 := (K739.2.2.1 (b + 3) (by omega)).trans a721
  have a761 := (K739.2.2.1 (b + 4) (by omega)).trans a722
  have a762 := (K739.2.2.1 (b + 5) (by omega)).trans a723
  have a763 := (K739.2.2.1 (b + 6) (by omega)).trans a724
  have a764 := (K739.2.2.1 (b + 7) (by omega)).trans a725
  have a765 := (K739.2.2.1 (b + 8) (by omega)).trans a726
  have a766 := (K739.2.2.1 (b + 9) (by omega)).trans a727
  have a767 := (K739.2.2.1 (b + 10) (by omega)).trans a728
  have a768 := (K739.2.2.1 (b + 11) (by omega)).trans a729
  have a769 := (K739.2.2.1 (b + 12) (by omega)).trans a730
  have a770 := (K739.2.2.1 (b + 13) (by omega)).trans a731
  have a771 := (K739.2.2.1 (b + 14) (by omega)).trans a732
  have a772 := (K739.2.2.1 (b + 15) (by omega)).trans a733
  have a773 := (K739.2.2.1 b (by omega)).trans a702
  have s774 := (K739.2.2.2 b (by omega) (by omega)).trans s703
  have f775 := isI_new s742 K739 n740
  have k776 := keep_tr k735 K739 (by omega)
  refine g_putR C738 hXi (i := b) (ty := (.array .int)) (ty0 := tyX7) (k := 35) (Nc := 56) (Cn := RX7) (T := TX7) (ci := 7) (by omega) a773 s774 rfl rfl (fun w hw => List.mem_cons_of_mem _ (inX7 w hw)) tyX7_ok nmX7 (by decide) (List.mem_cons_of_mem _ mF_RX7_56) rfl rfl rfl rfl rfl rfl (by decide : 35 < 56) (rt (fun c => [.int (c.1 0), .ref x2, .int (c.1 2), .ref x23, .ref x48, .ref x77, .int (c.1 6), .int (c.1 7), .int (c.1 8), .ref x110, .int (c.1 10), .ref x147, .int (c.1 12), .ref x188, .ref x233, .ref x282, .int (c.1 16), .int (c.1 17), .int (c.1 18), .ref x335, .int (c.1 20), .int (c.1 21), .int (c.1 22), .ref x392, .ref x453, .ref x518, .int (c.1 26), .int (c.1 27), .int (c.1 28), .int (c.1 29), .int (c.1 30), .int (c.1 31), .int (c.1 32), .ref x587, .ref x660, .ref x737, .null, .int (c.1 37), .null, .int (c.1 39), .null, .int (c.1 41), .null, .int (c.1 43), .int (c.1 44), .int (c.1 45), .int (c.1 46), .int (c.1 47), .int (c.1 48), .null, .int (c.1 50), .int (c.1 51), .null, .null, .null, .int (c.1 55)]) 7) rfl dX7_init_132 (fun Y777 C778 K779 n780 a781 s782 => ?_)
  have f783 := isI_tr f743 K779 (by omega)
  have f784 := isI_tr f744 K779 (by omega)
  have f785 := isI_tr f745 K779 (by omega)
  have f786 := isI_tr f746 K779 (by omega)
  have f787 := isI_tr f747 K779 (by omega)
  have f788 := isI_tr f748 K779 (by omega)
  have f789 := isI_tr f749 K779 (by omega)
  have f790 := isI_tr f750 K779 (by omega)
  have f791 := isI_tr f751 K779 (by omega)
  have f792 := isI_tr f752 K779 (by omega)
  have f793 := isI_tr f753 K779 (by omega)
  have f794 := isI_tr f754 K779 (by omega)
  have f795 := isI_tr f755 K779 (by omega)
  have f796 := isI_tr f756 K779 (by omega)
  have f797 := isZ_tr f757 K779 (by omega)
  have f798 := isI_tr f775 K779 (by omega)
  have a799 := (K779.2.2.1 (b + 1) (by omega)).trans a758
  have a800 := (K779.2.2.1 (b + 2) (by omega)).trans a759
  have a801 := (K779.2.2.1 (b + 3) (by omega)).trans a760
  have a802 := (K779.2.2.1 (b + 4) (by omega)).trans a761
  have a803 := (K779.2.2.1 (b + 5) (by omega)).trans a762
  have a804 := (K779.2.2.1 (b + 6) (by omega)).trans a763
  have a805 := (K779.2.2.1 (b + 7) (by omega)).trans a764
  have a806 := (K779.2.2.1 (b + 8) (by omega)).trans a765
  have a807 := (K779.2.2.1 (b + 9) (by omega)).trans a766
  have a808 := (K779.2.2.1 (b + 10) (by omega)).trans a767
  have a809 := (K779.2.2.1 (b + 11) (by omega)).trans a768
  have a810 := (K779.2.2.1 (b + 12) (by omega)).trans a769
  have a811 := (K779.2.2.1 (b + 13) (by omega)).trans a770
  have a812 := (K779.2.2.1 (b + 14) (by omega)).trans a771
  have a813 := (K779.2.2.1 (b + 15) (by omega)).trans a772
  have a814 := (K779.2.2.1 (b + 16) (by omega)).trans a741
  have a815 := (K779.2.2.1 b (by omega)).trans a773
  have k816 := keep_tr k776 K779 (by omega)
  have n780 : Y777.N = b + 17 := by omega
  refine g_aload_n C778 0 dX7_init_135 rfl ?_
  refine g_bipush C778 (v := (6 : Int32)) dX7_init_136 (by decide) ?_
  refine g_newA C778 hXa (id := b + 17) n780 .int .int rfl (List.mem_cons_of_mem _ mArr_I) Y777.cI 0 rfl (fun _ _ z => z) rfl (k := 6) (by decide) (by decide) (by decide) (by decide) (by decide) dX7_init_138 (fun Y817 x818 C819 K820 n821 a822 s823 => ?_)
  have f824 := isI_tr f783 K820 (by omega)
  have f825 := isI_tr f784 K820 (by omega)
  have f826 := isI_tr f785 K820 (by omega)
  have f827 := isI_tr f786 K820 (by omega)
  have f828 := isI_tr f787 K820 (by omega)
  have f829 := isI_tr f788 K820 (by omega)
  have f830 := isI_tr f789 K820 (by omega)
  have f831 := isI_tr f790 K820 (by omega)
  have f832 := isI_tr f791 K820 (by omega)
  have f833 := isI_tr f792 K820 (by omega)
  have f834 := isI_tr f793 K820 (by omega)
  have f835 := isI_tr f794 K820 (by omega)
  have f836 := isI_tr f795 K820 (by omega)
  have f837 := isI_tr f796 K820 (by omega)
  have f838 := isZ_tr f797 K820 (by omega)
  have f839 := isI_tr f798 K820 (by omega)
  have a840 := (K820.2.2.1 (b + 1) (by omega)).trans a799
  have a841 := (K820.2.2.1 (b + 2) (by omega)).trans a800
  have a842 := (K820.2.2.1 (b + 3) (by omega)).trans a801
  have a843 := (K820.2.2.1 (b + 4) (by omega)).trans a802
  have a844 := (K820.2.2.1 (b + 5) (by omega)).trans a803
  have a845 := (K820.2.2.1 (b + 6) (by omega)).trans a804
  have a846 := (K820.2.2.1 (b + 7) (by omega)).trans a805
  have a847 := (K820.2.2.1 (b + 8) (by omega)).trans a806
  have a848 := (K820.2.2.1 (b + 9) (by omega)).trans a807
  have a849 := (K820.2.2.1 (b + 10) (by omega)).trans a808
  have a850 := (K820.2.2.1 (b + 11) (by omega)).trans a809
  have a851 := (K820.2.2.1 (b + 12) (by omega)).trans a810
  have a852 := (K820.2.2.1 (b + 13) (by omega)).trans a811
  have a853 := (K820.2.2.1 (b + 14) (by omega)).trans a812
  have a854 := (K820.2.2.1 (b + 15) (by omega)).trans a813
  have a855 := (K820.2.2.1 (b + 16) (by omega)).trans a814
  have a856 := (K820.2.2.1 b (by omega)).trans a781
  have s857 := (K820.2.2.2 b (by omega) (by omega)).trans s782
  have f858 := isI_new s823 K820 n821
  have k859 := keep_tr k816 K820 (by omega)
  refine g_putR C819 hXi (i := b) (ty := (.array .int)) (ty0 := tyX7) (k := 36) (Nc := 56) (Cn := RX7) (T := TX7) (ci := 7) (by omega) a856 s857 rfl rfl (fun w hw => List.mem_cons_of_mem _ (inX7 w hw)) tyX7_ok nmX7 (by decide) (List.mem_cons_of_mem _ mF_RX7_59) rfl rfl rfl rfl rfl rfl (by decide : 36 < 56) (rt (fun c => [.int (c.1 0), .ref x2, .int (c.1 2), .ref x23, .ref x48, .ref x77, .int (c.1 6), .int (c.1 7), .int (c.1 8), .ref x110, .int (c.1 10), .ref x147, .int (c.1 12), .ref x188, .ref x233, .ref x282, .int (c.1 16), .int (c.1 17), .int (c.1 18), .ref x335, .int (c.1 20), .int (c.1 21), .int (c.1 22), .ref x392, .ref x453, .ref x518, .int (c.1 26), .int (c.1 27), .int (c.1 28), .int (c.1 29), .int (c.1 30), .int (c.1 31), .int (c.1 32), .ref x587, .ref x660, .ref x737, .ref x818, .int (c.1 37), .null, .int (c.1 39), .null, .int (c.1 41), .null, .int (c.1 43), .int (c.1 44), .int (c.1 45), .int (c.1 46), .int (c.1 47), .int (c.1 48), .null, .int (c.1 50), .int (c.1 51), .null, .null, .null, .int (c.1 55)]) 7) rfl dX7_init_140 (fun Y860 C861 K862 n863 a864 s865 => ?_)
  have f866 := isI_tr f824 K862 (by omega)
  have f867 := isI_tr f825 K862 (by omega)
  have f868 := isI_tr f826 K862 (by omega)
  have f869 := isI_tr f827 K862 (by omega)
  have f870 := isI_tr f828 K862 (by omega)
  have f871 := isI_tr f829 K862 (by omega)
  have f872 := isI_tr f830 K862 (by omega)
  have f873 := isI_tr f831 K862 (by omega)
  have f874 := isI_tr f832 K862 (by omega)
  have f875 := isI_tr f833 K862 (by omega)
  have f876 := isI_tr f834 K862 (by omega)
  have f877 := isI_tr f835 K862 (by omega)
  have f878 := isI_tr f836 K862 (by omega)
  have f879 := isI_tr f837 K862 (by omega)
  have f880 := isZ_tr f838 K862 (by omega)
  have f881 := isI_tr f839 K862 (by omega)
  have f882 := isI_tr f858 K862 (by omega)
  have a883 := (K862.2.2.1 (b + 1) (by omega)).trans a840
  have a884 := (K862.2.2.1 (b + 2) (by omega)).trans a841
  have a885 := (K862.2.2.1 (b + 3) (by omega)).trans a842
  have a886 := (K862.2.2.1 (b + 4) (by omega)).trans a843
  have a887 := (K862.2.2.1 (b + 5) (by omega)).trans a844
  have a888 := (K862.2.2.1 (b + 6) (by omega)).trans a845
  have a889 := (K862.2.2.1 (b + 7) (by omega)).trans a846
  have a890 := (K862.2.2.1 (b + 8) (by omega)).trans a847
  have a891 := (K862.2.2.1 (b + 9) (by omega)).trans a848
  have a892 := (K862.2.2.1 (b + 10) (by omega)).trans a849
  have a893 := (K862.2.2.1 (b + 11) (by omega)).trans a850
  have a894 := (K862.2.2.1 (b + 12) (by omega)).trans a851
  have a895 := (K862.2.2.1 (b + 13) (by omega)).trans a852
  have a896 := (K862.2.2.1 (b + 14) (by omega)).trans a853
  have a897 := (K862.2.2.1 (b + 15) (by omega)).trans a854
  have a898 := (K862.2.2.1 (b + 16) (by omega)).trans a855
  have a899 := (K862.2.2.1 (b + 17) (by omega)).trans a822
  have a900 := (K862.2.2.1 b (by omega)).trans a856
  have k901 := keep_tr k859 K862 (by omega)
  have n863 : Y860.N = b + 18 := by omega
  refine g_aload_n C861 0 dX7_init_143 rfl ?_
  refine g_bipush C861 (v := (7 : Int32)) dX7_init_144 (by decide) ?_
  refine g_newA C861 hXa (id := b + 18) n863 .int .int rfl (List.mem_cons_of_mem _ mArr_I) Y860.cI 0 rfl (fun _ _ z => z) rfl (k := 7) (by decide) (by decide) (by decide) (by decide) (by decide) dX7_init_146 (fun Y902 x903 C904 K905 n906 a907 s908 => ?_)
  have f909 := isI_tr f866 K905 (by omega)
  have f910 := isI_tr f867 K905 (by omega)
  have f911 := isI_tr f868 K905 (by omega)
  have f912 := isI_tr f869 K905 (by omega)
  have f913 := isI_tr f870 K905 (by omega)
  have f914 := isI_tr f871 K905 (by omega)
  have f915 := isI_tr f872 K905 (by omega)
  have f916 := isI_tr f873 K905 (by omega)
  have f917 := isI_tr f874 K905 (by omega)
  have f918 := isI_tr f875 K905 (by omega)
  have f919 := isI_tr f876 K905 (by omega)
  have f920 := isI_tr f877 K905 (by omega)
  have f921 := isI_tr f878 K905 (by omega)
  have f922 := isI_tr f879 K905 (by omega)
  have f923 := isZ_tr f880 K905 (by omega)
  have f924 := isI_tr f881 K905 (by omega)
  have f925 := isI_tr f882 K905 (by omega)
  have a926 := (K905.2.2.1 (b + 1) (by omega)).trans a883
  have a927 := (K905.2.2.1 (b + 2) (by omega)).trans a884
  have a928 := (K905.2.2.1 (b + 3) (by omega)).trans a885
  have a929 := (K905.2.2.1 (b + 4) (by omega)).trans a886
  have a930 := (K905.2.2.1 (b + 5) (by omega)).trans a887
  have a931 := (K905.2.2.1 (b + 6) (by omega)).trans a888
  have a932 := (K905.2.2.1 (b + 7) (by omega)).trans a889
  have a933 := (K905.2.2.1 (b + 8) (by omega)).trans a890
  have a934 := (K905.2.2.1 (b + 9) (by omega)).trans a891
  have a935 := (K905.2.2.1 (b + 10) (by omega)).trans a892
  have a936 := (K905.2.2.1 (b + 11) (by omega)).trans a893
  have a937 := (K905.2.2.1 (b + 12) (by omega)).trans a894
  have a938 := (K905.2.2.1 (b + 13) (by omega)).trans a895
  have a939 := (K905.2.2.1 (b + 14) (by omega)).trans a896
  have a940 := (K905.2.2.1 (b + 15) (by omega)).trans a897
  have a941 := (K905.2.2.1 (b + 16) (by omega)).trans a898
  have a942 := (K905.2.2.1 (b + 17) (by omega)).trans a899
  have a943 := (K905.2.2.1 b (by omega)).trans a864
  have s944 := (K905.2.2.2 b (by omega) (by omega)).trans s865
  have f945 := isI_new s908 K905 n906
  have k946 := keep_tr k901 K905 (by omega)
  refine g_putR C904 hXi (i := b) (ty := (.array .int)) (ty0 := tyX7) (k := 38) (Nc := 56) (Cn := RX7) (T := TX7) (ci := 7) (by omega) a943 s944 rfl rfl (fun w hw => List.mem_cons_of_mem _ (inX7 w hw)) tyX7_ok nmX7 (by decide) (List.mem_cons_of_mem _ mF_RX7_62) rfl rfl rfl rfl rfl rfl (by decide : 38 < 56) (rt (fun c => [.int (c.1 0), .ref x2, .int (c.1 2), .ref x23, .ref x48, .ref x77, .int (c.1 6), .int (c.1 7), .int (c.1 8), .ref x110, .int (c.1 10), .ref x147, .int (c.1 12), .ref x188, .ref x233, .ref x282, .int (c.1 16), .int (c.1 17), .int (c.1 18), .ref x335, .int (c.1 20), .int (c.1 21), .int (c.1 22), .ref x392, .ref x453, .ref x518, .int (c.1 26), .int (c.1 27), .int (c.1 28), .int (c.1 29), .int (c.1 30), .int (c.1 31), .int (c.1 32), .ref x587, .ref x660, .ref x737, .ref x818, .int (c.1 37), .ref x903, .int (c.1 39), .null, .int (c.1 41), .null, .int (c.1 43), .int (c.1 44), .int (c.1 45), .int (c.1 46), .int (c.1 47), .int (c.1 48), .null, .int (c.1 50), .int (c.1 51), .null, .null, .null, .int (c.1 55)]) 7) rfl dX7_init_148 (fun Y947 C948 K949 n950 a951 s952 => ?_)
  have f953 := isI_tr f909 K949 (by omega)
  have f954 := isI_tr f910 K949 (by omega)
  have f955 := isI_tr f911 K949 (by omega)
  have f956 := isI_tr f912 K949 (by omega)
  have f957 := isI_tr f913 K949 (by omega)
  have f958 := isI_tr f914 K949 (by omega)
  have f959 := isI_tr f915 K949 (by omega)
  have f960 := isI_tr f916 K949 (by omega)
  have f961 := isI_tr f917 K949 (by omega)
  have f962 := isI_tr f918 K949 (by omega)
  have f963 := isI_tr f919 K949 (by omega)
  have f964 := isI_tr f920 K949 (by omega)
  have f965 := isI_tr f921 K949 (by omega)
  have f966 := isI_tr f922 K949 (by omega)
  have f967 := isZ_tr f923 K949 (by omega)
  have f968 := isI_tr f924 K949 (by omega)
  have f969 := isI_tr f925 K949 (by omega)
  have f970 := isI_tr f945 K949 (by omega)
  have a971 := (K949.2.2.1 (b + 1) (by omega)).trans a926
  have a972 := (K949.2.2.1 (b + 2) (by omega)).trans a927
  have a973 := (K949.2.2.1 (b + 3) (by omega)).trans a928
  have a974 := (K949.2.2.1 (b + 4) (by omega)).trans a929
  have a975 := (K949.2.2.1 (b + 5) (by omega)).trans a930
  have a976 := (K949.2.2.1 (b + 6) (by omega)).trans a931
  have a977 := (K949.2.2.1 (b + 7) (by omega)).trans a932
  have a978 := (K949.2.2.1 (b + 8) (by omega)).trans a933
  have a979 := (K949.2.2.1 (b + 9) (by omega)).trans a934
  have a980 := (K949.2.2.1 (b + 10) (by omega)).trans a935
  have a981 := (K949.2.2.1 (b + 11) (by omega)).trans a936
  have a982 := (K949.2.2.1 (b + 12) (by omega)).trans a937
  have a983 := (K949.2.2.1 (b + 13) (by omega)).trans a938
  have a984 := (K949.2.2.1 (b + 14) (by omega)).trans a939
  have a985 := (K949.2.2.1 (b + 15) (by omega)).trans a940
  have a986 := (K949.2.2.1 (b + 16) (by omega)).trans a941
  have a987 := (K949.2.2.1 (b + 17) (by omega)).trans a942
  have a988 := (K949.2.2.1 (b + 18) (by omega)).trans a907
  have a989 := (K949.2.2.1 b (by omega)).trans a943
  have k990 := keep_tr k946 K949 (by omega)
  have n950 : Y947.N = b + 19 := by omega
  refine g_aload_n C948 0 dX7_init_151 rfl ?_
  refine g_bipush C948 (v := (7 : Int32)) dX7_init_152 (by decide) ?_
  refine g_newA C948 hXa (id := b + 19) n950 .int .int rfl (List.mem_cons_of_mem _ mArr_I) Y947.cI 0 rfl (fun _ _ z => z) rfl (k := 7) (by decide) (by decide) (by decide) (by decide) (by decide) dX7_init_154 (fun Y991 x992 C993 K994 n995 a996 s997 => ?_)
  have f998 := isI_tr f953 K994 (by omega)
  have f999 := isI_tr f954 K994 (by omega)
  have f1000 := isI_tr f955 K994 (by omega)
  have f1001 := isI_tr f956 K994 (by omega)
  have f1002 := isI_tr f957 K994 (by omega)
  have f1003 := isI_tr f958 K994 (by omega)
  have f1004 := isI_tr f959 K994 (by omega)
  have f1005 := isI_tr f960 K994 (by omega)
  have f1006 := isI_tr f961 K994 (by omega)
  have f1007 := isI_tr f962 K994 (by omega)
  have f1008 := isI_tr f963 K994 (by omega)
  have f1009 := isI_tr f964 K994 (by omega)
  have f1010 := isI_tr f965 K994 (by omega)
  have f1011 := isI_tr f966 K994 (by omega)
  have f1012 := isZ_tr f967 K994 (by omega)
  have f1013 := isI_tr f968 K994 (by omega)
  have f1014 := isI_tr f969 K994 (by omega)
  have f1015 := isI_tr f970 K994 (by omega)
  have a1016 := (K994.2.2.1 (b + 1) (by omega)).trans a971
  have a1017 := (K994.2.2.1 (b + 2) (by omega)).trans a972
  have a1018 := (K994.2.2.1 (b + 3) (by omega)).trans a973
  have a1019 := (K994.2.2.1 (b + 4) (by omega)).trans a974
  have a1020 := (K994.2.2.1 (b + 5) (by omega)).trans a975
  have a1021 := (K994.2.2.1 (b + 6) (by omega)).trans a976
  have a1022 := (K994.2.2.1 (b + 7) (by omega)).trans a977
  have a1023 := (K994.2.2.1 (b + 8) (by omega)).trans a978
  have a1024 := (K994.2.2.1 (b + 9) (by omega)).trans a979
  have a1025 := (K994.2.2.1 (b + 10) (by omega)).trans a980
  have a1026 := (K994.2.2.1 (b + 11) (by omega)).trans a981
  have a1027 := (K994.2.2.1 (b + 12) (by omega)).trans a982
  have a1028 := (K994.2.2.1 (b + 13) (by omega)).trans a983
  have a1029 := (K994.2.2.1 (b + 14) (by omega)).trans a984
  have a1030 := (K994.2.2.1 (b + 15) (by omega)).trans a985
  have a1031 := (K994.2.2.1 (b + 16) (by omega)).trans a986
  have a1032 := (K994.2.2.1 (b + 17) (by omega)).trans a987
  have a1033 := (K994.2.2.1 (b + 18) (by omega)).trans a988
  have a1034 := (K994.2.2.1 b (by omega)).trans a951
  have s1035 := (K994.2.2.2 b (by omega) (by omega)).trans s952
  have f1036 := isI_new s997 K994 n995
  have k1037 := keep_tr k990 K994 (by omega)
  refine g_putR C993 hXi (i := b) (ty := (.array .int)) (ty0 := tyX7) (k := 40) (Nc := 56) (Cn := RX7) (T := TX7) (ci := 7) (by omega) a1034 s1035 rfl rfl (fun w hw => List.mem_cons_of_mem _ (inX7 w hw)) tyX7_ok nmX7 (by decide) (List.mem_cons_of_mem _ mF_RX7_65) rfl rfl rfl rfl rfl rfl (by decide : 40 < 56) (rt (fun c => [.int (c.1 0), .ref x2, .int (c.1 2), .ref x23, .ref x48, .ref x77, .int (c.1 6), .int (c.1 7), .int (c.1 8), .ref x110, .int (c.1 10), .ref x147, .int (c.1 12), .ref x188, .ref x233, .ref x282, .int (c.1 16), .int (c.1 17), .int (c.1 18), .ref x335, .int (c.1 20), .int (c.1 21), .int (c.1 22), .ref x392, .ref x453, .ref x518, .int (c.1 26), .int (c.1 27), .int (c.1 28), .int (c.1 29), .int (c.1 30), .int (c.1 31), .int (c.1 32), .ref x587, .ref x660, .ref x737, .ref x818, .int (c.1 37), .ref x903, .int (c.1 39), .ref x992, .int (c.1 41), .null, .int (c.1 43), .int (c.1 44), .int (c.1 45), .int (c.1 46), .int (c.1 47), .int (c.1 48), .null, .int (c.1 50), .int (c.1 51), .null, .null, .null, .int (c.1 55)]) 7) rfl dX7_init_156 (fun Y1038 C1039 K1040 n1041 a1042 s1043 => ?_)
  have f1044 := isI_tr f998 K1040 (by omega)
  have f1045 := isI_tr f999 K1040 (by omega)
  have f1046 := isI_tr f1000 K1040 (by omega)
  have f1047 := isI_tr f1001 K1040 (by omega)
  have f1048 := isI_tr f1002 K1040 (by omega)
  have f1049 := isI_tr f1003 K1040 (by omega)
  have f1050 := isI_tr f1004 K1040 (by omega)
  have f1051 := isI_tr f1005 K1040 (by omega)
  have f1052 := isI_tr f1006 K1040 (by omega)
  have f1053 := isI_tr f1007 K1040 (by omega)
  have f1054 := isI_tr f1008 K1040 (by omega)
  have f1055 := isI_tr f1009 K1040 (by omega)
  have f1056 := isI_tr f1010 K1040 (by omega)
  have f1057 := isI_tr f1011 K1040 (by omega)
  have f1058 := isZ_tr f1012 K1040 (by omega)
  have f1059 := isI_tr f1013 K1040 (by omega)
  have f1060 := isI_tr f1014 K1040 (by omega)
  have f1061 := isI_tr f1015 K1040 (by omega)
  have f1062 := isI_tr f1036 K1040 (by omega)
  have a1063 := (K1040.2.2.1 (b + 1) (by omega)).trans a1016
  have a1064 := (K1040.2.2.1 (b + 2) (by omega)).trans a1017
  have a1065 := (K1040.2.2.1 (b + 3) (by omega)).trans a1018
  have a1066 := (K1040.2.2.1 (b + 4) (by omega)).trans a1019
  have a1067 := (K1040.2.2.1 (b + 5) (by omega)).trans a1020
  have a1068 := (K1040.2.2.1 (b + 6) (by omega)).trans a1021
  have a1069 := (K1040.2.2.1 (b + 7) (by omega)).trans a1022
  have a1070 := (K1040.2.2.1 (b + 8) (by omega)).trans a1023
  have a1071 := (K1040.2.2.1 (b + 9) (by omega)).trans a1024
  have a1072 := (K1040.2.2.1 (b + 10) (by omega)).trans a1025
  have a1073 := (K1040.2.2.1 (b + 11) (by omega)).trans a1026
  have a1074 := (K1040.2.2.1 (b + 12) (by omega)).trans a1027
  have a1075 := (K1040.2.2.1 (b + 13) (by omega)).trans a1028
  have a1076 := (K1040.2.2.1 (b + 14) (by omega)).trans a1029
  have a1077 := (K1040.2.2.1 (b + 15) (by omega)).trans a1030
  have a1078 := (K1040.2.2.1 (b + 16) (by omega)).trans a1031
  have a1079 := (K1040.2.2.1 (b + 17) (by omega)).trans a1032
  have a1080 := (K1040.2.2.1 (b + 18) (by omega)).trans a1033
  have a1081 := (K1040.2.2.1 (b + 19) (by omega)).trans a996
  have a1082 := (K1040.2.2.1 b (by omega)).trans a1034
  have k1083 := keep_tr k1037 K1040 (by omega)
  have n1041 : Y1038.N = b + 20 := by omega
  refine g_aload_n C1039 0 dX7_init_159 rfl ?_
  refine g_bipush C1039 (v := (7 : Int32)) dX7_init_160 (by decide) ?_
  refine g_newA C1039 hXa (id := b + 20) n1041 .int .int rfl (List.mem_cons_of_mem _ mArr_I) Y1038.cI 0 rfl (fun _ _ z => z) rfl (k := 7) (by decide) (by decide) (by decide) (by decide) (by decide) dX7_init_162 (fun Y1084 x1085 C1086 K1087 n1088 a1089 s1090 => ?_)
  have f1091 := isI_tr f1044 K1087 (by omega)
  have f1092 := isI_tr f1045 K1087 (by omega)
  have f1093 := isI_tr f1046 K1087 (by omega)
  have f1094 := isI_tr f1047 K1087 (by omega)
  have f1095 := isI_tr f1048 K1087 (by omega)
  have f1096 := isI_tr f1049 K1087 (by omega)
  have f1097 := isI_tr f1050 K1087 (by omega)
  have f1098 := isI_tr f1051 K1087 (by omega)
  have f1099 := isI_tr f1052 K1087 (by omega)
  have f1100 := isI_tr f1053 K1087 (by omega)
  have f1101 := isI_tr f1054 K1087 (by omega)
  have f1102 := isI_tr f1055 K1087 (by omega)
  have f1103 := isI_tr f1056 K1087 (by omega)
  have f1104 := isI_tr f1057 K1087 (by omega)
  have f1105 := isZ_tr f1058 K1087 (by omega)
  have f1106 := isI_tr f1059 K1087 (by omega)
  have f1107 := isI_tr f1060 K1087 (by omega)
  have f1108 := isI_tr f1061 K1087 (by omega)
  have f1109 := isI_tr f1062 K1087 (by omega)
  have a1110 := (K1087.2.2.1 (b + 1) (by omega)).trans a1063
  have a1111 := (K1087.2.2.1 (b + 2) (by omega)).trans a1064
  have a1112 := (K1087.2.2.1 (b + 3) (by omega)).trans a1065
  have a1113 := (K1087.2.2.1 (b + 4) (by omega)).trans a1066
  have a1114 := (K1087.2.2.1 (b + 5) (by omega)).trans a1067
  have a1115 := (K1087.2.2.1 (b + 6) (by omega)).trans a1068
  have a1116 := (K1087.2.2.1 (b + 7) (by omega)).trans a1069
  have a1117 := (K1087.2.2.1 (b + 8) (by omega)).trans a1070
  have a1118 := (K1087.2.2.1 (b + 9) (by omega)).trans a1071
  have a1119 := (K1087.2.2.1 (b + 10) (by omega)).trans a1072
  have a1120 := (K1087.2.2.1 (b + 11) (by omega)).trans a1073
  have a1121 := (K1087.2.2.1 (b + 12) (by omega)).trans a1074
  have a1122 := (K1087.2.2.1 (b + 13) (by omega)).trans a1075
  have a1123 := (K1087.2.2.1 (b + 14) (by omega)).trans a1076
  have a1124 := (K1087.2.2.1 (b + 15) (by omega)).trans a1077
  have a1125 := (K1087.2.2.1 (b + 16) (by omega)).trans a1078
  have a1126 := (K1087.2.2.1 (b + 17) (by omega)).trans a1079
  have a1127 := (K1087.2.2.1 (b + 18) (by omega)).trans a1080
  have a1128 := (K1087.2.2.1 (b + 19) (by omega)).trans a1081
  have a1129 := (K1087.2.2.1 b (by omega)).trans a1042
  have s1130 := (K1087.2.2.2 b (by omega) (by omega)).trans s1043
  have f1131 := isI_new s1090 K1087 n1088
  have k1132 := keep_tr k1083 K1087 (by omega)
  refine g_putR C1086 hXi (i := b) (ty := (.array .int)) (ty0 := tyX7) (k := 42) (Nc := 56) (Cn := RX7) (T := TX7) (ci := 7) (by omega) a1129 s1130 rfl rfl (fun w hw => List.mem_cons_of_mem _ (inX7 w hw)) tyX7_ok nmX7 (by decide) (List.mem_cons_of_mem _ mF_RX7_68) rfl rfl rfl rfl rfl rfl (by decide : 42 < 56) (rt (fun c => [.int (c.1 0), .ref x2, .int (c.1 2), .ref x23, .ref x48, .ref x77, .int (c.1 6), .int (c.1 7), .int (c.1 8), .ref x110, .int (c.1 10), .ref x147, .int (c.1 12), .ref x188, .ref x233, .ref x282, .int (c.1 16), .int (c.1 17), .int (c.1 18), .ref x335, .int (c.1 20), .int (c.1 21), .int (c.1 22), .ref x392, .ref x453, .ref x518, .int (c.1 26), .int (c.1 27), .int (c.1 28), .int (c.1 29), .int (c.1 30), .int (c.1 31), .int (c.1 32), .ref x587, .ref x660, .ref x737, .ref x818, .int (c.1 37), .ref x903, .int (c.1 39), .ref x992, .int (c.1 41), .ref x1085, .int (c.1 43), .int (c.1 44), .int (c.1 45), .int (c.1 46), .int (c.1 47), .int (c.1 48), .null, .int (c.1 50), .int (c.1 51), .null, .null, .null, .int (c.1 55)]) 7) rfl dX7_init_164 (fun Y1133 C1134 K1135 n1136 a1137 s1138 => ?_)
  have f1139 := isI_tr f1091 K1135 (by omega)
  have f1140 := isI_tr f1092 K1135 (by omega)
  have f1141 := isI_tr f1093 K1135 (by omega)
  have f1142 := isI_tr f1094 K1135 (by omega)
  have f1143 := isI_tr f1095 K1135 (by omega)
  have f1144 := isI_tr f1096 K1135 (by omega)
  have f1145 := isI_tr f1097 K1135 (by omega)
  have f1146 := isI_tr f1098 K1135 (by omega)
  have f1147 := isI_tr f1099 K1135 (by omega)
  have f1148 := isI_tr f1100 K1135 (by omega)
  have f1149 := isI_tr f1101 K1135 (by omega)
  have f1150 := isI_tr f1102 K1135 (by omega)
  have f1151 := isI_tr f1103 K1135 (by omega)
  have f1152 := isI_tr f1104 K1135 (by omega)
  have f1153 := isZ_tr f1105 K1135 (by omega)
  have f1154 := isI_tr f1106 K1135 (by omega)
  have f1155 := isI_tr f1107 K1135 (by omega)
  have f1156 := isI_tr f1108 K1135 (by omega)
  have f1157 := isI_tr f1109 K1135 (by omega)
  have f1158 := isI_tr f1131 K1135 (by omega)
  have a1159 := (K1135.2.2.1 (b + 1) (by omega)).trans a1110
  have a1160 := (K1135.2.2.1 (b + 2) (by omega)).trans a1111
  have a1161 := (K1135.2.2.1 (b + 3) (by omega)).trans a1112
  have a1162 := (K1135.2.2.1 (b + 4) (by omega)).trans a1113
  have a1163 := (K1135.2.2.1 (b + 5) (by omega)).trans a1114
  have a1164 := (K1135.2.2.1 (b + 6) (by omega)).trans a1115
  have a1165 := (K1135.2.2.1 (b + 7) (by omega)).trans a1116
  have a1166 := (K1135.2.2.1 (b + 8) (by omega)).trans a1117
  have a1167 := (K1135.2.2.1 (b + 9) (by omega)).trans a1118
  have a1168 := (K1135.2.2.1 (b + 10) (by omega)).trans a1119
  have a1169 := (K1135.2.2.1 (b + 11) (by omega)).trans a1120
  have a1170 := (K1135.2.2.1 (b + 12) (by omega)).trans a1121
  have a1171 := (K1135.2.2.1 (b + 13) (by omega)).trans a1122
  have a1172 := (K1135.2.2.1 (b + 14) (by omega)).trans a1123
  have a1173 := (K1135.2.2.1 (b + 15) (by omega)).trans a1124
  have a1174 := (K1135.2.2.1 (b + 16) (by omega)).trans a1125
  have a1175 := (K1135.2.2.1 (b + 17) (by omega)).trans a1126
  have a1176 := (K1135.2.2.1 (b + 18) (by omega)).trans a1127
  have a1177 := (K1135.2.2.1 (b + 19) (by omega)).trans a1128
  have a1178 := (K1135.2.2.1 (b + 20) (by omega)).trans a1089
  have a1179 := (K1135.2.2.1 b (by omega)).trans a1129
  have k1180 := keep_tr k1132 K1135 (by omega)
  have n1136 : Y1133.N = b + 21 := by omega
  refine g_aload_n C1134 0 dX7_init_167 rfl ?_
  refine g_bipush C1134 (v := (7 : Int32)) dX7_init_168 (by decide) ?_
  refine g_newA C1134 hXa (id := b + 21) n1136 .int .int rfl (List.mem_cons_of_mem _ mArr_I) Y1133.cI 0 rfl (fun _ _ z => z) rfl (k := 7) (by decide) (by decide) (by decide) (by decide) (by decide) dX7_init_170 (fun Y1181 x1182 C1183 K1184 n1185 a1186 s1187 => ?_)
  have f1188 := isI_tr f1139 K1184 (by omega)
  have f1189 := isI_tr f1140 K1184 (by omega)
  have f1190 := isI_tr f1141 K1184 (by omega)
  have f1191 := isI_tr f1142 K1184 (by omega)
  have f1192 := isI_tr f1143 K1184 (by omega)
  have f1193 := isI_tr f1144 K1184 (by omega)
  have f1194 := isI_tr f1145 K1184 (by omega)
  have f1195 := isI_tr f1146 K1184 (by omega)
  have f1196 := isI_tr f1147 K1184 (by omega)
  have f1197 := isI_tr f1148 K1184 (by omega)
  have f1198 := isI_tr f1149 K1184 (by omega)
  have f1199 := isI_tr f1150 K1184 (by omega)
  have f1200 := isI_tr f1151 K1184 (by omega)
  have f1201 := isI_tr f1152 K1184 (by omega)
  have f1202 := isZ_tr f1153 K1184 (by omega)
  have f1203 := isI_tr f1154 K1184 (by omega)
  have f1204 := isI_tr f1155 K1184 (by omega)
  have f1205 := isI_tr f1156 K1184 (by omega)
  have f1206 := isI_tr f1157 K1184 (by omega)
  have f1207 := isI_tr f1158 K1184 (by omega)
  have a1208 := (K1184.2.2.1 (b + 1) (by omega)).trans a1159
  have a1209 := (K1184.2.2.1 (b + 2) (by omega)).trans a1160
  have a1210 := (K1184.2.2.1 (b + 3) (by omega)).trans a1161
  have a1211 := (K1184.2.2.1 (b + 4) (by omega)).trans a1162
  have a1212 := (K1184.2.2.1 (b + 5) (by omega)).trans a1163
  have a1213 := (K1184.2.2.1 (b + 6) (by omega)).trans a1164
  have a1214 := (K1184.2.2.1 (b + 7) (by omega)).trans a1165
  have a1215 := (K1184.2.2.1 (b + 8) (by omega)).trans a1166
  have a1216 := (K1184.2.2.1 (b + 9) (by omega)).trans a1167
  have a1217 := (K1184.2.2.1 (b + 10) (by omega)).trans a1168
  have a1218 := (K1184.2.2.1 (b + 11) (by omega)).trans a1169
  have a1219 := (K1184.2.2.1 (b + 12) (by omega)).trans a1170
  have a1220 := (K1184.2.2.1 (b + 13) (by omega)).trans a1171
  have a1221 := (K1184.2.2.1 (b + 14) (by omega)).trans a1172
  have a1222 := (K1184.2.2.1 (b + 15) (by omega)).trans a1173
  have a1223 := (K1184.2.2.1 (b + 16) (by omega)).trans a1174
  have a1224 := (K1184.2.2.1 (b + 17) (by omega)).trans a1175
  have a1225 := (K1184.2.2.1 (b + 18) (by omega)).trans a1176
  have a1226 := (K1184.2.2.1 (b + 19) (by omega)).trans a1177
  have a1227 := (K1184.2.2.1 (b + 20) (by omega)).trans a1178
  have a1228 := (K1184.2.2.1 b (by omega)).trans a1137
  have s1229 := (K1184.2.2.2 b (by omega) (by omega)).trans s1138
  have f1230 := isI_new s1187 K1184 n1185
  have k1231 := keep_tr k1180 K1184 (by omega)
  refine g_putR C1183 hXi (i := b) (ty := (.array .int)) (ty0 := tyX7) (k := 49) (Nc := 56) (Cn := RX7) (T := TX7) (ci := 7) (by omega) a1228 s1229 rfl rfl (fun w hw => List.mem_cons_of_mem _ (inX7 w hw)) tyX7_ok nmX7 (by decide) (List.mem_cons_of_mem _ mF_RX7_71) rfl rfl rfl rfl rfl rfl (by decide : 49 < 56) (rt (fun c => [.int (c.1 0), .ref x2, .int (c.1 2), .ref x23, .ref x48, .ref x77, .int (c.1 6), .int (c.1 7), .int (c.1 8), .ref x110, .int (c.1 10), .ref x147, .int (c.1 12), .ref x188, .ref x233, .ref x282, .int (c.1 16), .int (c.1 17), .int (c.1 18), .ref x335, .int (c.1 20), .int (c.1 21), .int (c.1 22), .ref x392, .ref x453, .ref x518, .int (c.1 26), .int (c.1 27), .int (c.1 28), .int (c.1 29), .int (c.1 30), .int (c.1 31), .int (c.1 32), .ref x587, .ref x660, .ref x737, .ref x818, .int (c.1 37), .ref x903, .int (c.1 39), .ref x992, .int (c.1 41), .ref x1085, .int (c.1 43), .int (c.1 44), .int (c.1 45), .int (c.1 46), .int (c.1 47), .int (c.1 48), .ref x1182, .int (c.1 50), .int (c.1 51), .null, .null, .null, .int (c.1 55)]) 7) rfl dX7_init_172 (fun Y1232 C1233 K1234 n1235 a1236 s1237 => ?_)
  have f1238 := isI_tr f1188 K1234 (by omega)
  have f1239 := isI_tr f1189 K1234 (by omega)
  have f1240 := isI_tr f1190 K1234 (by omega)
  have f1241 := isI_tr f1191 K1234 (by omega)
  have f1242 := isI_tr f1192 K1234 (by omega)
  have f1243 := isI_tr f1193 K1234 (by omega)
  have f1244 := isI_tr f1194 K1234 (by omega)
  have f1245 := isI_tr f1195 K1234 (by omega)
  have f1246 := isI_tr f1196 K1234 (by omega)
  have f1247 := isI_tr f1197 K1234 (by omega)
  have f1248 := isI_tr f1198 K1234 (by omega)
  have f1249 := isI_tr f1199 K1234 (by omega)
  have f1250 := isI_tr f1200 K1234 (by omega)
  have f1251 := isI_tr f1201 K1234 (by omega)
  have f1252 := isZ_tr f1202 K1234 (by omega)
  have f1253 := isI_tr f1203 K1234 (by omega)
  have f1254 := isI_tr f1204 K1234 (by omega)
  have f1255 := isI_tr f1205 K1234 (by omega)
  have f1256 := isI_tr f1206 K1234 (by omega)
  have f1257 := isI_tr f1207 K1234 (by omega)
  have f1258 := isI_tr f1230 K1234 (by omega)
  have a1259 := (K1234.2.2.1 (b + 1) (by omega)).trans a1208
  have a1260 := (K1234.2.2.1 (b + 2) (by omega)).trans a1209
  have a1261 := (K1234.2.2.1 (b + 3) (by omega)).trans a1210
  have a1262 := (K1234.2.2.1 (b + 4) (by omega)).trans a1211
  have a1263 := (K1234.2.2.1 (b + 5) (by omega)).trans a1212
  have a1264 := (K1234.2.2.1 (b + 6) (by omega)).trans a1213
  have a1265 := (K1234.2.2.1 (b + 7) (by omega)).trans a1214
  have a1266 := (K1234.2.2.1 (b + 8) (by omega)).trans a1215
  have a1267 := (K1234.2.2.1 (b + 9) (by omega)).trans a1216
  have a1268 := (K1234.2.2.1 (b + 10) (by omega)).trans a1217
  have a1269 := (K1234.2.2.1 (b + 11) (by omega)).trans a1218
  have a1270 := (K1234.2.2.1 (b + 12) (by omega)).trans a1219
  have a1271 := (K1234.2.2.1 (b + 13) (by omega)).trans a1220
  have a1272 := (K1234.2.2.1 (b + 14) (by omega)).trans a1221
  have a1273 := (K1234.2.2.1 (b + 15) (by omega)).trans a1222
  have a1274 := (K1234.2.2.1 (b + 16) (by omega)).trans a1223
  have a1275 := (K1234.2.2.1 (b + 17) (by omega)).trans a1224
  have a1276 := (K1234.2.2.1 (b + 18) (by omega)).trans a1225
  have a1277 := (K1234.2.2.1 (b + 19) (by omega)).trans a1226
  have a1278 := (K1234.2.2.1 (b + 20) (by omega)).trans a1227
  have a1279 := (K1234.2.2.1 (b + 21) (by omega)).trans a1186
  have a1280 := (K1234.2.2.1 b (by omega)).trans a1228
  have k1281 := keep_tr k1231 K1234 (by omega)
  have n1235 : Y1232.N = b + 22 := by omega
  refine g_aload_n C1233 0 dX7_init_175 rfl ?_
  refine g_iconst C1233 (v := (4 : Int32)) dX7_init_176 (by decide) ?_
  refine g_newA C1233 hXa (id := b + 22) n1235 .int .int rfl (List.mem_cons_of_mem _ mArr_I) Y1232.cI 0 rfl (fun _ _ z => z) rfl (k := 4) (by decide) (by decide) (by decide) (by decide) (by decide) dX7_init_177 (fun Y1282 x1283 C1284 K1285 n1286 a1287 s1288 => ?_)
  have f1289 := isI_tr f1238 K1285 (by omega)
  have f1290 := isI_tr f1239 K1285 (by omega)
  have f1291 := isI_tr f1240 K1285 (by omega)
  have f1292 := isI_tr f1241 K1285 (by omega)
  have f1293 := isI_tr f1242 K1285 (by omega)
  have f1294 := isI_tr f1243 K1285 (by omega)
  have f1295 := isI_tr f1244 K1285 (by omega)
  have f1296 := isI_tr f1245 K1285 (by omega)
  have f1297 := isI_tr f1246 K1285 (by omega)
  have f1298 := isI_tr f1247 K1285 (by omega)
  have f1299 := isI_tr f1248 K1285 (by omega)
  have f1300 := isI_tr f1249 K1285 (by omega)
  have f1301 := isI_tr f1250 K1285 (by omega)
  have f1302 := isI_tr f1251 K1285 (by omega)
  have f1303 := isZ_tr f1252 K1285 (by omega)
  have f1304 := isI_tr f1253 K1285 (by omega)
  have f1305 := isI_tr f1254 K1285 (by omega)
  have f1306 := isI_tr f1255 K1285 (by omega)
  have f1307 := isI_tr f1256 K1285 (by omega)
  have f1308 := isI_tr f1257 K1285 (by omega)
  have f1309 := isI_tr f1258 K1285 (by omega)
  have a1310 := (K1285.2.2.1 (b + 1) (by omega)).trans a1259
  have a1311 := (K1285.2.2.1 (b + 2) (by omega)).trans a1260
  have a1312 := (K1285.2.2.1 (b + 3) (by omega)).trans a1261
  have a1313 := (K1285.2.2.1 (b + 4) (by omega)).trans a1262
  have a1314 := (K1285.2.2.1 (b + 5) (by omega)).trans a1263
  have a1315 := (K1285.2.2.1 (b + 6) (by omega)).trans a1264
  have a1316 := (K1285.2.2.1 (b + 7) (by omega)).trans a1265
  have a1317 := (K1285.2.2.1 (b + 8) (by omega)).trans a1266
  have a1318 := (K1285.2.2.1 (b + 9) (by omega)).trans a1267
  have a1319 := (K1285.2.2.1 (b + 10) (by omega)).trans a1268
  have a1320 := (K1285.2.2.1 (b + 11) (by omega)).trans a1269
  have a1321 := (K1285.2.2.1 (b + 12) (by omega)).trans a1270
  have a1322 := (K1285.2.2.1 (b + 13) (by omega)).trans a1271
  have a1323 := (K1285.2.2.1 (b + 14) (by omega)).trans a1272
  have a1324 := (K1285.2.2.1 (b + 15) (by omega)).trans a1273
  have a1325 := (K1285.2.2.1 (b + 16) (by omega)).trans a1274
  have a1326 := (K1285.2.2.1 (b + 17) (by omega)).trans a1275
  have a1327 := (K1285.2.2.1 (b + 18) (by omega)).trans a1276
  have a1328 := (K1285.2.2.1 (b + 19) (by omega)).trans a1277
  have a1329 := (K1285.2.2.1 (b + 20) (by omega)).trans a1278
  have a1330 := (K1285.2.2.1 (b + 21) (by omega)).trans a1279
  have a1331 := (K1285.2.2.1 b (by omega)).trans a1236
  have s1332 := (K1285.2.2.2 b (by omega) (by omega)).trans s1237
  have f1333 := isI_new s1288 K1285 n1286
  have k1334 := keep_tr k1281 K1285 (by omega)
  refine g_putR C1284 hXi (i := b) (ty := (.array .int)) (ty0 := tyX7) (k := 52) (Nc := 56) (Cn := RX7) (T := TX7) (ci := 7) (by omega) a1331 s1332 rfl rfl (fun w hw => List.mem_cons_of_mem _ (inX7 w hw)) tyX7_ok nmX7 (by decide) (List.mem_cons_of_mem _ mF_RX7_74) rfl rfl rfl rfl rfl rfl (by decide : 52 < 56) (rt (fun c => [.int (c.1 0), .ref x2, .int (c.1 2), .ref x23, .ref x48, .ref x77, .int (c.1 6), .int (c.1 7), .int (c.1 8), .ref x110, .int (c.1 10), .ref x147, .int (c.1 12), .ref x188, .ref x233, .ref x282, .int (c.1 16), .int (c.1 17), .int (c.1 18), .ref x335, .int (c.1 20), .int (c.1 21), .int (c.1 22), .ref x392, .ref x453, .ref x518, .int (c.1 26), .int (c.1 27), .int (c.1 28), .int (c.1 29), .int (c.1 30), .int (c.1 31), .int (c.1 32), .ref x587, .ref x660, .ref x737, .ref x818, .int (c.1 37), .ref x903, .int (c.1 39), .ref x992, .int (c.1 41), .ref x1085, .int (c.1 43), .int (c.1 44), .int (c.1 45), .int (c.1 46), .int (c.1 47), .int (c.1 48), .ref x1182, .int (c.1 50), .int (c.1 51), .ref x1283, .null, .null, .int (c.1 55)]) 7) rfl dX7_init_179 (fun Y1335 C1336 K1337 n1338 a1339 s1340 => ?_)
  have f1341 := isI_tr f1289 K1337 (by omega)
  have f1342 := isI_tr f1290 K1337 (by omega)
  have f1343 := isI_tr f1291 K1337 (by omega)
  have f1344 := isI_tr f1292 K1337 (by omega)
  have f1345 := isI_tr f1293 K1337 (by omega)
  have f1346 := isI_tr f1294 K1337 (by omega)
  have f1347 := isI_tr f1295 K1337 (by omega)
  have f1348 := isI_tr f1296 K1337 (by omega)
  have f1349 := isI_tr f1297 K1337 (by omega)
  have f1350 := isI_tr f1298 K1337 (by omega)
  have f1351 := isI_tr f1299 K1337 (by omega)
  have f1352 := isI_tr f1300 K1337 (by omega)
  have f1353 := isI_tr f1301 K1337 (by omega)
  have f1354 := isI_tr f1302 K1337 (by omega)
  have f1355 := isZ_tr f1303 K1337 (by omega)
  have f1356 := isI_tr f1304 K1337 (by omega)
  have f1357 := isI_tr f1305 K1337 (by omega)
  have f1358 := isI_tr f1306 K1337 (by omega)
  have f1359 := isI_tr f1307 K1337 (by omega)
  have f1360 := isI_tr f1308 K1337 (by omega)
  have f1361 := isI_tr f1309 K1337 (by omega)
  have f1362 := isI_tr f1333 K1337 (by omega)
  have a1363 := (K1337.2.2.1 (b + 1) (by omega)).trans a1310
  have a1364 := (K1337.2.2.1 (b + 2) (by omega)).trans a1311
  have a1365 := (K1337.2.2.1 (b + 3) (by omega)).trans a1312
  have a1366 := (K1337.2.2.1 (b + 4) (by omega)).trans a1313
  have a1367 := (K1337.2.2.1 (b + 5) (by omega)).trans a1314
  have a1368 := (K1337.2.2.1 (b + 6) (by omega)).trans a1315
  have a1369 := (K1337.2.2.1 (b + 7) (by omega)).trans a1316
  have a1370 := (K1337.2.2.1 (b + 8) (by omega)).trans a1317
  have a1371 := (K1337.2.2.1 (b + 9) (by omega)).trans a1318
  have a1372 := (K1337.2.2.1 (b + 10) (by omega)).trans a1319
  have a1373 := (K1337.2.2.1 (b + 11) (by omega)).trans a1320
  have a1374 := (K1337.2.2.1 (b + 12) (by omega)).trans a1321
  have a1375 := (K1337.2.2.1 (b + 13) (by omega)).trans a1322
  have a1376 := (K1337.2.2.1 (b + 14) (by omega)).trans a1323
  have a1377 := (K1337.2.2.1 (b + 15) (by omega)).trans a1324
  have a1378 := (K1337.2.2.1 (b + 16) (by omega)).trans a1325
  have a1379 := (K1337.2.2.1 (b + 17) (by omega)).trans a1326
  have a1380 := (K1337.2.2.1 (b + 18) (by omega)).trans a1327
  have a1381 := (K1337.2.2.1 (b + 19) (by omega)).trans a1328
  have a1382 := (K1337.2.2.1 (b + 20) (by omega)).trans a1329
  have a1383 := (K1337.2.2.1 (b + 21) (by omega)).trans a1330
  have a1384 := (K1337.2.2.1 (b + 22) (by omega)).trans a1287
  have a1385 := (K1337.2.2.1 b (by omega)).trans a1331
  have k1386 := keep_tr k1334 K1337 (by omega)
  have n1338 : Y1335.N = b + 23 := by omega
  refine g_aload_n C1336 0 dX7_init_182 rfl ?_
  refine g_iconst C1336 (v := (4 : Int32)) dX7_init_183 (by decide) ?_
  refine g_newA C1336 hXa (id := b + 23) n1338 .int .int rfl (List.mem_cons_of_mem _ mArr_I) Y1335.cI 0 rfl (fun _ _ z => z) rfl (k := 4) (by decide) (by decide) (by decide) (by decide) (by decide) dX7_init_184 (fun Y1387 x1388 C1389 K1390 n1391 a1392 s1393 => ?_)
  have f1394 := isI_tr f1341 K1390 (by omega)
  have f1395 := isI_tr f1342 K1390 (by omega)
  have f1396 := isI_tr f1343 K1390 (by omega)
  have f1397 := isI_tr f1344 K1390 (by omega)
  have f1398 := isI_tr f1345 K1390 (by omega)
  have f1399 := isI_tr f1346 K1390 (by omega)
  have f1400 := isI_tr f1347 K1390 (by omega)
  have f1401 := isI_tr f1348 K1390 (by omega)
  have f1402 := isI_tr f1349 K1390 (by omega)
  have f1403 := isI_tr f1350 K1390 (by omega)
  have f1404 := isI_tr f1351 K1390 (by omega)
  have f1405 := isI_tr f1352 K1390 (by omega)
  have f1406 := isI_tr f1353 K1390 (by omega)
  have f1407 := isI_tr f1354 K1390 (by omega)
  have f1408 := isZ_tr f1355 K1390 (by omega)
  have f1409 := isI_tr f1356 K1390 (by omega)
  have f1410 := isI_tr f1357 K1390 (by omega)
  have f1411 := isI_tr f1358 K1390 (by omega)
  have f1412 := isI_tr f1359 K1390 (by omega)
  have f1413 := isI_tr f1360 K1390 (by omega)
  have f1414 := isI_tr f1361 K1390 (by omega)
  have f1415 := isI_tr f1362 K1390 (by omega)
  have a1416 := (K1390.2.2.1 (b + 1) (by omega)).trans a1363
  have a1417 := (K1390.2.2.1 (b + 2) (by omega)).trans a1364
  have a1418 := (K1390.2.2.1 (b + 3) (by omega)).trans a1365
  have a1419 := (K1390.2.2.1 (b + 4) (by omega)).trans a1366
  have a1420 := (K1390.2.2.1 (b + 5) (by omega)).trans a1367
  have a1421 := (K1390.2.2.1 (b + 6) (by omega)).trans a1368
  have a1422 := (K1390.2.2.1 (b + 7) (by omega)).trans a1369
  have a1423 := (K1390.2.2.1 (b + 8) (by omega)).trans a1370
  have a1424 := (K1390.2.2.1 (b + 9) (by omega)).trans a1371
  have a1425 := (K1390.2.2.1 (b + 10) (by omega)).trans a1372
  have a1426 := (K1390.2.2.1 (b + 11) (by omega)).trans a1373
  have a1427 := (K1390.2.2.1 (b + 12) (by omega)).trans a1374
  have a1428 := (K1390.2.2.1 (b + 13) (by omega)).trans a1375
  have a1429 := (K1390.2.2.1 (b + 14) (by omega)).trans a1376
  have a1430 := (K1390.2.2.1 (b + 15) (by omega)).trans a1377
  have a1431 := (K1390.2.2.1 (b + 16) (by omega)).trans a1378
  have a1432 := (K1390.2.2.1 (b + 17) (by omega)).trans a1379
  have a1433 := (K1390.2.2.1 (b + 18) (by omega)).trans a1380
  have a1434 := (K1390.2.2.1 (b + 19) (by omega)).trans a1381
  have a1435 := (K1390.2.2.1 (b + 20) (by omega)).trans a1382
  have a1436 := (K1390.2.2.1 (b + 21) (by omega)).trans a1383
  have a1437 := (K1390.2.2.1 (b + 22) (by omega)).trans a1384
  have a1438 := (K1390.2.2.1 b (by omega)).trans a1339
  have s1439 := (K1390.2.2.2 b (by omega) (by omega)).trans s1340
  have f1440 := isI_new s1393 K1390 n1391
  have k1441 := keep_tr k1386 K1390 (by omega)
  refine g_putR C1389 hXi (i := b) (ty := (.array .int)) (ty0 := tyX7) (k := 53) (Nc := 56) (Cn := RX7) (T := TX7) (ci := 7) (by omega) a1438 s1439 rfl rfl (fun w hw => List.mem_cons_of_mem _ (inX7 w hw)) tyX7_ok nmX7 (by decide) (List.mem_cons_of_mem _ mF_RX7_77) rfl rfl rfl rfl rfl rfl (by decide : 53 < 56) (rt (fun c => [.int (c.1 0), .ref x2, .int (c.1 2), .ref x23, .ref x48, .ref x77, .int (c.1 6), .int (c.1 7), .int (c.1 8), .ref x110, .int (c.1 10), .ref x147, .int (c.1 12), .ref x188, .ref x233, .ref x282, .int (c.1 16), .int (c.1 17), .int (c.1 18), .ref x335, .int (c.1 20), .int (c.1 21), .int (c.1 22), .ref x392, .ref x453, .ref x518, .int (c.1 26), .int (c.1 27), .int (c.1 28), .int (c.1 29), .int (c.1 30), .int (c.1 31), .int (c.1 32), .ref x587, .ref x660, .ref x737, .ref x818, .int (c.1 37), .ref x903, .int (c.1 39), .ref x992, .int (c.1 41), .ref x1085, .int (c.1 43), .int (c.1 44), .int (c.1 45), .int (c.1 46), .int (c.1 47), .int (c.1 48), .ref x1182, .int (c.1 50), .int (c.1 51), .ref x1283, .ref x1388, .null, .int (c.1 55)]) 7) rfl dX7_init_186 (fun Y1442 C1443 K1444 n1445 a1446 s1447 => ?_)
  have f1448 := isI_tr f1394 K1444 (by omega)
  have f1449 := isI_tr f1395 K1444 (by omega)
  have f1450 := isI_tr f1396 K1444 (by omega)
  have f1451 := isI_tr f1397 K1444 (by omega)
  have f1452 := isI_tr f1398 K1444 (by omega)
  have f1453 := isI_tr f1399 K1444 (by omega)
  have f1454 := isI_tr f1400 K1444 (by omega)
  have f1455 := isI_tr f1401 K1444 (by omega)
  have f1456 := isI_tr f1402 K1444 (by omega)
  have f1457 := isI_tr f1403 K1444 (by omega)
  have f1458 := isI_tr f1404 K1444 (by omega)
  have f1459 := isI_tr f1405 K1444 (by omega)
  have f1460 := isI_tr f1406 K1444 (by omega)
  have f1461 := isI_tr f1407 K1444 (by omega)
  have f1462 := isZ_tr f1408 K1444 (by omega)
  have f1463 := isI_tr f1409 K1444 (by omega)
  have f1464 := isI_tr f1410 K1444 (by omega)
  have f1465 := isI_tr f1411 K1444 (by omega)
  have f1466 := isI_tr f1412 K1444 (by omega)
  have f1467 := isI_tr f1413 K1444 (by omega)
  have f1468 := isI_tr f1414 K1444 (by omega)
  have f1469 := isI_tr f1415 K1444 (by omega)
  have f1470 := isI_tr f1440 K1444 (by omega)
  have a1471 := (K1444.2.2.1 (b + 1) (by omega)).trans a1416
  have a1472 := (K1444.2.2.1 (b + 2) (by omega)).trans a1417
  have a1473 := (K1444.2.2.1 (b + 3) (by omega)).trans a1418
  have a1474 := (K1444.2.2.1 (b + 4) (by omega)).trans a1419
  have a1475 := (K1444.2.2.1 (b + 5) (by omega)).trans a1420
  have a1476 := (K1444.2.2.1 (b + 6) (by omega)).trans a1421
  have a1477 := (K1444.2.2.1 (b + 7) (by omega)).trans a1422
  have a1478 := (K1444.2.2.1 (b + 8) (by omega)).trans a1423
  have a1479 := (K1444.2.2.1 (b + 9) (by omega)).trans a1424
  have a1480 := (K1444.2.2.1 (b + 10) (by omega)).trans a1425
  have a1481 := (K1444.2.2.1 (b + 11) (by omega)).trans a1426
  have a1482 := (K1444.2.2.1 (b + 12) (by omega)).trans a1427
  have a1483 := (K1444.2.2.1 (b + 13) (by omega)).trans a1428
  have a1484 := (K1444.2.2.1 (b + 14) (by omega)).trans a1429
  have a1485 := (K1444.2.2.1 (b + 15) (by omega)).trans a1430
  have a1486 := (K1444.2.2.1 (b + 16) (by omega)).trans a1431
  have a1487 := (K1444.2.2.1 (b + 17) (by omega)).trans a1432
  have a1488 := (K1444.2.2.1 (b + 18) (by omega)).trans a1433
  have a1489 := (K1444.2.2.1 (b + 19) (by omega)).trans a1434
  have a1490 := (K1444.2.2.1 (b + 20) (by omega)).trans a1435
  have a1491 := (K1444.2.2.1 (b + 21) (by omega)).trans a1436
  have a1492 := (K1444.2.2.1 (b + 22) (by omega)).trans a1437
  have a1493 := (K1444.2.2.1 (b + 23) (by omega)).trans a1392
  have a1494 := (K1444.2.2.1 b (by omega)).trans a1438
  have k1495 := keep_tr k1441 K1444 (by omega)
  have n1445 : Y1442.N = b + 24 := by omega
  refine g_aload_n C1443 0 dX7_init_189 rfl ?_
  refine g_sipush C1443 (v := (160 : Int32)) dX7_init_190 (by decide) ?_
  refine g_newA C1443 hXa (id := b + 24) n1445 .int .int rfl (List.mem_cons_of_mem _ mArr_I) Y1442.cI 0 rfl (fun _ _ z => z) rfl (k := 160) (by decide) (by decide) (by decide) (by decide) (by decide) dX7_init_193 (fun Y1496 x1497 C1498 K1499 n1500 a1501 s1502 => ?_)
  have f1503 := isI_tr f1448 K1499 (by omega)
  have f1504 := isI_tr f1449 K1499 (by omega)
  have f1505 := isI_tr f1450 K1499 (by omega)
  have f1506 := isI_tr f1451 K1499 (by omega)
  have f1507 := isI_tr f1452 K1499 (by omega)
  have f1508 := isI_tr f1453 K1499 (by omega)
  have f1509 := isI_tr f1454 K1499 (by omega)
  have f1510 := isI_tr f1455 K1499 (by omega)
  have f1511 := isI_tr f1456 K1499 (by omega)
  have f1512 := isI_tr f1457 K1499 (by omega)
  have f1513 := isI_tr f1458 K1499 (by omega)
  have f1514 := isI_tr f1459 K1499 (by omega)
  have f1515 := isI_tr f1460 K1499 (by omega)
  have f1516 := isI_tr f1461 K1499 (by omega)
  have f1517 := isZ_tr f1462 K1499 (by omega)
  have f1518 := isI_tr f1463 K1499 (by omega)
  have f1519 := isI_tr f1464 K1499 (by omega)
  have f1520 := isI_tr f1465 K1499 (by omega)
  have f1521 := isI_tr f1466 K1499 (by omega)
  have f1522 := isI_tr f1467 K1499 (by omega)
  have f1523 := isI_tr f1468 K1499 (by omega)
  have f1524 := isI_tr f1469 K1499 (by omega)
  have f1525 := isI_tr f1470 K1499 (by omega)
  have a1526 := (K1499.2.2.1 (b + 1) (by omega)).trans a1471
  have a1527 := (K1499.2.2.1 (b + 2) (by omega)).trans a1472
  have a1528 := (K1499.2.2.1 (b + 3) (by omega)).trans a1473
  have a1529 := (K1499.2.2.1 (b + 4) (by omega)).trans a1474
  have a1530 := (K1499.2.2.1 (b + 5) (by omega)).trans a1475
  have a1531 := (K1499.2.2.1 (b + 6) (by omega)).trans a1476
  have a1532 := (K1499.2.2.1 (b + 7) (by omega)).trans a1477
  have a1533 := (K1499.2.2.1 (b + 8) (by omega)).trans a1478
  have a1534 := (K1499.2.2.1 (b + 9) (by omega)).trans a1479
  have a1535 := (K1499.2.2.1 (b + 10) (by omega)).trans a1480
  have a1536 := (K1499.2.2.1 (b + 11) (by omega)).trans a1481
  have a1537 := (K1499.2.2.1 (b + 12) (by omega)).trans a1482
  have a1538 := (K1499.2.2.1 (b + 13) (by omega)).trans a1483
  have a1539 := (K1499.2.2.1 (b + 14) (by omega)).trans a1484
  have a1540 := (K1499.2.2.1 (b + 15) (by omega)).trans a1485
  have a1541 := (K1499.2.2.1 (b + 16) (by omega)).trans a1486
  have a1542 := (K1499.2.2.1 (b + 17) (by omega)).trans a1487
  have a1543 := (K1499.2.2.1 (b + 18) (by omega)).trans a1488
  have a1544 := (K1499.2.2.1 (b + 19) (by omega)).trans a1489
  have a1545 := (K1499.2.2.1 (b + 20) (by omega)).trans a1490
  have a1546 := (K1499.2.2.1 (b + 21) (by omega)).trans a1491
  have a1547 := (K1499.2.2.1 (b + 22) (by omega)).trans a1492
  have a1548 := (K1499.2.2.1 (b + 23) (by omega)).trans a1493
  have a1549 := (K1499.2.2.1 b (by omega)).trans a1446
  have s1550 := (K1499.2.2.2 b (by omega) (by omega)).trans s1447
  have f1551 := isI_new s1502 K1499 n1500
  have k1552 := keep_tr k1495 K1499 (by omega)
  refine g_putR C1498 hXi (i := b) (ty := (.array .int)) (ty0 := tyX7) (k := 54) (Nc := 56) (Cn := RX7) (T := TX7) (ci := 7) (by omega) a1549 s1550 rfl rfl (fun w hw => List.mem_cons_of_mem _ (inX7 w hw)) tyX7_ok nmX7 (by decide) (List.mem_cons_of_mem _ mF_RX7_80) rfl rfl rfl rfl rfl rfl (by decide : 54 < 56) (rt (fun c => [.int (c.1 0), .ref x2, .int (c.1 2), .ref x23, .ref x48, .ref x77, .int (c.1 6), .int (c.1 7), .int (c.1 8), .ref x110, .int (c.1 10), .ref x147, .int (c.1 12), .ref x188, .ref x233, .ref x282, .int (c.1 16), .int (c.1 17), .int (c.1 18), .ref x335, .int (c.1 20), .int (c.1 21), .int (c.1 22), .ref x392, .ref x453, .ref x518, .int (c.1 26), .int (c.1 27), .int (c.1 28), .int (c.1 29), .int (c.1 30), .int (c.1 31), .int (c.1 32), .ref x587, .ref x660, .ref x737, .ref x818, .int (c.1 37), .ref x903, .int (c.1 39), .ref x992, .int (c.1 41), .ref x1085, .int (c.1 43), .int (c.1 44), .int (c.1 45), .int (c.1 46), .int (c.1 47), .int (c.1 48), .ref x1182, .int (c.1 50), .int (c.1 51), .ref x1283, .ref x1388, .ref x1497, .int (c.1 55)]) 7) rfl dX7_init_195 (fun Y1553 C1554 K1555 n1556 a1557 s1558 => ?_)
  have f1559 := isI_tr f1503 K1555 (by omega)
  have f1560 := isI_tr f1504 K1555 (by omega)
  have f1561 := isI_tr f1505 K1555 (by omega)
  have f1562 := isI_tr f1506 K1555 (by omega)
  have f1563 := isI_tr f1507 K1555 (by omega)
  have f1564 := isI_tr f1508 K1555 (by omega)
  have f1565 := isI_tr f1509 K1555 (by omega)
  have f1566 := isI_tr f1510 K1555 (by omega)
  have f1567 := isI_tr f1511 K1555 (by omega)
  have f1568 := isI_tr f1512 K1555 (by omega)
  have f1569 := isI_tr f1513 K1555 (by omega)
  have f1570 := isI_tr f1514 K1555 (by omega)
  have f1571 := isI_tr f1515 K1555 (by omega)
  have f1572 := isI_tr f1516 K1555 (by omega)
  have f1573 := isZ_tr f1517 K1555 (by omega)
  have f1574 := isI_tr f1518 K1555 (by omega)
  have f1575 := isI_tr f1519 K1555 (by omega)
  have f1576 := isI_tr f1520 K1555 (by omega)
  have f1577 := isI_tr f1521 K1555 (by omega)
  have f1578 := isI_tr f1522 K1555 (by omega)
  have f1579 := isI_tr f1523 K1555 (by omega)
  have f1580 := isI_tr f1524 K1555 (by omega)
  have f1581 := isI_tr f1525 K1555 (by omega)
  have f1582 := isI_tr f1551 K1555 (by omega)
  have a1583 := (K1555.2.2.1 (b + 1) (by omega)).trans a1526
  have a1584 := (K1555.2.2.1 (b + 2) (by omega)).trans a1527
  have a1585 := (K1555.2.2.1 (b + 3) (by omega)).trans a1528
  have a1586 := (K1555.2.2.1 (b + 4) (by omega)).trans a1529
  have a1587 := (K1555.2.2.1 (b + 5) (by omega)).trans a1530
  have a1588 := (K1555.2.2.1 (b + 6) (by omega)).trans a1531
  have a1589 := (K1555.2.2.1 (b + 7) (by omega)).trans a1532
  have a1590 := (K1555.2.2.1 (b + 8) (by omega)).trans a1533
  have a1591 := (K1555.2.2.1 (b + 9) (by omega)).trans a1534
  have a1592 := (K1555.2.2.1 (b + 10) (by omega)).trans a1535
  have a1593 := (K1555.2.2.1 (b + 11) (by omega)).trans a1536
  have a1594 := (K1555.2.2.1 (b + 12) (by omega)).trans a1537
  have a1595 := (K1555.2.2.1 (b + 13) (by omega)).trans a1538
  have a1596 := (K1555.2.2.1 (b + 14) (by omega)).trans a1539
  have a1597 := (K1555.2.2.1 (b + 15) (by omega)).trans a1540
  have a1598 := (K1555.2.2.1 (b + 16) (by omega)).trans a1541
  have a1599 := (K1555.2.2.1 (b + 17) (by omega)).trans a1542
  have a1600 := (K1555.2.2.1 (b + 18) (by omega)).trans a1543
  have a1601 := (K1555.2.2.1 (b + 19) (by omega)).trans a1544
  have a1602 := (K1555.2.2.1 (b + 20) (by omega)).trans a1545
  have a1603 := (K1555.2.2.1 (b + 21) (by omega)).trans a1546
  have a1604 := (K1555.2.2.1 (b + 22) (by omega)).trans a1547
  have a1605 := (K1555.2.2.1 (b + 23) (by omega)).trans a1548
  have a1606 := (K1555.2.2.1 (b + 24) (by omega)).trans a1501
  have a1607 := (K1555.2.2.1 b (by omega)).trans a1549
  have k1608 := keep_tr k1552 K1555 (by omega)
  have n1556 : Y1553.N = b + 25 := by omega
  have f1609 : isX7 Y1553 b := ⟨by omega, by rw [s1558]; unfold sX7; rw [a1583, a1584, a1585, a1586, a1587, a1588, a1589, a1590, a1591, a1592, a1593, a1594, a1595, a1596, a1597, a1598, a1599, a1600, a1601, a1602, a1603, a1604, a1605, a1606], f1559, f1560, f1561, f1562, f1563, f1564, f1565, f1566, f1567, f1568, f1569, f1570, f1571, f1572, f1573, f1574, f1575, f1576, f1577, f1578, f1579, f1580, f1581, f1582⟩
  rw [← a1557]
  exact sf_X7_init C1554 (fun pc lv μ' hd q => hr pc lv Y1553 μ' hd C1554 k1608 ⟨n1556, f1609, q⟩) (cx_YI C1554) f1609 h
