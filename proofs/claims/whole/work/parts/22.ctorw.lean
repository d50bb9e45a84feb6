theorem gw_cons {a cd : Cond} (h : cd ∈ GW) : GoodIn (a :: GW) (cd :: GW) := gw_good (fun w hw => (List.mem_cons.mp hw).elim (fun e => e ▸ h) id)
theorem nb_ {b i j : Nat} (h : i ≠ j) : b + i ≠ b + j := by omega
theorem nb_l {b j : Nat} (h : 0 < j) : b ≠ b + j := by omega
theorem nb_r {b j : Nat} (h : 0 < j) : b + j ≠ b := by omega
theorem lt_N {n b i k : Nat} (hN : n = b + k) (h : i < k) : b + i < n := by omega
theorem lt_N0 {n b k : Nat} (hN : n = b + k) (h : 0 < k) : b < n := by omega
theorem ge_N {n b j : Nat} (hN : n = b + 1) (h : 1 ≤ j) : n ≤ b + j := by omega
theorem dj_l {b j : Nat} (h : 0 < j) : b < b + j := by omega
theorem dj_r {b i s j : Nat} (h : i + s ≤ j) : b + i + s ≤ b + j := by omega
theorem dj_m {b i j : Nat} (h : j < i) : b + j < b + i := by omega
theorem isI_tr {Y Y' : YT} {j a n : Nat} (h : isI Y a n) (K : Keep Y Y' j) (ne : a ≠ j) : isI Y' a n := by
  refine ⟨Nat.lt_of_lt_of_le h.1 K.2.1, ?_⟩
  rw [K.2.2.2 a h.1 ne, h.2]
  show sI Y.2.1.1 n = sI Y'.2.1.1 n
  rw [K.1.2.1]
theorem isI_new {Y Y' : YT} {j a n : Nat} (h : Y'.sh a = sI Y.cI n) (K : Keep Y Y' j) (hN : Y'.N = a + 1) : isI Y' a n := by
  refine ⟨by omega, ?_⟩
  rw [h]
  show sI Y.2.1.1 n = sI Y'.2.1.1 n
  rw [K.1.2.1]
theorem isB_tr {Y Y' : YT} {j a n : Nat} (h : isB Y a n) (K : Keep Y Y' j) (ne : a ≠ j) : isB Y' a n := by
  refine ⟨Nat.lt_of_lt_of_le h.1 K.2.1, ?_⟩
  rw [K.2.2.2 a h.1 ne, h.2]
  show sI Y.2.1.2.1 n = sI Y'.2.1.2.1 n
  rw [K.1.2.1]
theorem isB_new {Y Y' : YT} {j a n : Nat} (h : Y'.sh a = sI Y.cB n) (K : Keep Y Y' j) (hN : Y'.N = a + 1) : isB Y' a n := by
  refine ⟨by omega, ?_⟩
  rw [h]
  show sI Y.2.1.2.1 n = sI Y'.2.1.2.1 n
  rw [K.1.2.1]
theorem isZ_tr {Y Y' : YT} {j a n : Nat} (h : isZ Y a n) (K : Keep Y Y' j) (ne : a ≠ j) : isZ Y' a n := by
  refine ⟨Nat.lt_of_lt_of_le h.1 K.2.1, ?_⟩
  rw [K.2.2.2 a h.1 ne, h.2]
  show sI Y.2.1.2.2.1 n = sI Y'.2.1.2.2.1 n
  rw [K.1.2.1]
theorem isZ_new {Y Y' : YT} {j a n : Nat} (h : Y'.sh a = sI Y.cZ n) (K : Keep Y Y' j) (hN : Y'.N = a + 1) : isZ Y' a n := by
  refine ⟨by omega, ?_⟩
  rw [h]
  show sI Y.2.1.2.2.1 n = sI Y'.2.1.2.2.1 n
  rw [K.1.2.1]
theorem isX0_tr {Y Y' : YT} {j b : Nat} (h : isX0 Y b) (K : Keep Y Y' j) (ne : j < b ∨ b + 4 ≤ j) : isX0 Y' b :=
  ⟨Nat.lt_of_lt_of_le (isX0_lt h) K.2.1, by rw [K.2.2.2 b (isX0_lt h) (by omega), isX0_sh h]; unfold sX0; rw [K.2.2.1 (b + 1) (isX0_units h).1, K.2.2.1 (b + 2) (isX0_eatenLast h).1, K.2.2.1 (b + 3) (isX0_taken h).1], isI_tr (isX0_units h) K (by omega), isI_tr (isX0_eatenLast h) K (by omega), isI_tr (isX0_taken h) K (by omega)⟩
theorem isX2_tr {Y Y' : YT} {j b : Nat} (h : isX2 Y b) (K : Keep Y Y' j) (ne : j < b ∨ b + 12 ≤ j) : isX2 Y' b :=
  ⟨Nat.lt_of_lt_of_le (isX2_lt h) K.2.1, by rw [K.2.2.2 b (isX2_lt h) (by omega), isX2_sh h]; unfold sX2; rw [K.2.2.1 (b + 1) (isX2_keeps h).1, K.2.2.1 (b + 2) (isX2_pack h).1, K.2.2.1 (b + 3) (isX2_price h).1, K.2.2.1 (b + 4) (isX2_kind h).1, K.2.2.1 (b + 5) (isX2_likes h).1, K.2.2.1 (b + 6) (isX2_wont h).1, K.2.2.1 (b + 7) (isX2_soupUnits h).1, K.2.2.1 (b + 8) (isX2_soupThings h).1, K.2.2.1 (b + 9) (isX2_wants h).1, K.2.2.1 (b + 10) (isX2_leaves h).1, K.2.2.1 (b + 11) (isX2_chances h).1], isI_tr (isX2_keeps h) K (by omega), isI_tr (isX2_pack h) K (by omega), isI_tr (isX2_price h) K (by omega), isI_tr (isX2_kind h) K (by omega), isI_tr (isX2_likes h) K (by omega), isI_tr (isX2_wont h) K (by omega), isI_tr (isX2_soupUnits h) K (by omega), isI_tr (isX2_soupThings h) K (by omega), isI_tr (isX2_wants h) K (by omega), isI_tr (isX2_leaves h) K (by omega), isI_tr (isX2_chances h) K (by omega)⟩
theorem isX1_tr {Y Y' : YT} {j b : Nat} (h : isX1 Y b) (K : Keep Y Y' j) (ne : j < b ∨ b + 15 ≤ j) : isX1 Y' b :=
  ⟨Nat.lt_of_lt_of_le (isX1_lt h) K.2.1, by rw [K.2.2.2 b (isX1_lt h) (by omega), isX1_sh h]; unfold sX1; rw [K.2.2.1 (b + 1) (isX1_tape h).1, K.2.2.1 (b + 2) (isX2_lt (isX1_told h)), K.2.2.1 (b + 14) (isX1_firstUse h).1], isB_tr (isX1_tape h) K (by omega), isX2_tr (isX1_told h) K (by omega), isI_tr (isX1_firstUse h) K (by omega)⟩
theorem isX5_tr {Y Y' : YT} {j b : Nat} (h : isX5 Y b) (K : Keep Y Y' j) (ne : j < b ∨ b + 5 ≤ j) : isX5 Y' b :=
  ⟨Nat.lt_of_lt_of_le (isX5_lt h) K.2.1, by rw [K.2.2.2 b (isX5_lt h) (by omega), isX5_sh h]; unfold sX5; rw [K.2.2.1 (b + 1) (isX0_lt (isX5_behind h))], isX0_tr (isX5_behind h) K (by omega)⟩
theorem isX3_tr {Y Y' : YT} {j b : Nat} (h : isX3 Y b) (K : Keep Y Y' j) (ne : j < b ∨ b + 36 ≤ j) : isX3 Y' b :=
  ⟨Nat.lt_of_lt_of_le (isX3_lt h) K.2.1, by rw [K.2.2.2 b (isX3_lt h) (by omega), isX3_sh h]; unfold sX3; rw [K.2.2.1 (b + 1) (isX3_steps h).1, K.2.2.1 (b + 26) (isX3_places h).1, K.2.2.1 (b + 27) (isX5_lt (isX3_walk h)), K.2.2.1 (b + 32) (isX3_bestRow h).1, K.2.2.1 (b + 33) (isX3_fairestRow h).1, K.2.2.1 (b + 34) (isX3_surestRow h).1, K.2.2.1 (b + 35) (isX3_closingRow h).1], ⟨Nat.lt_of_lt_of_le (isX3_steps h).1 K.2.1, by
    obtain ⟨f, h1, h2⟩ := (isX3_steps h).2.1
    refine ⟨f, ?_, fun i hi => ?_⟩
    · rw [K.2.2.2 _ (isX3_steps h).1 (by omega), h1]
      show sO Y.2.1.2.2.2 _ f = sO Y'.2.1.2.2.2 _ f
      rw [K.1.2.1]
    · rw [h2 i hi, K.2.2.1 _ (isX0_lt ((isX3_steps h).2.2 i hi))], fun i hi => isX0_tr ((isX3_steps h).2.2 i hi) K (by omega)⟩, isI_tr (isX3_places h) K (by omega), isX5_tr (isX3_walk h) K (by omega), isI_tr (isX3_bestRow h) K (by omega), isI_tr (isX3_fairestRow h) K (by omega), isI_tr (isX3_surestRow h) K (by omega), isI_tr (isX3_closingRow h) K (by omega)⟩
theorem isX4_tr {Y Y' : YT} {j b : Nat} (h : isX4 Y b) (K : Keep Y Y' j) (ne : j < b ∨ b + 4 ≤ j) : isX4 Y' b :=
  ⟨Nat.lt_of_lt_of_le (isX4_lt h) K.2.1, by rw [K.2.2.2 b (isX4_lt h) (by omega), isX4_sh h]; unfold sX4; rw [K.2.2.1 (b + 1) (isX4_laneOf h).1, K.2.2.1 (b + 2) (isX4_cellCount h).1, K.2.2.1 (b + 3) (isX4_cells h).1], isI_tr (isX4_laneOf h) K (by omega), isI_tr (isX4_cellCount h) K (by omega), isI_tr (isX4_cells h) K (by omega)⟩
theorem isX6_tr {Y Y' : YT} {j b : Nat} (h : isX6 Y b) (K : Keep Y Y' j) (ne : j < b ∨ b + 100 ≤ j) : isX6 Y' b :=
  ⟨Nat.lt_of_lt_of_le (isX6_lt h) K.2.1, by rw [K.2.2.2 b (isX6_lt h) (by omega), isX6_sh h]; unfold sX6; rw [K.2.2.1 (b + 1) (isX2_lt (isX6_rules h)), K.2.2.1 (b + 13) (isX2_lt (isX6_otherRules h)), K.2.2.1 (b + 25) (isX1_lt (isX6_reader h)), K.2.2.1 (b + 40) (isX0_lt (isX6_kitchen h)), K.2.2.1 (b + 44) (isX6_images h).1, K.2.2.1 (b + 53) (isX6_imageKept h).1, K.2.2.1 (b + 54) (isX6_rowByHand h).1, K.2.2.1 (b + 55) (isX5_lt (isX6_walk h)), K.2.2.1 (b + 60) (isX3_lt (isX6_search h)), K.2.2.1 (b + 96) (isX4_lt (isX6_sheets h))], isX2_tr (isX6_rules h) K (by omega), isX2_tr (isX6_otherRules h) K (by omega), isX1_tr (isX6_reader h) K (by omega), isX0_tr (isX6_kitchen h) K (by omega), ⟨Nat.lt_of_lt_of_le (isX6_images h).1 K.2.1, by
    obtain ⟨f, h1, h2⟩ := (isX6_images h).2.1
    refine ⟨f, ?_, fun i hi => ?_⟩
    · rw [K.2.2.2 _ (isX6_images h).1 (by omega), h1]
      show sO Y.2.1.2.2.2 _ f = sO Y'.2.1.2.2.2 _ f
      rw [K.1.2.1]
    · rw [h2 i hi, K.2.2.1 _ (isX0_lt ((isX6_images h).2.2 i hi))], fun i hi => isX0_tr ((isX6_images h).2.2 i hi) K (by omega)⟩, isZ_tr (isX6_imageKept h) K (by omega), isI_tr (isX6_rowByHand h) K (by omega), isX5_tr (isX6_walk h) K (by omega), isX3_tr (isX6_search h) K (by omega), isX4_tr (isX6_sheets h) K (by omega)⟩
theorem isX7_tr {Y Y' : YT} {j b : Nat} (h : isX7 Y b) (K : Keep Y Y' j) (ne : j < b ∨ b + 25 ≤ j) : isX7 Y' b :=
  ⟨Nat.lt_of_lt_of_le (isX7_lt h) K.2.1, by rw [K.2.2.2 b (isX7_lt h) (by omega), isX7_sh h]; unfold sX7; rw [K.2.2.1 (b + 1) (isX7_thing h).1, K.2.2.1 (b + 2) (isX7_supper h).1, K.2.2.1 (b + 3) (isX7_wants h).1, K.2.2.1 (b + 4) (isX7_leaves h).1, K.2.2.1 (b + 5) (isX7_chance h).1, K.2.2.1 (b + 6) (isX7_dThing h).1, K.2.2.1 (b + 7) (isX7_dSupper h).1, K.2.2.1 (b + 8) (isX7_dWants h).1, K.2.2.1 (b + 9) (isX7_dLeaves h).1, K.2.2.1 (b + 10) (isX7_dChance h).1, K.2.2.1 (b + 11) (isX7_usedThing h).1, K.2.2.1 (b + 12) (isX7_usedAt h).1, K.2.2.1 (b + 13) (isX7_tape h).1, K.2.2.1 (b + 14) (isX7_st h).1, K.2.2.1 (b + 15) (isX7_isKept h).1, K.2.2.1 (b + 16) (isX7_taken h).1, K.2.2.1 (b + 17) (isX7_bought h).1, K.2.2.1 (b + 18) (isX7_row h).1, K.2.2.1 (b + 19) (isX7_pick h).1, K.2.2.1 (b + 20) (isX7_bestPick h).1, K.2.2.1 (b + 21) (isX7_keptRow h).1, K.2.2.1 (b + 22) (isX7_lanes h).1, K.2.2.1 (b + 23) (isX7_sizes h).1, K.2.2.1 (b + 24) (isX7_cells h).1], isI_tr (isX7_thing h) K (by omega), isI_tr (isX7_supper h) K (by omega), isI_tr (isX7_wants h) K (by omega), isI_tr (isX7_leaves h) K (by omega), isI_tr (isX7_chance h) K (by omega), isI_tr (isX7_dThing h) K (by omega), isI_tr (isX7_dSupper h) K (by omega), isI_tr (isX7_dWants h) K (by omega), isI_tr (isX7_dLeaves h) K (by omega), isI_tr (isX7_dChance h) K (by omega), isI_tr (isX7_usedThing h) K (by omega), isI_tr (isX7_usedAt h) K (by omega), isI_tr (isX7_tape h) K (by omega), isI_tr (isX7_st h) K (by omega), isZ_tr (isX7_isKept h) K (by omega), isI_tr (isX7_taken h) K (by omega), isI_tr (isX7_bought h) K (by omega), isI_tr (isX7_row h) K (by omega), isI_tr (isX7_pick h) K (by omega), isI_tr (isX7_bestPick h) K (by omega), isI_tr (isX7_keptRow h) K (by omega), isI_tr (isX7_lanes h) K (by omega), isI_tr (isX7_sizes h) K (by omega), isI_tr (isX7_cells h) K (by omega)⟩
theorem keep_rf {Y : YT} {b : Nat} : Keep Y Y b := ⟨⟨rfl, rfl, rfl, rfl⟩, Nat.le_refl _, fun _ _ => rfl, fun _ _ _ => rfl⟩
theorem keep_tr {Y Y1 Y2 : YT} {b j : Nat} (K1 : Keep Y Y1 b) (K2 : Keep Y1 Y2 j) (hj : j = b ∨ Y.N ≤ j) : Keep Y Y2 b := by
  obtain ⟨⟨a1, a2, a3, a4⟩, a5, a6, a7⟩ := K1
  obtain ⟨⟨b1, b2, b3, b4⟩, b5, b6, b7⟩ := K2
  refine ⟨⟨b1.trans a1, b2.trans a2, b3.trans a3, b4.trans a4⟩, Nat.le_trans a5 b5, fun i hi => (b6 i (by omega)).trans (a6 i hi), fun i hi h => (b7 i (by omega) (by omega)).trans (a7 i hi h)⟩
def fX0 : Row → va_E := rt (fun c => [.null, .null, .int (c.1 2), .int (c.1 3), .int (c.1 4), .int (c.1 5), .int (c.1 6), .null]) 0
def fX2 : Row → va_E := rt (fun c => [.int (c.1 0), .null, .null, .null, .int (c.1 4), .null, .null, .null, .null, .null, .null, .null, .int (c.1 12), .int (c.1 13), .int (c.1 14), .null]) 2
def fX1 : Row → va_E := rt (fun c => [.null, .int (c.1 1), .null, .int (c.1 3), .int (c.1 4), .int (c.1 5), .int (c.1 6), .int (c.1 7), .int (c.1 8), .int (c.1 9), .int (c.1 10), .null]) 1
def fX5 : Row → va_E := rt (fun c => [.null, .int (c.1 1)]) 5
def fX3 : Row → va_E := rt (fun c => [.null, .null, .null, .int (c.1 3), .long (c.2 4), .int (c.1 5), .int (c.1 6), .int (c.1 7), .int (c.1 8), .null, .long (c.2 10), .int (c.1 11), .null, .int (c.1 13), .null, .int (c.1 15), .int (c.1 16), .null]) 3
def fX4 : Row → va_E := rt (fun c => [.null, .null, .null]) 4
def fX6 : Row → va_E := rt (fun c => [.null, .null, .null, .int (c.1 3), .null, .null, .null, .null, .int (c.1 8), .null, .null, .null, .int (c.1 12)]) 6
def fX7 : Row → va_E := rt (fun c => [.int (c.1 0), .null, .int (c.1 2), .null, .null, .null, .int (c.1 6), .int (c.1 7), .int (c.1 8), .null, .int (c.1 10), .null, .int (c.1 12), .null, .null, .null, .int (c.1 16), .int (c.1 17), .int (c.1 18), .null, .int (c.1 20), .int (c.1 21), .int (c.1 22), .null, .null, .null, .int (c.1 26), .int (c.1 27), .int (c.1 28), .int (c.1 29), .int (c.1 30), .int (c.1 31), .int (c.1 32), .null, .null, .null, .null, .int (c.1 37), .null, .int (c.1 39), .null, .int (c.1 41), .null, .int (c.1 43), .int (c.1 44), .int (c.1 45), .int (c.1 46), .int (c.1 47), .int (c.1 48), .null, .int (c.1 50), .int (c.1 51), .null, .null, .null, .int (c.1 55)]) 7
def PSX0_init (b : Nat) (μ : Mem) (Q : Mem → Prop) : Prop := (PX0_reset b μ (fun (m1 : Mem) => Q m1))
def PX0_init (b : Nat) (μ : Mem) (Q : Mem → Prop) : Prop := PSX0_init b (mz (mz (mz μ (b + 1)) (b + 2)) (b + 3)) Q
def PSX2_init (b : Nat) (μ : Mem) (Q : Mem → Prop) : Prop := (PX2_reset b μ (fun (m1 : Mem) => Q m1))
def PX2_init (b : Nat) (μ : Mem) (Q : Mem → Prop) : Prop := PSX2_init b (mz (mz (mz (mz (mz (mz (mz (mz (mz (mz (mz μ (b + 1)) (b + 2)) (b + 3)) (b + 4)) (b + 5)) (b + 6)) (b + 7)) (b + 8)) (b + 9)) (b + 10)) (b + 11)) Q
def nX4_init_29 (b : Nat) (Q : Mem → Prop) (S29 : Int32 → Mem → Prop) (v1 : Int32) (μ : Mem) : Prop := (((4 : Int32)) ≤ v1 → Q μ) ∧ (¬ ((4 : Int32)) ≤ v1 → vp_in v1 4 ∧ (S29 (v1 + 1) (ms μ (b + 1) v1.toNatClampNeg ((-4 : Int32)))))
def PSX4_init (b : Nat) (μ : Mem) (Q : Mem → Prop) : Prop := ∀ (S29 : Int32 → Mem → Prop), (∀ (v1 : Int32) (μ : Mem), nX4_init_29 b Q S29 v1 μ → S29 v1 μ) → (S29 ((0 : Int32)) μ)
def PX4_init (b : Nat) (μ : Mem) (Q : Mem → Prop) : Prop := PSX4_init b (mz (mz (mz μ (b + 1)) (b + 2)) (b + 3)) Q
def PSX1_init (b : Nat) (μ : Mem) (Q : Mem → Prop) : Prop := (Q μ)
def PX1_init (b : Nat) (μ : Mem) (Q : Mem → Prop) : Prop := PX2_init (b + 2) (mz (mz μ (b + 1)) (b + 2)) (fun (m38 : Mem) => PSX1_init b (mz (m38) (b + 14)) Q)
def PSX5_init (b : Nat) (μ : Mem) (Q : Mem → Prop) : Prop := (Q μ)
def PX5_init (b : Nat) (μ : Mem) (Q : Mem → Prop) : Prop := PX0_init (b + 1) (mz μ (b + 1)) (fun (m13 : Mem) => PSX5_init b m13 Q)
def PSX3_init (b : Nat) (μ : Mem) (Q : Mem → Prop) : Prop := (Q μ)
def PX3_init (b : Nat) (μ : Mem) (Q : Mem → Prop) : Prop := PX0_init (b + 2) (mz (mz μ (b + 1)) (b + 2)) (fun (m27 : Mem) => PX0_init (b + 6) (mz (m27) (b + 6)) (fun (m69 : Mem) => PX0_init (b + 10) (mz (m69) (b + 10)) (fun (m117 : Mem) => PX0_init (b + 14) (mz (m117) (b + 14)) (fun (m171 : Mem) => PX0_init (b + 18) (mz (m171) (b + 18)) (fun (m231 : Mem) => PX0_init (b + 22) (mz (m231) (b + 22)) (fun (m297 : Mem) => PX5_init (b + 27) (mz (mz (m297) (b + 26)) (b + 27)) (fun (m445 : Mem) => PSX3_init b (mz (mz (mz (mz (m445) (b + 32)) (b + 33)) (b + 34)) (b + 35)) Q)))))))
def PSX6_init (b : Nat) (μ : Mem) (Q : Mem → Prop) : Prop := (Q (ms μ b 12 ((0 : Int32))))
def PX6_init (b : Nat) (μ : Mem) (Q : Mem → Prop) : Prop := PX2_init (b + 1) (mz μ (b + 1)) (fun (m13 : Mem) => PX2_init (b + 13) (mz (m13) (b + 13)) (fun (m49 : Mem) => PX1_init (b + 25) (mz (m49) (b + 25)) (fun (m91 : Mem) => PX0_init (b + 40) (mz (ms m91 b 3 (0 : Int32)) (b + 40)) (fun (m139 : Mem) => PX0_init (b + 45) (mz (mz (m139) (b + 44)) (b + 45)) (fun (m215 : Mem) => PX0_init (b + 49) (mz (m215) (b + 49)) (fun (m281 : Mem) => PX5_init (b + 55) (mz (ms (mz (mz (m281) (b + 53)) (b + 54)) b 8 (0 : Int32)) (b + 55)) (fun (m486 : Mem) => PX3_init (b + 60) (mz (m486) (b + 60)) (fun (m576 : Mem) => PX4_init (b + 96) (mz (m576) (b + 96)) (fun (m672 : Mem) => PSX6_init b m672 Q)))))))))
def nX7_init_200 (b : Nat) (Q : Mem → Prop) (S200 : Int32 → Mem → Prop) (v1 : Int32) (μ : Mem) : Prop := (((4 : Int32)) ≤ v1 → PX7_firstDraft b μ (fun (m2 : Mem) => PX7_keepDraft b m2 (fun (m4 : Mem) => Q m4))) ∧ (¬ ((4 : Int32)) ≤ v1 → vp_in v1 4 ∧ (S200 (v1 + 1) (ms μ (b + 22) v1.toNatClampNeg ((-4 : Int32)))))
def PSX7_init (b : Nat) (μ : Mem) (Q : Mem → Prop) : Prop := ∀ (S200 : Int32 → Mem → Prop), (∀ (v1 : Int32) (μ : Mem), nX7_init_200 b Q S200 v1 μ → S200 v1 μ) → (S200 ((0 : Int32)) μ)
def PX7_init (b : Nat) (μ : Mem) (Q : Mem → Prop) : Prop := PSX7_init b (mz (mz (mz (mz (mz (mz (mz (mz (mz (mz (mz (mz (mz (mz (mz (mz (mz (mz (mz (mz (mz (mz (mz (mz μ (b + 1)) (b + 2)) (b + 3)) (b + 4)) (b + 5)) (b + 6)) (b + 7)) (b + 8)) (b + 9)) (b + 10)) (b + 11)) (b + 12)) (b + 13)) (b + 14)) (b + 15)) (b + 16)) (b + 17)) (b + 18)) (b + 19)) (b + 20)) (b + 21)) (b + 22)) (b + 23)) (b + 24)) Q
set_option maxRecDepth 20000 in
set_option maxHeartbeats 4000000 in
theorem sf_X0_init {X : XT} {Y : YT} {l0 : Launch} {b : Nat} {Q : Mem → Prop} {μ : Mem} (C : Cx X Y 1 cX0_init RX0 WX0_init (rmC 2 41 3 39) l0) (hr : RVn X Y 1 cX0_init Q) (hI : YI Y) (h0 : isX0 Y b) (h : PSX0_init b μ Q) : G X Y 1 28 [(0, .ref (Y.ad b))] [] μ := by
  unfold PSX0_init at h
  refine g_aload_n C 0 dX0_init_28 rfl ?_
  refine g_callVV C [] [] (ok_X0_reset hI h0 h) (cw_RX0_21 _) rfl dc_X0_reset ⟨Nat.le_of_ble_eq_true rfl, Nat.le_of_ble_eq_true rfl⟩ (isX0_lt h0) (isX0_sh h0) rfl rfl rfl rfl (Nat.le_of_ble_eq_true rfl) dX0_init_29 (fun m1 h => ?_)
  exact hr _ _ _ dX0_init_32 h
set_option maxRecDepth 20000 in
set_option maxHeartbeats 8000000 in
theorem ok_X0_init {Y : YT} {l0 : Launch} {b : Nat} {μ : Mem} {Q : Mem → Prop} (hI : YI Y) (hN : Y.N = b + 1) (hS : Y.sh b = fX0) (h : PX0_init b μ Q) : MC l0 yX0_init WX0_init 2 41 3 39 Y b μ (fun Y' μ' => Y'.N = b + 4 ∧ isX0 Y' b ∧ Q μ') := by
  refine mC_of (cc := cX0_init) (maxL := 1) (by decide +kernel) rfl rfl hI (by decide) (fun X C hXa hXi hr => ?_)
  replace C : Cx (xset X 0 0) Y 1 cX0_init RX0 WX0_init (rmC 2 41 3 39) l0 := C
  obtain ⟨x0, hx0⟩ : ∃ x0, Y.ad b = x0 := ⟨_, rfl⟩
  rw [hx0]
  unfold PX0_init at h
  refine g_aload_n C 0 dX0_init_0 rfl ?_
  refine g_obj C (List.mem_cons_of_mem _ mM_RX0_3) (List.mem_cons_of_mem _ mObj_i) (List.mem_cons_of_mem _ mObj_c) (by decide) (by decide) dX0_init_1 ?_
  refine g_aload_n C 0 dX0_init_4 rfl ?_
  refine g_bipush C (v := (24 : Int32)) dX0_init_5 (by decide) ?_
  refine g_newA C hXa (id := b + 1) hN .int .int rfl (List.mem_cons_of_mem _ mArr_I) Y.cI 0 rfl (fun _ _ z => z) rfl (k := 24) (by decide) (by decide) (by decide) (by decide) (by decide) dX0_init_7 (fun Y1 x2 C3 K4 n5 a6 s7 => ?_)
  have a8 := (K4.2.2.1 b (lt_N0 hN (by decide))).trans hx0
  have s9 := (K4.2.2.2 b (lt_N0 hN (by decide)) (nb_l (by decide))).trans hS
  have f10 := isI_new s7 K4 n5
  have k11 := keep_tr (b := b) (keep_rf) K4 (Or.inr (ge_N hN (by decide)))
  have n12 : Y1.N = b + 2 := n5
  refine g_putR C3 hXi (i := b) (ty := (.array .int)) (ty0 := tyX0) (k := 0) (Nc := 8) (Cn := RX0) (T := TX0) (ci := 0) (lt_N0 n12 (by decide)) a8 s9 rfl rfl (fun w hw => List.mem_cons_of_mem _ (inX0 w hw)) tyX0_ok nmX0 (by decide) (List.mem_cons_of_mem _ mF_RX0_9) rfl rfl rfl rfl rfl rfl (by decide : 0 < 8) (rt (fun c => [.ref x2, .null, .int (c.1 2), .int (c.1 3), .int (c.1 4), .int (c.1 5), .int (c.1 6), .null]) 0) rfl dX0_init_9 (fun Y13 C14 K15 n16 a17 s18 => ?_)
  have f19 := isI_tr f10 K15 (nb_r (by decide))
  have a20 := (K15.2.2.1 (b + 1) (lt_N n12 (by decide))).trans a6
  have a21 := (K15.2.2.1 b (lt_N0 n12 (by decide))).trans a8
  have k22 := keep_tr (b := b) k11 K15 (Or.inl rfl)
  have n23 : Y13.N = b + 2 := n16.trans n12
  refine g_aload_n C14 0 dX0_init_12 rfl ?_
  refine g_bipush C14 (v := (9 : Int32)) dX0_init_13 (by decide) ?_
  refine g_newA C14 hXa (id := b + 2) n23 .int .int rfl (List.mem_cons_of_mem _ mArr_I) Y13.cI 0 rfl (fun _ _ z => z) rfl (k := 9) (by decide) (by decide) (by decide) (by decide) (by decide) dX0_init_15 (fun Y24 x25 C26 K27 n28 a29 s30 => ?_)
  have f31 := isI_tr f19 K27 (nb_ (by decide))
  have a32 := (K27.2.2.1 (b + 1) (lt_N n23 (by decide))).trans a20
  have a33 := (K27.2.2.1 b (lt_N0 n23 (by decide))).trans a17
  have s34 := (K27.2.2.2 b (lt_N0 n23 (by decide)) (nb_l (by decide))).trans s18
  have f35 := isI_new s30 K27 n28
  have k36 := keep_tr (b := b) k22 K27 (Or.inr (ge_N hN (by decide)))
  have n37 : Y24.N = b + 3 := n28
  refine g_putR C26 hXi (i := b) (ty := (.array .int)) (ty0 := tyX0) (k := 1) (Nc := 8) (Cn := RX0) (T := TX0) (ci := 0) (lt_N0 n37 (by decide)) a33 s34 rfl rfl (fun w hw => List.mem_cons_of_mem _ (inX0 w hw)) tyX0_ok nmX0 (by decide) (List.mem_cons_of_mem _ mF_RX0_15) rfl rfl rfl rfl rfl rfl (by decide : 1 < 8) (rt (fun c => [.ref x2, .ref x25, .int (c.1 2), .int (c.1 3), .int (c.1 4), .int (c.1 5), .int (c.1 6), .null]) 0) rfl dX0_init_17 (fun Y38 C39 K40 n41 a42 s43 => ?_)
  have f44 := isI_tr f31 K40 (nb_r (by decide))
  have f45 := isI_tr f35 K40 (nb_r (by decide))
  have a46 := (K40.2.2.1 (b + 1) (lt_N n37 (by decide))).trans a32
  have a47 := (K40.2.2.1 (b + 2) (lt_N n37 (by decide))).trans a29
  have a48 := (K40.2.2.1 b (lt_N0 n37 (by decide))).trans a33
  have k49 := keep_tr (b := b) k36 K40 (Or.inl rfl)
  have n50 : Y38.N = b + 3 := n41.trans n37
  refine g_aload_n C39 0 dX0_init_20 rfl ?_
  refine g_bipush C39 (v := (6 : Int32)) dX0_init_21 (by decide) ?_
  refine g_newA C39 hXa (id := b + 3) n50 .int .int rfl (List.mem_cons_of_mem _ mArr_I) Y38.cI 0 rfl (fun _ _ z => z) rfl (k := 6) (by decide) (by decide) (by decide) (by decide) (by decide) dX0_init_23 (fun Y51 x52 C53 K54 n55 a56 s57 => ?_)
  have f58 := isI_tr f44 K54 (nb_ (by decide))
  have f59 := isI_tr f45 K54 (nb_ (by decide))
  have a60 := (K54.2.2.1 (b + 1) (lt_N n50 (by decide))).trans a46
  have a61 := (K54.2.2.1 (b + 2) (lt_N n50 (by decide))).trans a47
  have a62 := (K54.2.2.1 b (lt_N0 n50 (by decide))).trans a42
  have s63 := (K54.2.2.2 b (lt_N0 n50 (by decide)) (nb_l (by decide))).trans s43
  have f64 := isI_new s57 K54 n55
  have k65 := keep_tr (b := b) k49 K54 (Or.inr (ge_N hN (by decide)))
  have n66 : Y51.N = b + 4 := n55
  refine g_putR C53 hXi (i := b) (ty := (.array .int)) (ty0 := tyX0) (k := 7) (Nc := 8) (Cn := RX0) (T := TX0) (ci := 0) (lt_N0 n66 (by decide)) a62 s63 rfl rfl (fun w hw => List.mem_cons_of_mem _ (inX0 w hw)) tyX0_ok nmX0 (by decide) (List.mem_cons_of_mem _ mF_RX0_18) rfl rfl rfl rfl rfl rfl (by decide : 7 < 8) (rt (fun c => [.ref x2, .ref x25, .int (c.1 2), .int (c.1 3), .int (c.1 4), .int (c.1 5), .int (c.1 6), .ref x52]) 0) rfl dX0_init_25 (fun Y67 C68 K69 n70 a71 s72 => ?_)
  have f73 := isI_tr f58 K69 (nb_r (by decide))
  have f74 := isI_tr f59 K69 (nb_r (by decide))
  have f75 := isI_tr f64 K69 (nb_r (by decide))
  have a76 := (K69.2.2.1 (b + 1) (lt_N n66 (by decide))).trans a60
  have a77 := (K69.2.2.1 (b + 2) (lt_N n66 (by decide))).trans a61
  have a78 := (K69.2.2.1 (b + 3) (lt_N n66 (by decide))).trans a56
  have a79 := (K69.2.2.1 b (lt_N0 n66 (by decide))).trans a62
  have k80 := keep_tr (b := b) k65 K69 (Or.inl rfl)
  have n81 : Y67.N = b + 4 := n70.trans n66
  have f82 : isX0 Y67 b := ⟨(lt_N0 n81 (by decide)), by rw [s72]; unfold sX0; rw [a76, a77, a78], f73, f74, f75⟩
  rw [← a71]
  exact sf_X0_init C68 (fun pc lv μ' hd q => hr pc lv Y67 μ' hd C68 k80 ⟨n81, f82, q⟩) (cx_YI C68) f82 h
set_option maxRecDepth 20000 in
set_option maxHeartbeats 4000000 in
theorem sf_X2_init {X : XT} {Y : YT} {l0 : Launch} {b : Nat} {Q : Mem → Prop} {μ : Mem} (C : Cx X Y 1 cX2_init RX2 WX2_init (rmC 2 43 11 178) l0) (hr : RVn X Y 1 cX2_init Q) (hI : YI Y) (h0 : isX2 Y b) (h : PSX2_init b μ Q) : G X Y 1 92 [(0, .ref (Y.ad b))] [] μ := by
  unfold PSX2_init at h
  refine g_aload_n C 0 dX2_init_92 rfl ?_
  refine g_callVV C [] [] (ok_X2_reset hI h0 h) (cw_RX2_45 _) rfl dc_X2_reset ⟨Nat.le_of_ble_eq_true rfl, Nat.le_of_ble_eq_true rfl⟩ (isX2_lt h0) (isX2_sh h0) rfl rfl rfl rfl (Nat.le_of_ble_eq_true rfl) dX2_init_93 (fun m1 h => ?_)
  exact hr _ _ _ dX2_init_96 h
set_option maxRecDepth 20000 in
set_option maxHeartbeats 8000000 in
theorem ok_X2_init {Y : YT} {l0 : Launch} {b : Nat} {μ : Mem} {Q : Mem → Prop} (hI : YI Y) (hN : Y.N = b + 1) (hS : Y.sh b = fX2) (h : PX2_init b μ Q) : MC l0 yX2_init WX2_init 2 43 11 178 Y b μ (fun Y' μ' => Y'.N = b + 12 ∧ isX2 Y' b ∧ Q μ') := by
  refine mC_of (cc := cX2_init) (maxL := 1) (by decide +kernel) rfl rfl hI (by decide) (fun X C hXa hXi hr => ?_)
  replace C : Cx (xset X 0 0) Y 1 cX2_init RX2 WX2_init (rmC 2 43 11 178) l0 := C
  obtain ⟨x0, hx0⟩ : ∃ x0, Y.ad b = x0 := ⟨_, rfl⟩
  rw [hx0]
  unfold PX2_init at h
  refine g_aload_n C 0 dX2_init_0 rfl ?_
  refine g_obj C (List.mem_cons_of_mem _ mM_RX2_3) (List.mem_cons_of_mem _ mObj_i) (List.mem_cons_of_mem _ mObj_c) (by decide) (by decide) dX2_init_1 ?_
  refine g_aload_n C 0 dX2_init_4 rfl ?_
  refine g_bipush C (v := (6 : Int32)) dX2_init_5 (by decide) ?_
  refine g_newA C hXa (id := b + 1) hN .int .int rfl (List.mem_cons_of_mem _ mArr_I) Y.cI 0 rfl (fun _ _ z => z) rfl (k := 6) (by decide) (by decide) (by decide) (by decide) (by decide) dX2_init_7 (fun Y1 x2 C3 K4 n5 a6 s7 => ?_)
  have a8 := (K4.2.2.1 b (lt_N0 hN (by decide))).trans hx0
  have s9 := (K4.2.2.2 b (lt_N0 hN (by decide)) (nb_l (by decide))).trans hS
  have f10 := isI_new s7 K4 n5
  have k11 := keep_tr (b := b) (keep_rf) K4 (Or.inr (ge_N hN (by decide)))
  have n12 : Y1.N = b + 2 := n5
  refine g_putR C3 hXi (i := b) (ty := (.array .int)) (ty0 := tyX2) (k := 1) (Nc := 16) (Cn := RX2) (T := TX2) (ci := 2) (lt_N0 n12 (by decide)) a8 s9 rfl rfl (fun w hw => List.mem_cons_of_mem _ (inX2 w hw)) tyX2_ok nmX2 (by decide) (List.mem_cons_of_mem _ mF_RX2_9) rfl rfl rfl rfl rfl rfl (by decide : 1 < 16) (rt (fun c => [.int (c.1 0), .ref x2, .null, .null, .int (c.1 4), .null, .null, .null, .null, .null, .null, .null, .int (c.1 12), .int (c.1 13), .int (c.1 14), .null]) 2) rfl dX2_init_9 (fun Y13 C14 K15 n16 a17 s18 => ?_)
  have f19 := isI_tr f10 K15 (nb_r (by decide))
  have a20 := (K15.2.2.1 (b + 1) (lt_N n12 (by decide))).trans a6
  have a21 := (K15.2.2.1 b (lt_N0 n12 (by decide))).trans a8
  have k22 := keep_tr (b := b) k11 K15 (Or.inl rfl)
  have n23 : Y13.N = b + 2 := n16.trans n12
  refine g_aload_n C14 0 dX2_init_12 rfl ?_
  refine g_bipush C14 (v := (6 : Int32)) dX2_init_13 (by decide) ?_
  refine g_newA C14 hXa (id := b + 2) n23 .int .int rfl (List.mem_cons_of_mem _ mArr_I) Y13.cI 0 rfl (fun _ _ z => z) rfl (k := 6) (by decide) (by decide) (by decide) (by decide) (by decide) dX2_init_15 (fun Y24 x25 C26 K27 n28 a29 s30 => ?_)
  have f31 := isI_tr f19 K27 (nb_ (by decide))
  have a32 := (K27.2.2.1 (b + 1) (lt_N n23 (by decide))).trans a20
  have a33 := (K27.2.2.1 b (lt_N0 n23 (by decide))).trans a17
  have s34 := (K27.2.2.2 b (lt_N0 n23 (by decide)) (nb_l (by decide))).trans s18
  have f35 := isI_new s30 K27 n28
  have k36 := keep_tr (b := b) k22 K27 (Or.inr (ge_N hN (by decide)))
  have n37 : Y24.N = b + 3 := n28
  refine g_putR C26 hXi (i := b) (ty := (.array .int)) (ty0 := tyX2) (k := 2) (Nc := 16) (Cn := RX2) (T := TX2) (ci := 2) (lt_N0 n37 (by decide)) a33 s34 rfl rfl (fun w hw => List.mem_cons_of_mem _ (inX2 w hw)) tyX2_ok nmX2 (by decide) (List.mem_cons_of_mem _ mF_RX2_15) rfl rfl rfl rfl rfl rfl (by decide : 2 < 16) (rt (fun c => [.int (c.1 0), .ref x2, .ref x25, .null, .int (c.1 4), .null, .null, .null, .null, .null, .null, .null, .int (c.1 12), .int (c.1 13), .int (c.1 14), .null]) 2) rfl dX2_init_17 (fun Y38 C39 K40 n41 a42 s43 => ?_)
  have f44 := isI_tr f31 K40 (nb_r (by decide))
  have f45 := isI_tr f35 K40 (nb_r (by decide))
  have a46 := (K40.2.2.1 (b + 1) (lt_N n37 (by decide))).trans a32
  have a47 := (K40.2.2.1 (b + 2) (lt_N n37 (by decide))).trans a29
  have a48 := (K40.2.2.1 b (lt_N0 n37 (by decide))).trans a33
  have k49 := keep_tr (b := b) k36 K40 (Or.inl rfl)
  have n50 : Y38.N = b + 3 := n41.trans n37
  refine g_aload_n C39 0 dX2_init_20 rfl ?_
  refine g_bipush C39 (v := (6 : Int32)) dX2_init_21 (by decide) ?_
  refine g_newA C39 hXa (id := b + 3) n50 .int .int rfl (List.mem_cons_of_mem _ mArr_I) Y38.cI 0 rfl (fun _ _ z => z) rfl (k := 6) (by decide) (by decide) (by decide) (by decide) (by decide) dX2_init_23 (fun Y51 x52 C53 K54 n55 a56 s57 => ?_)
  have f58 := isI_tr f44 K54 (nb_ (by decide))
  have f59 := isI_tr f45 K54 (nb_ (by decide))
  have a60 := (K54.2.2.1 (b + 1) (lt_N n50 (by decide))).trans a46
  have a61 := (K54.2.2.1 (b + 2) (lt_N n50 (by decide))).trans a47
  have a62 := (K54.2.2.1 b (lt_N0 n50 (by decide))).trans a42
  have s63 := (K54.2.2.2 b (lt_N0 n50 (by decide)) (nb_l (by decide))).trans s43
  have f64 := isI_new s57 K54 n55
  have k65 := keep_tr (b := b) k49 K54 (Or.inr (ge_N hN (by decide)))
  have n66 : Y51.N = b + 4 := n55
  refine g_putR C53 hXi (i := b) (ty := (.array .int)) (ty0 := tyX2) (k := 3) (Nc := 16) (Cn := RX2) (T := TX2) (ci := 2) (lt_N0 n66 (by decide)) a62 s63 rfl rfl (fun w hw => List.mem_cons_of_mem _ (inX2 w hw)) tyX2_ok nmX2 (by decide) (List.mem_cons_of_mem _ mF_RX2_18) rfl rfl rfl rfl rfl rfl (by decide : 3 < 16) (rt (fun c => [.int (c.1 0), .ref x2, .ref x25, .ref x52, .int (c.1 4), .null, .null, .null, .null, .null, .null, .null, .int (c.1 12), .int (c.1 13), .int (c.1 14), .null]) 2) rfl dX2_init_25 (fun Y67 C68 K69 n70 a71 s72 => ?_)
  have f73 := isI_tr f58 K69 (nb_r (by decide))
  have f74 := isI_tr f59 K69 (nb_r (by decide))
  have f75 := isI_tr f64 K69 (nb_r (by decide))
  have a76 := (K69.2.2.1 (b + 1) (lt_N n66 (by decide))).trans a60
  have a77 := (K69.2.2.1 (b + 2) (lt_N n66 (by decide))).trans a61
  have a78 := (K69.2.2.1 (b + 3) (lt_N n66 (by decide))).trans a56
  have a79 := (K69.2.2.1 b (lt_N0 n66 (by decide))).trans a62
  have k80 := keep_tr (b := b) k65 K69 (Or.inl rfl)
  have n81 : Y67.N = b + 4 := n70.trans n66
  refine g_aload_n C68 0 dX2_init_28 rfl ?_
  refine g_bipush C68 (v := (9 : Int32)) dX2_init_29 (by decide) ?_
  refine g_newA C68 hXa (id := b + 4) n81 .int .int rfl (List.mem_cons_of_mem _ mArr_I) Y67.cI 0 rfl (fun _ _ z => z) rfl (k := 9) (by decide) (by decide) (by decide) (by decide) (by decide) dX2_init_31 (fun Y82 x83 C84 K85 n86 a87 s88 => ?_)
  have f89 := isI_tr f73 K85 (nb_ (by decide))
  have f90 := isI_tr f74 K85 (nb_ (by decide))
  have f91 := isI_tr f75 K85 (nb_ (by decide))
  have a92 := (K85.2.2.1 (b + 1) (lt_N n81 (by decide))).trans a76
  have a93 := (K85.2.2.1 (b + 2) (lt_N n81 (by decide))).trans a77
  have a94 := (K85.2.2.1 (b + 3) (lt_N n81 (by decide))).trans a78
  have a95 := (K85.2.2.1 b (lt_N0 n81 (by decide))).trans a71
  have s96 := (K85.2.2.2 b (lt_N0 n81 (by decide)) (nb_l (by decide))).trans s72
  have f97 := isI_new s88 K85 n86
  have k98 := keep_tr (b := b) k80 K85 (Or.inr (ge_N hN (by decide)))
  have n99 : Y82.N = b + 5 := n86
  refine g_putR C84 hXi (i := b) (ty := (.array .int)) (ty0 := tyX2) (k := 5) (Nc := 16) (Cn := RX2) (T := TX2) (ci := 2) (lt_N0 n99 (by decide)) a95 s96 rfl rfl (fun w hw => List.mem_cons_of_mem _ (inX2 w hw)) tyX2_ok nmX2 (by decide) (List.mem_cons_of_mem _ mF_RX2_21) rfl rfl rfl rfl rfl rfl (by decide : 5 < 16) (rt (fun c => [.int (c.1 0), .ref x2, .ref x25, .ref x52, .int (c.1 4), .ref x83, .null, .null, .null, .null, .null, .null, .int (c.1 12), .int (c.1 13), .int (c.1 14), .null]) 2) rfl dX2_init_33 (fun Y100 C101 K102 n103 a104 s105 => ?_)
  have f106 := isI_tr f89 K102 (nb_r (by decide))
  have f107 := isI_tr f90 K102 (nb_r (by decide))
  have f108 := isI_tr f91 K102 (nb_r (by decide))
  have f109 := isI_tr f97 K102 (nb_r (by decide))
  have a110 := (K102.2.2.1 (b + 1) (lt_N n99 (by decide))).trans a92
  have a111 := (K102.2.2.1 (b + 2) (lt_N n99 (by decide))).trans a93
  have a112 := (K102.2.2.1 (b + 3) (lt_N n99 (by decide))).trans a94
  have a113 := (K102.2.2.1 (b + 4) (lt_N n99 (by decide))).trans a87
  have a114 := (K102.2.2.1 b (lt_N0 n99 (by decide))).trans a95
  have k115 := keep_tr (b := b) k98 K102 (Or.inl rfl)
  have n116 : Y100.N = b + 5 := n103.trans n99
  refine g_aload_n C101 0 dX2_init_36 rfl ?_
  refine g_bipush C101 (v := (9 : Int32)) dX2_init_37 (by decide) ?_
  refine g_newA C101 hXa (id := b + 5) n116 .int .int rfl (List.mem_cons_of_mem _ mArr_I) Y100.cI 0 rfl (fun _ _ z => z) rfl (k := 9) (by decide) (by decide) (by decide) (by decide) (by decide) dX2_init_39 (fun Y117 x118 C119 K120 n121 a122 s123 => ?_)
  have f124 := isI_tr f106 K120 (nb_ (by decide))
  have f125 := isI_tr f107 K120 (nb_ (by decide))
  have f126 := isI_tr f108 K120 (nb_ (by decide))
  have f127 := isI_tr f109 K120 (nb_ (by decide))
  have a128 := (K120.2.2.1 (b + 1) (lt_N n116 (by decide))).trans a110
  have a129 := (K120.2.2.1 (b + 2) (lt_N n116 (by decide))).trans a111
  have a130 := (K120.2.2.1 (b + 3) (lt_N n116 (by decide))).trans a112
  have a131 := (K120.2.2.1 (b + 4) (lt_N n116 (by decide))).trans a113
  have a132 := (K120.2.2.1 b (lt_N0 n116 (by decide))).trans a104
  have s133 := (K120.2.2.2 b (lt_N0 n116 (by decide)) (nb_l (by decide))).trans s105
  have f134 := isI_new s123 K120 n121
  have k135 := keep_tr (b := b) k115 K120 (Or.inr (ge_N hN (by decide)))
  have n136 : Y117.N = b + 6 := n121
  refine g_putR C119 hXi (i := b) (ty := (.array .int)) (ty0 := tyX2) (k := 6) (Nc := 16) (Cn := RX2) (T := TX2) (ci := 2) (lt_N0 n136 (by decide)) a132 s133 rfl rfl (fun w hw => List.mem_cons_of_mem _ (inX2 w hw)) tyX2_ok nmX2 (by decide) (List.mem_cons_of_mem _ mF_RX2_24) rfl rfl rfl rfl rfl rfl (by decide : 6 < 16) (rt (fun c => [.int (c.1 0), .ref x2, .ref x25, .ref x52, .int (c.1 4), .ref x83, .ref x118, .null, .null, .null, .null, .null, .int (c.1 12), .int (c.1 13), .int (c.1 14), .null]) 2) rfl dX2_init_41 (fun Y137 C138 K139 n140 a141 s142 => ?_)
  have f143 := isI_tr f124 K139 (nb_r (by decide))
  have f144 := isI_tr f125 K139 (nb_r (by decide))
  have f145 := isI_tr f126 K139 (nb_r (by decide))
  have f146 := isI_tr f127 K139 (nb_r (by decide))
  have f147 := isI_tr f134 K139 (nb_r (by decide))
  have a148 := (K139.2.2.1 (b + 1) (lt_N n136 (by decide))).trans a128
  have a149 := (K139.2.2.1 (b + 2) (lt_N n136 (by decide))).trans a129
  have a150 := (K139.2.2.1 (b + 3) (lt_N n136 (by decide))).trans a130
  have a151 := (K139.2.2.1 (b + 4) (lt_N n136 (by decide))).trans a131
  have a152 := (K139.2.2.1 (b + 5) (lt_N n136 (by decide))).trans a122
  have a153 := (K139.2.2.1 b (lt_N0 n136 (by decide))).trans a132
  have k154 := keep_tr (b := b) k135 K139 (Or.inl rfl)
  have n155 : Y137.N = b + 6 := n140.trans n136
  refine g_aload_n C138 0 dX2_init_44 rfl ?_
  refine g_bipush C138 (v := (9 : Int32)) dX2_init_45 (by decide) ?_
  refine g_newA C138 hXa (id := b + 6) n155 .int .int rfl (List.mem_cons_of_mem _ mArr_I) Y137.cI 0 rfl (fun _ _ z => z) rfl (k := 9) (by decide) (by decide) (by decide) (by decide) (by decide) dX2_init_47 (fun Y156 x157 C158 K159 n160 a161 s162 => ?_)
  have f163 := isI_tr f143 K159 (nb_ (by decide))
  have f164 := isI_tr f144 K159 (nb_ (by decide))
  have f165 := isI_tr f145 K159 (nb_ (by decide))
  have f166 := isI_tr f146 K159 (nb_ (by decide))
  have f167 := isI_tr f147 K159 (nb_ (by decide))
  have a168 := (K159.2.2.1 (b + 1) (lt_N n155 (by decide))).trans a148
  have a169 := (K159.2.2.1 (b + 2) (lt_N n155 (by decide))).trans a149
  have a170 := (K159.2.2.1 (b + 3) (lt_N n155 (by decide))).trans a150
  have a171 := (K159.2.2.1 (b + 4) (lt_N n155 (by decide))).trans a151
  have a172 := (K159.2.2.1 (b + 5) (lt_N n155 (by decide))).trans a152
  have a173 := (K159.2.2.1 b (lt_N0 n155 (by decide))).trans a141
  have s174 := (K159.2.2.2 b (lt_N0 n155 (by decide)) (nb_l (by decide))).trans s142
  have f175 := isI_new s162 K159 n160
  have k176 := keep_tr (b := b) k154 K159 (Or.inr (ge_N hN (by decide)))
  have n177 : Y156.N = b + 7 := n160
  refine g_putR C158 hXi (i := b) (ty := (.array .int)) (ty0 := tyX2) (k := 7) (Nc := 16) (Cn := RX2) (T := TX2) (ci := 2) (lt_N0 n177 (by decide)) a173 s174 rfl rfl (fun w hw => List.mem_cons_of_mem _ (inX2 w hw)) tyX2_ok nmX2 (by decide) (List.mem_cons_of_mem _ mF_RX2_27) rfl rfl rfl rfl rfl rfl (by decide : 7 < 16) (rt (fun c => [.int (c.1 0), .ref x2, .ref x25, .ref x52, .int (c.1 4), .ref x83, .ref x118, .ref x157, .null, .null, .null, .null, .int (c.1 12), .int (c.1 13), .int (c.1 14), .null]) 2) rfl dX2_init_49 (fun Y178 C179 K180 n181 a182 s183 => ?_)
  have f184 := isI_tr f163 K180 (nb_r (by decide))
  have f185 := isI_tr f164 K180 (nb_r (by decide))
  have f186 := isI_tr f165 K180 (nb_r (by decide))
  have f187 := isI_tr f166 K180 (nb_r (by decide))
  have f188 := isI_tr f167 K180 (nb_r (by decide))
  have f189 := isI_tr f175 K180 (nb_r (by decide))
  have a190 := (K180.2.2.1 (b + 1) (lt_N n177 (by decide))).trans a168
  have a191 := (K180.2.2.1 (b + 2) (lt_N n177 (by decide))).trans a169
  have a192 := (K180.2.2.1 (b + 3) (lt_N n177 (by decide))).trans a170
  have a193 := (K180.2.2.1 (b + 4) (lt_N n177 (by decide))).trans a171
  have a194 := (K180.2.2.1 (b + 5) (lt_N n177 (by decide))).trans a172
  have a195 := (K180.2.2.1 (b + 6) (lt_N n177 (by decide))).trans a161
  have a196 := (K180.2.2.1 b (lt_N0 n177 (by decide))).trans a173
  have k197 := keep_tr (b := b) k176 K180 (Or.inl rfl)
  have n198 : Y178.N = b + 7 := n181.trans n177
  refine g_aload_n C179 0 dX2_init_52 rfl ?_
  refine g_bipush C179 (v := (9 : Int32)) dX2_init_53 (by decide) ?_
  refine g_newA C179 hXa (id := b + 7) n198 .int .int rfl (List.mem_cons_of_mem _ mArr_I) Y178.cI 0 rfl (fun _ _ z => z) rfl (k := 9) (by decide) (by decide) (by decide) (by decide) (by decide) dX2_init_55 (fun Y199 x200 C201 K202 n203 a204 s205 => ?_)
  have f206 := isI_tr f184 K202 (nb_ (by decide))
  have f207 := isI_tr f185 K202 (nb_ (by decide))
  have f208 := isI_tr f186 K202 (nb_ (by decide))
  have f209 := isI_tr f187 K202 (nb_ (by decide))
  have f210 := isI_tr f188 K202 (nb_ (by decide))
  have f211 := isI_tr f189 K202 (nb_ (by decide))
  have a212 := (K202.2.2.1 (b + 1) (lt_N n198 (by decide))).trans a190
  have a213 := (K202.2.2.1 (b + 2) (lt_N n198 (by decide))).trans a191
  have a214 := (K202.2.2.1 (b + 3) (lt_N n198 (by decide))).trans a192
  have a215 := (K202.2.2.1 (b + 4) (lt_N n198 (by decide))).trans a193
  have a216 := (K202.2.2.1 (b + 5) (lt_N n198 (by decide))).trans a194
  have a217 := (K202.2.2.1 (b + 6) (lt_N n198 (by decide))).trans a195
  have a218 := (K202.2.2.1 b (lt_N0 n198 (by decide))).trans a182
  have s219 := (K202.2.2.2 b (lt_N0 n198 (by decide)) (nb_l (by decide))).trans s183
  have f220 := isI_new s205 K202 n203
  have k221 := keep_tr (b := b) k197 K202 (Or.inr (ge_N hN (by decide)))
  have n222 : Y199.N = b + 8 := n203
  refine g_putR C201 hXi (i := b) (ty := (.array .int)) (ty0 := tyX2) (k := 8) (Nc := 16) (Cn := RX2) (T := TX2) (ci := 2) (lt_N0 n222 (by decide)) a218 s219 rfl rfl (fun w hw => List.mem_cons_of_mem _ (inX2 w hw)) tyX2_ok nmX2 (by decide) (List.mem_cons_of_mem _ mF_RX2_30) rfl rfl rfl rfl rfl rfl (by decide : 8 < 16) (rt (fun c => [.int (c.1 0), .ref x2, .ref x25, .ref x52, .int (c.1 4), .ref x83, .ref x118, .ref x157, .ref x200, .null, .null, .null, .int (c.1 12), .int (c.1 13), .int (c.1 14), .null]) 2) rfl dX2_init_57 (fun Y223 C224 K225 n226 a227 s228 => ?_)
  have f229 := isI_tr f206 K225 (nb_r (by decide))
  have f230 := isI_tr f207 K225 (nb_r (by decide))
  have f231 := isI_tr f208 K225 (nb_r (by decide))
  have f232 := isI_tr f209 K225 (nb_r (by decide))
  have f233 := isI_tr f210 K225 (nb_r (by decide))
  have f234 := isI_tr f211 K225 (nb_r (by decide))
  have f235 := isI_tr f220 K225 (nb_r (by decide))
  have a236 := (K225.2.2.1 (b + 1) (lt_N n222 (by decide))).trans a212
  have a237 := (K225.2.2.1 (b + 2) (lt_N n222 (by decide))).trans a213
  have a238 := (K225.2.2.1 (b + 3) (lt_N n222 (by decide))).trans a214
  have a239 := (K225.2.2.1 (b + 4) (lt_N n222 (by decide))).trans a215
  have a240 := (K225.2.2.1 (b + 5) (lt_N n222 (by decide))).trans a216
  have a241 := (K225.2.2.1 (b + 6) (lt_N n222 (by decide))).trans a217
  have a242 := (K225.2.2.1 (b + 7) (lt_N n222 (by decide))).trans a204
  have a243 := (K225.2.2.1 b (lt_N0 n222 (by decide))).trans a218
  have k244 := keep_tr (b := b) k221 K225 (Or.inl rfl)
  have n245 : Y223.N = b + 8 := n226.trans n222
  refine g_aload_n C224 0 dX2_init_60 rfl ?_
  refine g_bipush C224 (v := (9 : Int32)) dX2_init_61 (by decide) ?_
  refine g_newA C224 hXa (id := b + 8) n245 .int .int rfl (List.mem_cons_of_mem _ mArr_I) Y223.cI 0 rfl (fun _ _ z => z) rfl (k := 9) (by decide) (by decide) (by decide) (by decide) (by decide) dX2_init_63 (fun Y246 x247 C248 K249 n250 a251 s252 => ?_)
  have f253 := isI_tr f229 K249 (nb_ (by decide))
  have f254 := isI_tr f230 K249 (nb_ (by decide))
  have f255 := isI_tr f231 K249 (nb_ (by decide))
  have f256 := isI_tr f232 K249 (nb_ (by decide))
  have f257 := isI_tr f233 K249 (nb_ (by decide))
  have f258 := isI_tr f234 K249 (nb_ (by decide))
  have f259 := isI_tr f235 K249 (nb_ (by decide))
  have a260 := (K249.2.2.1 (b + 1) (lt_N n245 (by decide))).trans a236
  have a261 := (K249.2.2.1 (b + 2) (lt_N n245 (by decide))).trans a237
  have a262 := (K249.2.2.1 (b + 3) (lt_N n245 (by decide))).trans a238
  have a263 := (K249.2.2.1 (b + 4) (lt_N n245 (by decide))).trans a239
  have a264 := (K249.2.2.1 (b + 5) (lt_N n245 (by decide))).trans a240
  have a265 := (K249.2.2.1 (b + 6) (lt_N n245 (by decide))).trans a241
  have a266 := (K249.2.2.1 (b + 7) (lt_N n245 (by decide))).trans a242
  have a267 := (K249.2.2.1 b (lt_N0 n245 (by decide))).trans a227
  have s268 := (K249.2.2.2 b (lt_N0 n245 (by decide)) (nb_l (by decide))).trans s228
  have f269 := isI_new s252 K249 n250
  have k270 := keep_tr (b := b) k244 K249 (Or.inr (ge_N hN (by decide)))
  have n271 : Y246.N = b + 9 := n250
  refine g_putR C248 hXi (i := b) (ty := (.array .int)) (ty0 := tyX2) (k := 9) (Nc := 16) (Cn := RX2) (T := TX2) (ci := 2) (lt_N0 n271 (by decide)) a267 s268 rfl rfl (fun w hw => List.mem_cons_of_mem _ (inX2 w hw)) tyX2_ok nmX2 (by decide) (List.mem_cons_of_mem _ mF_RX2_33) rfl rfl rfl rfl rfl rfl (by decide : 9 < 16) (rt (fun c => [.int (c.1 0), .ref x2, .ref x25, .ref x52, .int (c.1 4), .ref x83, .ref x118, .ref x157, .ref x200, .ref x247, .null, .null, .int (c.1 12), .int (c.1 13), .int (c.1 14), .null]) 2) rfl dX2_init_65 (fun Y272 C273 K274 n275 a276 s277 => ?_)
  have f278 := isI_tr f253 K274 (nb_r (by decide))
  have f279 := isI_tr f254 K274 (nb_r (by decide))
  have f280 := isI_tr f255 K274 (nb_r (by decide))
  have f281 := isI_tr f256 K274 (nb_r (by decide))
  have f282 := isI_tr f257 K274 (nb_r (by decide))
  have f283 := isI_tr f258 K274 (nb_r (by decide))
  have f284 := isI_tr f259 K274 (nb_r (by decide))
  have f285 := isI_tr f269 K274 (nb_r (by decide))
  have a286 := (K274.2.2.1 (b + 1) (lt_N n271 (by decide))).trans a260
  have a287 := (K274.2.2.1 (b + 2) (lt_N n271 (by decide))).trans a261
  have a288 := (K274.2.2.1 (b + 3) (lt_N n271 (by decide))).trans a262
  have a289 := (K274.2.2.1 (b + 4) (lt_N n271 (by decide))).trans a263
  have a290 := (K274.2.2.1 (b + 5) (lt_N n271 (by decide))).trans a264
  have a291 := (K274.2.2.1 (b + 6) (lt_N n271 (by decide))).trans a265
  have a292 := (K274.2.2.1 (b + 7) (lt_N n271 (by decide))).trans a266
  have a293 := (K274.2.2.1 (b + 8) (lt_N n271 (by decide))).trans a251
  have a294 := (K274.2.2.1 b (lt_N0 n271 (by decide))).trans a267
  have k295 := keep_tr (b := b) k270 K274 (Or.inl rfl)
  have n296 : Y272.N = b + 9 := n275.trans n271
  refine g_aload_n C273 0 dX2_init_68 rfl ?_
  refine g_bipush C273 (v := (54 : Int32)) dX2_init_69 (by decide) ?_
  refine g_newA C273 hXa (id := b + 9) n296 .int .int rfl (List.mem_cons_of_mem _ mArr_I) Y272.cI 0 rfl (fun _ _ z => z) rfl (k := 54) (by decide) (by decide) (by decide) (by decide) (by decide) dX2_init_71 (fun Y297 x298 C299 K300 n301 a302 s303 => ?_)
  have f304 := isI_tr f278 K300 (nb_ (by decide))
  have f305 := isI_tr f279 K300 (nb_ (by decide))
  have f306 := isI_tr f280 K300 (nb_ (by decide))
  have f307 := isI_tr f281 K300 (nb_ (by decide))
  have f308 := isI_tr f282 K300 (nb_ (by decide))
  have f309 := isI_tr f283 K300 (nb_ (by decide))
  have f310 := isI_tr f284 K300 (nb_ (by decide))
  have f311 := isI_tr f285 K300 (nb_ (by decide))
  have a312 := (K300.2.2.1 (b + 1) (lt_N n296 (by decide))).trans a286
  have a313 := (K300.2.2.1 (b + 2) (lt_N n296 (by decide))).trans a287
  have a314 := (K300.2.2.1 (b + 3) (lt_N n296 (by decide))).trans a288
  have a315 := (K300.2.2.1 (b + 4) (lt_N n296 (by decide))).trans a289
  have a316 := (K300.2.2.1 (b + 5) (lt_N n296 (by decide))).trans a290
  have a317 := (K300.2.2.1 (b + 6) (lt_N n296 (by decide))).trans a291
  have a318 := (K300.2.2.1 (b + 7) (lt_N n296 (by decide))).trans a292
  have a319 := (K300.2.2.1 (b + 8) (lt_N n296 (by decide))).trans a293
  have a320 := (K300.2.2.1 b (lt_N0 n296 (by decide))).trans a276
  have s321 := (K300.2.2.2 b (lt_N0 n296 (by decide)) (nb_l (by decide))).trans s277
  have f322 := isI_new s303 K300 n301
  have k323 := keep_tr (b := b) k295 K300 (Or.inr (ge_N hN (by decide)))
  have n324 : Y297.N = b + 10 := n301
  refine g_putR C299 hXi (i := b) (ty := (.array .int)) (ty0 := tyX2) (k := 10) (Nc := 16) (Cn := RX2) (T := TX2) (ci := 2) (lt_N0 n324 (by decide)) a320 s321 rfl rfl (fun w hw => List.mem_cons_of_mem _ (inX2 w hw)) tyX2_ok nmX2 (by decide) (List.mem_cons_of_mem _ mF_RX2_36) rfl rfl rfl rfl rfl rfl (by decide : 10 < 16) (rt (fun c => [.int (c.1 0), .ref x2, .ref x25, .ref x52, .int (c.1 4), .ref x83, .ref x118, .ref x157, .ref x200, .ref x247, .ref x298, .null, .int (c.1 12), .int (c.1 13), .int (c.1 14), .null]) 2) rfl dX2_init_73 (fun Y325 C326 K327 n328 a329 s330 => ?_)
  have f331 := isI_tr f304 K327 (nb_r (by decide))
  have f332 := isI_tr f305 K327 (nb_r (by decide))
  have f333 := isI_tr f306 K327 (nb_r (by decide))
  have f334 := isI_tr f307 K327 (nb_r (by decide))
  have f335 := isI_tr f308 K327 (nb_r (by decide))
  have f336 := isI_tr f309 K327 (nb_r (by decide))
  have f337 := isI_tr f310 K327 (nb_r (by decide))
  have f338 := isI_tr f311 K327 (nb_r (by decide))
  have f339 := isI_tr f322 K327 (nb_r (by decide))
  have a340 := (K327.2.2.1 (b + 1) (lt_N n324 (by decide))).trans a312
  have a341 := (K327.2.2.1 (b + 2) (lt_N n324 (by decide))).trans a313
  have a342 := (K327.2.2.1 (b + 3) (lt_N n324 (by decide))).trans a314
  have a343 := (K327.2.2.1 (b + 4) (lt_N n324 (by decide))).trans a315
  have a344 := (K327.2.2.1 (b + 5) (lt_N n324 (by decide))).trans a316
  have a345 := (K327.2.2.1 (b + 6) (lt_N n324 (by decide))).trans a317
  have a346 := (K327.2.2.1 (b + 7) (lt_N n324 (by decide))).trans a318
  have a347 := (K327.2.2.1 (b + 8) (lt_N n324 (by decide))).trans a319
  have a348 := (K327.2.2.1 (b + 9) (lt_N n324 (by decide))).trans a302
  have a349 := (K327.2.2.1 b (lt_N0 n324 (by decide))).trans a320
  have k350 := keep_tr (b := b) k323 K327 (Or.inl rfl)
  have n351 : Y325.N = b + 10 := n328.trans n324
  refine g_aload_n C326 0 dX2_init_76 rfl ?_
  refine g_bipush C326 (v := (54 : Int32)) dX2_init_77 (by decide) ?_
  refine g_newA C326 hXa (id := b + 10) n351 .int .int rfl (List.mem_cons_of_mem _ mArr_I) Y325.cI 0 rfl (fun _ _ z => z) rfl (k := 54) (by decide) (by decide) (by decide) (by decide) (by decide) dX2_init_79 (fun Y352 x353 C354 K355 n356 a357 s358 => ?_)
  have f359 := isI_tr f331 K355 (nb_ (by decide))
  have f360 := isI_tr f332 K355 (nb_ (by decide))
  have f361 := isI_tr f333 K355 (nb_ (by decide))
  have f362 := isI_tr f334 K355 (nb_ (by decide))
  have f363 := isI_tr f335 K355 (nb_ (by decide))
  have f364 := isI_tr f336 K355 (nb_ (by decide))
  have f365 := isI_tr f337 K355 (nb_ (by decide))
  have f366 := isI_tr f338 K355 (nb_ (by decide))
  have f367 := isI_tr f339 K355 (nb_ (by decide))
  have a368 := (K355.2.2.1 (b + 1) (lt_N n351 (by decide))).trans a340
  have a369 := (K355.2.2.1 (b + 2) (lt_N n351 (by decide))).trans a341
  have a370 := (K355.2.2.1 (b + 3) (lt_N n351 (by decide))).trans a342
  have a371 := (K355.2.2.1 (b + 4) (lt_N n351 (by decide))).trans a343
  have a372 := (K355.2.2.1 (b + 5) (lt_N n351 (by decide))).trans a344
  have a373 := (K355.2.2.1 (b + 6) (lt_N n351 (by decide))).trans a345
  have a374 := (K355.2.2.1 (b + 7) (lt_N n351 (by decide))).trans a346
  have a375 := (K355.2.2.1 (b + 8) (lt_N n351 (by decide))).trans a347
  have a376 := (K355.2.2.1 (b + 9) (lt_N n351 (by decide))).trans a348
  have a377 := (K355.2.2.1 b (lt_N0 n351 (by decide))).trans a329
  have s378 := (K355.2.2.2 b (lt_N0 n351 (by decide)) (nb_l (by decide))).trans s330
  have f379 := isI_new s358 K355 n356
  have k380 := keep_tr (b := b) k350 K355 (Or.inr (ge_N hN (by decide)))
  have n381 : Y352.N = b + 11 := n356
  refine g_putR C354 hXi (i := b) (ty := (.array .int)) (ty0 := tyX2) (k := 11) (Nc := 16) (Cn := RX2) (T := TX2) (ci := 2) (lt_N0 n381 (by decide)) a377 s378 rfl rfl (fun w hw => List.mem_cons_of_mem _ (inX2 w hw)) tyX2_ok nmX2 (by decide) (List.mem_cons_of_mem _ mF_RX2_39) rfl rfl rfl rfl rfl rfl (by decide : 11 < 16) (rt (fun c => [.int (c.1 0), .ref x2, .ref x25, .ref x52, .int (c.1 4), .ref x83, .ref x118, .ref x157, .ref x200, .ref x247, .ref x298, .ref x353, .int (c.1 12), .int (c.1 13), .int (c.1 14), .null]) 2) rfl dX2_init_81 (fun Y382 C383 K384 n385 a386 s387 => ?_)
  have f388 := isI_tr f359 K384 (nb_r (by decide))
  have f389 := isI_tr f360 K384 (nb_r (by decide))
  have f390 := isI_tr f361 K384 (nb_r (by decide))
  have f391 := isI_tr f362 K384 (nb_r (by decide))
  have f392 := isI_tr f363 K384 (nb_r (by decide))
  have f393 := isI_tr f364 K384 (nb_r (by decide))
  have f394 := isI_tr f365 K384 (nb_r (by decide))
  have f395 := isI_tr f366 K384 (nb_r (by decide))
  have f396 := isI_tr f367 K384 (nb_r (by decide))
  have f397 := isI_tr f379 K384 (nb_r (by decide))
  have a398 := (K384.2.2.1 (b + 1) (lt_N n381 (by decide))).trans a368
  have a399 := (K384.2.2.1 (b + 2) (lt_N n381 (by decide))).trans a369
  have a400 := (K384.2.2.1 (b + 3) (lt_N n381 (by decide))).trans a370
  have a401 := (K384.2.2.1 (b + 4) (lt_N n381 (by decide))).trans a371
  have a402 := (K384.2.2.1 (b + 5) (lt_N n381 (by decide))).trans a372
  have a403 := (K384.2.2.1 (b + 6) (lt_N n381 (by decide))).trans a373
  have a404 := (K384.2.2.1 (b + 7) (lt_N n381 (by decide))).trans a374
  have a405 := (K384.2.2.1 (b + 8) (lt_N n381 (by decide))).trans a375
  have a406 := (K384.2.2.1 (b + 9) (lt_N n381 (by decide))).trans a376
  have a407 := (K384.2.2.1 (b + 10) (lt_N n381 (by decide))).trans a357
  have a408 := (K384.2.2.1 b (lt_N0 n381 (by decide))).trans a377
  have k409 := keep_tr (b := b) k380 K384 (Or.inl rfl)
  have n410 : Y382.N = b + 11 := n385.trans n381
  refine g_aload_n C383 0 dX2_init_84 rfl ?_
  refine g_bipush C383 (v := (7 : Int32)) dX2_init_85 (by decide) ?_
  refine g_newA C383 hXa (id := b + 11) n410 .int .int rfl (List.mem_cons_of_mem _ mArr_I) Y382.cI 0 rfl (fun _ _ z => z) rfl (k := 7) (by decide) (by decide) (by decide) (by decide) (by decide) dX2_init_87 (fun Y411 x412 C413 K414 n415 a416 s417 => ?_)
  have f418 := isI_tr f388 K414 (nb_ (by decide))
  have f419 := isI_tr f389 K414 (nb_ (by decide))
  have f420 := isI_tr f390 K414 (nb_ (by decide))
  have f421 := isI_tr f391 K414 (nb_ (by decide))
  have f422 := isI_tr f392 K414 (nb_ (by decide))
  have f423 := isI_tr f393 K414 (nb_ (by decide))
  have f424 := isI_tr f394 K414 (nb_ (by decide))
  have f425 := isI_tr f395 K414 (nb_ (by decide))
  have f426 := isI_tr f396 K414 (nb_ (by decide))
  have f427 := isI_tr f397 K414 (nb_ (by decide))
  have a428 := (K414.2.2.1 (b + 1) (lt_N n410 (by decide))).trans a398
  have a429 := (K414.2.2.1 (b + 2) (lt_N n410 (by decide))).trans a399
  have a430 := (K414.2.2.1 (b + 3) (lt_N n410 (by decide))).trans a400
  have a431 := (K414.2.2.1 (b + 4) (lt_N n410 (by decide))).trans a401
  have a432 := (K414.2.2.1 (b + 5) (lt_N n410 (by decide))).trans a402
  have a433 := (K414.2.2.1 (b + 6) (lt_N n410 (by decide))).trans a403
  have a434 := (K414.2.2.1 (b + 7) (lt_N n410 (by decide))).trans a404
  have a435 := (K414.2.2.1 (b + 8) (lt_N n410 (by decide))).trans a405
  have a436 := (K414.2.2.1 (b + 9) (lt_N n410 (by decide))).trans a406
  have a437 := (K414.2.2.1 (b + 10) (lt_N n410 (by decide))).trans a407
  have a438 := (K414.2.2.1 b (lt_N0 n410 (by decide))).trans a386
  have s439 := (K414.2.2.2 b (lt_N0 n410 (by decide)) (nb_l (by decide))).trans s387
  have f440 := isI_new s417 K414 n415
  have k441 := keep_tr (b := b) k409 K414 (Or.inr (ge_N hN (by decide)))
  have n442 : Y411.N = b + 12 := n415
  refine g_putR C413 hXi (i := b) (ty := (.array .int)) (ty0 := tyX2) (k := 15) (Nc := 16) (Cn := RX2) (T := TX2) (ci := 2) (lt_N0 n442 (by decide)) a438 s439 rfl rfl (fun w hw => List.mem_cons_of_mem _ (inX2 w hw)) tyX2_ok nmX2 (by decide) (List.mem_cons_of_mem _ mF_RX2_42) rfl rfl rfl rfl rfl rfl (by decide : 15 < 16) (rt (fun c => [.int (c.1 0), .ref x2, .ref x25, .ref x52, .int (c.1 4), .ref x83, .ref x118, .ref x157, .ref x200, .ref x247, .ref x298, .ref x353, .int (c.1 12), .int (c.1 13), .int (c.1 14), .ref x412]) 2) rfl dX2_init_89 (fun Y443 C444 K445 n446 a447 s448 => ?_)
  have f449 := isI_tr f418 K445 (nb_r (by decide))
  have f450 := isI_tr f419 K445 (nb_r (by decide))
  have f451 := isI_tr f420 K445 (nb_r (by decide))
  have f452 := isI_tr f421 K445 (nb_r (by decide))
  have f453 := isI_tr f422 K445 (nb_r (by decide))
  have f454 := isI_tr f423 K445 (nb_r (by decide))
  have f455 := isI_tr f424 K445 (nb_r (by decide))
  have f456 := isI_tr f425 K445 (nb_r (by decide))
  have f457 := isI_tr f426 K445 (nb_r (by decide))
  have f458 := isI_tr f427 K445 (nb_r (by decide))
  have f459 := isI_tr f440 K445 (nb_r (by decide))
  have a460 := (K445.2.2.1 (b + 1) (lt_N n442 (by decide))).trans a428
  have a461 := (K445.2.2.1 (b + 2) (lt_N n442 (by decide))).trans a429
  have a462 := (K445.2.2.1 (b + 3) (lt_N n442 (by decide))).trans a430
  have a463 := (K445.2.2.1 (b + 4) (lt_N n442 (by decide))).trans a431
  have a464 := (K445.2.2.1 (b + 5) (lt_N n442 (by decide))).trans a432
  have a465 := (K445.2.2.1 (b + 6) (lt_N n442 (by decide))).trans a433
  have a466 := (K445.2.2.1 (b + 7) (lt_N n442 (by decide))).trans a434
  have a467 := (K445.2.2.1 (b + 8) (lt_N n442 (by decide))).trans a435
  have a468 := (K445.2.2.1 (b + 9) (lt_N n442 (by decide))).trans a436
  have a469 := (K445.2.2.1 (b + 10) (lt_N n442 (by decide))).trans a437
  have a470 := (K445.2.2.1 (b + 11) (lt_N n442 (by decide))).trans a416
  have a471 := (K445.2.2.1 b (lt_N0 n442 (by decide))).trans a438
  have k472 := keep_tr (b := b) k441 K445 (Or.inl rfl)
  have n473 : Y443.N = b + 12 := n446.trans n442
  have f474 : isX2 Y443 b := ⟨(lt_N0 n473 (by decide)), by rw [s448]; unfold sX2; rw [a460, a461, a462, a463, a464, a465, a466, a467, a468, a469, a470], f449, f450, f451, f452, f453, f454, f455, f456, f457, f458, f459⟩
  rw [← a447]
  exact sf_X2_init C444 (fun pc lv μ' hd q => hr pc lv Y443 μ' hd C444 k472 ⟨n473, f474, q⟩) (cx_YI C444) f474 h
def SX4_init_29 (X : XT) (Y : YT) (b : Nat) : Int32 → Mem → Prop := fun v1 μ => G X Y 2 29 [(0, .ref (Y.ad b)), (1, .int v1)] [] μ
set_option maxRecDepth 20000 in
set_option maxHeartbeats 4000000 in
theorem tX4_init_29 {X : XT} {Y : YT} {l0 : Launch} {b : Nat} {Q : Mem → Prop} (C : Cx X Y 2 cX4_init RX4 WX4_init (rmC 1 12 3 168) l0) (hr : RVn X Y 2 cX4_init Q) (hI : YI Y) (h0 : isX4 Y b) (v1 : Int32) (μ : Mem) (h : nX4_init_29 b Q (SX4_init_29 X Y b) v1 μ) : G X Y 2 29 [(0, .ref (Y.ad b)), (1, .int v1)] [] μ := by
  unfold nX4_init_29 at h
  refine g_iload_n C 1 dX4_init_29 rfl ?_
  refine g_iconst C (v := (4 : Int32)) dX4_init_30 (by decide) ?_
  refine g_icmp_ge C 48 dX4_init_31 (by decide) (fun c1 => ?_) (fun c1 => ?_)
  · replace h := h.1 c1
    exact hr _ _ _ dX4_init_48 h
  · replace h := h.2 c1
    refine g_aload_n C 0 dX4_init_34 rfl ?_
    refine gf_RX4_9 C h0 dX4_init_35 ?_
    refine g_iload_n C 1 dX4_init_38 rfl ?_
    refine g_bipush C (v := (-4 : Int32)) dX4_init_39 (by decide) ?_
    refine g_iast C (isX4_laneOf h0).1 (isX4_laneOf h0).2 h.1 dX4_init_41 ?_
    replace h := h.2
    refine g_iinc C (v := v1 + 1) 1 [(1, .int (v1 + 1)), (0, .ref (Y.ad b))] dX4_init_42 rfl rfl (by decide) rfl ?_
    refine g_goto C 29 dX4_init_45 (by decide) ?_
    refine g_lv (lv2 := [(0, .ref (Y.ad b)), (1, .int (v1 + 1))]) [1, 0] ?_ rfl
    exact h
set_option maxRecDepth 20000 in
set_option maxHeartbeats 4000000 in
theorem sf_X4_init {X : XT} {Y : YT} {l0 : Launch} {b : Nat} {Q : Mem → Prop} {μ : Mem} (C : Cx X Y 2 cX4_init RX4 WX4_init (rmC 1 12 3 168) l0) (hr : RVn X Y 2 cX4_init Q) (hI : YI Y) (h0 : isX4 Y b) (h : PSX4_init b μ Q) : G X Y 2 27 [(0, .ref (Y.ad b))] [] μ := by
  unfold PSX4_init at h
  replace h := h (SX4_init_29 X Y b) (fun v1 μ z => tX4_init_29 C hr hI h0 v1 μ z)
  refine g_iconst C (v := (0 : Int32)) dX4_init_27 (by decide) ?_
  refine g_istore_n C [(1, .int ((0 : Int32))), (0, .ref (Y.ad b))] dX4_init_28 (by decide) rfl ?_
  refine g_lv (lv2 := [(0, .ref (Y.ad b)), (1, .int ((0 : Int32)))]) [1, 0] ?_ rfl
  exact h
set_option maxRecDepth 20000 in
set_option maxHeartbeats 8000000 in
theorem ok_X4_init {Y : YT} {l0 : Launch} {b : Nat} {μ : Mem} {Q : Mem → Prop} (hI : YI Y) (hN : Y.N = b + 1) (hS : Y.sh b = fX4) (h : PX4_init b μ Q) : MC l0 yX4_init WX4_init 1 12 3 168 Y b μ (fun Y' μ' => Y'.N = b + 4 ∧ isX4 Y' b ∧ Q μ') := by
  refine mC_of (cc := cX4_init) (maxL := 2) (by decide +kernel) rfl rfl hI (by decide) (fun X C hXa hXi hr => ?_)
  replace C : Cx (xset X 0 0) Y 2 cX4_init RX4 WX4_init (rmC 1 12 3 168) l0 := C
  obtain ⟨x0, hx0⟩ : ∃ x0, Y.ad b = x0 := ⟨_, rfl⟩
  rw [hx0]
  unfold PX4_init at h
  refine g_aload_n C 0 dX4_init_0 rfl ?_
  refine g_obj C (List.mem_cons_of_mem _ mM_RX4_3) (List.mem_cons_of_mem _ mObj_i) (List.mem_cons_of_mem _ mObj_c) (by decide) (by decide) dX4_init_1 ?_
  refine g_aload_n C 0 dX4_init_4 rfl ?_
  refine g_iconst C (v := (4 : Int32)) dX4_init_5 (by decide) ?_
  refine g_newA C hXa (id := b + 1) hN .int .int rfl (List.mem_cons_of_mem _ mArr_I) Y.cI 0 rfl (fun _ _ z => z) rfl (k := 4) (by decide) (by decide) (by decide) (by decide) (by decide) dX4_init_6 (fun Y1 x2 C3 K4 n5 a6 s7 => ?_)
  have a8 := (K4.2.2.1 b (lt_N0 hN (by decide))).trans hx0
  have s9 := (K4.2.2.2 b (lt_N0 hN (by decide)) (nb_l (by decide))).trans hS
  have f10 := isI_new s7 K4 n5
  have k11 := keep_tr (b := b) (keep_rf) K4 (Or.inr (ge_N hN (by decide)))
  have n12 : Y1.N = b + 2 := n5
  refine g_putR C3 hXi (i := b) (ty := (.array .int)) (ty0 := tyX4) (k := 0) (Nc := 3) (Cn := RX4) (T := TX4) (ci := 4) (lt_N0 n12 (by decide)) a8 s9 rfl rfl (fun w hw => List.mem_cons_of_mem _ (inX4 w hw)) tyX4_ok nmX4 (by decide) (List.mem_cons_of_mem _ mF_RX4_9) rfl rfl rfl rfl rfl rfl (by decide : 0 < 3) (rt (fun c => [.ref x2, .null, .null]) 4) rfl dX4_init_8 (fun Y13 C14 K15 n16 a17 s18 => ?_)
  have f19 := isI_tr f10 K15 (nb_r (by decide))
  have a20 := (K15.2.2.1 (b + 1) (lt_N n12 (by decide))).trans a6
  have a21 := (K15.2.2.1 b (lt_N0 n12 (by decide))).trans a8
  have k22 := keep_tr (b := b) k11 K15 (Or.inl rfl)
  have n23 : Y13.N = b + 2 := n16.trans n12
  refine g_aload_n C14 0 dX4_init_11 rfl ?_
  refine g_iconst C14 (v := (4 : Int32)) dX4_init_12 (by decide) ?_
  refine g_newA C14 hXa (id := b + 2) n23 .int .int rfl (List.mem_cons_of_mem _ mArr_I) Y13.cI 0 rfl (fun _ _ z => z) rfl (k := 4) (by decide) (by decide) (by decide) (by decide) (by decide) dX4_init_13 (fun Y24 x25 C26 K27 n28 a29 s30 => ?_)
  have f31 := isI_tr f19 K27 (nb_ (by decide))
  have a32 := (K27.2.2.1 (b + 1) (lt_N n23 (by decide))).trans a20
  have a33 := (K27.2.2.1 b (lt_N0 n23 (by decide))).trans a17
  have s34 := (K27.2.2.2 b (lt_N0 n23 (by decide)) (nb_l (by decide))).trans s18
  have f35 := isI_new s30 K27 n28
  have k36 := keep_tr (b := b) k22 K27 (Or.inr (ge_N hN (by decide)))
  have n37 : Y24.N = b + 3 := n28
  refine g_putR C26 hXi (i := b) (ty := (.array .int)) (ty0 := tyX4) (k := 1) (Nc := 3) (Cn := RX4) (T := TX4) (ci := 4) (lt_N0 n37 (by decide)) a33 s34 rfl rfl (fun w hw => List.mem_cons_of_mem _ (inX4 w hw)) tyX4_ok nmX4 (by decide) (List.mem_cons_of_mem _ mF_RX4_15) rfl rfl rfl rfl rfl rfl (by decide : 1 < 3) (rt (fun c => [.ref x2, .ref x25, .null]) 4) rfl dX4_init_15 (fun Y38 C39 K40 n41 a42 s43 => ?_)
  have f44 := isI_tr f31 K40 (nb_r (by decide))
  have f45 := isI_tr f35 K40 (nb_r (by decide))
  have a46 := (K40.2.2.1 (b + 1) (lt_N n37 (by decide))).trans a32
  have a47 := (K40.2.2.1 (b + 2) (lt_N n37 (by decide))).trans a29
  have a48 := (K40.2.2.1 b (lt_N0 n37 (by decide))).trans a33
  have k49 := keep_tr (b := b) k36 K40 (Or.inl rfl)
  have n50 : Y38.N = b + 3 := n41.trans n37
  refine g_aload_n C39 0 dX4_init_18 rfl ?_
  refine g_sipush C39 (v := (160 : Int32)) dX4_init_19 (by decide) ?_
  refine g_newA C39 hXa (id := b + 3) n50 .int .int rfl (List.mem_cons_of_mem _ mArr_I) Y38.cI 0 rfl (fun _ _ z => z) rfl (k := 160) (by decide) (by decide) (by decide) (by decide) (by decide) dX4_init_22 (fun Y51 x52 C53 K54 n55 a56 s57 => ?_)
  have f58 := isI_tr f44 K54 (nb_ (by decide))
  have f59 := isI_tr f45 K54 (nb_ (by decide))
  have a60 := (K54.2.2.1 (b + 1) (lt_N n50 (by decide))).trans a46
  have a61 := (K54.2.2.1 (b + 2) (lt_N n50 (by decide))).trans a47
  have a62 := (K54.2.2.1 b (lt_N0 n50 (by decide))).trans a42
  have s63 := (K54.2.2.2 b (lt_N0 n50 (by decide)) (nb_l (by decide))).trans s43
  have f64 := isI_new s57 K54 n55
  have k65 := keep_tr (b := b) k49 K54 (Or.inr (ge_N hN (by decide)))
  have n66 : Y51.N = b + 4 := n55
  refine g_putR C53 hXi (i := b) (ty := (.array .int)) (ty0 := tyX4) (k := 2) (Nc := 3) (Cn := RX4) (T := TX4) (ci := 4) (lt_N0 n66 (by decide)) a62 s63 rfl rfl (fun w hw => List.mem_cons_of_mem _ (inX4 w hw)) tyX4_ok nmX4 (by decide) (List.mem_cons_of_mem _ mF_RX4_18) rfl rfl rfl rfl rfl rfl (by decide : 2 < 3) (rt (fun c => [.ref x2, .ref x25, .ref x52]) 4) rfl dX4_init_24 (fun Y67 C68 K69 n70 a71 s72 => ?_)
  have f73 := isI_tr f58 K69 (nb_r (by decide))
  have f74 := isI_tr f59 K69 (nb_r (by decide))
  have f75 := isI_tr f64 K69 (nb_r (by decide))
  have a76 := (K69.2.2.1 (b + 1) (lt_N n66 (by decide))).trans a60
  have a77 := (K69.2.2.1 (b + 2) (lt_N n66 (by decide))).trans a61
  have a78 := (K69.2.2.1 (b + 3) (lt_N n66 (by decide))).trans a56
  have a79 := (K69.2.2.1 b (lt_N0 n66 (by decide))).trans a62
  have k80 := keep_tr (b := b) k65 K69 (Or.inl rfl)
  have n81 : Y67.N = b + 4 := n70.trans n66
  have f82 : isX4 Y67 b := ⟨(lt_N0 n81 (by decide)), by rw [s72]; unfold sX4; rw [a76, a77, a78], f73, f74, f75⟩
  rw [← a71]
  exact sf_X4_init C68 (fun pc lv μ' hd q => hr pc lv Y67 μ' hd C68 k80 ⟨n81, f82, q⟩) (cx_YI C68) f82 h
set_option maxRecDepth 20000 in
set_option maxHeartbeats 4000000 in
theorem sf_X1_init {X : XT} {Y : YT} {l0 : Launch} {b : Nat} {Q : Mem → Prop} {μ : Mem} (C : Cx X Y 1 cX1_init RX1 WX1_init (rmC 3 63 14 600) l0) (hr : RVn X Y 1 cX1_init Q) (hI : YI Y) (h0 : isX1 Y b) (h : PSX1_init b μ Q) : G X Y 1 32 [(0, .ref (Y.ad b))] [] μ := by
  unfold PSX1_init at h
  exact hr _ _ _ dX1_init_32 h
set_option maxRecDepth 20000 in
set_option maxHeartbeats 8000000 in
theorem ok_X1_init {Y : YT} {l0 : Launch} {b : Nat} {μ : Mem} {Q : Mem → Prop} (hI : YI Y) (hN : Y.N = b + 1) (hS : Y.sh b = fX1) (h : PX1_init b μ Q) : MC l0 yX1_init WX1_init 3 63 14 600 Y b μ (fun Y' μ' => Y'.N = b + 15 ∧ isX1 Y' b ∧ Q μ') := by
  refine mC_of (cc := cX1_init) (maxL := 1) (by decide +kernel) rfl rfl hI (by decide) (fun X C hXa hXi hr => ?_)
  replace C : Cx (xset X 0 0) Y 1 cX1_init RX1 WX1_init (rmC 3 63 14 600) l0 := C
  obtain ⟨x0, hx0⟩ : ∃ x0, Y.ad b = x0 := ⟨_, rfl⟩
  rw [hx0]
  unfold PX1_init at h
  refine g_aload_n C 0 dX1_init_0 rfl ?_
  refine g_obj C (List.mem_cons_of_mem _ mM_RX1_3) (List.mem_cons_of_mem _ mObj_i) (List.mem_cons_of_mem _ mObj_c) (by decide) (by decide) dX1_init_1 ?_
  refine g_aload_n C 0 dX1_init_4 rfl ?_
  refine g_sipush C (v := (400 : Int32)) dX1_init_5 (by decide) ?_
  refine g_newA C hXa (id := b + 1) hN .byte .byte rfl (List.mem_cons_of_mem _ mArr_B) Y.cB 1 rfl (fun _ _ z => z) rfl (k := 400) (by decide) (by decide) (by decide) (by decide) (by decide) dX1_init_8 (fun Y1 x2 C3 K4 n5 a6 s7 => ?_)
  have a8 := (K4.2.2.1 b (lt_N0 hN (by decide))).trans hx0
  have s9 := (K4.2.2.2 b (lt_N0 hN (by decide)) (nb_l (by decide))).trans hS
  have f10 := isB_new s7 K4 n5
  have k11 := keep_tr (b := b) (keep_rf) K4 (Or.inr (ge_N hN (by decide)))
  have n12 : Y1.N = b + 2 := n5
  refine g_putR C3 hXi (i := b) (ty := (.array .byte)) (ty0 := tyX1) (k := 0) (Nc := 12) (Cn := RX1) (T := TX1) (ci := 1) (lt_N0 n12 (by decide)) a8 s9 rfl rfl (fun w hw => List.mem_cons_of_mem _ (inX1 w hw)) tyX1_ok nmX1 (by decide) (List.mem_cons_of_mem _ mF_RX1_9) rfl rfl rfl rfl rfl rfl (by decide : 0 < 12) (rt (fun c => [.ref x2, .int (c.1 1), .null, .int (c.1 3), .int (c.1 4), .int (c.1 5), .int (c.1 6), .int (c.1 7), .int (c.1 8), .int (c.1 9), .int (c.1 10), .null]) 1) rfl dX1_init_10 (fun Y13 C14 K15 n16 a17 s18 => ?_)
  have f19 := isB_tr f10 K15 (nb_r (by decide))
  have a20 := (K15.2.2.1 (b + 1) (lt_N n12 (by decide))).trans a6
  have a21 := (K15.2.2.1 b (lt_N0 n12 (by decide))).trans a8
  have k22 := keep_tr (b := b) k11 K15 (Or.inl rfl)
  have n23 : Y13.N = b + 2 := n16.trans n12
  refine g_aload_n C14 0 dX1_init_13 rfl ?_
  refine g_newO C14 hXa (id := b + 2) n23 (Cn := RX2) (T := TX2) (Nc := 16) (ci := 2) (ty := tyX2) (fun w hw => List.mem_cons_of_mem _ (inX2 w hw)) tyX2_ok (List.mem_cons_of_mem _ mCl_RX1_15) (List.mem_cons_of_mem _ mIns_X2) (List.mem_cons_of_mem _ mInit_RX2) rfl [.int 0, .null, .null, .null, .int 0, .null, .null, .null, .null, .null, .null, .null, .int 0, .int 0, .int 0, .null] dfX2 fX2 rfl (by decide) (by decide) dX1_init_14 (fun Y24 x25 C26 K27 n28 a29 s30 => ?_)
  have f31 := isB_tr f19 K27 (nb_ (by decide))
  have a32 := (K27.2.2.1 (b + 1) (lt_N n23 (by decide))).trans a20
  have a33 := (K27.2.2.1 b (lt_N0 n23 (by decide))).trans a17
  have s34 := (K27.2.2.2 b (lt_N0 n23 (by decide)) (nb_l (by decide))).trans s18
  have k35 := keep_tr (b := b) k22 K27 (Or.inr (ge_N hN (by decide)))
  have n36 : Y24.N = b + 3 := n28
  refine g_dup C26 dX1_init_17 rfl ?_
  refine g_callC C26 hXa (ok_X2_init (cx_YI C26) (b := b + 2) n36 s30 h) (lt_N n36 (by decide)) a29 (gw_cons mC_X2_init) rfl (List.mem_cons_of_mem _ mInit_RX2) (List.mem_cons_of_mem _ mM_RX1_17) (List.mem_cons_of_mem _ mI_X2_init) rfl dc_X2_init ⟨by decide, by decide⟩ (by decide) (by decide) (Nat.le_of_ble_eq_true rfl) dX1_init_18 (fun Y37 m38 C39 K40 p41 => ?_)
  obtain ⟨n42, f43, h⟩ := p41
  have f44 := isB_tr f31 K40 (nb_ (by decide))
  have a45 := (K40.2.2.1 (b + 1) (lt_N n36 (by decide))).trans a32
  have a46 := (K40.2.2.1 (b + 2) (lt_N n36 (by decide))).trans a29
  have a47 := (K40.2.2.1 b (lt_N0 n36 (by decide))).trans a33
  have s48 := (K40.2.2.2 b (lt_N0 n36 (by decide)) (nb_l (by decide))).trans s34
  have k49 := keep_tr (b := b) k35 K40 (Or.inr (ge_N hN (by decide)))
  have n50 : Y37.N = b + 14 := n42
  refine g_putR C39 hXi (i := b) (ty := (.object "NothingLeft$Rules")) (ty0 := tyX1) (k := 2) (Nc := 12) (Cn := RX1) (T := TX1) (ci := 1) (lt_N0 n50 (by decide)) a47 s48 rfl rfl (fun w hw => List.mem_cons_of_mem _ (inX1 w hw)) tyX1_ok nmX1 (by decide) (List.mem_cons_of_mem _ mF_RX1_18) rfl rfl rfl rfl rfl rfl (by decide : 2 < 12) (rt (fun c => [.ref x2, .int (c.1 1), .ref x25, .int (c.1 3), .int (c.1 4), .int (c.1 5), .int (c.1 6), .int (c.1 7), .int (c.1 8), .int (c.1 9), .int (c.1 10), .null]) 1) rfl dX1_init_21 (fun Y51 C52 K53 n54 a55 s56 => ?_)
  have f57 := isB_tr f44 K53 (nb_r (by decide))
  have f58 := isX2_tr f43 K53 (Or.inl (dj_l (by decide)))
  have a59 := (K53.2.2.1 (b + 1) (lt_N n50 (by decide))).trans a45
  have a60 := (K53.2.2.1 (b + 2) (lt_N n50 (by decide))).trans a46
  have a61 := (K53.2.2.1 b (lt_N0 n50 (by decide))).trans a47
  have k62 := keep_tr (b := b) k49 K53 (Or.inl rfl)
  have n63 : Y51.N = b + 14 := n54.trans n50
  refine g_aload_n C52 0 dX1_init_24 rfl ?_
  refine g_bipush C52 (v := (6 : Int32)) dX1_init_25 (by decide) ?_
  refine g_newA C52 hXa (id := b + 14) n63 .int .int rfl (List.mem_cons_of_mem _ mArr_I) Y51.cI 0 rfl (fun _ _ z => z) rfl (k := 6) (by decide) (by decide) (by decide) (by decide) (by decide) dX1_init_27 (fun Y64 x65 C66 K67 n68 a69 s70 => ?_)
  have f71 := isB_tr f57 K67 (nb_ (by decide))
  have f72 := isX2_tr f58 K67 (Or.inr (dj_r (by decide)))
  have a73 := (K67.2.2.1 (b + 1) (lt_N n63 (by decide))).trans a59
  have a74 := (K67.2.2.1 (b + 2) (lt_N n63 (by decide))).trans a60
  have a75 := (K67.2.2.1 b (lt_N0 n63 (by decide))).trans a55
  have s76 := (K67.2.2.2 b (lt_N0 n63 (by decide)) (nb_l (by decide))).trans s56
  have f77 := isI_new s70 K67 n68
  have k78 := keep_tr (b := b) k62 K67 (Or.inr (ge_N hN (by decide)))
  have n79 : Y64.N = b + 15 := n68
  refine g_putR C66 hXi (i := b) (ty := (.array .int)) (ty0 := tyX1) (k := 11) (Nc := 12) (Cn := RX1) (T := TX1) (ci := 1) (lt_N0 n79 (by decide)) a75 s76 rfl rfl (fun w hw => List.mem_cons_of_mem _ (inX1 w hw)) tyX1_ok nmX1 (by decide) (List.mem_cons_of_mem _ mF_RX1_22) rfl rfl rfl rfl rfl rfl (by decide : 11 < 12) (rt (fun c => [.ref x2, .int (c.1 1), .ref x25, .int (c.1 3), .int (c.1 4), .int (c.1 5), .int (c.1 6), .int (c.1 7), .int (c.1 8), .int (c.1 9), .int (c.1 10), .ref x65]) 1) rfl dX1_init_29 (fun Y80 C81 K82 n83 a84 s85 => ?_)
  have f86 := isB_tr f71 K82 (nb_r (by decide))
  have f87 := isX2_tr f72 K82 (Or.inl (dj_l (by decide)))
  have f88 := isI_tr f77 K82 (nb_r (by decide))
  have a89 := (K82.2.2.1 (b + 1) (lt_N n79 (by decide))).trans a73
  have a90 := (K82.2.2.1 (b + 2) (lt_N n79 (by decide))).trans a74
  have a91 := (K82.2.2.1 (b + 14) (lt_N n79 (by decide))).trans a69
  have a92 := (K82.2.2.1 b (lt_N0 n79 (by decide))).trans a75
  have k93 := keep_tr (b := b) k78 K82 (Or.inl rfl)
  have n94 : Y80.N = b + 15 := n83.trans n79
  have f95 : isX1 Y80 b := ⟨(lt_N0 n94 (by decide)), by rw [s85]; unfold sX1; rw [a89, a90, a91], f86, f87, f88⟩
  rw [← a84]
  exact sf_X1_init C81 (fun pc lv μ' hd q => hr pc lv Y80 μ' hd C81 k93 ⟨n94, f95, q⟩) (cx_YI C81) f95 h
set_option maxRecDepth 20000 in
set_option maxHeartbeats 4000000 in
theorem sf_X5_init {X : XT} {Y : YT} {l0 : Launch} {b : Nat} {Q : Mem → Prop} {μ : Mem} (C : Cx X Y 1 cX5_init RX5 WX5_init (rmC 3 61 4 47) l0) (hr : RVn X Y 1 cX5_init Q) (hI : YI Y) (h0 : isX5 Y b) (h : PSX5_init b μ Q) : G X Y 1 15 [(0, .ref (Y.ad b))] [] μ := by
  unfold PSX5_init at h
  exact hr _ _ _ dX5_init_15 h
set_option maxRecDepth 20000 in
set_option maxHeartbeats 8000000 in
theorem ok_X5_init {Y : YT} {l0 : Launch} {b : Nat} {μ : Mem} {Q : Mem → Prop} (hI : YI Y) (hN : Y.N = b + 1) (hS : Y.sh b = fX5) (h : PX5_init b μ Q) : MC l0 yX5_init WX5_init 3 61 4 47 Y b μ (fun Y' μ' => Y'.N = b + 5 ∧ isX5 Y' b ∧ Q μ') := by
  refine mC_of (cc := cX5_init) (maxL := 1) (by decide +kernel) rfl rfl hI (by decide) (fun X C hXa hXi hr => ?_)
  replace C : Cx (xset X 0 0) Y 1 cX5_init RX5 WX5_init (rmC 3 61 4 47) l0 := C
  obtain ⟨x0, hx0⟩ : ∃ x0, Y.ad b = x0 := ⟨_, rfl⟩
  rw [hx0]
  unfold PX5_init at h
  refine g_aload_n C 0 dX5_init_0 rfl ?_
  refine g_obj C (List.mem_cons_of_mem _ mM_RX5_3) (List.mem_cons_of_mem _ mObj_i) (List.mem_cons_of_mem _ mObj_c) (by decide) (by decide) dX5_init_1 ?_
  refine g_aload_n C 0 dX5_init_4 rfl ?_
  refine g_newO C hXa (id := b + 1) hN (Cn := RX0) (T := TX0) (Nc := 8) (ci := 0) (ty := tyX0) (fun w hw => List.mem_cons_of_mem _ (inX0 w hw)) tyX0_ok (List.mem_cons_of_mem _ mCl_RX5_9) (List.mem_cons_of_mem _ mIns_X0) (List.mem_cons_of_mem _ mInit_RX0) rfl [.null, .null, .int 0, .int 0, .int 0, .int 0, .int 0, .null] dfX0 fX0 rfl (by decide) (by decide) dX5_init_5 (fun Y1 x2 C3 K4 n5 a6 s7 => ?_)
  have a8 := (K4.2.2.1 b (lt_N0 hN (by decide))).trans hx0
  have s9 := (K4.2.2.2 b (lt_N0 hN (by decide)) (nb_l (by decide))).trans hS
  have k10 := keep_tr (b := b) (keep_rf) K4 (Or.inr (ge_N hN (by decide)))
  have n11 : Y1.N = b + 2 := n5
  refine g_dup C3 dX5_init_8 rfl ?_
  refine g_callC C3 hXa (ok_X0_init (cx_YI C3) (b := b + 1) n11 s7 h) (lt_N n11 (by decide)) a6 (gw_cons mC_X0_init) rfl (List.mem_cons_of_mem _ mInit_RX0) (List.mem_cons_of_mem _ mM_RX5_11) (List.mem_cons_of_mem _ mI_X0_init) rfl dc_X0_init ⟨by decide, by decide⟩ (by decide) (by decide) (Nat.le_of_ble_eq_true rfl) dX5_init_9 (fun Y12 m13 C14 K15 p16 => ?_)
  obtain ⟨n17, f18, h⟩ := p16
  have a19 := (K15.2.2.1 (b + 1) (lt_N n11 (by decide))).trans a6
  have a20 := (K15.2.2.1 b (lt_N0 n11 (by decide))).trans a8
  have s21 := (K15.2.2.2 b (lt_N0 n11 (by decide)) (nb_l (by decide))).trans s9
  have k22 := keep_tr (b := b) k10 K15 (Or.inr (ge_N hN (by decide)))
  have n23 : Y12.N = b + 5 := n17
  refine g_putR C14 hXi (i := b) (ty := (.object "NothingLeft$Kitchen")) (ty0 := tyX5) (k := 0) (Nc := 2) (Cn := RX5) (T := TX5) (ci := 5) (lt_N0 n23 (by decide)) a20 s21 rfl rfl (fun w hw => List.mem_cons_of_mem _ (inX5 w hw)) tyX5_ok nmX5 (by decide) (List.mem_cons_of_mem _ mF_RX5_12) rfl rfl rfl rfl rfl rfl (by decide : 0 < 2) (rt (fun c => [.ref x2, .int (c.1 1)]) 5) rfl dX5_init_12 (fun Y24 C25 K26 n27 a28 s29 => ?_)
  have f30 := isX0_tr f18 K26 (Or.inl (dj_l (by decide)))
  have a31 := (K26.2.2.1 (b + 1) (lt_N n23 (by decide))).trans a19
  have a32 := (K26.2.2.1 b (lt_N0 n23 (by decide))).trans a20
  have k33 := keep_tr (b := b) k22 K26 (Or.inl rfl)
  have n34 : Y24.N = b + 5 := n27.trans n23
  have f35 : isX5 Y24 b := ⟨(lt_N0 n34 (by decide)), by rw [s29]; unfold sX5; rw [a31], f30⟩
  rw [← a28]
  exact sf_X5_init C25 (fun pc lv μ' hd q => hr pc lv Y24 μ' hd C25 k33 ⟨n34, f35, q⟩) (cx_YI C25) f35 h
set_option maxRecDepth 20000 in
set_option maxHeartbeats 4000000 in
theorem sf_X3_init {X : XT} {Y : YT} {l0 : Launch} {b : Nat} {Q : Mem → Prop} {μ : Mem} (C : Cx X Y 1 cX3_init RX3 WX3_init (rmC 4 81 35 362) l0) (hr : RVn X Y 1 cX3_init Q) (hI : YI Y) (h0 : isX3 Y b) (h : PSX3_init b μ Q) : G X Y 1 119 [(0, .ref (Y.ad b))] [] μ := by
  unfold PSX3_init at h
  exact hr _ _ _ dX3_init_119 h
set_option maxRecDepth 20000 in
set_option maxHeartbeats 8000000 in
theorem ok_X3_init {Y : YT} {l0 : Launch} {b : Nat} {μ : Mem} {Q : Mem → Prop} (hI : YI Y) (hN : Y.N = b + 1) (hS : Y.sh b = fX3) (h : PX3_init b μ Q) : MC l0 yX3_init WX3_init 4 81 35 362 Y b μ (fun Y' μ' => Y'.N = b + 36 ∧ isX3 Y' b ∧ Q μ') := by
  refine mC_of (cc := cX3_init) (maxL := 1) (by decide +kernel) rfl rfl hI (by decide) (fun X C hXa hXi hr => ?_)
  replace C : Cx (xset X 0 0) Y 1 cX3_init RX3 WX3_init (rmC 4 81 35 362) l0 := C
  obtain ⟨x0, hx0⟩ : ∃ x0, Y.ad b = x0 := ⟨_, rfl⟩
  rw [hx0]
  unfold PX3_init at h
  refine g_aload_n C 0 dX3_init_0 rfl ?_
  refine g_obj C (List.mem_cons_of_mem _ mM_RX3_3) (List.mem_cons_of_mem _ mObj_i) (List.mem_cons_of_mem _ mObj_c) (by decide) (by decide) dX3_init_1 ?_
  refine g_aload_n C 0 dX3_init_4 rfl ?_
  refine g_bipush C (v := (6 : Int32)) dX3_init_5 (by decide) ?_
  refine g_newQ C hXa (id := b + 1) hN (List.mem_cons_of_mem _ mCl_RX3_9) (k := 6) (by decide) (by decide) (by decide) (by decide) (by decide) dX3_init_7 (fun Y1 x2 C3 K4 n5 a6 s7 => ?_)
  have a8 := (K4.2.2.1 b (lt_N0 hN (by decide))).trans hx0
  have s9 := (K4.2.2.2 b (lt_N0 hN (by decide)) (nb_l (by decide))).trans hS
  have k10 := keep_tr (b := b) (keep_rf) K4 (Or.inr (ge_N hN (by decide)))
  have s11 : Y1.sh (b + 1) = sO Y1.cK 6 (fun _ => none) := by rw [s7]; show sO Y.2.1.2.2.2 _ _ = sO Y1.2.1.2.2.2 _ _; rw [K4.1.2.1]
  have n12 : Y1.N = b + 2 := n5
  refine g_dup C3 dX3_init_10 rfl ?_
  refine g_iconst C3 (v := (0 : Int32)) dX3_init_11 (by decide) ?_
  refine g_newO C3 hXa (id := b + 2) n12 (Cn := RX0) (T := TX0) (Nc := 8) (ci := 0) (ty := tyX0) (fun w hw => List.mem_cons_of_mem _ (inX0 w hw)) tyX0_ok (List.mem_cons_of_mem _ mCl_RX3_9) (List.mem_cons_of_mem _ mIns_X0) (List.mem_cons_of_mem _ mInit_RX0) rfl [.null, .null, .int 0, .int 0, .int 0, .int 0, .int 0, .null] dfX0 fX0 rfl (by decide) (by decide) dX3_init_12 (fun Y13 x14 C15 K16 n17 a18 s19 => ?_)
  have a20 := (K16.2.2.1 (b + 1) (lt_N n12 (by decide))).trans a6
  have a21 := (K16.2.2.1 b (lt_N0 n12 (by decide))).trans a8
  have s22 := (K16.2.2.2 b (lt_N0 n12 (by decide)) (nb_l (by decide))).trans s9
  have s23 : Y13.sh (b + 1) = sO Y13.cK 6 (fun _ => none) := by rw [K16.2.2.2 (b + 1) (lt_N n12 (by decide)) (nb_ (by decide)), s11]; show sO Y1.2.1.2.2.2 _ _ = sO Y13.2.1.2.2.2 _ _; rw [K16.1.2.1]
  have k24 := keep_tr (b := b) k10 K16 (Or.inr (ge_N hN (by decide)))
  have n25 : Y13.N = b + 3 := n17
  refine g_dup C15 dX3_init_15 rfl ?_
  refine g_callC C15 hXa (ok_X0_init (cx_YI C15) (b := b + 2) n25 s19 h) (lt_N n25 (by decide)) a18 (gw_cons mC_X0_init) rfl (List.mem_cons_of_mem _ mInit_RX0) (List.mem_cons_of_mem _ mM_RX3_11) (List.mem_cons_of_mem _ mI_X0_init) rfl dc_X0_init ⟨by decide, by decide⟩ (by decide) (by decide) (Nat.le_of_ble_eq_true rfl) dX3_init_16 (fun Y26 m27 C28 K29 p30 => ?_)
  obtain ⟨n31, f32, h⟩ := p30
  have a33 := (K29.2.2.1 (b + 1) (lt_N n25 (by decide))).trans a20
  have a34 := (K29.2.2.1 (b + 2) (lt_N n25 (by decide))).trans a18
  have a35 := (K29.2.2.1 b (lt_N0 n25 (by decide))).trans a21
  have s36 := (K29.2.2.2 b (lt_N0 n25 (by decide)) (nb_l (by decide))).trans s22
  have s37 : Y26.sh (b + 1) = sO Y26.cK 6 (fun _ => none) := by rw [K29.2.2.2 (b + 1) (lt_N n25 (by decide)) (nb_ (by decide)), s23]; show sO Y13.2.1.2.2.2 _ _ = sO Y26.2.1.2.2.2 _ _; rw [K29.1.2.1]
  have k38 := keep_tr (b := b) k24 K29 (Or.inr (ge_N hN (by decide)))
  have n39 : Y26.N = b + 6 := n31
  refine g_astq C28 (a := b + 1) (b := b + 2) (n := 6) (f := (fun _ => none)) (lt_N n39 (by decide)) a33 s37 (lt_N n39 (by decide)) a34 (by rw [isX0_sh f32]; rfl) (by unfold vp_in; decide) dX3_init_19 (fun Y40 C41 K42 n43 a44 s45 => ?_)
  have f46 := isX0_tr f32 K42 (Or.inl (dj_m (by decide)))
  have a47 := (K42.2.2.1 (b + 2) (lt_N n39 (by decide))).trans a34
  have a48 := (K42.2.2.1 b (lt_N0 n39 (by decide))).trans a35
  have s49 := (K42.2.2.2 b (lt_N0 n39 (by decide)) (nb_l (by decide))).trans s36
  have s50 : Y40.sh (b + 1) = sO Y40.cK 6 (va_up (fun _ => none) (0 : Int32).toNatClampNeg (some x14)) := by rw [s45]; show sO Y26.2.1.2.2.2 _ _ = sO Y40.2.1.2.2.2 _ _; rw [K42.1.2.1]
  have k51 := keep_tr (b := b) k38 K42 (Or.inr (ge_N hN (by decide)))
  have n52 : Y40.N = b + 6 := n43.trans n39
  refine g_dup C41 dX3_init_20 rfl ?_
  refine g_iconst C41 (v := (1 : Int32)) dX3_init_21 (by decide) ?_
  refine g_newO C41 hXa (id := b + 6) n52 (Cn := RX0) (T := TX0) (Nc := 8) (ci := 0) (ty := tyX0) (fun w hw => List.mem_cons_of_mem _ (inX0 w hw)) tyX0_ok (List.mem_cons_of_mem _ mCl_RX3_9) (List.mem_cons_of_mem _ mIns_X0) (List.mem_cons_of_mem _ mInit_RX0) rfl [.null, .null, .int 0, .int 0, .int 0, .int 0, .int 0, .null] dfX0 fX0 rfl (by decide) (by decide) dX3_init_22 (fun Y53 x54 C55 K56 n57 a58 s59 => ?_)
  have f60 := isX0_tr f46 K56 (Or.inr (dj_r (by decide)))
  have a61 := (K56.2.2.1 (b + 2) (lt_N n52 (by decide))).trans a47
  have a62 := (K56.2.2.1 (b + 1) (lt_N n52 (by decide))).trans a44
  have a63 := (K56.2.2.1 b (lt_N0 n52 (by decide))).trans a48
  have s64 := (K56.2.2.2 b (lt_N0 n52 (by decide)) (nb_l (by decide))).trans s49
  have s65 : Y53.sh (b + 1) = sO Y53.cK 6 (va_up (fun _ => none) (0 : Int32).toNatClampNeg (some x14)) := by rw [K56.2.2.2 (b + 1) (lt_N n52 (by decide)) (nb_ (by decide)), s50]; show sO Y40.2.1.2.2.2 _ _ = sO Y53.2.1.2.2.2 _ _; rw [K56.1.2.1]
  have k66 := keep_tr (b := b) k51 K56 (Or.inr (ge_N hN (by decide)))
  have n67 : Y53.N = b + 7 := n57
  refine g_dup C55 dX3_init_25 rfl ?_
  refine g_callC C55 hXa (ok_X0_init (cx_YI C55) (b := b + 6) n67 s59 h) (lt_N n67 (by decide)) a58 (gw_cons mC_X0_init) rfl (List.mem_cons_of_mem _ mInit_RX0) (List.mem_cons_of_mem _ mM_RX3_11) (List.mem_cons_of_mem _ mI_X0_init) rfl dc_X0_init ⟨by decide, by decide⟩ (by decide) (by decide) (Nat.le_of_ble_eq_true rfl) dX3_init_26 (fun Y68 m69 C70 K71 p72 => ?_)
  obtain ⟨n73, f74, h⟩ := p72
  have f75 := isX0_tr f60 K71 (Or.inr (dj_r (by decide)))
  have a76 := (K71.2.2.1 (b + 2) (lt_N n67 (by decide))).trans a61
  have a77 := (K71.2.2.1 (b + 1) (lt_N n67 (by decide))).trans a62
  have a78 := (K71.2.2.1 (b + 6) (lt_N n67 (by decide))).trans a58
  have a79 := (K71.2.2.1 b (lt_N0 n67 (by decide))).trans a63
  have s80 := (K71.2.2.2 b (lt_N0 n67 (by decide)) (nb_l (by decide))).trans s64
  have s81 : Y68.sh (b + 1) = sO Y68.cK 6 (va_up (fun _ => none) (0 : Int32).toNatClampNeg (some x14)) := by rw [K71.2.2.2 (b + 1) (lt_N n67 (by decide)) (nb_ (by decide)), s65]; show sO Y53.2.1.2.2.2 _ _ = sO Y68.2.1.2.2.2 _ _; rw [K71.1.2.1]
  have k82 := keep_tr (b := b) k66 K71 (Or.inr (ge_N hN (by decide)))
  have n83 : Y68.N = b + 10 := n73
  refine g_astq C70 (a := b + 1) (b := b + 6) (n := 6) (f := (va_up (fun _ => none) (0 : Int32).toNatClampNeg (some x14))) (lt_N n83 (by decide)) a77 s81 (lt_N n83 (by decide)) a78 (by rw [isX0_sh f74]; rfl) (by unfold vp_in; decide) dX3_init_29 (fun Y84 C85 K86 n87 a88 s89 => ?_)
  have f90 := isX0_tr f75 K86 (Or.inl (dj_m (by decide)))
  have f91 := isX0_tr f74 K86 (Or.inl (dj_m (by decide)))
  have a92 := (K86.2.2.1 (b + 2) (lt_N n83 (by decide))).trans a76
  have a93 := (K86.2.2.1 (b + 6) (lt_N n83 (by decide))).trans a78
  have a94 := (K86.2.2.1 b (lt_N0 n83 (by decide))).trans a79
  have s95 := (K86.2.2.2 b (lt_N0 n83 (by decide)) (nb_l (by decide))).trans s80
  have s96 : Y84.sh (b + 1) = sO Y84.cK 6 (va_up (va_up (fun _ => none) (0 : Int32).toNatClampNeg (some x14)) (1 : Int32).toNatClampNeg (some x54)) := by rw [s89]; show sO Y68.2.1.2.2.2 _ _ = sO Y84.2.1.2.2.2 _ _; rw [K86.1.2.1]
  have k97 := keep_tr (b := b) k82 K86 (Or.inr (ge_N hN (by decide)))
  have n98 : Y84.N = b + 10 := n87.trans n83
  refine g_dup C85 dX3_init_30 rfl ?_
  refine g_iconst C85 (v := (2 : Int32)) dX3_init_31 (by decide) ?_
  refine g_newO C85 hXa (id := b + 10) n98 (Cn := RX0) (T := TX0) (Nc := 8) (ci := 0) (ty := tyX0) (fun w hw => List.mem_cons_of_mem _ (inX0 w hw)) tyX0_ok (List.mem_cons_of_mem _ mCl_RX3_9) (List.mem_cons_of_mem _ mIns_X0) (List.mem_cons_of_mem _ mInit_RX0) rfl [.null, .null, .int 0, .int 0, .int 0, .int 0, .int 0, .null] dfX0 fX0 rfl (by decide) (by decide) dX3_init_32 (fun Y99 x100 C101 K102 n103 a104 s105 => ?_)
  have f106 := isX0_tr f90 K102 (Or.inr (dj_r (by decide)))
  have f107 := isX0_tr f91 K102 (Or.inr (dj_r (by decide)))
  have a108 := (K102.2.2.1 (b + 2) (lt_N n98 (by decide))).trans a92
  have a109 := (K102.2.2.1 (b + 6) (lt_N n98 (by decide))).trans a93
  have a110 := (K102.2.2.1 (b + 1) (lt_N n98 (by decide))).trans a88
  have a111 := (K102.2.2.1 b (lt_N0 n98 (by decide))).trans a94
  have s112 := (K102.2.2.2 b (lt_N0 n98 (by decide)) (nb_l (by decide))).trans s95
  have s113 : Y99.sh (b + 1) = sO Y99.cK 6 (va_up (va_up (fun _ => none) (0 : Int32).toNatClampNeg (some x14)) (1 : Int32).toNatClampNeg (some x54)) := by rw [K102.2.2.2 (b + 1) (lt_N n98 (by decide)) (nb_ (by decide)), s96]; show sO Y84.2.1.2.2.2 _ _ = sO Y99.2.1.2.2.2 _ _; rw [K102.1.2.1]
  have k114 := keep_tr (b := b) k97 K102 (Or.inr (ge_N hN (by decide)))
  have n115 : Y99.N = b + 11 := n103
  refine g_dup C101 dX3_init_35 rfl ?_
  refine g_callC C101 hXa (ok_X0_init (cx_YI C101) (b := b + 10) n115 s105 h) (lt_N n115 (by decide)) a104 (gw_cons mC_X0_init) rfl (List.mem_cons_of_mem _ mInit_RX0) (List.mem_cons_of_mem _ mM_RX3_11) (List.mem_cons_of_mem _ mI_X0_init) rfl dc_X0_init ⟨by decide, by decide⟩ (by decide) (by decide) (Nat.le_of_ble_eq_true rfl) dX3_init_36 (fun Y116 m117 C118 K119 p120 => ?_)
  obtain ⟨n121, f122, h⟩ := p120
  have f123 := isX0_tr f106 K119 (Or.inr (dj_r (by decide)))
  have f124 := isX0_tr f107 K119 (Or.inr (dj_r (by decide)))
  have a125 := (K119.2.2.1 (b + 2) (lt_N n115 (by decide))).trans a108
  have a126 := (K119.2.2.1 (b + 6) (lt_N n115 (by decide))).trans a109
  have a127 := (K119.2.2.1 (b + 1) (lt_N n115 (by decide))).trans a110
  have a128 := (K119.2.2.1 (b + 10) (lt_N n115 (by decide))).trans a104
  have a129 := (K119.2.2.1 b (lt_N0 n115 (by decide))).trans a111
  have s130 := (K119.2.2.2 b (lt_N0 n115 (by decide)) (nb_l (by decide))).trans s112
  have s131 : Y116.sh (b + 1) = sO Y116.cK 6 (va_up (va_up (fun _ => none) (0 : Int32).toNatClampNeg (some x14)) (1 : Int32).toNatClampNeg (some x54)) := by rw [K119.2.2.2 (b + 1) (lt_N n115 (by decide)) (nb_ (by decide)), s113]; show sO Y99.2.1.2.2.2 _ _ = sO Y116.2.1.2.2.2 _ _; rw [K119.1.2.1]
  have k132 := keep_tr (b := b) k114 K119 (Or.inr (ge_N hN (by decide)))
  have n133 : Y116.N = b + 14 := n121
  refine g_astq C118 (a := b + 1) (b := b + 10) (n := 6) (f := (va_up (va_up (fun _ => none) (0 : Int32).toNatClampNeg (some x14)) (1 : Int32).toNatClampNeg (some x54))) (lt_N n133 (by decide)) a127 s131 (lt_N n133 (by decide)) a128 (by rw [isX0_sh f122]; rfl) (by unfold vp_in; decide) dX3_init_39 (fun Y134 C135 K136 n137 a138 s139 => ?_)
  have f140 := isX0_tr f123 K136 (Or.inl (dj_m (by decide)))
  have f141 := isX0_tr f124 K136 (Or.inl (dj_m (by decide)))
  have f142 := isX0_tr f122 K136 (Or.inl (dj_m (by decide)))
  have a143 := (K136.2.2.1 (b + 2) (lt_N n133 (by decide))).trans a125
  have a144 := (K136.2.2.1 (b + 6) (lt_N n133 (by decide))).trans a126
  have a145 := (K136.2.2.1 (b + 10) (lt_N n133 (by decide))).trans a128
  have a146 := (K136.2.2.1 b (lt_N0 n133 (by decide))).trans a129
  have s147 := (K136.2.2.2 b (lt_N0 n133 (by decide)) (nb_l (by decide))).trans s130
  have s148 : Y134.sh (b + 1) = sO Y134.cK 6 (va_up (va_up (va_up (fun _ => none) (0 : Int32).toNatClampNeg (some x14)) (1 : Int32).toNatClampNeg (some x54)) (2 : Int32).toNatClampNeg (some x100)) := by rw [s139]; show sO Y116.2.1.2.2.2 _ _ = sO Y134.2.1.2.2.2 _ _; rw [K136.1.2.1]
  have k149 := keep_tr (b := b) k132 K136 (Or.inr (ge_N hN (by decide)))
  have n150 : Y134.N = b + 14 := n137.trans n133
  refine g_dup C135 dX3_init_40 rfl ?_
  refine g_iconst C135 (v := (3 : Int32)) dX3_init_41 (by decide) ?_
  refine g_newO C135 hXa (id := b + 14) n150 (Cn := RX0) (T := TX0) (Nc := 8) (ci := 0) (ty := tyX0) (fun w hw => List.mem_cons_of_mem _ (inX0 w hw)) tyX0_ok (List.mem_cons_of_mem _ mCl_RX3_9) (List.mem_cons_of_mem _ mIns_X0) (List.mem_cons_of_mem _ mInit_RX0) rfl [.null, .null, .int 0, .int 0, .int 0, .int 0, .int 0, .null] dfX0 fX0 rfl (by decide) (by decide) dX3_init_42 (fun Y151 x152 C153 K154 n155 a156 s157 => ?_)
  have f158 := isX0_tr f140 K154 (Or.inr (dj_r (by decide)))
  have f159 := isX0_tr f141 K154 (Or.inr (dj_r (by decide)))
  have f160 := isX0_tr f142 K154 (Or.inr (dj_r (by decide)))
  have a161 := (K154.2.2.1 (b + 2) (lt_N n150 (by decide))).trans a143
  have a162 := (K154.2.2.1 (b + 6) (lt_N n150 (by decide))).trans a144
  have a163 := (K154.2.2.1 (b + 10) (lt_N n150 (by decide))).trans a145
  have a164 := (K154.2.2.1 (b + 1) (lt_N n150 (by decide))).trans a138
  have a165 := (K154.2.2.1 b (lt_N0 n150 (by decide))).trans a146
  have s166 := (K154.2.2.2 b (lt_N0 n150 (by decide)) (nb_l (by decide))).trans s147
  have s167 : Y151.sh (b + 1) = sO Y151.cK 6 (va_up (va_up (va_up (fun _ => none) (0 : Int32).toNatClampNeg (some x14)) (1 : Int32).toNatClampNeg (some x54)) (2 : Int32).toNatClampNeg (some x100)) := by rw [K154.2.2.2 (b + 1) (lt_N n150 (by decide)) (nb_ (by decide)), s148]; show sO Y134.2.1.2.2.2 _ _ = sO Y151.2.1.2.2.2 _ _; rw [K154.1.2.1]
  have k168 := keep_tr (b := b) k149 K154 (Or.inr (ge_N hN (by decide)))
  have n169 : Y151.N = b + 15 := n155
  refine g_dup C153 dX3_init_45 rfl ?_
  refine g_callC C153 hXa (ok_X0_init (cx_YI C153) (b := b + 14) n169 s157 h) (lt_N n169 (by decide)) a156 (gw_cons mC_X0_init) rfl (List.mem_cons_of_mem _ mInit_RX0) (List.mem_cons_of_mem _ mM_RX3_11) (List.mem_cons_of_mem _ mI_X0_init) rfl dc_X0_init ⟨by decide, by decide⟩ (by decide) (by decide) (Nat.le_of_ble_eq_true rfl) dX3_init_46 (fun Y170 m171 C172 K173 p174 => ?_)
  obtain ⟨n175, f176, h⟩ := p174
  have f177 := isX0_tr f158 K173 (Or.inr (dj_r (by decide)))
  have f178 := isX0_tr f159 K173 (Or.inr (dj_r (by decide)))
  have f179 := isX0_tr f160 K173 (Or.inr (dj_r (by decide)))
  have a180 := (K173.2.2.1 (b + 2) (lt_N n169 (by decide))).trans a161
  have a181 := (K173.2.2.1 (b + 6) (lt_N n169 (by decide))).trans a162
  have a182 := (K173.2.2.1 (b + 10) (lt_N n169 (by decide))).trans a163
  have a183 := (K173.2.2.1 (b + 1) (lt_N n169 (by decide))).trans a164
  have a184 := (K173.2.2.1 (b + 14) (lt_N n169 (by decide))).trans a156
  have a185 := (K173.2.2.1 b (lt_N0 n169 (by decide))).trans a165
  have s186 := (K173.2.2.2 b (lt_N0 n169 (by decide)) (nb_l (by decide))).trans s166
  have s187 : Y170.sh (b + 1) = sO Y170.cK 6 (va_up (va_up (va_up (fun _ => none) (0 : Int32).toNatClampNeg (some x14)) (1 : Int32).toNatClampNeg (some x54)) (2 : Int32).toNatClampNeg (some x100)) := by rw [K173.2.2.2 (b + 1) (lt_N n169 (by decide)) (nb_ (by decide)), s167]; show sO Y151.2.1.2.2.2 _ _ = sO Y170.2.1.2.2.2 _ _; rw [K173.1.2.1]
  have k188 := keep_tr (b := b) k168 K173 (Or.inr (ge_N hN (by decide)))
  have n189 : Y170.N = b + 18 := n175
  refine g_astq C172 (a := b + 1) (b := b + 14) (n := 6) (f := (va_up (va_up (va_up (fun _ => none) (0 : Int32).toNatClampNeg (some x14)) (1 : Int32).toNatClampNeg (some x54)) (2 : Int32).toNatClampNeg (some x100))) (lt_N n189 (by decide)) a183 s187 (lt_N n189 (by decide)) a184 (by rw [isX0_sh f176]; rfl) (by unfold vp_in; decide) dX3_init_49 (fun Y190 C191 K192 n193 a194 s195 => ?_)
  have f196 := isX0_tr f177 K192 (Or.inl (dj_m (by decide)))
  have f197 := isX0_tr f178 K192 (Or.inl (dj_m (by decide)))
  have f198 := isX0_tr f179 K192 (Or.inl (dj_m (by decide)))
  have f199 := isX0_tr f176 K192 (Or.inl (dj_m (by decide)))
  have a200 := (K192.2.2.1 (b + 2) (lt_N n189 (by decide))).trans a180
  have a201 := (K192.2.2.1 (b + 6) (lt_N n189 (by decide))).trans a181
  have a202 := (K192.2.2.1 (b + 10) (lt_N n189 (by decide))).trans a182
  have a203 := (K192.2.2.1 (b + 14) (lt_N n189 (by decide))).trans a184
  have a204 := (K192.2.2.1 b (lt_N0 n189 (by decide))).trans a185
  have s205 := (K192.2.2.2 b (lt_N0 n189 (by decide)) (nb_l (by decide))).trans s186
  have s206 : Y190.sh (b + 1) = sO Y190.cK 6 (va_up (va_up (va_up (va_up (fun _ => none) (0 : Int32).toNatClampNeg (some x14)) (1 : Int32).toNatClampNeg (some x54)) (2 : Int32).toNatClampNeg (some x100)) (3 : Int32).toNatClampNeg (some x152)) := by rw [s195]; show sO Y170.2.1.2.2.2 _ _ = sO Y190.2.1.2.2.2 _ _; rw [K192.1.2.1]
  have k207 := keep_tr (b := b) k188 K192 (Or.inr (ge_N hN (by decide)))
  have n208 : Y190.N = b + 18 := n193.trans n189
  refine g_dup C191 dX3_init_50 rfl ?_
  refine g_iconst C191 (v := (4 : Int32)) dX3_init_51 (by decide) ?_
  refine g_newO C191 hXa (id := b + 18) n208 (Cn := RX0) (T := TX0) (Nc := 8) (ci := 0) (ty := tyX0) (fun w hw => List.mem_cons_of_mem _ (inX0 w hw)) tyX0_ok (List.mem_cons_of_mem _ mCl_RX3_9) (List.mem_cons_of_mem _ mIns_X0) (List.mem_cons_of_mem _ mInit_RX0) rfl [.null, .null, .int 0, .int 0, .int 0, .int 0, .int 0, .null] dfX0 fX0 rfl (by decide) (by decide) dX3_init_52 (fun Y209 x210 C211 K212 n213 a214 s215 => ?_)
  have f216 := isX0_tr f196 K212 (Or.inr (dj_r (by decide)))
  have f217 := isX0_tr f197 K212 (Or.inr (dj_r (by decide)))
  have f218 := isX0_tr f198 K212 (Or.inr (dj_r (by decide)))
  have f219 := isX0_tr f199 K212 (Or.inr (dj_r (by decide)))
  have a220 := (K212.2.2.1 (b + 2) (lt_N n208 (by decide))).trans a200
  have a221 := (K212.2.2.1 (b + 6) (lt_N n208 (by decide))).trans a201
  have a222 := (K212.2.2.1 (b + 10) (lt_N n208 (by decide))).trans a202
  have a223 := (K212.2.2.1 (b + 14) (lt_N n208 (by decide))).trans a203
  have a224 := (K212.2.2.1 (b + 1) (lt_N n208 (by decide))).trans a194
  have a225 := (K212.2.2.1 b (lt_N0 n208 (by decide))).trans a204
  have s226 := (K212.2.2.2 b (lt_N0 n208 (by decide)) (nb_l (by decide))).trans s205
  have s227 : Y209.sh (b + 1) = sO Y209.cK 6 (va_up (va_up (va_up (va_up (fun _ => none) (0 : Int32).toNatClampNeg (some x14)) (1 : Int32).toNatClampNeg (some x54)) (2 : Int32).toNatClampNeg (some x100)) (3 : Int32).toNatClampNeg (some x152)) := by rw [K212.2.2.2 (b + 1) (lt_N n208 (by decide)) (nb_ (by decide)), s206]; show sO Y190.2.1.2.2.2 _ _ = sO Y209.2.1.2.2.2 _ _; rw [K212.1.2.1]
  have k228 := keep_tr (b := b) k207 K212 (Or.inr (ge_N hN (by decide)))
  have n229 : Y209.N = b + 19 := n213
  refine g_dup C211 dX3_init_55 rfl ?_
  refine g_callC C211 hXa (ok_X0_init (cx_YI C211) (b := b + 18) n229 s215 h) (lt_N n229 (by decide)) a214 (gw_cons mC_X0_init) rfl (List.mem_cons_of_mem _ mInit_RX0) (List.mem_cons_of_mem _ mM_RX3_11) (List.mem_cons_of_mem _ mI_X0_init) rfl dc_X0_init ⟨by decide, by decide⟩ (by decide) (by decide) (Nat.le_of_ble_eq_true rfl) dX3_init_56 (fun Y230 m231 C232 K233 p234 => ?_)
  obtain ⟨n235, f236, h⟩ := p234
  have f237 := isX0_tr f216 K233 (Or.inr (dj_r (by decide)))
  have f238 := isX0_tr f217 K233 (Or.inr (dj_r (by decide)))
  have f239 := isX0_tr f218 K233 (Or.inr (dj_r (by decide)))
  have f240 := isX0_tr f219 K233 (Or.inr (dj_r (by decide)))
  have a241 := (K233.2.2.1 (b + 2) (lt_N n229 (by decide))).trans a220
  have a242 := (K233.2.2.1 (b + 6) (lt_N n229 (by decide))).trans a221
  have a243 := (K233.2.2.1 (b + 10) (lt_N n229 (by decide))).trans a222
  have a244 := (K233.2.2.1 (b + 14) (lt_N n229 (by decide))).trans a223
  have a245 := (K233.2.2.1 (b + 1) (lt_N n229 (by decide))).trans a224
  have a246 := (K233.2.2.1 (b + 18) (lt_N n229 (by decide))).trans a214
  have a247 := (K233.2.2.1 b (lt_N0 n229 (by decide))).trans a225
  have s248 := (K233.2.2.2 b (lt_N0 n229 (by decide)) (nb_l (by decide))).trans s226
  have s249 : Y230.sh (b + 1) = sO Y230.cK 6 (va_up (va_up (va_up (va_up (fun _ => none) (0 : Int32).toNatClampNeg (some x14)) (1 : Int32).toNatClampNeg (some x54)) (2 : Int32).toNatClampNeg (some x100)) (3 : Int32).toNatClampNeg (some x152)) := by rw [K233.2.2.2 (b + 1) (lt_N n229 (by decide)) (nb_ (by decide)), s227]; show sO Y209.2.1.2.2.2 _ _ = sO Y230.2.1.2.2.2 _ _; rw [K233.1.2.1]
  have k250 := keep_tr (b := b) k228 K233 (Or.inr (ge_N hN (by decide)))
  have n251 : Y230.N = b + 22 := n235
  refine g_astq C232 (a := b + 1) (b := b + 18) (n := 6) (f := (va_up (va_up (va_up (va_up (fun _ => none) (0 : Int32).toNatClampNeg (some x14)) (1 : Int32).toNatClampNeg (some x54)) (2 : Int32).toNatClampNeg (some x100)) (3 : Int32).toNatClampNeg (some x152))) (lt_N n251 (by decide)) a245 s249 (lt_N n251 (by decide)) a246 (by rw [isX0_sh f236]; rfl) (by unfold vp_in; decide) dX3_init_59 (fun Y252 C253 K254 n255 a256 s257 => ?_)
  have f258 := isX0_tr f237 K254 (Or.inl (dj_m (by decide)))
  have f259 := isX0_tr f238 K254 (Or.inl (dj_m (by decide)))
  have f260 := isX0_tr f239 K254 (Or.inl (dj_m (by decide)))
  have f261 := isX0_tr f240 K254 (Or.inl (dj_m (by decide)))
  have f262 := isX0_tr f236 K254 (Or.inl (dj_m (by decide)))
  have a263 := (K254.2.2.1 (b + 2) (lt_N n251 (by decide))).trans a241
  have a264 := (K254.2.2.1 (b + 6) (lt_N n251 (by decide))).trans a242
  have a265 := (K254.2.2.1 (b + 10) (lt_N n251 (by decide))).trans a243
  have a266 := (K254.2.2.1 (b + 14) (lt_N n251 (by decide))).trans a244
  have a267 := (K254.2.2.1 (b + 18) (lt_N n251 (by decide))).trans a246
  have a268 := (K254.2.2.1 b (lt_N0 n251 (by decide))).trans a247
  have s269 := (K254.2.2.2 b (lt_N0 n251 (by decide)) (nb_l (by decide))).trans s248
  have s270 : Y252.sh (b + 1) = sO Y252.cK 6 (va_up (va_up (va_up (va_up (va_up (fun _ => none) (0 : Int32).toNatClampNeg (some x14)) (1 : Int32).toNatClampNeg (some x54)) (2 : Int32).toNatClampNeg (some x100)) (3 : Int32).toNatClampNeg (some x152)) (4 : Int32).toNatClampNeg (some x210)) := by rw [s257]; show sO Y230.2.1.2.2.2 _ _ = sO Y252.2.1.2.2.2 _ _; rw [K254.1.2.1]
  have k271 := keep_tr (b := b) k250 K254 (Or.inr (ge_N hN (by decide)))
  have n272 : Y252.N = b + 22 := n255.trans n251
  refine g_dup C253 dX3_init_60 rfl ?_
  refine g_iconst C253 (v := (5 : Int32)) dX3_init_61 (by decide) ?_
  refine g_newO C253 hXa (id := b + 22) n272 (Cn := RX0) (T := TX0) (Nc := 8) (ci := 0) (ty := tyX0) (fun w hw => List.mem_cons_of_mem _ (inX0 w hw)) tyX0_ok (List.mem_cons_of_mem _ mCl_RX3_9) (List.mem_cons_of_mem _ mIns_X0) (List.mem_cons_of_mem _ mInit_RX0) rfl [.null, .null, .int 0, .int 0, .int 0, .int 0, .int 0, .null] dfX0 fX0 rfl (by decide) (by decide) dX3_init_62 (fun Y273 x274 C275 K276 n277 a278 s279 => ?_)
  have f280 := isX0_tr f258 K276 (Or.inr (dj_r (by decide)))
  have f281 := isX0_tr f259 K276 (Or.inr (dj_r (by decide)))
  have f282 := isX0_tr f260 K276 (Or.inr (dj_r (by decide)))
  have f283 := isX0_tr f261 K276 (Or.inr (dj_r (by decide)))
  have f284 := isX0_tr f262 K276 (Or.inr (dj_r (by decide)))
  have a285 := (K276.2.2.1 (b + 2) (lt_N n272 (by decide))).trans a263
  have a286 := (K276.2.2.1 (b + 6) (lt_N n272 (by decide))).trans a264
  have a287 := (K276.2.2.1 (b + 10) (lt_N n272 (by decide))).trans a265
  have a288 := (K276.2.2.1 (b + 14) (lt_N n272 (by decide))).trans a266
  have a289 := (K276.2.2.1 (b + 18) (lt_N n272 (by decide))).trans a267
  have a290 := (K276.2.2.1 (b + 1) (lt_N n272 (by decide))).trans a256
  have a291 := (K276.2.2.1 b (lt_N0 n272 (by decide))).trans a268
  have s292 := (K276.2.2.2 b (lt_N0 n272 (by decide)) (nb_l (by decide))).trans s269
  have s293 : Y273.sh (b + 1) = sO Y273.cK 6 (va_up (va_up (va_up (va_up (va_up (fun _ => none) (0 : Int32).toNatClampNeg (some x14)) (1 : Int32).toNatClampNeg (some x54)) (2 : Int32).toNatClampNeg (some x100)) (3 : Int32).toNatClampNeg (some x152)) (4 : Int32).toNatClampNeg (some x210)) := by rw [K276.2.2.2 (b + 1) (lt_N n272 (by decide)) (nb_ (by decide)), s270]; show sO Y252.2.1.2.2.2 _ _ = sO Y273.2.1.2.2.2 _ _; rw [K276.1.2.1]
  have k294 := keep_tr (b := b) k271 K276 (Or.inr (ge_N hN (by decide)))
  have n295 : Y273.N = b + 23 := n277
  refine g_dup C275 dX3_init_65 rfl ?_
  refine g_callC C275 hXa (ok_X0_init (cx_YI C275) (b := b + 22) n295 s279 h) (lt_N n295 (by decide)) a278 (gw_cons mC_X0_init) rfl (List.mem_cons_of_mem _ mInit_RX0) (List.mem_cons_of_mem _ mM_RX3_11) (List.mem_cons_of_mem _ mI_X0_init) rfl dc_X0_init ⟨by decide, by decide⟩ (by decide) (by decide) (Nat.le_of_ble_eq_true rfl) dX3_init_66 (fun Y296 m297 C298 K299 p300 => ?_)
  obtain ⟨n301, f302, h⟩ := p300
  have f303 := isX0_tr f280 K299 (Or.inr (dj_r (by decide)))
  have f304 := isX0_tr f281 K299 (Or.inr (dj_r (by decide)))
  have f305 := isX0_tr f282 K299 (Or.inr (dj_r (by decide)))
  have f306 := isX0_tr f283 K299 (Or.inr (dj_r (by decide)))
  have f307 := isX0_tr f284 K299 (Or.inr (dj_r (by decide)))
  have a308 := (K299.2.2.1 (b + 2) (lt_N n295 (by decide))).trans a285
  have a309 := (K299.2.2.1 (b + 6) (lt_N n295 (by decide))).trans a286
  have a310 := (K299.2.2.1 (b + 10) (lt_N n295 (by decide))).trans a287
  have a311 := (K299.2.2.1 (b + 14) (lt_N n295 (by decide))).trans a288
  have a312 := (K299.2.2.1 (b + 18) (lt_N n295 (by decide))).trans a289
  have a313 := (K299.2.2.1 (b + 1) (lt_N n295 (by decide))).trans a290
  have a314 := (K299.2.2.1 (b + 22) (lt_N n295 (by decide))).trans a278
  have a315 := (K299.2.2.1 b (lt_N0 n295 (by decide))).trans a291
  have s316 := (K299.2.2.2 b (lt_N0 n295 (by decide)) (nb_l (by decide))).trans s292
  have s317 : Y296.sh (b + 1) = sO Y296.cK 6 (va_up (va_up (va_up (va_up (va_up (fun _ => none) (0 : Int32).toNatClampNeg (some x14)) (1 : Int32).toNatClampNeg (some x54)) (2 : Int32).toNatClampNeg (some x100)) (3 : Int32).toNatClampNeg (some x152)) (4 : Int32).toNatClampNeg (some x210)) := by rw [K299.2.2.2 (b + 1) (lt_N n295 (by decide)) (nb_ (by decide)), s293]; show sO Y273.2.1.2.2.2 _ _ = sO Y296.2.1.2.2.2 _ _; rw [K299.1.2.1]
  have k318 := keep_tr (b := b) k294 K299 (Or.inr (ge_N hN (by decide)))
  have n319 : Y296.N = b + 26 := n301
  refine g_astq C298 (a := b + 1) (b := b + 22) (n := 6) (f := (va_up (va_up (va_up (va_up (va_up (fun _ => none) (0 : Int32).toNatClampNeg (some x14)) (1 : Int32).toNatClampNeg (some x54)) (2 : Int32).toNatClampNeg (some x100)) (3 : Int32).toNatClampNeg (some x152)) (4 : Int32).toNatClampNeg (some x210))) (lt_N n319 (by decide)) a313 s317 (lt_N n319 (by decide)) a314 (by rw [isX0_sh f302]; rfl) (by unfold vp_in; decide) dX3_init_69 (fun Y320 C321 K322 n323 a324 s325 => ?_)
  have f326 := isX0_tr f303 K322 (Or.inl (dj_m (by decide)))
  have f327 := isX0_tr f304 K322 (Or.inl (dj_m (by decide)))
  have f328 := isX0_tr f305 K322 (Or.inl (dj_m (by decide)))
  have f329 := isX0_tr f306 K322 (Or.inl (dj_m (by decide)))
  have f330 := isX0_tr f307 K322 (Or.inl (dj_m (by decide)))
  have f331 := isX0_tr f302 K322 (Or.inl (dj_m (by decide)))
  have a332 := (K322.2.2.1 (b + 2) (lt_N n319 (by decide))).trans a308
  have a333 := (K322.2.2.1 (b + 6) (lt_N n319 (by decide))).trans a309
  have a334 := (K322.2.2.1 (b + 10) (lt_N n319 (by decide))).trans a310
  have a335 := (K322.2.2.1 (b + 14) (lt_N n319 (by decide))).trans a311
  have a336 := (K322.2.2.1 (b + 18) (lt_N n319 (by decide))).trans a312
  have a337 := (K322.2.2.1 (b + 22) (lt_N n319 (by decide))).trans a314
  have a338 := (K322.2.2.1 b (lt_N0 n319 (by decide))).trans a315
  have s339 := (K322.2.2.2 b (lt_N0 n319 (by decide)) (nb_l (by decide))).trans s316
  have s340 : Y320.sh (b + 1) = sO Y320.cK 6 (va_up (va_up (va_up (va_up (va_up (va_up (fun _ => none) (0 : Int32).toNatClampNeg (some x14)) (1 : Int32).toNatClampNeg (some x54)) (2 : Int32).toNatClampNeg (some x100)) (3 : Int32).toNatClampNeg (some x152)) (4 : Int32).toNatClampNeg (some x210)) (5 : Int32).toNatClampNeg (some x274)) := by rw [s325]; show sO Y296.2.1.2.2.2 _ _ = sO Y320.2.1.2.2.2 _ _; rw [K322.1.2.1]
  have k341 := keep_tr (b := b) k318 K322 (Or.inr (ge_N hN (by decide)))
  have n342 : Y320.N = b + 26 := n323.trans n319
  refine g_putR C321 hXi (i := b) (ty := (.array (.object "NothingLeft$Kitchen"))) (ty0 := tyX3) (k := 0) (Nc := 18) (Cn := RX3) (T := TX3) (ci := 3) (lt_N0 n342 (by decide)) a338 s339 rfl rfl (fun w hw => List.mem_cons_of_mem _ (inX3 w hw)) tyX3_ok nmX3 (by decide) (List.mem_cons_of_mem _ mF_RX3_12) rfl rfl rfl rfl rfl rfl (by decide : 0 < 18) (rt (fun c => [.ref x2, .null, .null, .int (c.1 3), .long (c.2 4), .int (c.1 5), .int (c.1 6), .int (c.1 7), .int (c.1 8), .null, .long (c.2 10), .int (c.1 11), .null, .int (c.1 13), .null, .int (c.1 15), .int (c.1 16), .null]) 3) rfl dX3_init_70 (fun Y343 C344 K345 n346 a347 s348 => ?_)
  have f349 := isX0_tr f326 K345 (Or.inl (dj_l (by decide)))
  have f350 := isX0_tr f327 K345 (Or.inl (dj_l (by decide)))
  have f351 := isX0_tr f328 K345 (Or.inl (dj_l (by decide)))
  have f352 := isX0_tr f329 K345 (Or.inl (dj_l (by decide)))
  have f353 := isX0_tr f330 K345 (Or.inl (dj_l (by decide)))
  have f354 := isX0_tr f331 K345 (Or.inl (dj_l (by decide)))
  have a355 := (K345.2.2.1 (b + 2) (lt_N n342 (by decide))).trans a332
  have a356 := (K345.2.2.1 (b + 6) (lt_N n342 (by decide))).trans a333
  have a357 := (K345.2.2.1 (b + 10) (lt_N n342 (by decide))).trans a334
  have a358 := (K345.2.2.1 (b + 14) (lt_N n342 (by decide))).trans a335
  have a359 := (K345.2.2.1 (b + 18) (lt_N n342 (by decide))).trans a336
  have a360 := (K345.2.2.1 (b + 22) (lt_N n342 (by decide))).trans a337
  have a361 := (K345.2.2.1 (b + 1) (lt_N n342 (by decide))).trans a324
  have a362 := (K345.2.2.1 b (lt_N0 n342 (by decide))).trans a338
  have s363 : Y343.sh (b + 1) = sO Y343.cK 6 (va_up (va_up (va_up (va_up (va_up (va_up (fun _ => none) (0 : Int32).toNatClampNeg (some x14)) (1 : Int32).toNatClampNeg (some x54)) (2 : Int32).toNatClampNeg (some x100)) (3 : Int32).toNatClampNeg (some x152)) (4 : Int32).toNatClampNeg (some x210)) (5 : Int32).toNatClampNeg (some x274)) := by rw [K345.2.2.2 (b + 1) (lt_N n342 (by decide)) (nb_r (by decide)), s340]; show sO Y320.2.1.2.2.2 _ _ = sO Y343.2.1.2.2.2 _ _; rw [K345.1.2.1]
  have k364 := keep_tr (b := b) k341 K345 (Or.inl rfl)
  have n365 : Y343.N = b + 26 := n346.trans n342
  refine g_aload_n C344 0 dX3_init_73 rfl ?_
  refine g_iconst C344 (v := (5 : Int32)) dX3_init_74 (by decide) ?_
  refine g_newA C344 hXa (id := b + 26) n365 .int .int rfl (List.mem_cons_of_mem _ mArr_I) Y343.cI 0 rfl (fun _ _ z => z) rfl (k := 5) (by decide) (by decide) (by decide) (by decide) (by decide) dX3_init_75 (fun Y366 x367 C368 K369 n370 a371 s372 => ?_)
  have f373 := isX0_tr f349 K369 (Or.inr (dj_r (by decide)))
  have f374 := isX0_tr f350 K369 (Or.inr (dj_r (by decide)))
  have f375 := isX0_tr f351 K369 (Or.inr (dj_r (by decide)))
  have f376 := isX0_tr f352 K369 (Or.inr (dj_r (by decide)))
  have f377 := isX0_tr f353 K369 (Or.inr (dj_r (by decide)))
  have f378 := isX0_tr f354 K369 (Or.inr (dj_r (by decide)))
  have a379 := (K369.2.2.1 (b + 2) (lt_N n365 (by decide))).trans a355
  have a380 := (K369.2.2.1 (b + 6) (lt_N n365 (by decide))).trans a356
  have a381 := (K369.2.2.1 (b + 10) (lt_N n365 (by decide))).trans a357
  have a382 := (K369.2.2.1 (b + 14) (lt_N n365 (by decide))).trans a358
  have a383 := (K369.2.2.1 (b + 18) (lt_N n365 (by decide))).trans a359
  have a384 := (K369.2.2.1 (b + 22) (lt_N n365 (by decide))).trans a360
  have a385 := (K369.2.2.1 (b + 1) (lt_N n365 (by decide))).trans a361
  have a386 := (K369.2.2.1 b (lt_N0 n365 (by decide))).trans a347
  have s387 := (K369.2.2.2 b (lt_N0 n365 (by decide)) (nb_l (by decide))).trans s348
  have s388 : Y366.sh (b + 1) = sO Y366.cK 6 (va_up (va_up (va_up (va_up (va_up (va_up (fun _ => none) (0 : Int32).toNatClampNeg (some x14)) (1 : Int32).toNatClampNeg (some x54)) (2 : Int32).toNatClampNeg (some x100)) (3 : Int32).toNatClampNeg (some x152)) (4 : Int32).toNatClampNeg (some x210)) (5 : Int32).toNatClampNeg (some x274)) := by rw [K369.2.2.2 (b + 1) (lt_N n365 (by decide)) (nb_ (by decide)), s363]; show sO Y343.2.1.2.2.2 _ _ = sO Y366.2.1.2.2.2 _ _; rw [K369.1.2.1]
  have f389 := isI_new s372 K369 n370
  have k390 := keep_tr (b := b) k364 K369 (Or.inr (ge_N hN (by decide)))
  have n391 : Y366.N = b + 27 := n370
  refine g_putR C368 hXi (i := b) (ty := (.array .int)) (ty0 := tyX3) (k := 1) (Nc := 18) (Cn := RX3) (T := TX3) (ci := 3) (lt_N0 n391 (by decide)) a386 s387 rfl rfl (fun w hw => List.mem_cons_of_mem _ (inX3 w hw)) tyX3_ok nmX3 (by decide) (List.mem_cons_of_mem _ mF_RX3_18) rfl rfl rfl rfl rfl rfl (by decide : 1 < 18) (rt (fun c => [.ref x2, .ref x367, .null, .int (c.1 3), .long (c.2 4), .int (c.1 5), .int (c.1 6), .int (c.1 7), .int (c.1 8), .null, .long (c.2 10), .int (c.1 11), .null, .int (c.1 13), .null, .int (c.1 15), .int (c.1 16), .null]) 3) rfl dX3_init_77 (fun Y392 C393 K394 n395 a396 s397 => ?_)
  have f398 := isX0_tr f373 K394 (Or.inl (dj_l (by decide)))
  have f399 := isX0_tr f374 K394 (Or.inl (dj_l (by decide)))
  have f400 := isX0_tr f375 K394 (Or.inl (dj_l (by decide)))
  have f401 := isX0_tr f376 K394 (Or.inl (dj_l (by decide)))
  have f402 := isX0_tr f377 K394 (Or.inl (dj_l (by decide)))
  have f403 := isX0_tr f378 K394 (Or.inl (dj_l (by decide)))
  have f404 := isI_tr f389 K394 (nb_r (by decide))
  have a405 := (K394.2.2.1 (b + 2) (lt_N n391 (by decide))).trans a379
  have a406 := (K394.2.2.1 (b + 6) (lt_N n391 (by decide))).trans a380
  have a407 := (K394.2.2.1 (b + 10) (lt_N n391 (by decide))).trans a381
  have a408 := (K394.2.2.1 (b + 14) (lt_N n391 (by decide))).trans a382
  have a409 := (K394.2.2.1 (b + 18) (lt_N n391 (by decide))).trans a383
  have a410 := (K394.2.2.1 (b + 22) (lt_N n391 (by decide))).trans a384
  have a411 := (K394.2.2.1 (b + 1) (lt_N n391 (by decide))).trans a385
  have a412 := (K394.2.2.1 (b + 26) (lt_N n391 (by decide))).trans a371
  have a413 := (K394.2.2.1 b (lt_N0 n391 (by decide))).trans a386
  have s414 : Y392.sh (b + 1) = sO Y392.cK 6 (va_up (va_up (va_up (va_up (va_up (va_up (fun _ => none) (0 : Int32).toNatClampNeg (some x14)) (1 : Int32).toNatClampNeg (some x54)) (2 : Int32).toNatClampNeg (some x100)) (3 : Int32).toNatClampNeg (some x152)) (4 : Int32).toNatClampNeg (some x210)) (5 : Int32).toNatClampNeg (some x274)) := by rw [K394.2.2.2 (b + 1) (lt_N n391 (by decide)) (nb_r (by decide)), s388]; show sO Y366.2.1.2.2.2 _ _ = sO Y392.2.1.2.2.2 _ _; rw [K394.1.2.1]
  have k415 := keep_tr (b := b) k390 K394 (Or.inl rfl)
  have n416 : Y392.N = b + 27 := n395.trans n391
  refine g_aload_n C393 0 dX3_init_80 rfl ?_
  refine g_newO C393 hXa (id := b + 27) n416 (Cn := RX5) (T := TX5) (Nc := 2) (ci := 5) (ty := tyX5) (fun w hw => List.mem_cons_of_mem _ (inX5 w hw)) tyX5_ok (List.mem_cons_of_mem _ mCl_RX3_22) (List.mem_cons_of_mem _ mIns_X5) (List.mem_cons_of_mem _ mInit_RX5) rfl [.null, .int 0] dfX5 fX5 rfl (by decide) (by decide) dX3_init_81 (fun Y417 x418 C419 K420 n421 a422 s423 => ?_)
  have f424 := isX0_tr f398 K420 (Or.inr (dj_r (by decide)))
  have f425 := isX0_tr f399 K420 (Or.inr (dj_r (by decide)))
  have f426 := isX0_tr f400 K420 (Or.inr (dj_r (by decide)))
  have f427 := isX0_tr f401 K420 (Or.inr (dj_r (by decide)))
  have f428 := isX0_tr f402 K420 (Or.inr (dj_r (by decide)))
  have f429 := isX0_tr f403 K420 (Or.inr (dj_r (by decide)))
  have f430 := isI_tr f404 K420 (nb_ (by decide))
  have a431 := (K420.2.2.1 (b + 2) (lt_N n416 (by decide))).trans a405
  have a432 := (K420.2.2.1 (b + 6) (lt_N n416 (by decide))).trans a406
  have a433 := (K420.2.2.1 (b + 10) (lt_N n416 (by decide))).trans a407
  have a434 := (K420.2.2.1 (b + 14) (lt_N n416 (by decide))).trans a408
  have a435 := (K420.2.2.1 (b + 18) (lt_N n416 (by decide))).trans a409
  have a436 := (K420.2.2.1 (b + 22) (lt_N n416 (by decide))).trans a410
  have a437 := (K420.2.2.1 (b + 1) (lt_N n416 (by decide))).trans a411
  have a438 := (K420.2.2.1 (b + 26) (lt_N n416 (by decide))).trans a412
  have a439 := (K420.2.2.1 b (lt_N0 n416 (by decide))).trans a396
  have s440 := (K420.2.2.2 b (lt_N0 n416 (by decide)) (nb_l (by decide))).trans s397
  have s441 : Y417.sh (b + 1) = sO Y417.cK 6 (va_up (va_up (va_up (va_up (va_up (va_up (fun _ => none) (0 : Int32).toNatClampNeg (some x14)) (1 : Int32).toNatClampNeg (some x54)) (2 : Int32).toNatClampNeg (some x100)) (3 : Int32).toNatClampNeg (some x152)) (4 : Int32).toNatClampNeg (some x210)) (5 : Int32).toNatClampNeg (some x274)) := by rw [K420.2.2.2 (b + 1) (lt_N n416 (by decide)) (nb_ (by decide)), s414]; show sO Y392.2.1.2.2.2 _ _ = sO Y417.2.1.2.2.2 _ _; rw [K420.1.2.1]
  have k442 := keep_tr (b := b) k415 K420 (Or.inr (ge_N hN (by decide)))
  have n443 : Y417.N = b + 28 := n421
  refine g_dup C419 dX3_init_84 rfl ?_
  refine g_callN C419 hXa (ok_X5_init (cx_YI C419) (b := b + 27) n443 s423 h) (lt_N n443 (by decide)) a422 (gw_cons mC_X5_init) rfl (List.mem_cons_of_mem _ mInit_RX5) (host := RX6) (by simp [sNst]) (List.mem_cons_of_mem _ mI_X5_init) rfl dc_X5_init ⟨by decide, by decide⟩ (by decide) (by decide) (Nat.le_of_ble_eq_true rfl) dX3_init_85 (fun Y444 m445 C446 K447 p448 => ?_)
  obtain ⟨n449, f450, h⟩ := p448
  have f451 := isX0_tr f424 K447 (Or.inr (dj_r (by decide)))
  have f452 := isX0_tr f425 K447 (Or.inr (dj_r (by decide)))
  have f453 := isX0_tr f426 K447 (Or.inr (dj_r (by decide)))
  have f454 := isX0_tr f427 K447 (Or.inr (dj_r (by decide)))
  have f455 := isX0_tr f428 K447 (Or.inr (dj_r (by decide)))
  have f456 := isX0_tr f429 K447 (Or.inr (dj_r (by decide)))
  have f457 := isI_tr f430 K447 (nb_ (by decide))
  have a458 := (K447.2.2.1 (b + 2) (lt_N n443 (by decide))).trans a431
  have a459 := (K447.2.2.1 (b + 6) (lt_N n443 (by decide))).trans a432
  have a460 := (K447.2.2.1 (b + 10) (lt_N n443 (by decide))).trans a433
  have a461 := (K447.2.2.1 (b + 14) (lt_N n443 (by decide))).trans a434
  have a462 := (K447.2.2.1 (b + 18) (lt_N n443 (by decide))).trans a435
  have a463 := (K447.2.2.1 (b + 22) (lt_N n443 (by decide))).trans a436
  have a464 := (K447.2.2.1 (b + 1) (lt_N n443 (by decide))).trans a437
  have a465 := (K447.2.2.1 (b + 26) (lt_N n443 (by decide))).trans a438
  have a466 := (K447.2.2.1 (b + 27) (lt_N n443 (by decide))).trans a422
  have a467 := (K447.2.2.1 b (lt_N0 n443 (by decide))).trans a439
  have s468 := (K447.2.2.2 b (lt_N0 n443 (by decide)) (nb_l (by decide))).trans s440
  have s469 : Y444.sh (b + 1) = sO Y444.cK 6 (va_up (va_up (va_up (va_up (va_up (va_up (fun _ => none) (0 : Int32).toNatClampNeg (some x14)) (1 : Int32).toNatClampNeg (some x54)) (2 : Int32).toNatClampNeg (some x100)) (3 : Int32).toNatClampNeg (some x152)) (4 : Int32).toNatClampNeg (some x210)) (5 : Int32).toNatClampNeg (some x274)) := by rw [K447.2.2.2 (b + 1) (lt_N n443 (by decide)) (nb_ (by decide)), s441]; show sO Y417.2.1.2.2.2 _ _ = sO Y444.2.1.2.2.2 _ _; rw [K447.1.2.1]
  have k470 := keep_tr (b := b) k442 K447 (Or.inr (ge_N hN (by decide)))
  have n471 : Y444.N = b + 32 := n449
  refine g_putR C446 hXi (i := b) (ty := (.object "NothingLeft$Walk")) (ty0 := tyX3) (k := 2) (Nc := 18) (Cn := RX3) (T := TX3) (ci := 3) (lt_N0 n471 (by decide)) a467 s468 rfl rfl (fun w hw => List.mem_cons_of_mem _ (inX3 w hw)) tyX3_ok nmX3 (by decide) (List.mem_cons_of_mem _ mF_RX3_25) rfl rfl rfl rfl rfl rfl (by decide : 2 < 18) (rt (fun c => [.ref x2, .ref x367, .ref x418, .int (c.1 3), .long (c.2 4), .int (c.1 5), .int (c.1 6), .int (c.1 7), .int (c.1 8), .null, .long (c.2 10), .int (c.1 11), .null, .int (c.1 13), .null, .int (c.1 15), .int (c.1 16), .null]) 3) rfl dX3_init_88 (fun Y472 C473 K474 n475 a476 s477 => ?_)
  have f478 := isX0_tr f451 K474 (Or.inl (dj_l (by decide)))
  have f479 := isX0_tr f452 K474 (Or.inl (dj_l (by decide)))
  have f480 := isX0_tr f453 K474 (Or.inl (dj_l (by decide)))
  have f481 := isX0_tr f454 K474 (Or.inl (dj_l (by decide)))
  have f482 := isX0_tr f455 K474 (Or.inl (dj_l (by decide)))
  have f483 := isX0_tr f456 K474 (Or.inl (dj_l (by decide)))
  have f484 := isI_tr f457 K474 (nb_r (by decide))
  have f485 := isX5_tr f450 K474 (Or.inl (dj_l (by decide)))
  have a486 := (K474.2.2.1 (b + 2) (lt_N n471 (by decide))).trans a458
  have a487 := (K474.2.2.1 (b + 6) (lt_N n471 (by decide))).trans a459
  have a488 := (K474.2.2.1 (b + 10) (lt_N n471 (by decide))).trans a460
  have a489 := (K474.2.2.1 (b + 14) (lt_N n471 (by decide))).trans a461
  have a490 := (K474.2.2.1 (b + 18) (lt_N n471 (by decide))).trans a462
  have a491 := (K474.2.2.1 (b + 22) (lt_N n471 (by decide))).trans a463
  have a492 := (K474.2.2.1 (b + 1) (lt_N n471 (by decide))).trans a464
  have a493 := (K474.2.2.1 (b + 26) (lt_N n471 (by decide))).trans a465
  have a494 := (K474.2.2.1 (b + 27) (lt_N n471 (by decide))).trans a466
  have a495 := (K474.2.2.1 b (lt_N0 n471 (by decide))).trans a467
  have s496 : Y472.sh (b + 1) = sO Y472.cK 6 (va_up (va_up (va_up (va_up (va_up (va_up (fun _ => none) (0 : Int32).toNatClampNeg (some x14)) (1 : Int32).toNatClampNeg (some x54)) (2 : Int32).toNatClampNeg (some x100)) (3 : Int32).toNatClampNeg (some x152)) (4 : Int32).toNatClampNeg (some x210)) (5 : Int32).toNatClampNeg (some x274)) := by rw [K474.2.2.2 (b + 1) (lt_N n471 (by decide)) (nb_r (by decide)), s469]; show sO Y444.2.1.2.2.2 _ _ = sO Y472.2.1.2.2.2 _ _; rw [K474.1.2.1]
  have k497 := keep_tr (b := b) k470 K474 (Or.inl rfl)
  have n498 : Y472.N = b + 32 := n475.trans n471
  refine g_aload_n C473 0 dX3_init_91 rfl ?_
  refine g_iconst C473 (v := (5 : Int32)) dX3_init_92 (by decide) ?_
  refine g_newA C473 hXa (id := b + 32) n498 .int .int rfl (List.mem_cons_of_mem _ mArr_I) Y472.cI 0 rfl (fun _ _ z => z) rfl (k := 5) (by decide) (by decide) (by decide) (by decide) (by decide) dX3_init_93 (fun Y499 x500 C501 K502 n503 a504 s505 => ?_)
  have f506 := isX0_tr f478 K502 (Or.inr (dj_r (by decide)))
  have f507 := isX0_tr f479 K502 (Or.inr (dj_r (by decide)))
  have f508 := isX0_tr f480 K502 (Or.inr (dj_r (by decide)))
  have f509 := isX0_tr f481 K502 (Or.inr (dj_r (by decide)))
  have f510 := isX0_tr f482 K502 (Or.inr (dj_r (by decide)))
  have f511 := isX0_tr f483 K502 (Or.inr (dj_r (by decide)))
  have f512 := isI_tr f484 K502 (nb_ (by decide))
  have f513 := isX5_tr f485 K502 (Or.inr (dj_r (by decide)))
  have a514 := (K502.2.2.1 (b + 2) (lt_N n498 (by decide))).trans a486
  have a515 := (K502.2.2.1 (b + 6) (lt_N n498 (by decide))).trans a487
  have a516 := (K502.2.2.1 (b + 10) (lt_N n498 (by decide))).trans a488
  have a517 := (K502.2.2.1 (b + 14) (lt_N n498 (by decide))).trans a489
  have a518 := (K502.2.2.1 (b + 18) (lt_N n498 (by decide))).trans a490
  have a519 := (K502.2.2.1 (b + 22) (lt_N n498 (by decide))).trans a491
  have a520 := (K502.2.2.1 (b + 1) (lt_N n498 (by decide))).trans a492
  have a521 := (K502.2.2.1 (b + 26) (lt_N n498 (by decide))).trans a493
  have a522 := (K502.2.2.1 (b + 27) (lt_N n498 (by decide))).trans a494
  have a523 := (K502.2.2.1 b (lt_N0 n498 (by decide))).trans a476
  have s524 := (K502.2.2.2 b (lt_N0 n498 (by decide)) (nb_l (by decide))).trans s477
  have s525 : Y499.sh (b + 1) = sO Y499.cK 6 (va_up (va_up (va_up (va_up (va_up (va_up (fun _ => none) (0 : Int32).toNatClampNeg (some x14)) (1 : Int32).toNatClampNeg (some x54)) (2 : Int32).toNatClampNeg (some x100)) (3 : Int32).toNatClampNeg (some x152)) (4 : Int32).toNatClampNeg (some x210)) (5 : Int32).toNatClampNeg (some x274)) := by rw [K502.2.2.2 (b + 1) (lt_N n498 (by decide)) (nb_ (by decide)), s496]; show sO Y472.2.1.2.2.2 _ _ = sO Y499.2.1.2.2.2 _ _; rw [K502.1.2.1]
  have f526 := isI_new s505 K502 n503
  have k527 := keep_tr (b := b) k497 K502 (Or.inr (ge_N hN (by decide)))
  have n528 : Y499.N = b + 33 := n503
  refine g_putR C501 hXi (i := b) (ty := (.array .int)) (ty0 := tyX3) (k := 9) (Nc := 18) (Cn := RX3) (T := TX3) (ci := 3) (lt_N0 n528 (by decide)) a523 s524 rfl rfl (fun w hw => List.mem_cons_of_mem _ (inX3 w hw)) tyX3_ok nmX3 (by decide) (List.mem_cons_of_mem _ mF_RX3_29) rfl rfl rfl rfl rfl rfl (by decide : 9 < 18) (rt (fun c => [.ref x2, .ref x367, .ref x418, .int (c.1 3), .long (c.2 4), .int (c.1 5), .int (c.1 6), .int (c.1 7), .int (c.1 8), .ref x500, .long (c.2 10), .int (c.1 11), .null, .int (c.1 13), .null, .int (c.1 15), .int (c.1 16), .null]) 3) rfl dX3_init_95 (fun Y529 C530 K531 n532 a533 s534 => ?_)
  have f535 := isX0_tr f506 K531 (Or.inl (dj_l (by decide)))
  have f536 := isX0_tr f507 K531 (Or.inl (dj_l (by decide)))
  have f537 := isX0_tr f508 K531 (Or.inl (dj_l (by decide)))
  have f538 := isX0_tr f509 K531 (Or.inl (dj_l (by decide)))
  have f539 := isX0_tr f510 K531 (Or.inl (dj_l (by decide)))
  have f540 := isX0_tr f511 K531 (Or.inl (dj_l (by decide)))
  have f541 := isI_tr f512 K531 (nb_r (by decide))
  have f542 := isX5_tr f513 K531 (Or.inl (dj_l (by decide)))
  have f543 := isI_tr f526 K531 (nb_r (by decide))
  have a544 := (K531.2.2.1 (b + 2) (lt_N n528 (by decide))).trans a514
  have a545 := (K531.2.2.1 (b + 6) (lt_N n528 (by decide))).trans a515
  have a546 := (K531.2.2.1 (b + 10) (lt_N n528 (by decide))).trans a516
  have a547 := (K531.2.2.1 (b + 14) (lt_N n528 (by decide))).trans a517
  have a548 := (K531.2.2.1 (b + 18) (lt_N n528 (by decide))).trans a518
  have a549 := (K531.2.2.1 (b + 22) (lt_N n528 (by decide))).trans a519
  have a550 := (K531.2.2.1 (b + 1) (lt_N n528 (by decide))).trans a520
  have a551 := (K531.2.2.1 (b + 26) (lt_N n528 (by decide))).trans a521
  have a552 := (K531.2.2.1 (b + 27) (lt_N n528 (by decide))).trans a522
  have a553 := (K531.2.2.1 (b + 32) (lt_N n528 (by decide))).trans a504
  have a554 := (K531.2.2.1 b (lt_N0 n528 (by decide))).trans a523
  have s555 : Y529.sh (b + 1) = sO Y529.cK 6 (va_up (va_up (va_up (va_up (va_up (va_up (fun _ => none) (0 : Int32).toNatClampNeg (some x14)) (1 : Int32).toNatClampNeg (some x54)) (2 : Int32).toNatClampNeg (some x100)) (3 : Int32).toNatClampNeg (some x152)) (4 : Int32).toNatClampNeg (some x210)) (5 : Int32).toNatClampNeg (some x274)) := by rw [K531.2.2.2 (b + 1) (lt_N n528 (by decide)) (nb_r (by decide)), s525]; show sO Y499.2.1.2.2.2 _ _ = sO Y529.2.1.2.2.2 _ _; rw [K531.1.2.1]
  have k556 := keep_tr (b := b) k527 K531 (Or.inl rfl)
  have n557 : Y529.N = b + 33 := n532.trans n528
  refine g_aload_n C530 0 dX3_init_98 rfl ?_
  refine g_iconst C530 (v := (5 : Int32)) dX3_init_99 (by decide) ?_
  refine g_newA C530 hXa (id := b + 33) n557 .int .int rfl (List.mem_cons_of_mem _ mArr_I) Y529.cI 0 rfl (fun _ _ z => z) rfl (k := 5) (by decide) (by decide) (by decide) (by decide) (by decide) dX3_init_100 (fun Y558 x559 C560 K561 n562 a563 s564 => ?_)
  have f565 := isX0_tr f535 K561 (Or.inr (dj_r (by decide)))
  have f566 := isX0_tr f536 K561 (Or.inr (dj_r (by decide)))
  have f567 := isX0_tr f537 K561 (Or.inr (dj_r (by decide)))
  have f568 := isX0_tr f538 K561 (Or.inr (dj_r (by decide)))
  have f569 := isX0_tr f539 K561 (Or.inr (dj_r (by decide)))
  have f570 := isX0_tr f540 K561 (Or.inr (dj_r (by decide)))
  have f571 := isI_tr f541 K561 (nb_ (by decide))
  have f572 := isX5_tr f542 K561 (Or.inr (dj_r (by decide)))
  have f573 := isI_tr f543 K561 (nb_ (by decide))
  have a574 := (K561.2.2.1 (b + 2) (lt_N n557 (by decide))).trans a544
  have a575 := (K561.2.2.1 (b + 6) (lt_N n557 (by decide))).trans a545
  have a576 := (K561.2.2.1 (b + 10) (lt_N n557 (by decide))).trans a546
  have a577 := (K561.2.2.1 (b + 14) (lt_N n557 (by decide))).trans a547
  have a578 := (K561.2.2.1 (b + 18) (lt_N n557 (by decide))).trans a548
  have a579 := (K561.2.2.1 (b + 22) (lt_N n557 (by decide))).trans a549
  have a580 := (K561.2.2.1 (b + 1) (lt_N n557 (by decide))).trans a550
  have a581 := (K561.2.2.1 (b + 26) (lt_N n557 (by decide))).trans a551
  have a582 := (K561.2.2.1 (b + 27) (lt_N n557 (by decide))).trans a552
  have a583 := (K561.2.2.1 (b + 32) (lt_N n557 (by decide))).trans a553
  have a584 := (K561.2.2.1 b (lt_N0 n557 (by decide))).trans a533
  have s585 := (K561.2.2.2 b (lt_N0 n557 (by decide)) (nb_l (by decide))).trans s534
  have s586 : Y558.sh (b + 1) = sO Y558.cK 6 (va_up (va_up (va_up (va_up (va_up (va_up (fun _ => none) (0 : Int32).toNatClampNeg (some x14)) (1 : Int32).toNatClampNeg (some x54)) (2 : Int32).toNatClampNeg (some x100)) (3 : Int32).toNatClampNeg (some x152)) (4 : Int32).toNatClampNeg (some x210)) (5 : Int32).toNatClampNeg (some x274)) := by rw [K561.2.2.2 (b + 1) (lt_N n557 (by decide)) (nb_ (by decide)), s555]; show sO Y529.2.1.2.2.2 _ _ = sO Y558.2.1.2.2.2 _ _; rw [K561.1.2.1]
  have f587 := isI_new s564 K561 n562
  have k588 := keep_tr (b := b) k556 K561 (Or.inr (ge_N hN (by decide)))
  have n589 : Y558.N = b + 34 := n562
  refine g_putR C560 hXi (i := b) (ty := (.array .int)) (ty0 := tyX3) (k := 12) (Nc := 18) (Cn := RX3) (T := TX3) (ci := 3) (lt_N0 n589 (by decide)) a584 s585 rfl rfl (fun w hw => List.mem_cons_of_mem _ (inX3 w hw)) tyX3_ok nmX3 (by decide) (List.mem_cons_of_mem _ mF_RX3_32) rfl rfl rfl rfl rfl rfl (by decide : 12 < 18) (rt (fun c => [.ref x2, .ref x367, .ref x418, .int (c.1 3), .long (c.2 4), .int (c.1 5), .int (c.1 6), .int (c.1 7), .int (c.1 8), .ref x500, .long (c.2 10), .int (c.1 11), .ref x559, .int (c.1 13), .null, .int (c.1 15), .int (c.1 16), .null]) 3) rfl dX3_init_102 (fun Y590 C591 K592 n593 a594 s595 => ?_)
  have f596 := isX0_tr f565 K592 (Or.inl (dj_l (by decide)))
  have f597 := isX0_tr f566 K592 (Or.inl (dj_l (by decide)))
  have f598 := isX0_tr f567 K592 (Or.inl (dj_l (by decide)))
  have f599 := isX0_tr f568 K592 (Or.inl (dj_l (by decide)))
  have f600 := isX0_tr f569 K592 (Or.inl (dj_l (by decide)))
  have f601 := isX0_tr f570 K592 (Or.inl (dj_l (by decide)))
  have f602 := isI_tr f571 K592 (nb_r (by decide))
  have f603 := isX5_tr f572 K592 (Or.inl (dj_l (by decide)))
  have f604 := isI_tr f573 K592 (nb_r (by decide))
  have f605 := isI_tr f587 K592 (nb_r (by decide))
  have a606 := (K592.2.2.1 (b + 2) (lt_N n589 (by decide))).trans a574
  have a607 := (K592.2.2.1 (b + 6) (lt_N n589 (by decide))).trans a575
  have a608 := (K592.2.2.1 (b + 10) (lt_N n589 (by decide))).trans a576
  have a609 := (K592.2.2.1 (b + 14) (lt_N n589 (by decide))).trans a577
  have a610 := (K592.2.2.1 (b + 18) (lt_N n589 (by decide))).trans a578
  have a611 := (K592.2.2.1 (b + 22) (lt_N n589 (by decide))).trans a579
  have a612 := (K592.2.2.1 (b + 1) (lt_N n589 (by decide))).trans a580
  have a613 := (K592.2.2.1 (b + 26) (lt_N n589 (by decide))).trans a581
  have a614 := (K592.2.2.1 (b + 27) (lt_N n589 (by decide))).trans a582
  have a615 := (K592.2.2.1 (b + 32) (lt_N n589 (by decide))).trans a583
  have a616 := (K592.2.2.1 (b + 33) (lt_N n589 (by decide))).trans a563
  have a617 := (K592.2.2.1 b (lt_N0 n589 (by decide))).trans a584
  have s618 : Y590.sh (b + 1) = sO Y590.cK 6 (va_up (va_up (va_up (va_up (va_up (va_up (fun _ => none) (0 : Int32).toNatClampNeg (some x14)) (1 : Int32).toNatClampNeg (some x54)) (2 : Int32).toNatClampNeg (some x100)) (3 : Int32).toNatClampNeg (some x152)) (4 : Int32).toNatClampNeg (some x210)) (5 : Int32).toNatClampNeg (some x274)) := by rw [K592.2.2.2 (b + 1) (lt_N n589 (by decide)) (nb_r (by decide)), s586]; show sO Y558.2.1.2.2.2 _ _ = sO Y590.2.1.2.2.2 _ _; rw [K592.1.2.1]
  have k619 := keep_tr (b := b) k588 K592 (Or.inl rfl)
  have n620 : Y590.N = b + 34 := n593.trans n589
  refine g_aload_n C591 0 dX3_init_105 rfl ?_
  refine g_iconst C591 (v := (5 : Int32)) dX3_init_106 (by decide) ?_
  refine g_newA C591 hXa (id := b + 34) n620 .int .int rfl (List.mem_cons_of_mem _ mArr_I) Y590.cI 0 rfl (fun _ _ z => z) rfl (k := 5) (by decide) (by decide) (by decide) (by decide) (by decide) dX3_init_107 (fun Y621 x622 C623 K624 n625 a626 s627 => ?_)
  have f628 := isX0_tr f596 K624 (Or.inr (dj_r (by decide)))
  have f629 := isX0_tr f597 K624 (Or.inr (dj_r (by decide)))
  have f630 := isX0_tr f598 K624 (Or.inr (dj_r (by decide)))
  have f631 := isX0_tr f599 K624 (Or.inr (dj_r (by decide)))
  have f632 := isX0_tr f600 K624 (Or.inr (dj_r (by decide)))
  have f633 := isX0_tr f601 K624 (Or.inr (dj_r (by decide)))
  have f634 := isI_tr f602 K624 (nb_ (by decide))
  have f635 := isX5_tr f603 K624 (Or.inr (dj_r (by decide)))
  have f636 := isI_tr f604 K624 (nb_ (by decide))
  have f637 := isI_tr f605 K624 (nb_ (by decide))
  have a638 := (K624.2.2.1 (b + 2) (lt_N n620 (by decide))).trans a606
  have a639 := (K624.2.2.1 (b + 6) (lt_N n620 (by decide))).trans a607
  have a640 := (K624.2.2.1 (b + 10) (lt_N n620 (by decide))).trans a608
  have a641 := (K624.2.2.1 (b + 14) (lt_N n620 (by decide))).trans a609
  have a642 := (K624.2.2.1 (b + 18) (lt_N n620 (by decide))).trans a610
  have a643 := (K624.2.2.1 (b + 22) (lt_N n620 (by decide))).trans a611
  have a644 := (K624.2.2.1 (b + 1) (lt_N n620 (by decide))).trans a612
  have a645 := (K624.2.2.1 (b + 26) (lt_N n620 (by decide))).trans a613
  have a646 := (K624.2.2.1 (b + 27) (lt_N n620 (by decide))).trans a614
  have a647 := (K624.2.2.1 (b + 32) (lt_N n620 (by decide))).trans a615
  have a648 := (K624.2.2.1 (b + 33) (lt_N n620 (by decide))).trans a616
  have a649 := (K624.2.2.1 b (lt_N0 n620 (by decide))).trans a594
  have s650 := (K624.2.2.2 b (lt_N0 n620 (by decide)) (nb_l (by decide))).trans s595
  have s651 : Y621.sh (b + 1) = sO Y621.cK 6 (va_up (va_up (va_up (va_up (va_up (va_up (fun _ => none) (0 : Int32).toNatClampNeg (some x14)) (1 : Int32).toNatClampNeg (some x54)) (2 : Int32).toNatClampNeg (some x100)) (3 : Int32).toNatClampNeg (some x152)) (4 : Int32).toNatClampNeg (some x210)) (5 : Int32).toNatClampNeg (some x274)) := by rw [K624.2.2.2 (b + 1) (lt_N n620 (by decide)) (nb_ (by decide)), s618]; show sO Y590.2.1.2.2.2 _ _ = sO Y621.2.1.2.2.2 _ _; rw [K624.1.2.1]
  have f652 := isI_new s627 K624 n625
  have k653 := keep_tr (b := b) k619 K624 (Or.inr (ge_N hN (by decide)))
  have n654 : Y621.N = b + 35 := n625
  refine g_putR C623 hXi (i := b) (ty := (.array .int)) (ty0 := tyX3) (k := 14) (Nc := 18) (Cn := RX3) (T := TX3) (ci := 3) (lt_N0 n654 (by decide)) a649 s650 rfl rfl (fun w hw => List.mem_cons_of_mem _ (inX3 w hw)) tyX3_ok nmX3 (by decide) (List.mem_cons_of_mem _ mF_RX3_35) rfl rfl rfl rfl rfl rfl (by decide : 14 < 18) (rt (fun c => [.ref x2, .ref x367, .ref x418, .int (c.1 3), .long (c.2 4), .int (c.1 5), .int (c.1 6), .int (c.1 7), .int (c.1 8), .ref x500, .long (c.2 10), .int (c.1 11), .ref x559, .int (c.1 13), .ref x622, .int (c.1 15), .int (c.1 16), .null]) 3) rfl dX3_init_109 (fun Y655 C656 K657 n658 a659 s660 => ?_)
  have f661 := isX0_tr f628 K657 (Or.inl (dj_l (by decide)))
  have f662 := isX0_tr f629 K657 (Or.inl (dj_l (by decide)))
  have f663 := isX0_tr f630 K657 (Or.inl (dj_l (by decide)))
  have f664 := isX0_tr f631 K657 (Or.inl (dj_l (by decide)))
  have f665 := isX0_tr f632 K657 (Or.inl (dj_l (by decide)))
  have f666 := isX0_tr f633 K657 (Or.inl (dj_l (by decide)))
  have f667 := isI_tr f634 K657 (nb_r (by decide))
  have f668 := isX5_tr f635 K657 (Or.inl (dj_l (by decide)))
  have f669 := isI_tr f636 K657 (nb_r (by decide))
  have f670 := isI_tr f637 K657 (nb_r (by decide))
  have f671 := isI_tr f652 K657 (nb_r (by decide))
  have a672 := (K657.2.2.1 (b + 2) (lt_N n654 (by decide))).trans a638
  have a673 := (K657.2.2.1 (b + 6) (lt_N n654 (by decide))).trans a639
  have a674 := (K657.2.2.1 (b + 10) (lt_N n654 (by decide))).trans a640
  have a675 := (K657.2.2.1 (b + 14) (lt_N n654 (by decide))).trans a641
  have a676 := (K657.2.2.1 (b + 18) (lt_N n654 (by decide))).trans a642
  have a677 := (K657.2.2.1 (b + 22) (lt_N n654 (by decide))).trans a643
  have a678 := (K657.2.2.1 (b + 1) (lt_N n654 (by decide))).trans a644
  have a679 := (K657.2.2.1 (b + 26) (lt_N n654 (by decide))).trans a645
  have a680 := (K657.2.2.1 (b + 27) (lt_N n654 (by decide))).trans a646
  have a681 := (K657.2.2.1 (b + 32) (lt_N n654 (by decide))).trans a647
  have a682 := (K657.2.2.1 (b + 33) (lt_N n654 (by decide))).trans a648
  have a683 := (K657.2.2.1 (b + 34) (lt_N n654 (by decide))).trans a626
  have a684 := (K657.2.2.1 b (lt_N0 n654 (by decide))).trans a649
  have s685 : Y655.sh (b + 1) = sO Y655.cK 6 (va_up (va_up (va_up (va_up (va_up (va_up (fun _ => none) (0 : Int32).toNatClampNeg (some x14)) (1 : Int32).toNatClampNeg (some x54)) (2 : Int32).toNatClampNeg (some x100)) (3 : Int32).toNatClampNeg (some x152)) (4 : Int32).toNatClampNeg (some x210)) (5 : Int32).toNatClampNeg (some x274)) := by rw [K657.2.2.2 (b + 1) (lt_N n654 (by decide)) (nb_r (by decide)), s651]; show sO Y621.2.1.2.2.2 _ _ = sO Y655.2.1.2.2.2 _ _; rw [K657.1.2.1]
  have k686 := keep_tr (b := b) k653 K657 (Or.inl rfl)
  have n687 : Y655.N = b + 35 := n658.trans n654
  refine g_aload_n C656 0 dX3_init_112 rfl ?_
  refine g_iconst C656 (v := (5 : Int32)) dX3_init_113 (by decide) ?_
  refine g_newA C656 hXa (id := b + 35) n687 .int .int rfl (List.mem_cons_of_mem _ mArr_I) Y655.cI 0 rfl (fun _ _ z => z) rfl (k := 5) (by decide) (by decide) (by decide) (by decide) (by decide) dX3_init_114 (fun Y688 x689 C690 K691 n692 a693 s694 => ?_)
  have f695 := isX0_tr f661 K691 (Or.inr (dj_r (by decide)))
  have f696 := isX0_tr f662 K691 (Or.inr (dj_r (by decide)))
  have f697 := isX0_tr f663 K691 (Or.inr (dj_r (by decide)))
  have f698 := isX0_tr f664 K691 (Or.inr (dj_r (by decide)))
  have f699 := isX0_tr f665 K691 (Or.inr (dj_r (by decide)))
  have f700 := isX0_tr f666 K691 (Or.inr (dj_r (by decide)))
  have f701 := isI_tr f667 K691 (nb_ (by decide))
  have f702 := isX5_tr f668 K691 (Or.inr (dj_r (by decide)))
  have f703 := isI_tr f669 K691 (nb_ (by decide))
  have f704 := isI_tr f670 K691 (nb_ (by decide))
  have f705 := isI_tr f671 K691 (nb_ (by decide))
  have a706 := (K691.2.2.1 (b + 2) (lt_N n687 (by decide))).trans a672
  have a707 := (K691.2.2.1 (b + 6) (lt_N n687 (by decide))).trans a673
  have a708 := (K691.2.2.1 (b + 10) (lt_N n687 (by decide))).trans a674
  have a709 := (K691.2.2.1 (b + 14) (lt_N n687 (by decide))).trans a675
  have a710 := (K691.2.2.1 (b + 18) (lt_N n687 (by decide))).trans a676
  have a711 := (K691.2.2.1 (b + 22) (lt_N n687 (by decide))).trans a677
  have a712 := (K691.2.2.1 (b + 1) (lt_N n687 (by decide))).trans a678
  have a713 := (K691.2.2.1 (b + 26) (lt_N n687 (by decide))).trans a679
  have a714 := (K691.2.2.1 (b + 27) (lt_N n687 (by decide))).trans a680
  have a715 := (K691.2.2.1 (b + 32) (lt_N n687 (by decide))).trans a681
  have a716 := (K691.2.2.1 (b + 33) (lt_N n687 (by decide))).trans a682
  have a717 := (K691.2.2.1 (b + 34) (lt_N n687 (by decide))).trans a683
  have a718 := (K691.2.2.1 b (lt_N0 n687 (by decide))).trans a659
  have s719 := (K691.2.2.2 b (lt_N0 n687 (by decide)) (nb_l (by decide))).trans s660
  have s720 : Y688.sh (b + 1) = sO Y688.cK 6 (va_up (va_up (va_up (va_up (va_up (va_up (fun _ => none) (0 : Int32).toNatClampNeg (some x14)) (1 : Int32).toNatClampNeg (some x54)) (2 : Int32).toNatClampNeg (some x100)) (3 : Int32).toNatClampNeg (some x152)) (4 : Int32).toNatClampNeg (some x210)) (5 : Int32).toNatClampNeg (some x274)) := by rw [K691.2.2.2 (b + 1) (lt_N n687 (by decide)) (nb_ (by decide)), s685]; show sO Y655.2.1.2.2.2 _ _ = sO Y688.2.1.2.2.2 _ _; rw [K691.1.2.1]
  have f721 := isI_new s694 K691 n692
  have k722 := keep_tr (b := b) k686 K691 (Or.inr (ge_N hN (by decide)))
  have n723 : Y688.N = b + 36 := n692
  refine g_putR C690 hXi (i := b) (ty := (.array .int)) (ty0 := tyX3) (k := 17) (Nc := 18) (Cn := RX3) (T := TX3) (ci := 3) (lt_N0 n723 (by decide)) a718 s719 rfl rfl (fun w hw => List.mem_cons_of_mem _ (inX3 w hw)) tyX3_ok nmX3 (by decide) (List.mem_cons_of_mem _ mF_RX3_38) rfl rfl rfl rfl rfl rfl (by decide : 17 < 18) (rt (fun c => [.ref x2, .ref x367, .ref x418, .int (c.1 3), .long (c.2 4), .int (c.1 5), .int (c.1 6), .int (c.1 7), .int (c.1 8), .ref x500, .long (c.2 10), .int (c.1 11), .ref x559, .int (c.1 13), .ref x622, .int (c.1 15), .int (c.1 16), .ref x689]) 3) rfl dX3_init_116 (fun Y724 C725 K726 n727 a728 s729 => ?_)
  have f730 := isX0_tr f695 K726 (Or.inl (dj_l (by decide)))
  have f731 := isX0_tr f696 K726 (Or.inl (dj_l (by decide)))
  have f732 := isX0_tr f697 K726 (Or.inl (dj_l (by decide)))
  have f733 := isX0_tr f698 K726 (Or.inl (dj_l (by decide)))
  have f734 := isX0_tr f699 K726 (Or.inl (dj_l (by decide)))
  have f735 := isX0_tr f700 K726 (Or.inl (dj_l (by decide)))
  have f736 := isI_tr f701 K726 (nb_r (by decide))
  have f737 := isX5_tr f702 K726 (Or.inl (dj_l (by decide)))
  have f738 := isI_tr f703 K726 (nb_r (by decide))
  have f739 := isI_tr f704 K726 (nb_r (by decide))
  have f740 := isI_tr f705 K726 (nb_r (by decide))
  have f741 := isI_tr f721 K726 (nb_r (by decide))
  have a742 := (K726.2.2.1 (b + 2) (lt_N n723 (by decide))).trans a706
  have a743 := (K726.2.2.1 (b + 6) (lt_N n723 (by decide))).trans a707
  have a744 := (K726.2.2.1 (b + 10) (lt_N n723 (by decide))).trans a708
  have a745 := (K726.2.2.1 (b + 14) (lt_N n723 (by decide))).trans a709
  have a746 := (K726.2.2.1 (b + 18) (lt_N n723 (by decide))).trans a710
  have a747 := (K726.2.2.1 (b + 22) (lt_N n723 (by decide))).trans a711
  have a748 := (K726.2.2.1 (b + 1) (lt_N n723 (by decide))).trans a712
  have a749 := (K726.2.2.1 (b + 26) (lt_N n723 (by decide))).trans a713
  have a750 := (K726.2.2.1 (b + 27) (lt_N n723 (by decide))).trans a714
  have a751 := (K726.2.2.1 (b + 32) (lt_N n723 (by decide))).trans a715
  have a752 := (K726.2.2.1 (b + 33) (lt_N n723 (by decide))).trans a716
  have a753 := (K726.2.2.1 (b + 34) (lt_N n723 (by decide))).trans a717
  have a754 := (K726.2.2.1 (b + 35) (lt_N n723 (by decide))).trans a693
  have a755 := (K726.2.2.1 b (lt_N0 n723 (by decide))).trans a718
  have s756 : Y724.sh (b + 1) = sO Y724.cK 6 (va_up (va_up (va_up (va_up (va_up (va_up (fun _ => none) (0 : Int32).toNatClampNeg (some x14)) (1 : Int32).toNatClampNeg (some x54)) (2 : Int32).toNatClampNeg (some x100)) (3 : Int32).toNatClampNeg (some x152)) (4 : Int32).toNatClampNeg (some x210)) (5 : Int32).toNatClampNeg (some x274)) := by rw [K726.2.2.2 (b + 1) (lt_N n723 (by decide)) (nb_r (by decide)), s720]; show sO Y688.2.1.2.2.2 _ _ = sO Y724.2.1.2.2.2 _ _; rw [K726.1.2.1]
  have k757 := keep_tr (b := b) k722 K726 (Or.inl rfl)
  have n758 : Y724.N = b + 36 := n727.trans n723
  have f759 : isX3 Y724 b := ⟨(lt_N0 n758 (by decide)), by rw [s729]; unfold sX3; rw [a748, a749, a750, a751, a752, a753, a754], ⟨(lt_N n758 (by decide)), ⟨_, s756, fun i hi => match i, hi with | 0, _ => (a742 ▸ rfl) | 1, _ => (a743 ▸ rfl) | 2, _ => (a744 ▸ rfl) | 3, _ => (a745 ▸ rfl) | 4, _ => (a746 ▸ rfl) | 5, _ => (a747 ▸ rfl) | i + 6, z => absurd z (by omega)⟩, fun i hi => match i, hi with | 0, _ => f730 | 1, _ => f731 | 2, _ => f732 | 3, _ => f733 | 4, _ => f734 | 5, _ => f735 | i + 6, z => absurd z (by omega)⟩, f736, f737, f738, f739, f740, f741⟩
  rw [← a728]
  exact sf_X3_init C725 (fun pc lv μ' hd q => hr pc lv Y724 μ' hd C725 k757 ⟨n758, f759, q⟩) (cx_YI C725) f759 h
set_option maxRecDepth 20000 in
set_option maxHeartbeats 4000000 in
theorem sf_X6_init {X : XT} {Y : YT} {l0 : Launch} {b : Nat} {Q : Mem → Prop} {μ : Mem} (C : Cx X Y 1 cX6_init RX6 WX6_init (rmC 5 101 99 1752) l0) (hr : RVn X Y 1 cX6_init Q) (hI : YI Y) (h0 : isX6 Y b) (h : PSX6_init b μ Q) : G X Y 1 134 [(0, .ref (Y.ad b))] [] μ := by
  unfold PSX6_init at h
  refine g_aload_n C 0 dX6_init_134 rfl ?_
  refine g_iconst C (v := (0 : Int32)) dX6_init_135 (by decide) ?_
  refine gp_RX6_73 C h0 dX6_init_136 ?_
  exact hr _ _ _ dX6_init_139 h
set_option maxRecDepth 20000 in
set_option maxHeartbeats 8000000 in
theorem ok_X6_init {Y : YT} {l0 : Launch} {b : Nat} {μ : Mem} {Q : Mem → Prop} (hI : YI Y) (hN : Y.N = b + 1) (hS : Y.sh b = fX6) (h : PX6_init b μ Q) : MC l0 yX6_init WX6_init 5 101 99 1752 Y b μ (fun Y' μ' => Y'.N = b + 100 ∧ isX6 Y' b ∧ Q μ') := by
  refine mC_of (cc := cX6_init) (maxL := 1) (by decide +kernel) rfl rfl hI (by decide) (fun X C hXa hXi hr => ?_)
  replace C : Cx (xset X 0 0) Y 1 cX6_init RX6 WX6_init (rmC 5 101 99 1752) l0 := C
  obtain ⟨x0, hx0⟩ : ∃ x0, Y.ad b = x0 := ⟨_, rfl⟩
  rw [hx0]
  unfold PX6_init at h
  refine g_aload_n C 0 dX6_init_0 rfl ?_
  refine g_obj C (List.mem_cons_of_mem _ mM_RX6_1) (List.mem_cons_of_mem _ mObj_i) (List.mem_cons_of_mem _ mObj_c) (by decide) (by decide) dX6_init_1 ?_
  refine g_aload_n C 0 dX6_init_4 rfl ?_
  refine g_newO C hXa (id := b + 1) hN (Cn := RX2) (T := TX2) (Nc := 16) (ci := 2) (ty := tyX2) (fun w hw => List.mem_cons_of_mem _ (inX2 w hw)) tyX2_ok (List.mem_cons_of_mem _ mCl_RX6_7) (List.mem_cons_of_mem _ mIns_X2) (List.mem_cons_of_mem _ mInit_RX2) rfl [.int 0, .null, .null, .null, .int 0, .null, .null, .null, .null, .null, .null, .null, .int 0, .int 0, .int 0, .null] dfX2 fX2 rfl (by decide) (by decide) dX6_init_5 (fun Y1 x2 C3 K4 n5 a6 s7 => ?_)
  have a8 := (K4.2.2.1 b (lt_N0 hN (by decide))).trans hx0
  have s9 := (K4.2.2.2 b (lt_N0 hN (by decide)) (nb_l (by decide))).trans hS
  have k10 := keep_tr (b := b) (keep_rf) K4 (Or.inr (ge_N hN (by decide)))
  have n11 : Y1.N = b + 2 := n5
  refine g_dup C3 dX6_init_8 rfl ?_
  refine g_callC C3 hXa (ok_X2_init (cx_YI C3) (b := b + 1) n11 s7 h) (lt_N n11 (by decide)) a6 (gw_cons mC_X2_init) rfl (List.mem_cons_of_mem _ mInit_RX2) (List.mem_cons_of_mem _ mM_RX6_9) (List.mem_cons_of_mem _ mI_X2_init) rfl dc_X2_init ⟨by decide, by decide⟩ (by decide) (by decide) (Nat.le_of_ble_eq_true rfl) dX6_init_9 (fun Y12 m13 C14 K15 p16 => ?_)
  obtain ⟨n17, f18, h⟩ := p16
  have a19 := (K15.2.2.1 (b + 1) (lt_N n11 (by decide))).trans a6
  have a20 := (K15.2.2.1 b (lt_N0 n11 (by decide))).trans a8
  have s21 := (K15.2.2.2 b (lt_N0 n11 (by decide)) (nb_l (by decide))).trans s9
  have k22 := keep_tr (b := b) k10 K15 (Or.inr (ge_N hN (by decide)))
  have n23 : Y12.N = b + 13 := n17
  refine g_putR C14 hXi (i := b) (ty := (.object "NothingLeft$Rules")) (ty0 := tyX6) (k := 0) (Nc := 13) (Cn := RX6) (T := TX6) (ci := 6) (lt_N0 n23 (by decide)) a20 s21 rfl rfl (fun w hw => List.mem_cons_of_mem _ (inX6 w hw)) tyX6_ok nmX6 (by decide) (List.mem_cons_of_mem _ mF_RX6_10) rfl rfl rfl rfl rfl rfl (by decide : 0 < 13) (rt (fun c => [.ref x2, .null, .null, .int (c.1 3), .null, .null, .null, .null, .int (c.1 8), .null, .null, .null, .int (c.1 12)]) 6) rfl dX6_init_12 (fun Y24 C25 K26 n27 a28 s29 => ?_)
  have f30 := isX2_tr f18 K26 (Or.inl (dj_l (by decide)))
  have a31 := (K26.2.2.1 (b + 1) (lt_N n23 (by decide))).trans a19
  have a32 := (K26.2.2.1 b (lt_N0 n23 (by decide))).trans a20
  have k33 := keep_tr (b := b) k22 K26 (Or.inl rfl)
  have n34 : Y24.N = b + 13 := n27.trans n23
  refine g_aload_n C25 0 dX6_init_15 rfl ?_
  refine g_newO C25 hXa (id := b + 13) n34 (Cn := RX2) (T := TX2) (Nc := 16) (ci := 2) (ty := tyX2) (fun w hw => List.mem_cons_of_mem _ (inX2 w hw)) tyX2_ok (List.mem_cons_of_mem _ mCl_RX6_7) (List.mem_cons_of_mem _ mIns_X2) (List.mem_cons_of_mem _ mInit_RX2) rfl [.int 0, .null, .null, .null, .int 0, .null, .null, .null, .null, .null, .null, .null, .int 0, .int 0, .int 0, .null] dfX2 fX2 rfl (by decide) (by decide) dX6_init_16 (fun Y35 x36 C37 K38 n39 a40 s41 => ?_)
  have f42 := isX2_tr f30 K38 (Or.inr (dj_r (by decide)))
  have a43 := (K38.2.2.1 (b + 1) (lt_N n34 (by decide))).trans a31
  have a44 := (K38.2.2.1 b (lt_N0 n34 (by decide))).trans a28
  have s45 := (K38.2.2.2 b (lt_N0 n34 (by decide)) (nb_l (by decide))).trans s29
  have k46 := keep_tr (b := b) k33 K38 (Or.inr (ge_N hN (by decide)))
  have n47 : Y35.N = b + 14 := n39
  refine g_dup C37 dX6_init_19 rfl ?_
  refine g_callC C37 hXa (ok_X2_init (cx_YI C37) (b := b + 13) n47 s41 h) (lt_N n47 (by decide)) a40 (gw_cons mC_X2_init) rfl (List.mem_cons_of_mem _ mInit_RX2) (List.mem_cons_of_mem _ mM_RX6_9) (List.mem_cons_of_mem _ mI_X2_init) rfl dc_X2_init ⟨by decide, by decide⟩ (by decide) (by decide) (Nat.le_of_ble_eq_true rfl) dX6_init_20 (fun Y48 m49 C50 K51 p52 => ?_)
  obtain ⟨n53, f54, h⟩ := p52
  have f55 := isX2_tr f42 K51 (Or.inr (dj_r (by decide)))
  have a56 := (K51.2.2.1 (b + 1) (lt_N n47 (by decide))).trans a43
  have a57 := (K51.2.2.1 (b + 13) (lt_N n47 (by decide))).trans a40
  have a58 := (K51.2.2.1 b (lt_N0 n47 (by decide))).trans a44
  have s59 := (K51.2.2.2 b (lt_N0 n47 (by decide)) (nb_l (by decide))).trans s45
  have k60 := keep_tr (b := b) k46 K51 (Or.inr (ge_N hN (by decide)))
  have n61 : Y48.N = b + 25 := n53
  refine g_putR C50 hXi (i := b) (ty := (.object "NothingLeft$Rules")) (ty0 := tyX6) (k := 1) (Nc := 13) (Cn := RX6) (T := TX6) (ci := 6) (lt_N0 n61 (by decide)) a58 s59 rfl rfl (fun w hw => List.mem_cons_of_mem _ (inX6 w hw)) tyX6_ok nmX6 (by decide) (List.mem_cons_of_mem _ mF_RX6_16) rfl rfl rfl rfl rfl rfl (by decide : 1 < 13) (rt (fun c => [.ref x2, .ref x36, .null, .int (c.1 3), .null, .null, .null, .null, .int (c.1 8), .null, .null, .null, .int (c.1 12)]) 6) rfl dX6_init_23 (fun Y62 C63 K64 n65 a66 s67 => ?_)
  have f68 := isX2_tr f55 K64 (Or.inl (dj_l (by decide)))
  have f69 := isX2_tr f54 K64 (Or.inl (dj_l (by decide)))
  have a70 := (K64.2.2.1 (b + 1) (lt_N n61 (by decide))).trans a56
  have a71 := (K64.2.2.1 (b + 13) (lt_N n61 (by decide))).trans a57
  have a72 := (K64.2.2.1 b (lt_N0 n61 (by decide))).trans a58
  have k73 := keep_tr (b := b) k60 K64 (Or.inl rfl)
  have n74 : Y62.N = b + 25 := n65.trans n61
  refine g_aload_n C63 0 dX6_init_26 rfl ?_
  refine g_newO C63 hXa (id := b + 25) n74 (Cn := RX1) (T := TX1) (Nc := 12) (ci := 1) (ty := tyX1) (fun w hw => List.mem_cons_of_mem _ (inX1 w hw)) tyX1_ok (List.mem_cons_of_mem _ mCl_RX6_19) (List.mem_cons_of_mem _ mIns_X1) (List.mem_cons_of_mem _ mInit_RX1) rfl [.null, .int 0, .null, .int 0, .int 0, .int 0, .int 0, .int 0, .int 0, .int 0, .int 0, .null] dfX1 fX1 rfl (by decide) (by decide) dX6_init_27 (fun Y75 x76 C77 K78 n79 a80 s81 => ?_)
  have f82 := isX2_tr f68 K78 (Or.inr (dj_r (by decide)))
  have f83 := isX2_tr f69 K78 (Or.inr (dj_r (by decide)))
  have a84 := (K78.2.2.1 (b + 1) (lt_N n74 (by decide))).trans a70
  have a85 := (K78.2.2.1 (b + 13) (lt_N n74 (by decide))).trans a71
  have a86 := (K78.2.2.1 b (lt_N0 n74 (by decide))).trans a66
  have s87 := (K78.2.2.2 b (lt_N0 n74 (by decide)) (nb_l (by decide))).trans s67
  have k88 := keep_tr (b := b) k73 K78 (Or.inr (ge_N hN (by decide)))
  have n89 : Y75.N = b + 26 := n79
  refine g_dup C77 dX6_init_30 rfl ?_
  refine g_callN C77 hXa (ok_X1_init (cx_YI C77) (b := b + 25) n89 s81 h) (lt_N n89 (by decide)) a80 (gw_cons mC_X1_init) rfl (List.mem_cons_of_mem _ mInit_RX1) (host := RX6) (by simp [sNst]) (List.mem_cons_of_mem _ mI_X1_init) rfl dc_X1_init ⟨by decide, by decide⟩ (by decide) (by decide) (Nat.le_of_ble_eq_true rfl) dX6_init_31 (fun Y90 m91 C92 K93 p94 => ?_)
  obtain ⟨n95, f96, h⟩ := p94
  have f97 := isX2_tr f82 K93 (Or.inr (dj_r (by decide)))
  have f98 := isX2_tr f83 K93 (Or.inr (dj_r (by decide)))
  have a99 := (K93.2.2.1 (b + 1) (lt_N n89 (by decide))).trans a84
  have a100 := (K93.2.2.1 (b + 13) (lt_N n89 (by decide))).trans a85
  have a101 := (K93.2.2.1 (b + 25) (lt_N n89 (by decide))).trans a80
  have a102 := (K93.2.2.1 b (lt_N0 n89 (by decide))).trans a86
  have s103 := (K93.2.2.2 b (lt_N0 n89 (by decide)) (nb_l (by decide))).trans s87
  have k104 := keep_tr (b := b) k88 K93 (Or.inr (ge_N hN (by decide)))
  have n105 : Y90.N = b + 40 := n95
  refine g_putR C92 hXi (i := b) (ty := (.object "NothingLeft$Reader")) (ty0 := tyX6) (k := 2) (Nc := 13) (Cn := RX6) (T := TX6) (ci := 6) (lt_N0 n105 (by decide)) a102 s103 rfl rfl (fun w hw => List.mem_cons_of_mem _ (inX6 w hw)) tyX6_ok nmX6 (by decide) (List.mem_cons_of_mem _ mF_RX6_22) rfl rfl rfl rfl rfl rfl (by decide : 2 < 13) (rt (fun c => [.ref x2, .ref x36, .ref x76, .int (c.1 3), .null, .null, .null, .null, .int (c.1 8), .null, .null, .null, .int (c.1 12)]) 6) rfl dX6_init_34 (fun Y106 C107 K108 n109 a110 s111 => ?_)
  have f112 := isX2_tr f97 K108 (Or.inl (dj_l (by decide)))
  have f113 := isX2_tr f98 K108 (Or.inl (dj_l (by decide)))
  have f114 := isX1_tr f96 K108 (Or.inl (dj_l (by decide)))
  have a115 := (K108.2.2.1 (b + 1) (lt_N n105 (by decide))).trans a99
  have a116 := (K108.2.2.1 (b + 13) (lt_N n105 (by decide))).trans a100
  have a117 := (K108.2.2.1 (b + 25) (lt_N n105 (by decide))).trans a101
  have a118 := (K108.2.2.1 b (lt_N0 n105 (by decide))).trans a102
  have k119 := keep_tr (b := b) k104 K108 (Or.inl rfl)
  have n120 : Y106.N = b + 40 := n109.trans n105
  refine g_aload_n C107 0 dX6_init_37 rfl ?_
  refine g_iconst C107 (v := (0 : Int32)) dX6_init_38 (by decide) ?_
  rw [← a110]
  refine g_put C107 (μ' := ms m91 b 3 (0 : Int32)) (ty := .int) (ty0 := tyX6) (k := 3) (Nc := 13) (Cn := RX6) (T := TX6) (ci := 6) (lt_N0 n120 (by decide)) s111 rfl rfl (fun w hw => List.mem_cons_of_mem _ (inX6 w hw)) tyX6_ok nmX6 (by decide) (List.mem_cons_of_mem _ mF_RX6_26) rfl rfl rfl rfl rfl (by decide : 3 < 13) (by rw [mrow_ms]; rfl) (fun b h => mrow_ms_ne h) dX6_init_39 ?_
  rw [a110]
  refine g_aload_n C107 0 dX6_init_42 rfl ?_
  refine g_newO C107 hXa (id := b + 40) n120 (Cn := RX0) (T := TX0) (Nc := 8) (ci := 0) (ty := tyX0) (fun w hw => List.mem_cons_of_mem _ (inX0 w hw)) tyX0_ok (List.mem_cons_of_mem _ mCl_RX6_30) (List.mem_cons_of_mem _ mIns_X0) (List.mem_cons_of_mem _ mInit_RX0) rfl [.null, .null, .int 0, .int 0, .int 0, .int 0, .int 0, .null] dfX0 fX0 rfl (by decide) (by decide) dX6_init_43 (fun Y121 x122 C123 K124 n125 a126 s127 => ?_)
  have f128 := isX2_tr f112 K124 (Or.inr (dj_r (by decide)))
  have f129 := isX2_tr f113 K124 (Or.inr (dj_r (by decide)))
  have f130 := isX1_tr f114 K124 (Or.inr (dj_r (by decide)))
  have a131 := (K124.2.2.1 (b + 1) (lt_N n120 (by decide))).trans a115
  have a132 := (K124.2.2.1 (b + 13) (lt_N n120 (by decide))).trans a116
  have a133 := (K124.2.2.1 (b + 25) (lt_N n120 (by decide))).trans a117
  have a134 := (K124.2.2.1 b (lt_N0 n120 (by decide))).trans a110
  have s135 := (K124.2.2.2 b (lt_N0 n120 (by decide)) (nb_l (by decide))).trans s111
  have k136 := keep_tr (b := b) k119 K124 (Or.inr (ge_N hN (by decide)))
  have n137 : Y121.N = b + 41 := n125
  refine g_dup C123 dX6_init_46 rfl ?_
  refine g_callC C123 hXa (ok_X0_init (cx_YI C123) (b := b + 40) n137 s127 h) (lt_N n137 (by decide)) a126 (gw_cons mC_X0_init) rfl (List.mem_cons_of_mem _ mInit_RX0) (List.mem_cons_of_mem _ mM_RX6_32) (List.mem_cons_of_mem _ mI_X0_init) rfl dc_X0_init ⟨by decide, by decide⟩ (by decide) (by decide) (Nat.le_of_ble_eq_true rfl) dX6_init_47 (fun Y138 m139 C140 K141 p142 => ?_)
  obtain ⟨n143, f144, h⟩ := p142
  have f145 := isX2_tr f128 K141 (Or.inr (dj_r (by decide)))
  have f146 := isX2_tr f129 K141 (Or.inr (dj_r (by decide)))
  have f147 := isX1_tr f130 K141 (Or.inr (dj_r (by decide)))
  have a148 := (K141.2.2.1 (b + 1) (lt_N n137 (by decide))).trans a131
  have a149 := (K141.2.2.1 (b + 13) (lt_N n137 (by decide))).trans a132
  have a150 := (K141.2.2.1 (b + 25) (lt_N n137 (by decide))).trans a133
  have a151 := (K141.2.2.1 (b + 40) (lt_N n137 (by decide))).trans a126
  have a152 := (K141.2.2.1 b (lt_N0 n137 (by decide))).trans a134
  have s153 := (K141.2.2.2 b (lt_N0 n137 (by decide)) (nb_l (by decide))).trans s135
  have k154 := keep_tr (b := b) k136 K141 (Or.inr (ge_N hN (by decide)))
  have n155 : Y138.N = b + 44 := n143
  refine g_putR C140 hXi (i := b) (ty := (.object "NothingLeft$Kitchen")) (ty0 := tyX6) (k := 4) (Nc := 13) (Cn := RX6) (T := TX6) (ci := 6) (lt_N0 n155 (by decide)) a152 s153 rfl rfl (fun w hw => List.mem_cons_of_mem _ (inX6 w hw)) tyX6_ok nmX6 (by decide) (List.mem_cons_of_mem _ mF_RX6_33) rfl rfl rfl rfl rfl rfl (by decide : 4 < 13) (rt (fun c => [.ref x2, .ref x36, .ref x76, .int (c.1 3), .ref x122, .null, .null, .null, .int (c.1 8), .null, .null, .null, .int (c.1 12)]) 6) rfl dX6_init_50 (fun Y156 C157 K158 n159 a160 s161 => ?_)
  have f162 := isX2_tr f145 K158 (Or.inl (dj_l (by decide)))
  have f163 := isX2_tr f146 K158 (Or.inl (dj_l (by decide)))
  have f164 := isX1_tr f147 K158 (Or.inl (dj_l (by decide)))
  have f165 := isX0_tr f144 K158 (Or.inl (dj_l (by decide)))
  have a166 := (K158.2.2.1 (b + 1) (lt_N n155 (by decide))).trans a148
  have a167 := (K158.2.2.1 (b + 13) (lt_N n155 (by decide))).trans a149
  have a168 := (K158.2.2.1 (b + 25) (lt_N n155 (by decide))).trans a150
  have a169 := (K158.2.2.1 (b + 40) (lt_N n155 (by decide))).trans a151
  have a170 := (K158.2.2.1 b (lt_N0 n155 (by decide))).trans a152
  have k171 := keep_tr (b := b) k154 K158 (Or.inl rfl)
  have n172 : Y156.N = b + 44 := n159.trans n155
  refine g_aload_n C157 0 dX6_init_53 rfl ?_
  refine g_iconst C157 (v := (2 : Int32)) dX6_init_54 (by decide) ?_
  refine g_newQ C157 hXa (id := b + 44) n172 (List.mem_cons_of_mem _ mCl_RX6_30) (k := 2) (by decide) (by decide) (by decide) (by decide) (by decide) dX6_init_55 (fun Y173 x174 C175 K176 n177 a178 s179 => ?_)
  have f180 := isX2_tr f162 K176 (Or.inr (dj_r (by decide)))
  have f181 := isX2_tr f163 K176 (Or.inr (dj_r (by decide)))
  have f182 := isX1_tr f164 K176 (Or.inr (dj_r (by decide)))
  have f183 := isX0_tr f165 K176 (Or.inr (dj_r (by decide)))
  have a184 := (K176.2.2.1 (b + 1) (lt_N n172 (by decide))).trans a166
  have a185 := (K176.2.2.1 (b + 13) (lt_N n172 (by decide))).trans a167
  have a186 := (K176.2.2.1 (b + 25) (lt_N n172 (by decide))).trans a168
  have a187 := (K176.2.2.1 (b + 40) (lt_N n172 (by decide))).trans a169
  have a188 := (K176.2.2.1 b (lt_N0 n172 (by decide))).trans a160
  have s189 := (K176.2.2.2 b (lt_N0 n172 (by decide)) (nb_l (by decide))).trans s161
  have k190 := keep_tr (b := b) k171 K176 (Or.inr (ge_N hN (by decide)))
  have s191 : Y173.sh (b + 44) = sO Y173.cK 2 (fun _ => none) := by rw [s179]; show sO Y156.2.1.2.2.2 _ _ = sO Y173.2.1.2.2.2 _ _; rw [K176.1.2.1]
  have n192 : Y173.N = b + 45 := n177
  refine g_dup C175 dX6_init_58 rfl ?_
  refine g_iconst C175 (v := (0 : Int32)) dX6_init_59 (by decide) ?_
  refine g_newO C175 hXa (id := b + 45) n192 (Cn := RX0) (T := TX0) (Nc := 8) (ci := 0) (ty := tyX0) (fun w hw => List.mem_cons_of_mem _ (inX0 w hw)) tyX0_ok (List.mem_cons_of_mem _ mCl_RX6_30) (List.mem_cons_of_mem _ mIns_X0) (List.mem_cons_of_mem _ mInit_RX0) rfl [.null, .null, .int 0, .int 0, .int 0, .int 0, .int 0, .null] dfX0 fX0 rfl (by decide) (by decide) dX6_init_60 (fun Y193 x194 C195 K196 n197 a198 s199 => ?_)
  have f200 := isX2_tr f180 K196 (Or.inr (dj_r (by decide)))
  have f201 := isX2_tr f181 K196 (Or.inr (dj_r (by decide)))
  have f202 := isX1_tr f182 K196 (Or.inr (dj_r (by decide)))
  have f203 := isX0_tr f183 K196 (Or.inr (dj_r (by decide)))
  have a204 := (K196.2.2.1 (b + 1) (lt_N n192 (by decide))).trans a184
  have a205 := (K196.2.2.1 (b + 13) (lt_N n192 (by decide))).trans a185
  have a206 := (K196.2.2.1 (b + 25) (lt_N n192 (by decide))).trans a186
  have a207 := (K196.2.2.1 (b + 40) (lt_N n192 (by decide))).trans a187
  have a208 := (K196.2.2.1 (b + 44) (lt_N n192 (by decide))).trans a178
  have a209 := (K196.2.2.1 b (lt_N0 n192 (by decide))).trans a188
  have s210 := (K196.2.2.2 b (lt_N0 n192 (by decide)) (nb_l (by decide))).trans s189
  have s211 : Y193.sh (b + 44) = sO Y193.cK 2 (fun _ => none) := by rw [K196.2.2.2 (b + 44) (lt_N n192 (by decide)) (nb_ (by decide)), s191]; show sO Y173.2.1.2.2.2 _ _ = sO Y193.2.1.2.2.2 _ _; rw [K196.1.2.1]
  have k212 := keep_tr (b := b) k190 K196 (Or.inr (ge_N hN (by decide)))
  have n213 : Y193.N = b + 46 := n197
  refine g_dup C195 dX6_init_63 rfl ?_
  refine g_callC C195 hXa (ok_X0_init (cx_YI C195) (b := b + 45) n213 s199 h) (lt_N n213 (by decide)) a198 (gw_cons mC_X0_init) rfl (List.mem_cons_of_mem _ mInit_RX0) (List.mem_cons_of_mem _ mM_RX6_32) (List.mem_cons_of_mem _ mI_X0_init) rfl dc_X0_init ⟨by decide, by decide⟩ (by decide) (by decide) (Nat.le_of_ble_eq_true rfl) dX6_init_64 (fun Y214 m215 C216 K217 p218 => ?_)
  obtain ⟨n219, f220, h⟩ := p218
  have f221 := isX2_tr f200 K217 (Or.inr (dj_r (by decide)))
  have f222 := isX2_tr f201 K217 (Or.inr (dj_r (by decide)))
  have f223 := isX1_tr f202 K217 (Or.inr (dj_r (by decide)))
  have f224 := isX0_tr f203 K217 (Or.inr (dj_r (by decide)))
  have a225 := (K217.2.2.1 (b + 1) (lt_N n213 (by decide))).trans a204
  have a226 := (K217.2.2.1 (b + 13) (lt_N n213 (by decide))).trans a205
  have a227 := (K217.2.2.1 (b + 25) (lt_N n213 (by decide))).trans a206
  have a228 := (K217.2.2.1 (b + 40) (lt_N n213 (by decide))).trans a207
  have a229 := (K217.2.2.1 (b + 44) (lt_N n213 (by decide))).trans a208
  have a230 := (K217.2.2.1 (b + 45) (lt_N n213 (by decide))).trans a198
  have a231 := (K217.2.2.1 b (lt_N0 n213 (by decide))).trans a209
  have s232 := (K217.2.2.2 b (lt_N0 n213 (by decide)) (nb_l (by decide))).trans s210
  have s233 : Y214.sh (b + 44) = sO Y214.cK 2 (fun _ => none) := by rw [K217.2.2.2 (b + 44) (lt_N n213 (by decide)) (nb_ (by decide)), s211]; show sO Y193.2.1.2.2.2 _ _ = sO Y214.2.1.2.2.2 _ _; rw [K217.1.2.1]
  have k234 := keep_tr (b := b) k212 K217 (Or.inr (ge_N hN (by decide)))
  have n235 : Y214.N = b + 49 := n219
  refine g_astq C216 (a := b + 44) (b := b + 45) (n := 2) (f := (fun _ => none)) (lt_N n235 (by decide)) a229 s233 (lt_N n235 (by decide)) a230 (by rw [isX0_sh f220]; rfl) (by unfold vp_in; decide) dX6_init_67 (fun Y236 C237 K238 n239 a240 s241 => ?_)
  have f242 := isX2_tr f221 K238 (Or.inr (dj_r (by decide)))
  have f243 := isX2_tr f222 K238 (Or.inr (dj_r (by decide)))
  have f244 := isX1_tr f223 K238 (Or.inr (dj_r (by decide)))
  have f245 := isX0_tr f224 K238 (Or.inr (dj_r (by decide)))
  have f246 := isX0_tr f220 K238 (Or.inl (dj_m (by decide)))
  have a247 := (K238.2.2.1 (b + 1) (lt_N n235 (by decide))).trans a225
  have a248 := (K238.2.2.1 (b + 13) (lt_N n235 (by decide))).trans a226
  have a249 := (K238.2.2.1 (b + 25) (lt_N n235 (by decide))).trans a227
  have a250 := (K238.2.2.1 (b + 40) (lt_N n235 (by decide))).trans a228
  have a251 := (K238.2.2.1 (b + 45) (lt_N n235 (by decide))).trans a230
  have a252 := (K238.2.2.1 b (lt_N0 n235 (by decide))).trans a231
  have s253 := (K238.2.2.2 b (lt_N0 n235 (by decide)) (nb_l (by decide))).trans s232
  have s254 : Y236.sh (b + 44) = sO Y236.cK 2 (va_up (fun _ => none) (0 : Int32).toNatClampNeg (some x194)) := by rw [s241]; show sO Y214.2.1.2.2.2 _ _ = sO Y236.2.1.2.2.2 _ _; rw [K238.1.2.1]
  have k255 := keep_tr (b := b) k234 K238 (Or.inr (ge_N hN (by decide)))
  have n256 : Y236.N = b + 49 := n239.trans n235
  refine g_dup C237 dX6_init_68 rfl ?_
  refine g_iconst C237 (v := (1 : Int32)) dX6_init_69 (by decide) ?_
  refine g_newO C237 hXa (id := b + 49) n256 (Cn := RX0) (T := TX0) (Nc := 8) (ci := 0) (ty := tyX0) (fun w hw => List.mem_cons_of_mem _ (inX0 w hw)) tyX0_ok (List.mem_cons_of_mem _ mCl_RX6_30) (List.mem_cons_of_mem _ mIns_X0) (List.mem_cons_of_mem _ mInit_RX0) rfl [.null, .null, .int 0, .int 0, .int 0, .int 0, .int 0, .null] dfX0 fX0 rfl (by decide) (by decide) dX6_init_70 (fun Y257 x258 C259 K260 n261 a262 s263 => ?_)
  have f264 := isX2_tr f242 K260 (Or.inr (dj_r (by decide)))
  have f265 := isX2_tr f243 K260 (Or.inr (dj_r (by decide)))
  have f266 := isX1_tr f244 K260 (Or.inr (dj_r (by decide)))
  have f267 := isX0_tr f245 K260 (Or.inr (dj_r (by decide)))
  have f268 := isX0_tr f246 K260 (Or.inr (dj_r (by decide)))
  have a269 := (K260.2.2.1 (b + 1) (lt_N n256 (by decide))).trans a247
  have a270 := (K260.2.2.1 (b + 13) (lt_N n256 (by decide))).trans a248
  have a271 := (K260.2.2.1 (b + 25) (lt_N n256 (by decide))).trans a249
  have a272 := (K260.2.2.1 (b + 40) (lt_N n256 (by decide))).trans a250
  have a273 := (K260.2.2.1 (b + 45) (lt_N n256 (by decide))).trans a251
  have a274 := (K260.2.2.1 (b + 44) (lt_N n256 (by decide))).trans a240
  have a275 := (K260.2.2.1 b (lt_N0 n256 (by decide))).trans a252
  have s276 := (K260.2.2.2 b (lt_N0 n256 (by decide)) (nb_l (by decide))).trans s253
  have s277 : Y257.sh (b + 44) = sO Y257.cK 2 (va_up (fun _ => none) (0 : Int32).toNatClampNeg (some x194)) := by rw [K260.2.2.2 (b + 44) (lt_N n256 (by decide)) (nb_ (by decide)), s254]; show sO Y236.2.1.2.2.2 _ _ = sO Y257.2.1.2.2.2 _ _; rw [K260.1.2.1]
  have k278 := keep_tr (b := b) k255 K260 (Or.inr (ge_N hN (by decide)))
  have n279 : Y257.N = b + 50 := n261
  refine g_dup C259 dX6_init_73 rfl ?_
  refine g_callC C259 hXa (ok_X0_init (cx_YI C259) (b := b + 49) n279 s263 h) (lt_N n279 (by decide)) a262 (gw_cons mC_X0_init) rfl (List.mem_cons_of_mem _ mInit_RX0) (List.mem_cons_of_mem _ mM_RX6_32) (List.mem_cons_of_mem _ mI_X0_init) rfl dc_X0_init ⟨by decide, by decide⟩ (by decide) (by decide) (Nat.le_of_ble_eq_true rfl) dX6_init_74 (fun Y280 m281 C282 K283 p284 => ?_)
  obtain ⟨n285, f286, h⟩ := p284
  have f287 := isX2_tr f264 K283 (Or.inr (dj_r (by decide)))
  have f288 := isX2_tr f265 K283 (Or.inr (dj_r (by decide)))
  have f289 := isX1_tr f266 K283 (Or.inr (dj_r (by decide)))
  have f290 := isX0_tr f267 K283 (Or.inr (dj_r (by decide)))
  have f291 := isX0_tr f268 K283 (Or.inr (dj_r (by decide)))
  have a292 := (K283.2.2.1 (b + 1) (lt_N n279 (by decide))).trans a269
  have a293 := (K283.2.2.1 (b + 13) (lt_N n279 (by decide))).trans a270
  have a294 := (K283.2.2.1 (b + 25) (lt_N n279 (by decide))).trans a271
  have a295 := (K283.2.2.1 (b + 40) (lt_N n279 (by decide))).trans a272
  have a296 := (K283.2.2.1 (b + 45) (lt_N n279 (by decide))).trans a273
  have a297 := (K283.2.2.1 (b + 44) (lt_N n279 (by decide))).trans a274
  have a298 := (K283.2.2.1 (b + 49) (lt_N n279 (by decide))).trans a262
  have a299 := (K283.2.2.1 b (lt_N0 n279 (by decide))).trans a275
  have s300 := (K283.2.2.2 b (lt_N0 n279 (by decide)) (nb_l (by decide))).trans s276
  have s301 : Y280.sh (b + 44) = sO Y280.cK 2 (va_up (fun _ => none) (0 : Int32).toNatClampNeg (some x194)) := by rw [K283.2.2.2 (b + 44) (lt_N n279 (by decide)) (nb_ (by decide)), s277]; show sO Y257.2.1.2.2.2 _ _ = sO Y280.2.1.2.2.2 _ _; rw [K283.1.2.1]
  have k302 := keep_tr (b := b) k278 K283 (Or.inr (ge_N hN (by decide)))
  have n303 : Y280.N = b + 53 := n285
  refine g_astq C282 (a := b + 44) (b := b + 49) (n := 2) (f := (va_up (fun _ => none) (0 : Int32).toNatClampNeg (some x194))) (lt_N n303 (by decide)) a297 s301 (lt_N n303 (by decide)) a298 (by rw [isX0_sh f286]; rfl) (by unfold vp_in; decide) dX6_init_77 (fun Y304 C305 K306 n307 a308 s309 => ?_)
  have f310 := isX2_tr f287 K306 (Or.inr (dj_r (by decide)))
  have f311 := isX2_tr f288 K306 (Or.inr (dj_r (by decide)))
  have f312 := isX1_tr f289 K306 (Or.inr (dj_r (by decide)))
  have f313 := isX0_tr f290 K306 (Or.inr (dj_r (by decide)))
  have f314 := isX0_tr f291 K306 (Or.inl (dj_m (by decide)))
  have f315 := isX0_tr f286 K306 (Or.inl (dj_m (by decide)))
  have a316 := (K306.2.2.1 (b + 1) (lt_N n303 (by decide))).trans a292
  have a317 := (K306.2.2.1 (b + 13) (lt_N n303 (by decide))).trans a293
  have a318 := (K306.2.2.1 (b + 25) (lt_N n303 (by decide))).trans a294
  have a319 := (K306.2.2.1 (b + 40) (lt_N n303 (by decide))).trans a295
  have a320 := (K306.2.2.1 (b + 45) (lt_N n303 (by decide))).trans a296
  have a321 := (K306.2.2.1 (b + 49) (lt_N n303 (by decide))).trans a298
  have a322 := (K306.2.2.1 b (lt_N0 n303 (by decide))).trans a299
  have s323 := (K306.2.2.2 b (lt_N0 n303 (by decide)) (nb_l (by decide))).trans s300
  have s324 : Y304.sh (b + 44) = sO Y304.cK 2 (va_up (va_up (fun _ => none) (0 : Int32).toNatClampNeg (some x194)) (1 : Int32).toNatClampNeg (some x258)) := by rw [s309]; show sO Y280.2.1.2.2.2 _ _ = sO Y304.2.1.2.2.2 _ _; rw [K306.1.2.1]
  have k325 := keep_tr (b := b) k302 K306 (Or.inr (ge_N hN (by decide)))
  have n326 : Y304.N = b + 53 := n307.trans n303
  refine g_putR C305 hXi (i := b) (ty := (.array (.object "NothingLeft$Kitchen"))) (ty0 := tyX6) (k := 5) (Nc := 13) (Cn := RX6) (T := TX6) (ci := 6) (lt_N0 n326 (by decide)) a322 s323 rfl rfl (fun w hw => List.mem_cons_of_mem _ (inX6 w hw)) tyX6_ok nmX6 (by decide) (List.mem_cons_of_mem _ mF_RX6_37) rfl rfl rfl rfl rfl rfl (by decide : 5 < 13) (rt (fun c => [.ref x2, .ref x36, .ref x76, .int (c.1 3), .ref x122, .ref x174, .null, .null, .int (c.1 8), .null, .null, .null, .int (c.1 12)]) 6) rfl dX6_init_78 (fun Y327 C328 K329 n330 a331 s332 => ?_)
  have f333 := isX2_tr f310 K329 (Or.inl (dj_l (by decide)))
  have f334 := isX2_tr f311 K329 (Or.inl (dj_l (by decide)))
  have f335 := isX1_tr f312 K329 (Or.inl (dj_l (by decide)))
  have f336 := isX0_tr f313 K329 (Or.inl (dj_l (by decide)))
  have f337 := isX0_tr f314 K329 (Or.inl (dj_l (by decide)))
  have f338 := isX0_tr f315 K329 (Or.inl (dj_l (by decide)))
  have a339 := (K329.2.2.1 (b + 1) (lt_N n326 (by decide))).trans a316
  have a340 := (K329.2.2.1 (b + 13) (lt_N n326 (by decide))).trans a317
  have a341 := (K329.2.2.1 (b + 25) (lt_N n326 (by decide))).trans a318
  have a342 := (K329.2.2.1 (b + 40) (lt_N n326 (by decide))).trans a319
  have a343 := (K329.2.2.1 (b + 45) (lt_N n326 (by decide))).trans a320
  have a344 := (K329.2.2.1 (b + 49) (lt_N n326 (by decide))).trans a321
  have a345 := (K329.2.2.1 (b + 44) (lt_N n326 (by decide))).trans a308
  have a346 := (K329.2.2.1 b (lt_N0 n326 (by decide))).trans a322
  have s347 : Y327.sh (b + 44) = sO Y327.cK 2 (va_up (va_up (fun _ => none) (0 : Int32).toNatClampNeg (some x194)) (1 : Int32).toNatClampNeg (some x258)) := by rw [K329.2.2.2 (b + 44) (lt_N n326 (by decide)) (nb_r (by decide)), s324]; show sO Y304.2.1.2.2.2 _ _ = sO Y327.2.1.2.2.2 _ _; rw [K329.1.2.1]
  have k348 := keep_tr (b := b) k325 K329 (Or.inl rfl)
  have n349 : Y327.N = b + 53 := n330.trans n326
  refine g_aload_n C328 0 dX6_init_81 rfl ?_
  refine g_iconst C328 (v := (2 : Int32)) dX6_init_82 (by decide) ?_
  refine g_newA C328 hXa (id := b + 53) n349 .boolean .boolean rfl (List.mem_cons_of_mem _ mArr_Z) Y327.cZ 2 rfl (fun _ _ z => z) rfl (k := 2) (by decide) (by decide) (by decide) (by decide) (by decide) dX6_init_83 (fun Y350 x351 C352 K353 n354 a355 s356 => ?_)
  have f357 := isX2_tr f333 K353 (Or.inr (dj_r (by decide)))
  have f358 := isX2_tr f334 K353 (Or.inr (dj_r (by decide)))
  have f359 := isX1_tr f335 K353 (Or.inr (dj_r (by decide)))
  have f360 := isX0_tr f336 K353 (Or.inr (dj_r (by decide)))
  have f361 := isX0_tr f337 K353 (Or.inr (dj_r (by decide)))
  have f362 := isX0_tr f338 K353 (Or.inr (dj_r (by decide)))
  have a363 := (K353.2.2.1 (b + 1) (lt_N n349 (by decide))).trans a339
  have a364 := (K353.2.2.1 (b + 13) (lt_N n349 (by decide))).trans a340
  have a365 := (K353.2.2.1 (b + 25) (lt_N n349 (by decide))).trans a341
  have a366 := (K353.2.2.1 (b + 40) (lt_N n349 (by decide))).trans a342
  have a367 := (K353.2.2.1 (b + 45) (lt_N n349 (by decide))).trans a343
  have a368 := (K353.2.2.1 (b + 49) (lt_N n349 (by decide))).trans a344
  have a369 := (K353.2.2.1 (b + 44) (lt_N n349 (by decide))).trans a345
  have a370 := (K353.2.2.1 b (lt_N0 n349 (by decide))).trans a331
  have s371 := (K353.2.2.2 b (lt_N0 n349 (by decide)) (nb_l (by decide))).trans s332
  have s372 : Y350.sh (b + 44) = sO Y350.cK 2 (va_up (va_up (fun _ => none) (0 : Int32).toNatClampNeg (some x194)) (1 : Int32).toNatClampNeg (some x258)) := by rw [K353.2.2.2 (b + 44) (lt_N n349 (by decide)) (nb_ (by decide)), s347]; show sO Y327.2.1.2.2.2 _ _ = sO Y350.2.1.2.2.2 _ _; rw [K353.1.2.1]
  have f373 := isZ_new s356 K353 n354
  have k374 := keep_tr (b := b) k348 K353 (Or.inr (ge_N hN (by decide)))
  have n375 : Y350.N = b + 54 := n354
  refine g_putR C352 hXi (i := b) (ty := (.array .boolean)) (ty0 := tyX6) (k := 6) (Nc := 13) (Cn := RX6) (T := TX6) (ci := 6) (lt_N0 n375 (by decide)) a370 s371 rfl rfl (fun w hw => List.mem_cons_of_mem _ (inX6 w hw)) tyX6_ok nmX6 (by decide) (List.mem_cons_of_mem _ mF_RX6_41) rfl rfl rfl rfl rfl rfl (by decide : 6 < 13) (rt (fun c => [.ref x2, .ref x36, .ref x76, .int (c.1 3), .ref x122, .ref x174, .ref x351, .null, .int (c.1 8), .null, .null, .null, .int (c.1 12)]) 6) rfl dX6_init_85 (fun Y376 C377 K378 n379 a380 s381 => ?_)
  have f382 := isX2_tr f357 K378 (Or.inl (dj_l (by decide)))
  have f383 := isX2_tr f358 K378 (Or.inl (dj_l (by decide)))
  have f384 := isX1_tr f359 K378 (Or.inl (dj_l (by decide)))
  have f385 := isX0_tr f360 K378 (Or.inl (dj_l (by decide)))
  have f386 := isX0_tr f361 K378 (Or.inl (dj_l (by decide)))
  have f387 := isX0_tr f362 K378 (Or.inl (dj_l (by decide)))
  have f388 := isZ_tr f373 K378 (nb_r (by decide))
  have a389 := (K378.2.2.1 (b + 1) (lt_N n375 (by decide))).trans a363
  have a390 := (K378.2.2.1 (b + 13) (lt_N n375 (by decide))).trans a364
  have a391 := (K378.2.2.1 (b + 25) (lt_N n375 (by decide))).trans a365
  have a392 := (K378.2.2.1 (b + 40) (lt_N n375 (by decide))).trans a366
  have a393 := (K378.2.2.1 (b + 45) (lt_N n375 (by decide))).trans a367
  have a394 := (K378.2.2.1 (b + 49) (lt_N n375 (by decide))).trans a368
  have a395 := (K378.2.2.1 (b + 44) (lt_N n375 (by decide))).trans a369
  have a396 := (K378.2.2.1 (b + 53) (lt_N n375 (by decide))).trans a355
  have a397 := (K378.2.2.1 b (lt_N0 n375 (by decide))).trans a370
  have s398 : Y376.sh (b + 44) = sO Y376.cK 2 (va_up (va_up (fun _ => none) (0 : Int32).toNatClampNeg (some x194)) (1 : Int32).toNatClampNeg (some x258)) := by rw [K378.2.2.2 (b + 44) (lt_N n375 (by decide)) (nb_r (by decide)), s372]; show sO Y350.2.1.2.2.2 _ _ = sO Y376.2.1.2.2.2 _ _; rw [K378.1.2.1]
  have k399 := keep_tr (b := b) k374 K378 (Or.inl rfl)
  have n400 : Y376.N = b + 54 := n379.trans n375
  refine g_aload_n C377 0 dX6_init_88 rfl ?_
  refine g_bipush C377 (v := (7 : Int32)) dX6_init_89 (by decide) ?_
  refine g_newA C377 hXa (id := b + 54) n400 .int .int rfl (List.mem_cons_of_mem _ mArr_I) Y376.cI 0 rfl (fun _ _ z => z) rfl (k := 7) (by decide) (by decide) (by decide) (by decide) (by decide) dX6_init_91 (fun Y401 x402 C403 K404 n405 a406 s407 => ?_)
  have f408 := isX2_tr f382 K404 (Or.inr (dj_r (by decide)))
  have f409 := isX2_tr f383 K404 (Or.inr (dj_r (by decide)))
  have f410 := isX1_tr f384 K404 (Or.inr (dj_r (by decide)))
  have f411 := isX0_tr f385 K404 (Or.inr (dj_r (by decide)))
  have f412 := isX0_tr f386 K404 (Or.inr (dj_r (by decide)))
  have f413 := isX0_tr f387 K404 (Or.inr (dj_r (by decide)))
  have f414 := isZ_tr f388 K404 (nb_ (by decide))
  have a415 := (K404.2.2.1 (b + 1) (lt_N n400 (by decide))).trans a389
  have a416 := (K404.2.2.1 (b + 13) (lt_N n400 (by decide))).trans a390
  have a417 := (K404.2.2.1 (b + 25) (lt_N n400 (by decide))).trans a391
  have a418 := (K404.2.2.1 (b + 40) (lt_N n400 (by decide))).trans a392
  have a419 := (K404.2.2.1 (b + 45) (lt_N n400 (by decide))).trans a393
  have a420 := (K404.2.2.1 (b + 49) (lt_N n400 (by decide))).trans a394
  have a421 := (K404.2.2.1 (b + 44) (lt_N n400 (by decide))).trans a395
  have a422 := (K404.2.2.1 (b + 53) (lt_N n400 (by decide))).trans a396
  have a423 := (K404.2.2.1 b (lt_N0 n400 (by decide))).trans a380
  have s424 := (K404.2.2.2 b (lt_N0 n400 (by decide)) (nb_l (by decide))).trans s381
  have s425 : Y401.sh (b + 44) = sO Y401.cK 2 (va_up (va_up (fun _ => none) (0 : Int32).toNatClampNeg (some x194)) (1 : Int32).toNatClampNeg (some x258)) := by rw [K404.2.2.2 (b + 44) (lt_N n400 (by decide)) (nb_ (by decide)), s398]; show sO Y376.2.1.2.2.2 _ _ = sO Y401.2.1.2.2.2 _ _; rw [K404.1.2.1]
  have f426 := isI_new s407 K404 n405
  have k427 := keep_tr (b := b) k399 K404 (Or.inr (ge_N hN (by decide)))
  have n428 : Y401.N = b + 55 := n405
  refine g_putR C403 hXi (i := b) (ty := (.array .int)) (ty0 := tyX6) (k := 7) (Nc := 13) (Cn := RX6) (T := TX6) (ci := 6) (lt_N0 n428 (by decide)) a423 s424 rfl rfl (fun w hw => List.mem_cons_of_mem _ (inX6 w hw)) tyX6_ok nmX6 (by decide) (List.mem_cons_of_mem _ mF_RX6_45) rfl rfl rfl rfl rfl rfl (by decide : 7 < 13) (rt (fun c => [.ref x2, .ref x36, .ref x76, .int (c.1 3), .ref x122, .ref x174, .ref x351, .ref x402, .int (c.1 8), .null, .null, .null, .int (c.1 12)]) 6) rfl dX6_init_93 (fun Y429 C430 K431 n432 a433 s434 => ?_)
  have f435 := isX2_tr f408 K431 (Or.inl (dj_l (by decide)))
  have f436 := isX2_tr f409 K431 (Or.inl (dj_l (by decide)))
  have f437 := isX1_tr f410 K431 (Or.inl (dj_l (by decide)))
  have f438 := isX0_tr f411 K431 (Or.inl (dj_l (by decide)))
  have f439 := isX0_tr f412 K431 (Or.inl (dj_l (by decide)))
  have f440 := isX0_tr f413 K431 (Or.inl (dj_l (by decide)))
  have f441 := isZ_tr f414 K431 (nb_r (by decide))
  have f442 := isI_tr f426 K431 (nb_r (by decide))
  have a443 := (K431.2.2.1 (b + 1) (lt_N n428 (by decide))).trans a415
  have a444 := (K431.2.2.1 (b + 13) (lt_N n428 (by decide))).trans a416
  have a445 := (K431.2.2.1 (b + 25) (lt_N n428 (by decide))).trans a417
  have a446 := (K431.2.2.1 (b + 40) (lt_N n428 (by decide))).trans a418
  have a447 := (K431.2.2.1 (b + 45) (lt_N n428 (by decide))).trans a419
  have a448 := (K431.2.2.1 (b + 49) (lt_N n428 (by decide))).trans a420
  have a449 := (K431.2.2.1 (b + 44) (lt_N n428 (by decide))).trans a421
  have a450 := (K431.2.2.1 (b + 53) (lt_N n428 (by decide))).trans a422
  have a451 := (K431.2.2.1 (b + 54) (lt_N n428 (by decide))).trans a406
  have a452 := (K431.2.2.1 b (lt_N0 n428 (by decide))).trans a423
  have s453 : Y429.sh (b + 44) = sO Y429.cK 2 (va_up (va_up (fun _ => none) (0 : Int32).toNatClampNeg (some x194)) (1 : Int32).toNatClampNeg (some x258)) := by rw [K431.2.2.2 (b + 44) (lt_N n428 (by decide)) (nb_r (by decide)), s425]; show sO Y401.2.1.2.2.2 _ _ = sO Y429.2.1.2.2.2 _ _; rw [K431.1.2.1]
  have k454 := keep_tr (b := b) k427 K431 (Or.inl rfl)
  have n455 : Y429.N = b + 55 := n432.trans n428
  refine g_aload_n C430 0 dX6_init_96 rfl ?_
  refine g_iconst C430 (v := (0 : Int32)) dX6_init_97 (by decide) ?_
  rw [← a433]
  refine g_put C430 (μ' := ms (mz (mz (m281) (b + 53)) (b + 54)) b 8 (0 : Int32)) (ty := .int) (ty0 := tyX6) (k := 8) (Nc := 13) (Cn := RX6) (T := TX6) (ci := 6) (lt_N0 n455 (by decide)) s434 rfl rfl (fun w hw => List.mem_cons_of_mem _ (inX6 w hw)) tyX6_ok nmX6 (by decide) (List.mem_cons_of_mem _ mF_RX6_49) rfl rfl rfl rfl rfl (by decide : 8 < 13) (by rw [mrow_ms]; rfl) (fun b h => mrow_ms_ne h) dX6_init_98 ?_
  rw [a433]
  refine g_aload_n C430 0 dX6_init_101 rfl ?_
  refine g_newO C430 hXa (id := b + 55) n455 (Cn := RX5) (T := TX5) (Nc := 2) (ci := 5) (ty := tyX5) (fun w hw => List.mem_cons_of_mem _ (inX5 w hw)) tyX5_ok (List.mem_cons_of_mem _ mCl_RX6_52) (List.mem_cons_of_mem _ mIns_X5) (List.mem_cons_of_mem _ mInit_RX5) rfl [.null, .int 0] dfX5 fX5 rfl (by decide) (by decide) dX6_init_102 (fun Y456 x457 C458 K459 n460 a461 s462 => ?_)
  have f463 := isX2_tr f435 K459 (Or.inr (dj_r (by decide)))
  have f464 := isX2_tr f436 K459 (Or.inr (dj_r (by decide)))
  have f465 := isX1_tr f437 K459 (Or.inr (dj_r (by decide)))
  have f466 := isX0_tr f438 K459 (Or.inr (dj_r (by decide)))
  have f467 := isX0_tr f439 K459 (Or.inr (dj_r (by decide)))
  have f468 := isX0_tr f440 K459 (Or.inr (dj_r (by decide)))
  have f469 := isZ_tr f441 K459 (nb_ (by decide))
  have f470 := isI_tr f442 K459 (nb_ (by decide))
  have a471 := (K459.2.2.1 (b + 1) (lt_N n455 (by decide))).trans a443
  have a472 := (K459.2.2.1 (b + 13) (lt_N n455 (by decide))).trans a444
  have a473 := (K459.2.2.1 (b + 25) (lt_N n455 (by decide))).trans a445
  have a474 := (K459.2.2.1 (b + 40) (lt_N n455 (by decide))).trans a446
  have a475 := (K459.2.2.1 (b + 45) (lt_N n455 (by decide))).trans a447
  have a476 := (K459.2.2.1 (b + 49) (lt_N n455 (by decide))).trans a448
  have a477 := (K459.2.2.1 (b + 44) (lt_N n455 (by decide))).trans a449
  have a478 := (K459.2.2.1 (b + 53) (lt_N n455 (by decide))).trans a450
  have a479 := (K459.2.2.1 (b + 54) (lt_N n455 (by decide))).trans a451
  have a480 := (K459.2.2.1 b (lt_N0 n455 (by decide))).trans a433
  have s481 := (K459.2.2.2 b (lt_N0 n455 (by decide)) (nb_l (by decide))).trans s434
  have s482 : Y456.sh (b + 44) = sO Y456.cK 2 (va_up (va_up (fun _ => none) (0 : Int32).toNatClampNeg (some x194)) (1 : Int32).toNatClampNeg (some x258)) := by rw [K459.2.2.2 (b + 44) (lt_N n455 (by decide)) (nb_ (by decide)), s453]; show sO Y429.2.1.2.2.2 _ _ = sO Y456.2.1.2.2.2 _ _; rw [K459.1.2.1]
  have k483 := keep_tr (b := b) k454 K459 (Or.inr (ge_N hN (by decide)))
  have n484 : Y456.N = b + 56 := n460
  refine g_dup C458 dX6_init_105 rfl ?_
  refine g_callN C458 hXa (ok_X5_init (cx_YI C458) (b := b + 55) n484 s462 h) (lt_N n484 (by decide)) a461 (gw_cons mC_X5_init) rfl (List.mem_cons_of_mem _ mInit_RX5) (host := RX6) (by simp [sNst]) (List.mem_cons_of_mem _ mI_X5_init) rfl dc_X5_init ⟨by decide, by decide⟩ (by decide) (by decide) (Nat.le_of_ble_eq_true rfl) dX6_init_106 (fun Y485 m486 C487 K488 p489 => ?_)
  obtain ⟨n490, f491, h⟩ := p489
  have f492 := isX2_tr f463 K488 (Or.inr (dj_r (by decide)))
  have f493 := isX2_tr f464 K488 (Or.inr (dj_r (by decide)))
  have f494 := isX1_tr f465 K488 (Or.inr (dj_r (by decide)))
  have f495 := isX0_tr f466 K488 (Or.inr (dj_r (by decide)))
  have f496 := isX0_tr f467 K488 (Or.inr (dj_r (by decide)))
  have f497 := isX0_tr f468 K488 (Or.inr (dj_r (by decide)))
  have f498 := isZ_tr f469 K488 (nb_ (by decide))
  have f499 := isI_tr f470 K488 (nb_ (by decide))
  have a500 := (K488.2.2.1 (b + 1) (lt_N n484 (by decide))).trans a471
  have a501 := (K488.2.2.1 (b + 13) (lt_N n484 (by decide))).trans a472
  have a502 := (K488.2.2.1 (b + 25) (lt_N n484 (by decide))).trans a473
  have a503 := (K488.2.2.1 (b + 40) (lt_N n484 (by decide))).trans a474
  have a504 := (K488.2.2.1 (b + 45) (lt_N n484 (by decide))).trans a475
  have a505 := (K488.2.2.1 (b + 49) (lt_N n484 (by decide))).trans a476
  have a506 := (K488.2.2.1 (b + 44) (lt_N n484 (by decide))).trans a477
  have a507 := (K488.2.2.1 (b + 53) (lt_N n484 (by decide))).trans a478
  have a508 := (K488.2.2.1 (b + 54) (lt_N n484 (by decide))).trans a479
  have a509 := (K488.2.2.1 (b + 55) (lt_N n484 (by decide))).trans a461
  have a510 := (K488.2.2.1 b (lt_N0 n484 (by decide))).trans a480
  have s511 := (K488.2.2.2 b (lt_N0 n484 (by decide)) (nb_l (by decide))).trans s481
  have s512 : Y485.sh (b + 44) = sO Y485.cK 2 (va_up (va_up (fun _ => none) (0 : Int32).toNatClampNeg (some x194)) (1 : Int32).toNatClampNeg (some x258)) := by rw [K488.2.2.2 (b + 44) (lt_N n484 (by decide)) (nb_ (by decide)), s482]; show sO Y456.2.1.2.2.2 _ _ = sO Y485.2.1.2.2.2 _ _; rw [K488.1.2.1]
  have k513 := keep_tr (b := b) k483 K488 (Or.inr (ge_N hN (by decide)))
  have n514 : Y485.N = b + 60 := n490
  refine g_putR C487 hXi (i := b) (ty := (.object "NothingLeft$Walk")) (ty0 := tyX6) (k := 9) (Nc := 13) (Cn := RX6) (T := TX6) (ci := 6) (lt_N0 n514 (by decide)) a510 s511 rfl rfl (fun w hw => List.mem_cons_of_mem _ (inX6 w hw)) tyX6_ok nmX6 (by decide) (List.mem_cons_of_mem _ mF_RX6_55) rfl rfl rfl rfl rfl rfl (by decide : 9 < 13) (rt (fun c => [.ref x2, .ref x36, .ref x76, .int (c.1 3), .ref x122, .ref x174, .ref x351, .ref x402, .int (c.1 8), .ref x457, .null, .null, .int (c.1 12)]) 6) rfl dX6_init_109 (fun Y515 C516 K517 n518 a519 s520 => ?_)
  have f521 := isX2_tr f492 K517 (Or.inl (dj_l (by decide)))
  have f522 := isX2_tr f493 K517 (Or.inl (dj_l (by decide)))
  have f523 := isX1_tr f494 K517 (Or.inl (dj_l (by decide)))
  have f524 := isX0_tr f495 K517 (Or.inl (dj_l (by decide)))
  have f525 := isX0_tr f496 K517 (Or.inl (dj_l (by decide)))
  have f526 := isX0_tr f497 K517 (Or.inl (dj_l (by decide)))
  have f527 := isZ_tr f498 K517 (nb_r (by decide))
  have f528 := isI_tr f499 K517 (nb_r (by decide))
  have f529 := isX5_tr f491 K517 (Or.inl (dj_l (by decide)))
  have a530 := (K517.2.2.1 (b + 1) (lt_N n514 (by decide))).trans a500
  have a531 := (K517.2.2.1 (b + 13) (lt_N n514 (by decide))).trans a501
  have a532 := (K517.2.2.1 (b + 25) (lt_N n514 (by decide))).trans a502
  have a533 := (K517.2.2.1 (b + 40) (lt_N n514 (by decide))).trans a503
  have a534 := (K517.2.2.1 (b + 45) (lt_N n514 (by decide))).trans a504
  have a535 := (K517.2.2.1 (b + 49) (lt_N n514 (by decide))).trans a505
  have a536 := (K517.2.2.1 (b + 44) (lt_N n514 (by decide))).trans a506
  have a537 := (K517.2.2.1 (b + 53) (lt_N n514 (by decide))).trans a507
  have a538 := (K517.2.2.1 (b + 54) (lt_N n514 (by decide))).trans a508
  have a539 := (K517.2.2.1 (b + 55) (lt_N n514 (by decide))).trans a509
  have a540 := (K517.2.2.1 b (lt_N0 n514 (by decide))).trans a510
  have s541 : Y515.sh (b + 44) = sO Y515.cK 2 (va_up (va_up (fun _ => none) (0 : Int32).toNatClampNeg (some x194)) (1 : Int32).toNatClampNeg (some x258)) := by rw [K517.2.2.2 (b + 44) (lt_N n514 (by decide)) (nb_r (by decide)), s512]; show sO Y485.2.1.2.2.2 _ _ = sO Y515.2.1.2.2.2 _ _; rw [K517.1.2.1]
  have k542 := keep_tr (b := b) k513 K517 (Or.inl rfl)
  have n543 : Y515.N = b + 60 := n518.trans n514
  refine g_aload_n C516 0 dX6_init_112 rfl ?_
  refine g_newO C516 hXa (id := b + 60) n543 (Cn := RX3) (T := TX3) (Nc := 18) (ci := 3) (ty := tyX3) (fun w hw => List.mem_cons_of_mem _ (inX3 w hw)) tyX3_ok (List.mem_cons_of_mem _ mCl_RX6_59) (List.mem_cons_of_mem _ mIns_X3) (List.mem_cons_of_mem _ mInit_RX3) rfl [.null, .null, .null, .int 0, .long 0, .int 0, .int 0, .int 0, .int 0, .null, .long 0, .int 0, .null, .int 0, .null, .int 0, .int 0, .null] dfX3 fX3 rfl (by decide) (by decide) dX6_init_113 (fun Y544 x545 C546 K547 n548 a549 s550 => ?_)
  have f551 := isX2_tr f521 K547 (Or.inr (dj_r (by decide)))
  have f552 := isX2_tr f522 K547 (Or.inr (dj_r (by decide)))
  have f553 := isX1_tr f523 K547 (Or.inr (dj_r (by decide)))
  have f554 := isX0_tr f524 K547 (Or.inr (dj_r (by decide)))
  have f555 := isX0_tr f525 K547 (Or.inr (dj_r (by decide)))
  have f556 := isX0_tr f526 K547 (Or.inr (dj_r (by decide)))
  have f557 := isZ_tr f527 K547 (nb_ (by decide))
  have f558 := isI_tr f528 K547 (nb_ (by decide))
  have f559 := isX5_tr f529 K547 (Or.inr (dj_r (by decide)))
  have a560 := (K547.2.2.1 (b + 1) (lt_N n543 (by decide))).trans a530
  have a561 := (K547.2.2.1 (b + 13) (lt_N n543 (by decide))).trans a531
  have a562 := (K547.2.2.1 (b + 25) (lt_N n543 (by decide))).trans a532
  have a563 := (K547.2.2.1 (b + 40) (lt_N n543 (by decide))).trans a533
  have a564 := (K547.2.2.1 (b + 45) (lt_N n543 (by decide))).trans a534
  have a565 := (K547.2.2.1 (b + 49) (lt_N n543 (by decide))).trans a535
  have a566 := (K547.2.2.1 (b + 44) (lt_N n543 (by decide))).trans a536
  have a567 := (K547.2.2.1 (b + 53) (lt_N n543 (by decide))).trans a537
  have a568 := (K547.2.2.1 (b + 54) (lt_N n543 (by decide))).trans a538
  have a569 := (K547.2.2.1 (b + 55) (lt_N n543 (by decide))).trans a539
  have a570 := (K547.2.2.1 b (lt_N0 n543 (by decide))).trans a519
  have s571 := (K547.2.2.2 b (lt_N0 n543 (by decide)) (nb_l (by decide))).trans s520
  have s572 : Y544.sh (b + 44) = sO Y544.cK 2 (va_up (va_up (fun _ => none) (0 : Int32).toNatClampNeg (some x194)) (1 : Int32).toNatClampNeg (some x258)) := by rw [K547.2.2.2 (b + 44) (lt_N n543 (by decide)) (nb_ (by decide)), s541]; show sO Y515.2.1.2.2.2 _ _ = sO Y544.2.1.2.2.2 _ _; rw [K547.1.2.1]
  have k573 := keep_tr (b := b) k542 K547 (Or.inr (ge_N hN (by decide)))
  have n574 : Y544.N = b + 61 := n548
  refine g_dup C546 dX6_init_116 rfl ?_
  refine g_callN C546 hXa (ok_X3_init (cx_YI C546) (b := b + 60) n574 s550 h) (lt_N n574 (by decide)) a549 (gw_cons mC_X3_init) rfl (List.mem_cons_of_mem _ mInit_RX3) (host := RX6) (by simp [sNst]) (List.mem_cons_of_mem _ mI_X3_init) rfl dc_X3_init ⟨by decide, by decide⟩ (by decide) (by decide) (Nat.le_of_ble_eq_true rfl) dX6_init_117 (fun Y575 m576 C577 K578 p579 => ?_)
  obtain ⟨n580, f581, h⟩ := p579
  have f582 := isX2_tr f551 K578 (Or.inr (dj_r (by decide)))
  have f583 := isX2_tr f552 K578 (Or.inr (dj_r (by decide)))
  have f584 := isX1_tr f553 K578 (Or.inr (dj_r (by decide)))
  have f585 := isX0_tr f554 K578 (Or.inr (dj_r (by decide)))
  have f586 := isX0_tr f555 K578 (Or.inr (dj_r (by decide)))
  have f587 := isX0_tr f556 K578 (Or.inr (dj_r (by decide)))
  have f588 := isZ_tr f557 K578 (nb_ (by decide))
  have f589 := isI_tr f558 K578 (nb_ (by decide))
  have f590 := isX5_tr f559 K578 (Or.inr (dj_r (by decide)))
  have a591 := (K578.2.2.1 (b + 1) (lt_N n574 (by decide))).trans a560
  have a592 := (K578.2.2.1 (b + 13) (lt_N n574 (by decide))).trans a561
  have a593 := (K578.2.2.1 (b + 25) (lt_N n574 (by decide))).trans a562
  have a594 := (K578.2.2.1 (b + 40) (lt_N n574 (by decide))).trans a563
  have a595 := (K578.2.2.1 (b + 45) (lt_N n574 (by decide))).trans a564
  have a596 := (K578.2.2.1 (b + 49) (lt_N n574 (by decide))).trans a565
  have a597 := (K578.2.2.1 (b + 44) (lt_N n574 (by decide))).trans a566
  have a598 := (K578.2.2.1 (b + 53) (lt_N n574 (by decide))).trans a567
  have a599 := (K578.2.2.1 (b + 54) (lt_N n574 (by decide))).trans a568
  have a600 := (K578.2.2.1 (b + 55) (lt_N n574 (by decide))).trans a569
  have a601 := (K578.2.2.1 (b + 60) (lt_N n574 (by decide))).trans a549
  have a602 := (K578.2.2.1 b (lt_N0 n574 (by decide))).trans a570
  have s603 := (K578.2.2.2 b (lt_N0 n574 (by decide)) (nb_l (by decide))).trans s571
  have s604 : Y575.sh (b + 44) = sO Y575.cK 2 (va_up (va_up (fun _ => none) (0 : Int32).toNatClampNeg (some x194)) (1 : Int32).toNatClampNeg (some x258)) := by rw [K578.2.2.2 (b + 44) (lt_N n574 (by decide)) (nb_ (by decide)), s572]; show sO Y544.2.1.2.2.2 _ _ = sO Y575.2.1.2.2.2 _ _; rw [K578.1.2.1]
  have k605 := keep_tr (b := b) k573 K578 (Or.inr (ge_N hN (by decide)))
  have n606 : Y575.N = b + 96 := n580
  refine g_putR C577 hXi (i := b) (ty := (.object "NothingLeft$Search")) (ty0 := tyX6) (k := 10) (Nc := 13) (Cn := RX6) (T := TX6) (ci := 6) (lt_N0 n606 (by decide)) a602 s603 rfl rfl (fun w hw => List.mem_cons_of_mem _ (inX6 w hw)) tyX6_ok nmX6 (by decide) (List.mem_cons_of_mem _ mF_RX6_62) rfl rfl rfl rfl rfl rfl (by decide : 10 < 13) (rt (fun c => [.ref x2, .ref x36, .ref x76, .int (c.1 3), .ref x122, .ref x174, .ref x351, .ref x402, .int (c.1 8), .ref x457, .ref x545, .null, .int (c.1 12)]) 6) rfl dX6_init_120 (fun Y607 C608 K609 n610 a611 s612 => ?_)
  have f613 := isX2_tr f582 K609 (Or.inl (dj_l (by decide)))
  have f614 := isX2_tr f583 K609 (Or.inl (dj_l (by decide)))
  have f615 := isX1_tr f584 K609 (Or.inl (dj_l (by decide)))
  have f616 := isX0_tr f585 K609 (Or.inl (dj_l (by decide)))
  have f617 := isX0_tr f586 K609 (Or.inl (dj_l (by decide)))
  have f618 := isX0_tr f587 K609 (Or.inl (dj_l (by decide)))
  have f619 := isZ_tr f588 K609 (nb_r (by decide))
  have f620 := isI_tr f589 K609 (nb_r (by decide))
  have f621 := isX5_tr f590 K609 (Or.inl (dj_l (by decide)))
  have f622 := isX3_tr f581 K609 (Or.inl (dj_l (by decide)))
  have a623 := (K609.2.2.1 (b + 1) (lt_N n606 (by decide))).trans a591
  have a624 := (K609.2.2.1 (b + 13) (lt_N n606 (by decide))).trans a592
  have a625 := (K609.2.2.1 (b + 25) (lt_N n606 (by decide))).trans a593
  have a626 := (K609.2.2.1 (b + 40) (lt_N n606 (by decide))).trans a594
  have a627 := (K609.2.2.1 (b + 45) (lt_N n606 (by decide))).trans a595
  have a628 := (K609.2.2.1 (b + 49) (lt_N n606 (by decide))).trans a596
  have a629 := (K609.2.2.1 (b + 44) (lt_N n606 (by decide))).trans a597
  have a630 := (K609.2.2.1 (b + 53) (lt_N n606 (by decide))).trans a598
  have a631 := (K609.2.2.1 (b + 54) (lt_N n606 (by decide))).trans a599
  have a632 := (K609.2.2.1 (b + 55) (lt_N n606 (by decide))).trans a600
  have a633 := (K609.2.2.1 (b + 60) (lt_N n606 (by decide))).trans a601
  have a634 := (K609.2.2.1 b (lt_N0 n606 (by decide))).trans a602
  have s635 : Y607.sh (b + 44) = sO Y607.cK 2 (va_up (va_up (fun _ => none) (0 : Int32).toNatClampNeg (some x194)) (1 : Int32).toNatClampNeg (some x258)) := by rw [K609.2.2.2 (b + 44) (lt_N n606 (by decide)) (nb_r (by decide)), s604]; show sO Y575.2.1.2.2.2 _ _ = sO Y607.2.1.2.2.2 _ _; rw [K609.1.2.1]
  have k636 := keep_tr (b := b) k605 K609 (Or.inl rfl)
  have n637 : Y607.N = b + 96 := n610.trans n606
  refine g_aload_n C608 0 dX6_init_123 rfl ?_
  refine g_newO C608 hXa (id := b + 96) n637 (Cn := RX4) (T := TX4) (Nc := 3) (ci := 4) (ty := tyX4) (fun w hw => List.mem_cons_of_mem _ (inX4 w hw)) tyX4_ok (List.mem_cons_of_mem _ mCl_RX6_66) (List.mem_cons_of_mem _ mIns_X4) (List.mem_cons_of_mem _ mInit_RX4) rfl [.null, .null, .null] dfX4 fX4 rfl (by decide) (by decide) dX6_init_124 (fun Y638 x639 C640 K641 n642 a643 s644 => ?_)
  have f645 := isX2_tr f613 K641 (Or.inr (dj_r (by decide)))
  have f646 := isX2_tr f614 K641 (Or.inr (dj_r (by decide)))
  have f647 := isX1_tr f615 K641 (Or.inr (dj_r (by decide)))
  have f648 := isX0_tr f616 K641 (Or.inr (dj_r (by decide)))
  have f649 := isX0_tr f617 K641 (Or.inr (dj_r (by decide)))
  have f650 := isX0_tr f618 K641 (Or.inr (dj_r (by decide)))
  have f651 := isZ_tr f619 K641 (nb_ (by decide))
  have f652 := isI_tr f620 K641 (nb_ (by decide))
  have f653 := isX5_tr f621 K641 (Or.inr (dj_r (by decide)))
  have f654 := isX3_tr f622 K641 (Or.inr (dj_r (by decide)))
  have a655 := (K641.2.2.1 (b + 1) (lt_N n637 (by decide))).trans a623
  have a656 := (K641.2.2.1 (b + 13) (lt_N n637 (by decide))).trans a624
  have a657 := (K641.2.2.1 (b + 25) (lt_N n637 (by decide))).trans a625
  have a658 := (K641.2.2.1 (b + 40) (lt_N n637 (by decide))).trans a626
  have a659 := (K641.2.2.1 (b + 45) (lt_N n637 (by decide))).trans a627
  have a660 := (K641.2.2.1 (b + 49) (lt_N n637 (by decide))).trans a628
  have a661 := (K641.2.2.1 (b + 44) (lt_N n637 (by decide))).trans a629
  have a662 := (K641.2.2.1 (b + 53) (lt_N n637 (by decide))).trans a630
  have a663 := (K641.2.2.1 (b + 54) (lt_N n637 (by decide))).trans a631
  have a664 := (K641.2.2.1 (b + 55) (lt_N n637 (by decide))).trans a632
  have a665 := (K641.2.2.1 (b + 60) (lt_N n637 (by decide))).trans a633
  have a666 := (K641.2.2.1 b (lt_N0 n637 (by decide))).trans a611
  have s667 := (K641.2.2.2 b (lt_N0 n637 (by decide)) (nb_l (by decide))).trans s612
  have s668 : Y638.sh (b + 44) = sO Y638.cK 2 (va_up (va_up (fun _ => none) (0 : Int32).toNatClampNeg (some x194)) (1 : Int32).toNatClampNeg (some x258)) := by rw [K641.2.2.2 (b + 44) (lt_N n637 (by decide)) (nb_ (by decide)), s635]; show sO Y607.2.1.2.2.2 _ _ = sO Y638.2.1.2.2.2 _ _; rw [K641.1.2.1]
  have k669 := keep_tr (b := b) k636 K641 (Or.inr (ge_N hN (by decide)))
  have n670 : Y638.N = b + 97 := n642
  refine g_dup C640 dX6_init_127 rfl ?_
  refine g_callC C640 hXa (ok_X4_init (cx_YI C640) (b := b + 96) n670 s644 h) (lt_N n670 (by decide)) a643 (gw_cons mC_X4_init) rfl (List.mem_cons_of_mem _ mInit_RX4) (List.mem_cons_of_mem _ mM_RX6_68) (List.mem_cons_of_mem _ mI_X4_init) rfl dc_X4_init ⟨by decide, by decide⟩ (by decide) (by decide) (Nat.le_of_ble_eq_true rfl) dX6_init_128 (fun Y671 m672 C673 K674 p675 => ?_)
  obtain ⟨n676, f677, h⟩ := p675
  have f678 := isX2_tr f645 K674 (Or.inr (dj_r (by decide)))
  have f679 := isX2_tr f646 K674 (Or.inr (dj_r (by decide)))
  have f680 := isX1_tr f647 K674 (Or.inr (dj_r (by decide)))
  have f681 := isX0_tr f648 K674 (Or.inr (dj_r (by decide)))
  have f682 := isX0_tr f649 K674 (Or.inr (dj_r (by decide)))
  have f683 := isX0_tr f650 K674 (Or.inr (dj_r (by decide)))
  have f684 := isZ_tr f651 K674 (nb_ (by decide))
  have f685 := isI_tr f652 K674 (nb_ (by decide))
  have f686 := isX5_tr f653 K674 (Or.inr (dj_r (by decide)))
  have f687 := isX3_tr f654 K674 (Or.inr (dj_r (by decide)))
  have a688 := (K674.2.2.1 (b + 1) (lt_N n670 (by decide))).trans a655
  have a689 := (K674.2.2.1 (b + 13) (lt_N n670 (by decide))).trans a656
  have a690 := (K674.2.2.1 (b + 25) (lt_N n670 (by decide))).trans a657
  have a691 := (K674.2.2.1 (b + 40) (lt_N n670 (by decide))).trans a658
  have a692 := (K674.2.2.1 (b + 45) (lt_N n670 (by decide))).trans a659
  have a693 := (K674.2.2.1 (b + 49) (lt_N n670 (by decide))).trans a660
  have a694 := (K674.2.2.1 (b + 44) (lt_N n670 (by decide))).trans a661
  have a695 := (K674.2.2.1 (b + 53) (lt_N n670 (by decide))).trans a662
  have a696 := (K674.2.2.1 (b + 54) (lt_N n670 (by decide))).trans a663
  have a697 := (K674.2.2.1 (b + 55) (lt_N n670 (by decide))).trans a664
  have a698 := (K674.2.2.1 (b + 60) (lt_N n670 (by decide))).trans a665
  have a699 := (K674.2.2.1 (b + 96) (lt_N n670 (by decide))).trans a643
  have a700 := (K674.2.2.1 b (lt_N0 n670 (by decide))).trans a666
  have s701 := (K674.2.2.2 b (lt_N0 n670 (by decide)) (nb_l (by decide))).trans s667
  have s702 : Y671.sh (b + 44) = sO Y671.cK 2 (va_up (va_up (fun _ => none) (0 : Int32).toNatClampNeg (some x194)) (1 : Int32).toNatClampNeg (some x258)) := by rw [K674.2.2.2 (b + 44) (lt_N n670 (by decide)) (nb_ (by decide)), s668]; show sO Y638.2.1.2.2.2 _ _ = sO Y671.2.1.2.2.2 _ _; rw [K674.1.2.1]
  have k703 := keep_tr (b := b) k669 K674 (Or.inr (ge_N hN (by decide)))
  have n704 : Y671.N = b + 100 := n676
  refine g_putR C673 hXi (i := b) (ty := (.object "NothingLeft$Sheets")) (ty0 := tyX6) (k := 11) (Nc := 13) (Cn := RX6) (T := TX6) (ci := 6) (lt_N0 n704 (by decide)) a700 s701 rfl rfl (fun w hw => List.mem_cons_of_mem _ (inX6 w hw)) tyX6_ok nmX6 (by decide) (List.mem_cons_of_mem _ mF_RX6_69) rfl rfl rfl rfl rfl rfl (by decide : 11 < 13) (rt (fun c => [.ref x2, .ref x36, .ref x76, .int (c.1 3), .ref x122, .ref x174, .ref x351, .ref x402, .int (c.1 8), .ref x457, .ref x545, .ref x639, .int (c.1 12)]) 6) rfl dX6_init_131 (fun Y705 C706 K707 n708 a709 s710 => ?_)
  have f711 := isX2_tr f678 K707 (Or.inl (dj_l (by decide)))
  have f712 := isX2_tr f679 K707 (Or.inl (dj_l (by decide)))
  have f713 := isX1_tr f680 K707 (Or.inl (dj_l (by decide)))
  have f714 := isX0_tr f681 K707 (Or.inl (dj_l (by decide)))
  have f715 := isX0_tr f682 K707 (Or.inl (dj_l (by decide)))
  have f716 := isX0_tr f683 K707 (Or.inl (dj_l (by decide)))
  have f717 := isZ_tr f684 K707 (nb_r (by decide))
  have f718 := isI_tr f685 K707 (nb_r (by decide))
  have f719 := isX5_tr f686 K707 (Or.inl (dj_l (by decide)))
  have f720 := isX3_tr f687 K707 (Or.inl (dj_l (by decide)))
  have f721 := isX4_tr f677 K707 (Or.inl (dj_l (by decide)))
  have a722 := (K707.2.2.1 (b + 1) (lt_N n704 (by decide))).trans a688
  have a723 := (K707.2.2.1 (b + 13) (lt_N n704 (by decide))).trans a689
  have a724 := (K707.2.2.1 (b + 25) (lt_N n704 (by decide))).trans a690
  have a725 := (K707.2.2.1 (b + 40) (lt_N n704 (by decide))).trans a691
  have a726 := (K707.2.2.1 (b + 45) (lt_N n704 (by decide))).trans a692
  have a727 := (K707.2.2.1 (b + 49) (lt_N n704 (by decide))).trans a693
  have a728 := (K707.2.2.1 (b + 44) (lt_N n704 (by decide))).trans a694
  have a729 := (K707.2.2.1 (b + 53) (lt_N n704 (by decide))).trans a695
  have a730 := (K707.2.2.1 (b + 54) (lt_N n704 (by decide))).trans a696
  have a731 := (K707.2.2.1 (b + 55) (lt_N n704 (by decide))).trans a697
  have a732 := (K707.2.2.1 (b + 60) (lt_N n704 (by decide))).trans a698
  have a733 := (K707.2.2.1 (b + 96) (lt_N n704 (by decide))).trans a699
  have a734 := (K707.2.2.1 b (lt_N0 n704 (by decide))).trans a700
  have s735 : Y705.sh (b + 44) = sO Y705.cK 2 (va_up (va_up (fun _ => none) (0 : Int32).toNatClampNeg (some x194)) (1 : Int32).toNatClampNeg (some x258)) := by rw [K707.2.2.2 (b + 44) (lt_N n704 (by decide)) (nb_r (by decide)), s702]; show sO Y671.2.1.2.2.2 _ _ = sO Y705.2.1.2.2.2 _ _; rw [K707.1.2.1]
  have k736 := keep_tr (b := b) k703 K707 (Or.inl rfl)
  have n737 : Y705.N = b + 100 := n708.trans n704
  have f738 : isX6 Y705 b := ⟨(lt_N0 n737 (by decide)), by rw [s710]; unfold sX6; rw [a722, a723, a724, a725, a728, a729, a730, a731, a732, a733], f711, f712, f713, f714, ⟨(lt_N n737 (by decide)), ⟨_, s735, fun i hi => match i, hi with | 0, _ => (a726 ▸ rfl) | 1, _ => (a727 ▸ rfl) | i + 2, z => absurd z (by omega)⟩, fun i hi => match i, hi with | 0, _ => f715 | 1, _ => f716 | i + 2, z => absurd z (by omega)⟩, f717, f718, f719, f720, f721⟩
  rw [← a709]
  exact sf_X6_init C706 (fun pc lv μ' hd q => hr pc lv Y705 μ' hd C706 k736 ⟨n737, f738, q⟩) (cx_YI C706) f738 h
def SX7_init_200 (X : XT) (Y : YT) (b : Nat) : Int32 → Mem → Prop := fun v1 μ => G X Y 2 200 [(0, .ref (Y.ad b)), (1, .int v1)] [] μ
set_option maxRecDepth 20000 in
set_option maxHeartbeats 4000000 in
theorem tX7_init_200 {X : XT} {Y : YT} {l0 : Launch} {b : Nat} {Q : Mem → Prop} (C : Cx X Y 2 cX7_init RX7 WX7_init (rmC 2 46 24 2184) l0) (hr : RVn X Y 2 cX7_init Q) (hI : YI Y) (h0 : isX7 Y b) (v1 : Int32) (μ : Mem) (h : nX7_init_200 b Q (SX7_init_200 X Y b) v1 μ) : G X Y 2 200 [(0, .ref (Y.ad b)), (1, .int v1)] [] μ := by
  unfold nX7_init_200 at h
  refine g_iload_n C 1 dX7_init_200 rfl ?_
  refine g_iconst C (v := (4 : Int32)) dX7_init_201 (by decide) ?_
  refine g_icmp_ge C 219 dX7_init_202 (by decide) (fun c1 => ?_) (fun c1 => ?_)
  · replace h := h.1 c1
    refine g_aload_n C 0 dX7_init_219 rfl ?_
    refine g_callVV C [] [] (ok_X7_firstDraft hI h0 h) (cw_RX7_83 _) rfl dc_X7_firstDraft ⟨Nat.le_of_ble_eq_true rfl, Nat.le_of_ble_eq_true rfl⟩ (isX7_lt h0) (isX7_sh h0) rfl rfl rfl rfl (Nat.le_of_ble_eq_true rfl) dX7_init_220 (fun m2 h => ?_)
    refine g_aload_n C 0 dX7_init_223 rfl ?_
    refine g_callVV C [] [] (ok_X7_keepDraft hI h0 h) (cw_RX7_86 _) rfl dc_X7_keepDraft ⟨Nat.le_of_ble_eq_true rfl, Nat.le_of_ble_eq_true rfl⟩ (isX7_lt h0) (isX7_sh h0) rfl rfl rfl rfl (Nat.le_of_ble_eq_true rfl) dX7_init_224 (fun m4 h => ?_)
    exact hr _ _ _ dX7_init_227 h
  · replace h := h.2 c1
    refine g_aload_n C 0 dX7_init_205 rfl ?_
    refine gf_RX7_74 C h0 dX7_init_206 ?_
    refine g_iload_n C 1 dX7_init_209 rfl ?_
    refine g_bipush C (v := (-4 : Int32)) dX7_init_210 (by decide) ?_
    refine g_iast C (isX7_lanes h0).1 (isX7_lanes h0).2 h.1 dX7_init_212 ?_
    replace h := h.2
    refine g_iinc C (v := v1 + 1) 1 [(1, .int (v1 + 1)), (0, .ref (Y.ad b))] dX7_init_213 rfl rfl (by decide) rfl ?_
    refine g_goto C 200 dX7_init_216 (by decide) ?_
    refine g_lv (lv2 := [(0, .ref (Y.ad b)), (1, .int (v1 + 1))]) [1, 0] ?_ rfl
    exact h
set_option maxRecDepth 20000 in
set_option maxHeartbeats 4000000 in
theorem sf_X7_init {X : XT} {Y : YT} {l0 : Launch} {b : Nat} {Q : Mem → Prop} {μ : Mem} (C : Cx X Y 2 cX7_init RX7 WX7_init (rmC 2 46 24 2184) l0) (hr : RVn X Y 2 cX7_init Q) (hI : YI Y) (h0 : isX7 Y b) (h : PSX7_init b μ Q) : G X Y 2 198 [(0, .ref (Y.ad b))] [] μ := by
  unfold PSX7_init at h
  replace h := h (SX7_init_200 X Y b) (fun v1 μ z => tX7_init_200 C hr hI h0 v1 μ z)
  refine g_iconst C (v := (0 : Int32)) dX7_init_198 (by decide) ?_
  refine g_istore_n C [(1, .int ((0 : Int32))), (0, .ref (Y.ad b))] dX7_init_199 (by decide) rfl ?_
  refine g_lv (lv2 := [(0, .ref (Y.ad b)), (1, .int ((0 : Int32)))]) [1, 0] ?_ rfl
  exact h
set_option maxRecDepth 20000 in
set_option maxHeartbeats 8000000 in
theorem ok_X7_init {Y : YT} {l0 : Launch} {b : Nat} {μ : Mem} {Q : Mem → Prop} (hI : YI Y) (hN : Y.N = b + 1) (hS : Y.sh b = fX7) (h : PX7_init b μ Q) : MC l0 yX7_init WX7_init 2 46 24 2184 Y b μ (fun Y' μ' => Y'.N = b + 25 ∧ isX7 Y' b ∧ Q μ') := by
  refine mC_of (cc := cX7_init) (maxL := 2) (by decide +kernel) rfl rfl hI (by decide) (fun X C hXa hXi hr => ?_)
  replace C : Cx (xset X 0 0) Y 2 cX7_init RX7 WX7_init (rmC 2 46 24 2184) l0 := C
  obtain ⟨x0, hx0⟩ : ∃ x0, Y.ad b = x0 := ⟨_, rfl⟩
  rw [hx0]
  unfold PX7_init at h
  refine g_aload_n C 0 dX7_init_0 rfl ?_
  refine g_obj C (List.mem_cons_of_mem _ mM_RX7_1) (List.mem_cons_of_mem _ mObj_i) (List.mem_cons_of_mem _ mObj_c) (by decide) (by decide) dX7_init_1 ?_
  refine g_aload_n C 0 dX7_init_4 rfl ?_
  refine g_bipush C (v := (18 : Int32)) dX7_init_5 (by decide) ?_
  refine g_newA C hXa (id := b + 1) hN .int .int rfl (List.mem_cons_of_mem _ mArr_I) Y.cI 0 rfl (fun _ _ z => z) rfl (k := 18) (by decide) (by decide) (by decide) (by decide) (by decide) dX7_init_7 (fun Y1 x2 C3 K4 n5 a6 s7 => ?_)
  have a8 := (K4.2.2.1 b (lt_N0 hN (by decide))).trans hx0
  have s9 := (K4.2.2.2 b (lt_N0 hN (by decide)) (nb_l (by decide))).trans hS
  have f10 := isI_new s7 K4 n5
  have k11 := keep_tr (b := b) (keep_rf) K4 (Or.inr (ge_N hN (by decide)))
  have n12 : Y1.N = b + 2 := n5
  refine g_putR C3 hXi (i := b) (ty := (.array .int)) (ty0 := tyX7) (k := 1) (Nc := 56) (Cn := RX7) (T := TX7) (ci := 7) (lt_N0 n12 (by decide)) a8 s9 rfl rfl (fun w hw => List.mem_cons_of_mem _ (inX7 w hw)) tyX7_ok nmX7 (by decide) (List.mem_cons_of_mem _ mF_RX7_7) rfl rfl rfl rfl rfl rfl (by decide : 1 < 56) (rt (fun c => [.int (c.1 0), .ref x2, .int (c.1 2), .null, .null, .null, .int (c.1 6), .int (c.1 7), .int (c.1 8), .null, .int (c.1 10), .null, .int (c.1 12), .null, .null, .null, .int (c.1 16), .int (c.1 17), .int (c.1 18), .null, .int (c.1 20), .int (c.1 21), .int (c.1 22), .null, .null, .null, .int (c.1 26), .int (c.1 27), .int (c.1 28), .int (c.1 29), .int (c.1 30), .int (c.1 31), .int (c.1 32), .null, .null, .null, .null, .int (c.1 37), .null, .int (c.1 39), .null, .int (c.1 41), .null, .int (c.1 43), .int (c.1 44), .int (c.1 45), .int (c.1 46), .int (c.1 47), .int (c.1 48), .null, .int (c.1 50), .int (c.1 51), .null, .null, .null, .int (c.1 55)]) 7) rfl dX7_init_9 (fun Y13 C14 K15 n16 a17 s18 => ?_)
  have f19 := isI_tr f10 K15 (nb_r (by decide))
  have a20 := (K15.2.2.1 (b + 1) (lt_N n12 (by decide))).trans a6
  have a21 := (K15.2.2.1 b (lt_N0 n12 (by decide))).trans a8
  have k22 := keep_tr (b := b) k11 K15 (Or.inl rfl)
  have n23 : Y13.N = b + 2 := n16.trans n12
  refine g_aload_n C14 0 dX7_init_12 rfl ?_
  refine g_bipush C14 (v := (45 : Int32)) dX7_init_13 (by decide) ?_
  refine g_newA C14 hXa (id := b + 2) n23 .int .int rfl (List.mem_cons_of_mem _ mArr_I) Y13.cI 0 rfl (fun _ _ z => z) rfl (k := 45) (by decide) (by decide) (by decide) (by decide) (by decide) dX7_init_15 (fun Y24 x25 C26 K27 n28 a29 s30 => ?_)
  have f31 := isI_tr f19 K27 (nb_ (by decide))
  have a32 := (K27.2.2.1 (b + 1) (lt_N n23 (by decide))).trans a20
  have a33 := (K27.2.2.1 b (lt_N0 n23 (by decide))).trans a17
  have s34 := (K27.2.2.2 b (lt_N0 n23 (by decide)) (nb_l (by decide))).trans s18
  have f35 := isI_new s30 K27 n28
  have k36 := keep_tr (b := b) k22 K27 (Or.inr (ge_N hN (by decide)))
  have n37 : Y24.N = b + 3 := n28
  refine g_putR C26 hXi (i := b) (ty := (.array .int)) (ty0 := tyX7) (k := 3) (Nc := 56) (Cn := RX7) (T := TX7) (ci := 7) (lt_N0 n37 (by decide)) a33 s34 rfl rfl (fun w hw => List.mem_cons_of_mem _ (inX7 w hw)) tyX7_ok nmX7 (by decide) (List.mem_cons_of_mem _ mF_RX7_13) rfl rfl rfl rfl rfl rfl (by decide : 3 < 56) (rt (fun c => [.int (c.1 0), .ref x2, .int (c.1 2), .ref x25, .null, .null, .int (c.1 6), .int (c.1 7), .int (c.1 8), .null, .int (c.1 10), .null, .int (c.1 12), .null, .null, .null, .int (c.1 16), .int (c.1 17), .int (c.1 18), .null, .int (c.1 20), .int (c.1 21), .int (c.1 22), .null, .null, .null, .int (c.1 26), .int (c.1 27), .int (c.1 28), .int (c.1 29), .int (c.1 30), .int (c.1 31), .int (c.1 32), .null, .null, .null, .null, .int (c.1 37), .null, .int (c.1 39), .null, .int (c.1 41), .null, .int (c.1 43), .int (c.1 44), .int (c.1 45), .int (c.1 46), .int (c.1 47), .int (c.1 48), .null, .int (c.1 50), .int (c.1 51), .null, .null, .null, .int (c.1 55)]) 7) rfl dX7_init_17 (fun Y38 C39 K40 n41 a42 s43 => ?_)
  have f44 := isI_tr f31 K40 (nb_r (by decide))
  have f45 := isI_tr f35 K40 (nb_r (by decide))
  have a46 := (K40.2.2.1 (b + 1) (lt_N n37 (by decide))).trans a32
  have a47 := (K40.2.2.1 (b + 2) (lt_N n37 (by decide))).trans a29
  have a48 := (K40.2.2.1 b (lt_N0 n37 (by decide))).trans a33
  have k49 := keep_tr (b := b) k36 K40 (Or.inl rfl)
  have n50 : Y38.N = b + 3 := n41.trans n37
  refine g_aload_n C39 0 dX7_init_20 rfl ?_
  refine g_bipush C39 (v := (54 : Int32)) dX7_init_21 (by decide) ?_
  refine g_newA C39 hXa (id := b + 3) n50 .int .int rfl (List.mem_cons_of_mem _ mArr_I) Y38.cI 0 rfl (fun _ _ z => z) rfl (k := 54) (by decide) (by decide) (by decide) (by decide) (by decide) dX7_init_23 (fun Y51 x52 C53 K54 n55 a56 s57 => ?_)
  have f58 := isI_tr f44 K54 (nb_ (by decide))
  have f59 := isI_tr f45 K54 (nb_ (by decide))
  have a60 := (K54.2.2.1 (b + 1) (lt_N n50 (by decide))).trans a46
  have a61 := (K54.2.2.1 (b + 2) (lt_N n50 (by decide))).trans a47
  have a62 := (K54.2.2.1 b (lt_N0 n50 (by decide))).trans a42
  have s63 := (K54.2.2.2 b (lt_N0 n50 (by decide)) (nb_l (by decide))).trans s43
  have f64 := isI_new s57 K54 n55
  have k65 := keep_tr (b := b) k49 K54 (Or.inr (ge_N hN (by decide)))
  have n66 : Y51.N = b + 4 := n55
  refine g_putR C53 hXi (i := b) (ty := (.array .int)) (ty0 := tyX7) (k := 4) (Nc := 56) (Cn := RX7) (T := TX7) (ci := 7) (lt_N0 n66 (by decide)) a62 s63 rfl rfl (fun w hw => List.mem_cons_of_mem _ (inX7 w hw)) tyX7_ok nmX7 (by decide) (List.mem_cons_of_mem _ mF_RX7_16) rfl rfl rfl rfl rfl rfl (by decide : 4 < 56) (rt (fun c => [.int (c.1 0), .ref x2, .int (c.1 2), .ref x25, .ref x52, .null, .int (c.1 6), .int (c.1 7), .int (c.1 8), .null, .int (c.1 10), .null, .int (c.1 12), .null, .null, .null, .int (c.1 16), .int (c.1 17), .int (c.1 18), .null, .int (c.1 20), .int (c.1 21), .int (c.1 22), .null, .null, .null, .int (c.1 26), .int (c.1 27), .int (c.1 28), .int (c.1 29), .int (c.1 30), .int (c.1 31), .int (c.1 32), .null, .null, .null, .null, .int (c.1 37), .null, .int (c.1 39), .null, .int (c.1 41), .null, .int (c.1 43), .int (c.1 44), .int (c.1 45), .int (c.1 46), .int (c.1 47), .int (c.1 48), .null, .int (c.1 50), .int (c.1 51), .null, .null, .null, .int (c.1 55)]) 7) rfl dX7_init_25 (fun Y67 C68 K69 n70 a71 s72 => ?_)
  have f73 := isI_tr f58 K69 (nb_r (by decide))
  have f74 := isI_tr f59 K69 (nb_r (by decide))
  have f75 := isI_tr f64 K69 (nb_r (by decide))
  have a76 := (K69.2.2.1 (b + 1) (lt_N n66 (by decide))).trans a60
  have a77 := (K69.2.2.1 (b + 2) (lt_N n66 (by decide))).trans a61
  have a78 := (K69.2.2.1 (b + 3) (lt_N n66 (by decide))).trans a56
  have a79 := (K69.2.2.1 b (lt_N0 n66 (by decide))).trans a62
  have k80 := keep_tr (b := b) k65 K69 (Or.inl rfl)
  have n81 : Y67.N = b + 4 := n70.trans n66
  refine g_aload_n C68 0 dX7_init_28 rfl ?_
  refine g_bipush C68 (v := (54 : Int32)) dX7_init_29 (by decide) ?_
  refine g_newA C68 hXa (id := b + 4) n81 .int .int rfl (List.mem_cons_of_mem _ mArr_I) Y67.cI 0 rfl (fun _ _ z => z) rfl (k := 54) (by decide) (by decide) (by decide) (by decide) (by decide) dX7_init_31 (fun Y82 x83 C84 K85 n86 a87 s88 => ?_)
  have f89 := isI_tr f73 K85 (nb_ (by decide))
  have f90 := isI_tr f74 K85 (nb_ (by decide))
  have f91 := isI_tr f75 K85 (nb_ (by decide))
  have a92 := (K85.2.2.1 (b + 1) (lt_N n81 (by decide))).trans a76
  have a93 := (K85.2.2.1 (b + 2) (lt_N n81 (by decide))).trans a77
  have a94 := (K85.2.2.1 (b + 3) (lt_N n81 (by decide))).trans a78
  have a95 := (K85.2.2.1 b (lt_N0 n81 (by decide))).trans a71
  have s96 := (K85.2.2.2 b (lt_N0 n81 (by decide)) (nb_l (by decide))).trans s72
  have f97 := isI_new s88 K85 n86
  have k98 := keep_tr (b := b) k80 K85 (Or.inr (ge_N hN (by decide)))
  have n99 : Y82.N = b + 5 := n86
  refine g_putR C84 hXi (i := b) (ty := (.array .int)) (ty0 := tyX7) (k := 5) (Nc := 56) (Cn := RX7) (T := TX7) (ci := 7) (lt_N0 n99 (by decide)) a95 s96 rfl rfl (fun w hw => List.mem_cons_of_mem _ (inX7 w hw)) tyX7_ok nmX7 (by decide) (List.mem_cons_of_mem _ mF_RX7_19) rfl rfl rfl rfl rfl rfl (by decide : 5 < 56) (rt (fun c => [.int (c.1 0), .ref x2, .int (c.1 2), .ref x25, .ref x52, .ref x83, .int (c.1 6), .int (c.1 7), .int (c.1 8), .null, .int (c.1 10), .null, .int (c.1 12), .null, .null, .null, .int (c.1 16), .int (c.1 17), .int (c.1 18), .null, .int (c.1 20), .int (c.1 21), .int (c.1 22), .null, .null, .null, .int (c.1 26), .int (c.1 27), .int (c.1 28), .int (c.1 29), .int (c.1 30), .int (c.1 31), .int (c.1 32), .null, .null, .null, .null, .int (c.1 37), .null, .int (c.1 39), .null, .int (c.1 41), .null, .int (c.1 43), .int (c.1 44), .int (c.1 45), .int (c.1 46), .int (c.1 47), .int (c.1 48), .null, .int (c.1 50), .int (c.1 51), .null, .null, .null, .int (c.1 55)]) 7) rfl dX7_init_33 (fun Y100 C101 K102 n103 a104 s105 => ?_)
  have f106 := isI_tr f89 K102 (nb_r (by decide))
  have f107 := isI_tr f90 K102 (nb_r (by decide))
  have f108 := isI_tr f91 K102 (nb_r (by decide))
  have f109 := isI_tr f97 K102 (nb_r (by decide))
  have a110 := (K102.2.2.1 (b + 1) (lt_N n99 (by decide))).trans a92
  have a111 := (K102.2.2.1 (b + 2) (lt_N n99 (by decide))).trans a93
  have a112 := (K102.2.2.1 (b + 3) (lt_N n99 (by decide))).trans a94
  have a113 := (K102.2.2.1 (b + 4) (lt_N n99 (by decide))).trans a87
  have a114 := (K102.2.2.1 b (lt_N0 n99 (by decide))).trans a95
  have k115 := keep_tr (b := b) k98 K102 (Or.inl rfl)
  have n116 : Y100.N = b + 5 := n103.trans n99
  refine g_aload_n C101 0 dX7_init_36 rfl ?_
  refine g_bipush C101 (v := (7 : Int32)) dX7_init_37 (by decide) ?_
  refine g_newA C101 hXa (id := b + 5) n116 .int .int rfl (List.mem_cons_of_mem _ mArr_I) Y100.cI 0 rfl (fun _ _ z => z) rfl (k := 7) (by decide) (by decide) (by decide) (by decide) (by decide) dX7_init_39 (fun Y117 x118 C119 K120 n121 a122 s123 => ?_)
  have f124 := isI_tr f106 K120 (nb_ (by decide))
  have f125 := isI_tr f107 K120 (nb_ (by decide))
  have f126 := isI_tr f108 K120 (nb_ (by decide))
  have f127 := isI_tr f109 K120 (nb_ (by decide))
  have a128 := (K120.2.2.1 (b + 1) (lt_N n116 (by decide))).trans a110
  have a129 := (K120.2.2.1 (b + 2) (lt_N n116 (by decide))).trans a111
  have a130 := (K120.2.2.1 (b + 3) (lt_N n116 (by decide))).trans a112
  have a131 := (K120.2.2.1 (b + 4) (lt_N n116 (by decide))).trans a113
  have a132 := (K120.2.2.1 b (lt_N0 n116 (by decide))).trans a104
  have s133 := (K120.2.2.2 b (lt_N0 n116 (by decide)) (nb_l (by decide))).trans s105
  have f134 := isI_new s123 K120 n121
  have k135 := keep_tr (b := b) k115 K120 (Or.inr (ge_N hN (by decide)))
  have n136 : Y117.N = b + 6 := n121
  refine g_putR C119 hXi (i := b) (ty := (.array .int)) (ty0 := tyX7) (k := 9) (Nc := 56) (Cn := RX7) (T := TX7) (ci := 7) (lt_N0 n136 (by decide)) a132 s133 rfl rfl (fun w hw => List.mem_cons_of_mem _ (inX7 w hw)) tyX7_ok nmX7 (by decide) (List.mem_cons_of_mem _ mF_RX7_22) rfl rfl rfl rfl rfl rfl (by decide : 9 < 56) (rt (fun c => [.int (c.1 0), .ref x2, .int (c.1 2), .ref x25, .ref x52, .ref x83, .int (c.1 6), .int (c.1 7), .int (c.1 8), .ref x118, .int (c.1 10), .null, .int (c.1 12), .null, .null, .null, .int (c.1 16), .int (c.1 17), .int (c.1 18), .null, .int (c.1 20), .int (c.1 21), .int (c.1 22), .null, .null, .null, .int (c.1 26), .int (c.1 27), .int (c.1 28), .int (c.1 29), .int (c.1 30), .int (c.1 31), .int (c.1 32), .null, .null, .null, .null, .int (c.1 37), .null, .int (c.1 39), .null, .int (c.1 41), .null, .int (c.1 43), .int (c.1 44), .int (c.1 45), .int (c.1 46), .int (c.1 47), .int (c.1 48), .null, .int (c.1 50), .int (c.1 51), .null, .null, .null, .int (c.1 55)]) 7) rfl dX7_init_41 (fun Y137 C138 K139 n140 a141 s142 => ?_)
  have f143 := isI_tr f124 K139 (nb_r (by decide))
  have f144 := isI_tr f125 K139 (nb_r (by decide))
  have f145 := isI_tr f126 K139 (nb_r (by decide))
  have f146 := isI_tr f127 K139 (nb_r (by decide))
  have f147 := isI_tr f134 K139 (nb_r (by decide))
  have a148 := (K139.2.2.1 (b + 1) (lt_N n136 (by decide))).trans a128
  have a149 := (K139.2.2.1 (b + 2) (lt_N n136 (by decide))).trans a129
  have a150 := (K139.2.2.1 (b + 3) (lt_N n136 (by decide))).trans a130
  have a151 := (K139.2.2.1 (b + 4) (lt_N n136 (by decide))).trans a131
  have a152 := (K139.2.2.1 (b + 5) (lt_N n136 (by decide))).trans a122
  have a153 := (K139.2.2.1 b (lt_N0 n136 (by decide))).trans a132
  have k154 := keep_tr (b := b) k135 K139 (Or.inl rfl)
  have n155 : Y137.N = b + 6 := n140.trans n136
  refine g_aload_n C138 0 dX7_init_44 rfl ?_
  refine g_bipush C138 (v := (18 : Int32)) dX7_init_45 (by decide) ?_
  refine g_newA C138 hXa (id := b + 6) n155 .int .int rfl (List.mem_cons_of_mem _ mArr_I) Y137.cI 0 rfl (fun _ _ z => z) rfl (k := 18) (by decide) (by decide) (by decide) (by decide) (by decide) dX7_init_47 (fun Y156 x157 C158 K159 n160 a161 s162 => ?_)
  have f163 := isI_tr f143 K159 (nb_ (by decide))
  have f164 := isI_tr f144 K159 (nb_ (by decide))
  have f165 := isI_tr f145 K159 (nb_ (by decide))
  have f166 := isI_tr f146 K159 (nb_ (by decide))
  have f167 := isI_tr f147 K159 (nb_ (by decide))
  have a168 := (K159.2.2.1 (b + 1) (lt_N n155 (by decide))).trans a148
  have a169 := (K159.2.2.1 (b + 2) (lt_N n155 (by decide))).trans a149
  have a170 := (K159.2.2.1 (b + 3) (lt_N n155 (by decide))).trans a150
  have a171 := (K159.2.2.1 (b + 4) (lt_N n155 (by decide))).trans a151
  have a172 := (K159.2.2.1 (b + 5) (lt_N n155 (by decide))).trans a152
  have a173 := (K159.2.2.1 b (lt_N0 n155 (by decide))).trans a141
  have s174 := (K159.2.2.2 b (lt_N0 n155 (by decide)) (nb_l (by decide))).trans s142
  have f175 := isI_new s162 K159 n160
  have k176 := keep_tr (b := b) k154 K159 (Or.inr (ge_N hN (by decide)))
  have n177 : Y156.N = b + 7 := n160
  refine g_putR C158 hXi (i := b) (ty := (.array .int)) (ty0 := tyX7) (k := 11) (Nc := 56) (Cn := RX7) (T := TX7) (ci := 7) (lt_N0 n177 (by decide)) a173 s174 rfl rfl (fun w hw => List.mem_cons_of_mem _ (inX7 w hw)) tyX7_ok nmX7 (by decide) (List.mem_cons_of_mem _ mF_RX7_25) rfl rfl rfl rfl rfl rfl (by decide : 11 < 56) (rt (fun c => [.int (c.1 0), .ref x2, .int (c.1 2), .ref x25, .ref x52, .ref x83, .int (c.1 6), .int (c.1 7), .int (c.1 8), .ref x118, .int (c.1 10), .ref x157, .int (c.1 12), .null, .null, .null, .int (c.1 16), .int (c.1 17), .int (c.1 18), .null, .int (c.1 20), .int (c.1 21), .int (c.1 22), .null, .null, .null, .int (c.1 26), .int (c.1 27), .int (c.1 28), .int (c.1 29), .int (c.1 30), .int (c.1 31), .int (c.1 32), .null, .null, .null, .null, .int (c.1 37), .null, .int (c.1 39), .null, .int (c.1 41), .null, .int (c.1 43), .int (c.1 44), .int (c.1 45), .int (c.1 46), .int (c.1 47), .int (c.1 48), .null, .int (c.1 50), .int (c.1 51), .null, .null, .null, .int (c.1 55)]) 7) rfl dX7_init_49 (fun Y178 C179 K180 n181 a182 s183 => ?_)
  have f184 := isI_tr f163 K180 (nb_r (by decide))
  have f185 := isI_tr f164 K180 (nb_r (by decide))
  have f186 := isI_tr f165 K180 (nb_r (by decide))
  have f187 := isI_tr f166 K180 (nb_r (by decide))
  have f188 := isI_tr f167 K180 (nb_r (by decide))
  have f189 := isI_tr f175 K180 (nb_r (by decide))
  have a190 := (K180.2.2.1 (b + 1) (lt_N n177 (by decide))).trans a168
  have a191 := (K180.2.2.1 (b + 2) (lt_N n177 (by decide))).trans a169
  have a192 := (K180.2.2.1 (b + 3) (lt_N n177 (by decide))).trans a170
  have a193 := (K180.2.2.1 (b + 4) (lt_N n177 (by decide))).trans a171
  have a194 := (K180.2.2.1 (b + 5) (lt_N n177 (by decide))).trans a172
  have a195 := (K180.2.2.1 (b + 6) (lt_N n177 (by decide))).trans a161
  have a196 := (K180.2.2.1 b (lt_N0 n177 (by decide))).trans a173
  have k197 := keep_tr (b := b) k176 K180 (Or.inl rfl)
  have n198 : Y178.N = b + 7 := n181.trans n177
  refine g_aload_n C179 0 dX7_init_52 rfl ?_
  refine g_bipush C179 (v := (45 : Int32)) dX7_init_53 (by decide) ?_
  refine g_newA C179 hXa (id := b + 7) n198 .int .int rfl (List.mem_cons_of_mem _ mArr_I) Y178.cI 0 rfl (fun _ _ z => z) rfl (k := 45) (by decide) (by decide) (by decide) (by decide) (by decide) dX7_init_55 (fun Y199 x200 C201 K202 n203 a204 s205 => ?_)
  have f206 := isI_tr f184 K202 (nb_ (by decide))
  have f207 := isI_tr f185 K202 (nb_ (by decide))
  have f208 := isI_tr f186 K202 (nb_ (by decide))
  have f209 := isI_tr f187 K202 (nb_ (by decide))
  have f210 := isI_tr f188 K202 (nb_ (by decide))
  have f211 := isI_tr f189 K202 (nb_ (by decide))
  have a212 := (K202.2.2.1 (b + 1) (lt_N n198 (by decide))).trans a190
  have a213 := (K202.2.2.1 (b + 2) (lt_N n198 (by decide))).trans a191
  have a214 := (K202.2.2.1 (b + 3) (lt_N n198 (by decide))).trans a192
  have a215 := (K202.2.2.1 (b + 4) (lt_N n198 (by decide))).trans a193
  have a216 := (K202.2.2.1 (b + 5) (lt_N n198 (by decide))).trans a194
  have a217 := (K202.2.2.1 (b + 6) (lt_N n198 (by decide))).trans a195
  have a218 := (K202.2.2.1 b (lt_N0 n198 (by decide))).trans a182
  have s219 := (K202.2.2.2 b (lt_N0 n198 (by decide)) (nb_l (by decide))).trans s183
  have f220 := isI_new s205 K202 n203
  have k221 := keep_tr (b := b) k197 K202 (Or.inr (ge_N hN (by decide)))
  have n222 : Y199.N = b + 8 := n203
  refine g_putR C201 hXi (i := b) (ty := (.array .int)) (ty0 := tyX7) (k := 13) (Nc := 56) (Cn := RX7) (T := TX7) (ci := 7) (lt_N0 n222 (by decide)) a218 s219 rfl rfl (fun w hw => List.mem_cons_of_mem _ (inX7 w hw)) tyX7_ok nmX7 (by decide) (List.mem_cons_of_mem _ mF_RX7_28) rfl rfl rfl rfl rfl rfl (by decide : 13 < 56) (rt (fun c => [.int (c.1 0), .ref x2, .int (c.1 2), .ref x25, .ref x52, .ref x83, .int (c.1 6), .int (c.1 7), .int (c.1 8), .ref x118, .int (c.1 10), .ref x157, .int (c.1 12), .ref x200, .null, .null, .int (c.1 16), .int (c.1 17), .int (c.1 18), .null, .int (c.1 20), .int (c.1 21), .int (c.1 22), .null, .null, .null, .int (c.1 26), .int (c.1 27), .int (c.1 28), .int (c.1 29), .int (c.1 30), .int (c.1 31), .int (c.1 32), .null, .null, .null, .null, .int (c.1 37), .null, .int (c.1 39), .null, .int (c.1 41), .null, .int (c.1 43), .int (c.1 44), .int (c.1 45), .int (c.1 46), .int (c.1 47), .int (c.1 48), .null, .int (c.1 50), .int (c.1 51), .null, .null, .null, .int (c.1 55)]) 7) rfl dX7_init_57 (fun Y223 C224 K225 n226 a227 s228 => ?_)
  have f229 := isI_tr f206 K225 (nb_r (by decide))
  have f230 := isI_tr f207 K225 (nb_r (by decide))
  have f231 := isI_tr f208 K225 (nb_r (by decide))
  have f232 := isI_tr f209 K225 (nb_r (by decide))
  have f233 := isI_tr f210 K225 (nb_r (by decide))
  have f234 := isI_tr f211 K225 (nb_r (by decide))
  have f235 := isI_tr f220 K225 (nb_r (by decide))
  have a236 := (K225.2.2.1 (b + 1) (lt_N n222 (by decide))).trans a212
  have a237 := (K225.2.2.1 (b + 2) (lt_N n222 (by decide))).trans a213
  have a238 := (K225.2.2.1 (b + 3) (lt_N n222 (by decide))).trans a214
  have a239 := (K225.2.2.1 (b + 4) (lt_N n222 (by decide))).trans a215
  have a240 := (K225.2.2.1 (b + 5) (lt_N n222 (by decide))).trans a216
  have a241 := (K225.2.2.1 (b + 6) (lt_N n222 (by decide))).trans a217
  have a242 := (K225.2.2.1 (b + 7) (lt_N n222 (by decide))).trans a204
  have a243 := (K225.2.2.1 b (lt_N0 n222 (by decide))).trans a218
  have k244 := keep_tr (b := b) k221 K225 (Or.inl rfl)
  have n245 : Y223.N = b + 8 := n226.trans n222
  refine g_aload_n C224 0 dX7_init_60 rfl ?_
  refine g_bipush C224 (v := (54 : Int32)) dX7_init_61 (by decide) ?_
  refine g_newA C224 hXa (id := b + 8) n245 .int .int rfl (List.mem_cons_of_mem _ mArr_I) Y223.cI 0 rfl (fun _ _ z => z) rfl (k := 54) (by decide) (by decide) (by decide) (by decide) (by decide) dX7_init_63 (fun Y246 x247 C248 K249 n250 a251 s252 => ?_)
  have f253 := isI_tr f229 K249 (nb_ (by decide))
  have f254 := isI_tr f230 K249 (nb_ (by decide))
  have f255 := isI_tr f231 K249 (nb_ (by decide))
  have f256 := isI_tr f232 K249 (nb_ (by decide))
  have f257 := isI_tr f233 K249 (nb_ (by decide))
  have f258 := isI_tr f234 K249 (nb_ (by decide))
  have f259 := isI_tr f235 K249 (nb_ (by decide))
  have a260 := (K249.2.2.1 (b + 1) (lt_N n245 (by decide))).trans a236
  have a261 := (K249.2.2.1 (b + 2) (lt_N n245 (by decide))).trans a237
  have a262 := (K249.2.2.1 (b + 3) (lt_N n245 (by decide))).trans a238
  have a263 := (K249.2.2.1 (b + 4) (lt_N n245 (by decide))).trans a239
  have a264 := (K249.2.2.1 (b + 5) (lt_N n245 (by decide))).trans a240
  have a265 := (K249.2.2.1 (b + 6) (lt_N n245 (by decide))).trans a241
  have a266 := (K249.2.2.1 (b + 7) (lt_N n245 (by decide))).trans a242
  have a267 := (K249.2.2.1 b (lt_N0 n245 (by decide))).trans a227
  have s268 := (K249.2.2.2 b (lt_N0 n245 (by decide)) (nb_l (by decide))).trans s228
  have f269 := isI_new s252 K249 n250
  have k270 := keep_tr (b := b) k244 K249 (Or.inr (ge_N hN (by decide)))
  have n271 : Y246.N = b + 9 := n250
  refine g_putR C248 hXi (i := b) (ty := (.array .int)) (ty0 := tyX7) (k := 14) (Nc := 56) (Cn := RX7) (T := TX7) (ci := 7) (lt_N0 n271 (by decide)) a267 s268 rfl rfl (fun w hw => List.mem_cons_of_mem _ (inX7 w hw)) tyX7_ok nmX7 (by decide) (List.mem_cons_of_mem _ mF_RX7_31) rfl rfl rfl rfl rfl rfl (by decide : 14 < 56) (rt (fun c => [.int (c.1 0), .ref x2, .int (c.1 2), .ref x25, .ref x52, .ref x83, .int (c.1 6), .int (c.1 7), .int (c.1 8), .ref x118, .int (c.1 10), .ref x157, .int (c.1 12), .ref x200, .ref x247, .null, .int (c.1 16), .int (c.1 17), .int (c.1 18), .null, .int (c.1 20), .int (c.1 21), .int (c.1 22), .null, .null, .null, .int (c.1 26), .int (c.1 27), .int (c.1 28), .int (c.1 29), .int (c.1 30), .int (c.1 31), .int (c.1 32), .null, .null, .null, .null, .int (c.1 37), .null, .int (c.1 39), .null, .int (c.1 41), .null, .int (c.1 43), .int (c.1 44), .int (c.1 45), .int (c.1 46), .int (c.1 47), .int (c.1 48), .null, .int (c.1 50), .int (c.1 51), .null, .null, .null, .int (c.1 55)]) 7) rfl dX7_init_65 (fun Y272 C273 K274 n275 a276 s277 => ?_)
  have f278 := isI_tr f253 K274 (nb_r (by decide))
  have f279 := isI_tr f254 K274 (nb_r (by decide))
  have f280 := isI_tr f255 K274 (nb_r (by decide))
  have f281 := isI_tr f256 K274 (nb_r (by decide))
  have f282 := isI_tr f257 K274 (nb_r (by decide))
  have f283 := isI_tr f258 K274 (nb_r (by decide))
  have f284 := isI_tr f259 K274 (nb_r (by decide))
  have f285 := isI_tr f269 K274 (nb_r (by decide))
  have a286 := (K274.2.2.1 (b + 1) (lt_N n271 (by decide))).trans a260
  have a287 := (K274.2.2.1 (b + 2) (lt_N n271 (by decide))).trans a261
  have a288 := (K274.2.2.1 (b + 3) (lt_N n271 (by decide))).trans a262
  have a289 := (K274.2.2.1 (b + 4) (lt_N n271 (by decide))).trans a263
  have a290 := (K274.2.2.1 (b + 5) (lt_N n271 (by decide))).trans a264
  have a291 := (K274.2.2.1 (b + 6) (lt_N n271 (by decide))).trans a265
  have a292 := (K274.2.2.1 (b + 7) (lt_N n271 (by decide))).trans a266
  have a293 := (K274.2.2.1 (b + 8) (lt_N n271 (by decide))).trans a251
  have a294 := (K274.2.2.1 b (lt_N0 n271 (by decide))).trans a267
  have k295 := keep_tr (b := b) k270 K274 (Or.inl rfl)
  have n296 : Y272.N = b + 9 := n275.trans n271
  refine g_aload_n C273 0 dX7_init_68 rfl ?_
  refine g_bipush C273 (v := (54 : Int32)) dX7_init_69 (by decide) ?_
  refine g_newA C273 hXa (id := b + 9) n296 .int .int rfl (List.mem_cons_of_mem _ mArr_I) Y272.cI 0 rfl (fun _ _ z => z) rfl (k := 54) (by decide) (by decide) (by decide) (by decide) (by decide) dX7_init_71 (fun Y297 x298 C299 K300 n301 a302 s303 => ?_)
  have f304 := isI_tr f278 K300 (nb_ (by decide))
  have f305 := isI_tr f279 K300 (nb_ (by decide))
  have f306 := isI_tr f280 K300 (nb_ (by decide))
  have f307 := isI_tr f281 K300 (nb_ (by decide))
  have f308 := isI_tr f282 K300 (nb_ (by decide))
  have f309 := isI_tr f283 K300 (nb_ (by decide))
  have f310 := isI_tr f284 K300 (nb_ (by decide))
  have f311 := isI_tr f285 K300 (nb_ (by decide))
  have a312 := (K300.2.2.1 (b + 1) (lt_N n296 (by decide))).trans a286
  have a313 := (K300.2.2.1 (b + 2) (lt_N n296 (by decide))).trans a287
  have a314 := (K300.2.2.1 (b + 3) (lt_N n296 (by decide))).trans a288
  have a315 := (K300.2.2.1 (b + 4) (lt_N n296 (by decide))).trans a289
  have a316 := (K300.2.2.1 (b + 5) (lt_N n296 (by decide))).trans a290
  have a317 := (K300.2.2.1 (b + 6) (lt_N n296 (by decide))).trans a291
  have a318 := (K300.2.2.1 (b + 7) (lt_N n296 (by decide))).trans a292
  have a319 := (K300.2.2.1 (b + 8) (lt_N n296 (by decide))).trans a293
  have a320 := (K300.2.2.1 b (lt_N0 n296 (by decide))).trans a276
  have s321 := (K300.2.2.2 b (lt_N0 n296 (by decide)) (nb_l (by decide))).trans s277
  have f322 := isI_new s303 K300 n301
  have k323 := keep_tr (b := b) k295 K300 (Or.inr (ge_N hN (by decide)))
  have n324 : Y297.N = b + 10 := n301
  refine g_putR C299 hXi (i := b) (ty := (.array .int)) (ty0 := tyX7) (k := 15) (Nc := 56) (Cn := RX7) (T := TX7) (ci := 7) (lt_N0 n324 (by decide)) a320 s321 rfl rfl (fun w hw => List.mem_cons_of_mem _ (inX7 w hw)) tyX7_ok nmX7 (by decide) (List.mem_cons_of_mem _ mF_RX7_34) rfl rfl rfl rfl rfl rfl (by decide : 15 < 56) (rt (fun c => [.int (c.1 0), .ref x2, .int (c.1 2), .ref x25, .ref x52, .ref x83, .int (c.1 6), .int (c.1 7), .int (c.1 8), .ref x118, .int (c.1 10), .ref x157, .int (c.1 12), .ref x200, .ref x247, .ref x298, .int (c.1 16), .int (c.1 17), .int (c.1 18), .null, .int (c.1 20), .int (c.1 21), .int (c.1 22), .null, .null, .null, .int (c.1 26), .int (c.1 27), .int (c.1 28), .int (c.1 29), .int (c.1 30), .int (c.1 31), .int (c.1 32), .null, .null, .null, .null, .int (c.1 37), .null, .int (c.1 39), .null, .int (c.1 41), .null, .int (c.1 43), .int (c.1 44), .int (c.1 45), .int (c.1 46), .int (c.1 47), .int (c.1 48), .null, .int (c.1 50), .int (c.1 51), .null, .null, .null, .int (c.1 55)]) 7) rfl dX7_init_73 (fun Y325 C326 K327 n328 a329 s330 => ?_)
  have f331 := isI_tr f304 K327 (nb_r (by decide))
  have f332 := isI_tr f305 K327 (nb_r (by decide))
  have f333 := isI_tr f306 K327 (nb_r (by decide))
  have f334 := isI_tr f307 K327 (nb_r (by decide))
  have f335 := isI_tr f308 K327 (nb_r (by decide))
  have f336 := isI_tr f309 K327 (nb_r (by decide))
  have f337 := isI_tr f310 K327 (nb_r (by decide))
  have f338 := isI_tr f311 K327 (nb_r (by decide))
  have f339 := isI_tr f322 K327 (nb_r (by decide))
  have a340 := (K327.2.2.1 (b + 1) (lt_N n324 (by decide))).trans a312
  have a341 := (K327.2.2.1 (b + 2) (lt_N n324 (by decide))).trans a313
  have a342 := (K327.2.2.1 (b + 3) (lt_N n324 (by decide))).trans a314
  have a343 := (K327.2.2.1 (b + 4) (lt_N n324 (by decide))).trans a315
  have a344 := (K327.2.2.1 (b + 5) (lt_N n324 (by decide))).trans a316
  have a345 := (K327.2.2.1 (b + 6) (lt_N n324 (by decide))).trans a317
  have a346 := (K327.2.2.1 (b + 7) (lt_N n324 (by decide))).trans a318
  have a347 := (K327.2.2.1 (b + 8) (lt_N n324 (by decide))).trans a319
  have a348 := (K327.2.2.1 (b + 9) (lt_N n324 (by decide))).trans a302
  have a349 := (K327.2.2.1 b (lt_N0 n324 (by decide))).trans a320
  have k350 := keep_tr (b := b) k323 K327 (Or.inl rfl)
  have n351 : Y325.N = b + 10 := n328.trans n324
  refine g_aload_n C326 0 dX7_init_76 rfl ?_
  refine g_bipush C326 (v := (7 : Int32)) dX7_init_77 (by decide) ?_
  refine g_newA C326 hXa (id := b + 10) n351 .int .int rfl (List.mem_cons_of_mem _ mArr_I) Y325.cI 0 rfl (fun _ _ z => z) rfl (k := 7) (by decide) (by decide) (by decide) (by decide) (by decide) dX7_init_79 (fun Y352 x353 C354 K355 n356 a357 s358 => ?_)
  have f359 := isI_tr f331 K355 (nb_ (by decide))
  have f360 := isI_tr f332 K355 (nb_ (by decide))
  have f361 := isI_tr f333 K355 (nb_ (by decide))
  have f362 := isI_tr f334 K355 (nb_ (by decide))
  have f363 := isI_tr f335 K355 (nb_ (by decide))
  have f364 := isI_tr f336 K355 (nb_ (by decide))
  have f365 := isI_tr f337 K355 (nb_ (by decide))
  have f366 := isI_tr f338 K355 (nb_ (by decide))
  have f367 := isI_tr f339 K355 (nb_ (by decide))
  have a368 := (K355.2.2.1 (b + 1) (lt_N n351 (by decide))).trans a340
  have a369 := (K355.2.2.1 (b + 2) (lt_N n351 (by decide))).trans a341
  have a370 := (K355.2.2.1 (b + 3) (lt_N n351 (by decide))).trans a342
  have a371 := (K355.2.2.1 (b + 4) (lt_N n351 (by decide))).trans a343
  have a372 := (K355.2.2.1 (b + 5) (lt_N n351 (by decide))).trans a344
  have a373 := (K355.2.2.1 (b + 6) (lt_N n351 (by decide))).trans a345
  have a374 := (K355.2.2.1 (b + 7) (lt_N n351 (by decide))).trans a346
  have a375 := (K355.2.2.1 (b + 8) (lt_N n351 (by decide))).trans a347
  have a376 := (K355.2.2.1 (b + 9) (lt_N n351 (by decide))).trans a348
  have a377 := (K355.2.2.1 b (lt_N0 n351 (by decide))).trans a329
  have s378 := (K355.2.2.2 b (lt_N0 n351 (by decide)) (nb_l (by decide))).trans s330
  have f379 := isI_new s358 K355 n356
  have k380 := keep_tr (b := b) k350 K355 (Or.inr (ge_N hN (by decide)))
  have n381 : Y352.N = b + 11 := n356
  refine g_putR C354 hXi (i := b) (ty := (.array .int)) (ty0 := tyX7) (k := 19) (Nc := 56) (Cn := RX7) (T := TX7) (ci := 7) (lt_N0 n381 (by decide)) a377 s378 rfl rfl (fun w hw => List.mem_cons_of_mem _ (inX7 w hw)) tyX7_ok nmX7 (by decide) (List.mem_cons_of_mem _ mF_RX7_37) rfl rfl rfl rfl rfl rfl (by decide : 19 < 56) (rt (fun c => [.int (c.1 0), .ref x2, .int (c.1 2), .ref x25, .ref x52, .ref x83, .int (c.1 6), .int (c.1 7), .int (c.1 8), .ref x118, .int (c.1 10), .ref x157, .int (c.1 12), .ref x200, .ref x247, .ref x298, .int (c.1 16), .int (c.1 17), .int (c.1 18), .ref x353, .int (c.1 20), .int (c.1 21), .int (c.1 22), .null, .null, .null, .int (c.1 26), .int (c.1 27), .int (c.1 28), .int (c.1 29), .int (c.1 30), .int (c.1 31), .int (c.1 32), .null, .null, .null, .null, .int (c.1 37), .null, .int (c.1 39), .null, .int (c.1 41), .null, .int (c.1 43), .int (c.1 44), .int (c.1 45), .int (c.1 46), .int (c.1 47), .int (c.1 48), .null, .int (c.1 50), .int (c.1 51), .null, .null, .null, .int (c.1 55)]) 7) rfl dX7_init_81 (fun Y382 C383 K384 n385 a386 s387 => ?_)
  have f388 := isI_tr f359 K384 (nb_r (by decide))
  have f389 := isI_tr f360 K384 (nb_r (by decide))
  have f390 := isI_tr f361 K384 (nb_r (by decide))
  have f391 := isI_tr f362 K384 (nb_r (by decide))
  have f392 := isI_tr f363 K384 (nb_r (by decide))
  have f393 := isI_tr f364 K384 (nb_r (by decide))
  have f394 := isI_tr f365 K384 (nb_r (by decide))
  have f395 := isI_tr f366 K384 (nb_r (by decide))
  have f396 := isI_tr f367 K384 (nb_r (by decide))
  have f397 := isI_tr f379 K384 (nb_r (by decide))
  have a398 := (K384.2.2.1 (b + 1) (lt_N n381 (by decide))).trans a368
  have a399 := (K384.2.2.1 (b + 2) (lt_N n381 (by decide))).trans a369
  have a400 := (K384.2.2.1 (b + 3) (lt_N n381 (by decide))).trans a370
  have a401 := (K384.2.2.1 (b + 4) (lt_N n381 (by decide))).trans a371
  have a402 := (K384.2.2.1 (b + 5) (lt_N n381 (by decide))).trans a372
  have a403 := (K384.2.2.1 (b + 6) (lt_N n381 (by decide))).trans a373
  have a404 := (K384.2.2.1 (b + 7) (lt_N n381 (by decide))).trans a374
  have a405 := (K384.2.2.1 (b + 8) (lt_N n381 (by decide))).trans a375
  have a406 := (K384.2.2.1 (b + 9) (lt_N n381 (by decide))).trans a376
  have a407 := (K384.2.2.1 (b + 10) (lt_N n381 (by decide))).trans a357
  have a408 := (K384.2.2.1 b (lt_N0 n381 (by decide))).trans a377
  have k409 := keep_tr (b := b) k380 K384 (Or.inl rfl)
  have n410 : Y382.N = b + 11 := n385.trans n381
  refine g_aload_n C383 0 dX7_init_84 rfl ?_
  refine g_sipush C383 (v := (400 : Int32)) dX7_init_85 (by decide) ?_
  refine g_newA C383 hXa (id := b + 11) n410 .int .int rfl (List.mem_cons_of_mem _ mArr_I) Y382.cI 0 rfl (fun _ _ z => z) rfl (k := 400) (by decide) (by decide) (by decide) (by decide) (by decide) dX7_init_88 (fun Y411 x412 C413 K414 n415 a416 s417 => ?_)
  have f418 := isI_tr f388 K414 (nb_ (by decide))
  have f419 := isI_tr f389 K414 (nb_ (by decide))
  have f420 := isI_tr f390 K414 (nb_ (by decide))
  have f421 := isI_tr f391 K414 (nb_ (by decide))
  have f422 := isI_tr f392 K414 (nb_ (by decide))
  have f423 := isI_tr f393 K414 (nb_ (by decide))
  have f424 := isI_tr f394 K414 (nb_ (by decide))
  have f425 := isI_tr f395 K414 (nb_ (by decide))
  have f426 := isI_tr f396 K414 (nb_ (by decide))
  have f427 := isI_tr f397 K414 (nb_ (by decide))
  have a428 := (K414.2.2.1 (b + 1) (lt_N n410 (by decide))).trans a398
  have a429 := (K414.2.2.1 (b + 2) (lt_N n410 (by decide))).trans a399
  have a430 := (K414.2.2.1 (b + 3) (lt_N n410 (by decide))).trans a400
  have a431 := (K414.2.2.1 (b + 4) (lt_N n410 (by decide))).trans a401
  have a432 := (K414.2.2.1 (b + 5) (lt_N n410 (by decide))).trans a402
  have a433 := (K414.2.2.1 (b + 6) (lt_N n410 (by decide))).trans a403
  have a434 := (K414.2.2.1 (b + 7) (lt_N n410 (by decide))).trans a404
  have a435 := (K414.2.2.1 (b + 8) (lt_N n410 (by decide))).trans a405
  have a436 := (K414.2.2.1 (b + 9) (lt_N n410 (by decide))).trans a406
  have a437 := (K414.2.2.1 (b + 10) (lt_N n410 (by decide))).trans a407
  have a438 := (K414.2.2.1 b (lt_N0 n410 (by decide))).trans a386
  have s439 := (K414.2.2.2 b (lt_N0 n410 (by decide)) (nb_l (by decide))).trans s387
  have f440 := isI_new s417 K414 n415
  have k441 := keep_tr (b := b) k409 K414 (Or.inr (ge_N hN (by decide)))
  have n442 : Y411.N = b + 12 := n415
  refine g_putR C413 hXi (i := b) (ty := (.array .int)) (ty0 := tyX7) (k := 23) (Nc := 56) (Cn := RX7) (T := TX7) (ci := 7) (lt_N0 n442 (by decide)) a438 s439 rfl rfl (fun w hw => List.mem_cons_of_mem _ (inX7 w hw)) tyX7_ok nmX7 (by decide) (List.mem_cons_of_mem _ mF_RX7_40) rfl rfl rfl rfl rfl rfl (by decide : 23 < 56) (rt (fun c => [.int (c.1 0), .ref x2, .int (c.1 2), .ref x25, .ref x52, .ref x83, .int (c.1 6), .int (c.1 7), .int (c.1 8), .ref x118, .int (c.1 10), .ref x157, .int (c.1 12), .ref x200, .ref x247, .ref x298, .int (c.1 16), .int (c.1 17), .int (c.1 18), .ref x353, .int (c.1 20), .int (c.1 21), .int (c.1 22), .ref x412, .null, .null, .int (c.1 26), .int (c.1 27), .int (c.1 28), .int (c.1 29), .int (c.1 30), .int (c.1 31), .int (c.1 32), .null, .null, .null, .null, .int (c.1 37), .null, .int (c.1 39), .null, .int (c.1 41), .null, .int (c.1 43), .int (c.1 44), .int (c.1 45), .int (c.1 46), .int (c.1 47), .int (c.1 48), .null, .int (c.1 50), .int (c.1 51), .null, .null, .null, .int (c.1 55)]) 7) rfl dX7_init_90 (fun Y443 C444 K445 n446 a447 s448 => ?_)
  have f449 := isI_tr f418 K445 (nb_r (by decide))
  have f450 := isI_tr f419 K445 (nb_r (by decide))
  have f451 := isI_tr f420 K445 (nb_r (by decide))
  have f452 := isI_tr f421 K445 (nb_r (by decide))
  have f453 := isI_tr f422 K445 (nb_r (by decide))
  have f454 := isI_tr f423 K445 (nb_r (by decide))
  have f455 := isI_tr f424 K445 (nb_r (by decide))
  have f456 := isI_tr f425 K445 (nb_r (by decide))
  have f457 := isI_tr f426 K445 (nb_r (by decide))
  have f458 := isI_tr f427 K445 (nb_r (by decide))
  have f459 := isI_tr f440 K445 (nb_r (by decide))
  have a460 := (K445.2.2.1 (b + 1) (lt_N n442 (by decide))).trans a428
  have a461 := (K445.2.2.1 (b + 2) (lt_N n442 (by decide))).trans a429
  have a462 := (K445.2.2.1 (b + 3) (lt_N n442 (by decide))).trans a430
  have a463 := (K445.2.2.1 (b + 4) (lt_N n442 (by decide))).trans a431
  have a464 := (K445.2.2.1 (b + 5) (lt_N n442 (by decide))).trans a432
  have a465 := (K445.2.2.1 (b + 6) (lt_N n442 (by decide))).trans a433
  have a466 := (K445.2.2.1 (b + 7) (lt_N n442 (by decide))).trans a434
  have a467 := (K445.2.2.1 (b + 8) (lt_N n442 (by decide))).trans a435
  have a468 := (K445.2.2.1 (b + 9) (lt_N n442 (by decide))).trans a436
  have a469 := (K445.2.2.1 (b + 10) (lt_N n442 (by decide))).trans a437
  have a470 := (K445.2.2.1 (b + 11) (lt_N n442 (by decide))).trans a416
  have a471 := (K445.2.2.1 b (lt_N0 n442 (by decide))).trans a438
  have k472 := keep_tr (b := b) k441 K445 (Or.inl rfl)
  have n473 : Y443.N = b + 12 := n446.trans n442
  refine g_aload_n C444 0 dX7_init_93 rfl ?_
  refine g_sipush C444 (v := (400 : Int32)) dX7_init_94 (by decide) ?_
  refine g_newA C444 hXa (id := b + 12) n473 .int .int rfl (List.mem_cons_of_mem _ mArr_I) Y443.cI 0 rfl (fun _ _ z => z) rfl (k := 400) (by decide) (by decide) (by decide) (by decide) (by decide) dX7_init_97 (fun Y474 x475 C476 K477 n478 a479 s480 => ?_)
  have f481 := isI_tr f449 K477 (nb_ (by decide))
  have f482 := isI_tr f450 K477 (nb_ (by decide))
  have f483 := isI_tr f451 K477 (nb_ (by decide))
  have f484 := isI_tr f452 K477 (nb_ (by decide))
  have f485 := isI_tr f453 K477 (nb_ (by decide))
  have f486 := isI_tr f454 K477 (nb_ (by decide))
  have f487 := isI_tr f455 K477 (nb_ (by decide))
  have f488 := isI_tr f456 K477 (nb_ (by decide))
  have f489 := isI_tr f457 K477 (nb_ (by decide))
  have f490 := isI_tr f458 K477 (nb_ (by decide))
  have f491 := isI_tr f459 K477 (nb_ (by decide))
  have a492 := (K477.2.2.1 (b + 1) (lt_N n473 (by decide))).trans a460
  have a493 := (K477.2.2.1 (b + 2) (lt_N n473 (by decide))).trans a461
  have a494 := (K477.2.2.1 (b + 3) (lt_N n473 (by decide))).trans a462
  have a495 := (K477.2.2.1 (b + 4) (lt_N n473 (by decide))).trans a463
  have a496 := (K477.2.2.1 (b + 5) (lt_N n473 (by decide))).trans a464
  have a497 := (K477.2.2.1 (b + 6) (lt_N n473 (by decide))).trans a465
  have a498 := (K477.2.2.1 (b + 7) (lt_N n473 (by decide))).trans a466
  have a499 := (K477.2.2.1 (b + 8) (lt_N n473 (by decide))).trans a467
  have a500 := (K477.2.2.1 (b + 9) (lt_N n473 (by decide))).trans a468
  have a501 := (K477.2.2.1 (b + 10) (lt_N n473 (by decide))).trans a469
  have a502 := (K477.2.2.1 (b + 11) (lt_N n473 (by decide))).trans a470
  have a503 := (K477.2.2.1 b (lt_N0 n473 (by decide))).trans a447
  have s504 := (K477.2.2.2 b (lt_N0 n473 (by decide)) (nb_l (by decide))).trans s448
  have f505 := isI_new s480 K477 n478
  have k506 := keep_tr (b := b) k472 K477 (Or.inr (ge_N hN (by decide)))
  have n507 : Y474.N = b + 13 := n478
  refine g_putR C476 hXi (i := b) (ty := (.array .int)) (ty0 := tyX7) (k := 24) (Nc := 56) (Cn := RX7) (T := TX7) (ci := 7) (lt_N0 n507 (by decide)) a503 s504 rfl rfl (fun w hw => List.mem_cons_of_mem _ (inX7 w hw)) tyX7_ok nmX7 (by decide) (List.mem_cons_of_mem _ mF_RX7_43) rfl rfl rfl rfl rfl rfl (by decide : 24 < 56) (rt (fun c => [.int (c.1 0), .ref x2, .int (c.1 2), .ref x25, .ref x52, .ref x83, .int (c.1 6), .int (c.1 7), .int (c.1 8), .ref x118, .int (c.1 10), .ref x157, .int (c.1 12), .ref x200, .ref x247, .ref x298, .int (c.1 16), .int (c.1 17), .int (c.1 18), .ref x353, .int (c.1 20), .int (c.1 21), .int (c.1 22), .ref x412, .ref x475, .null, .int (c.1 26), .int (c.1 27), .int (c.1 28), .int (c.1 29), .int (c.1 30), .int (c.1 31), .int (c.1 32), .null, .null, .null, .null, .int (c.1 37), .null, .int (c.1 39), .null, .int (c.1 41), .null, .int (c.1 43), .int (c.1 44), .int (c.1 45), .int (c.1 46), .int (c.1 47), .int (c.1 48), .null, .int (c.1 50), .int (c.1 51), .null, .null, .null, .int (c.1 55)]) 7) rfl dX7_init_99 (fun Y508 C509 K510 n511 a512 s513 => ?_)
  have f514 := isI_tr f481 K510 (nb_r (by decide))
  have f515 := isI_tr f482 K510 (nb_r (by decide))
  have f516 := isI_tr f483 K510 (nb_r (by decide))
  have f517 := isI_tr f484 K510 (nb_r (by decide))
  have f518 := isI_tr f485 K510 (nb_r (by decide))
  have f519 := isI_tr f486 K510 (nb_r (by decide))
  have f520 := isI_tr f487 K510 (nb_r (by decide))
  have f521 := isI_tr f488 K510 (nb_r (by decide))
  have f522 := isI_tr f489 K510 (nb_r (by decide))
  have f523 := isI_tr f490 K510 (nb_r (by decide))
  have f524 := isI_tr f491 K510 (nb_r (by decide))
  have f525 := isI_tr f505 K510 (nb_r (by decide))
  have a526 := (K510.2.2.1 (b + 1) (lt_N n507 (by decide))).trans a492
  have a527 := (K510.2.2.1 (b + 2) (lt_N n507 (by decide))).trans a493
  have a528 := (K510.2.2.1 (b + 3) (lt_N n507 (by decide))).trans a494
  have a529 := (K510.2.2.1 (b + 4) (lt_N n507 (by decide))).trans a495
  have a530 := (K510.2.2.1 (b + 5) (lt_N n507 (by decide))).trans a496
  have a531 := (K510.2.2.1 (b + 6) (lt_N n507 (by decide))).trans a497
  have a532 := (K510.2.2.1 (b + 7) (lt_N n507 (by decide))).trans a498
  have a533 := (K510.2.2.1 (b + 8) (lt_N n507 (by decide))).trans a499
  have a534 := (K510.2.2.1 (b + 9) (lt_N n507 (by decide))).trans a500
  have a535 := (K510.2.2.1 (b + 10) (lt_N n507 (by decide))).trans a501
  have a536 := (K510.2.2.1 (b + 11) (lt_N n507 (by decide))).trans a502
  have a537 := (K510.2.2.1 (b + 12) (lt_N n507 (by decide))).trans a479
  have a538 := (K510.2.2.1 b (lt_N0 n507 (by decide))).trans a503
  have k539 := keep_tr (b := b) k506 K510 (Or.inl rfl)
  have n540 : Y508.N = b + 13 := n511.trans n507
  refine g_aload_n C509 0 dX7_init_102 rfl ?_
  refine g_sipush C509 (v := (400 : Int32)) dX7_init_103 (by decide) ?_
  refine g_newA C509 hXa (id := b + 13) n540 .int .int rfl (List.mem_cons_of_mem _ mArr_I) Y508.cI 0 rfl (fun _ _ z => z) rfl (k := 400) (by decide) (by decide) (by decide) (by decide) (by decide) dX7_init_106 (fun Y541 x542 C543 K544 n545 a546 s547 => ?_)
  have f548 := isI_tr f514 K544 (nb_ (by decide))
  have f549 := isI_tr f515 K544 (nb_ (by decide))
  have f550 := isI_tr f516 K544 (nb_ (by decide))
  have f551 := isI_tr f517 K544 (nb_ (by decide))
  have f552 := isI_tr f518 K544 (nb_ (by decide))
  have f553 := isI_tr f519 K544 (nb_ (by decide))
  have f554 := isI_tr f520 K544 (nb_ (by decide))
  have f555 := isI_tr f521 K544 (nb_ (by decide))
  have f556 := isI_tr f522 K544 (nb_ (by decide))
  have f557 := isI_tr f523 K544 (nb_ (by decide))
  have f558 := isI_tr f524 K544 (nb_ (by decide))
  have f559 := isI_tr f525 K544 (nb_ (by decide))
  have a560 := (K544.2.2.1 (b + 1) (lt_N n540 (by decide))).trans a526
  have a561 := (K544.2.2.1 (b + 2) (lt_N n540 (by decide))).trans a527
  have a562 := (K544.2.2.1 (b + 3) (lt_N n540 (by decide))).trans a528
  have a563 := (K544.2.2.1 (b + 4) (lt_N n540 (by decide))).trans a529
  have a564 := (K544.2.2.1 (b + 5) (lt_N n540 (by decide))).trans a530
  have a565 := (K544.2.2.1 (b + 6) (lt_N n540 (by decide))).trans a531
  have a566 := (K544.2.2.1 (b + 7) (lt_N n540 (by decide))).trans a532
  have a567 := (K544.2.2.1 (b + 8) (lt_N n540 (by decide))).trans a533
  have a568 := (K544.2.2.1 (b + 9) (lt_N n540 (by decide))).trans a534
  have a569 := (K544.2.2.1 (b + 10) (lt_N n540 (by decide))).trans a535
  have a570 := (K544.2.2.1 (b + 11) (lt_N n540 (by decide))).trans a536
  have a571 := (K544.2.2.1 (b + 12) (lt_N n540 (by decide))).trans a537
  have a572 := (K544.2.2.1 b (lt_N0 n540 (by decide))).trans a512
  have s573 := (K544.2.2.2 b (lt_N0 n540 (by decide)) (nb_l (by decide))).trans s513
  have f574 := isI_new s547 K544 n545
  have k575 := keep_tr (b := b) k539 K544 (Or.inr (ge_N hN (by decide)))
  have n576 : Y541.N = b + 14 := n545
  refine g_putR C543 hXi (i := b) (ty := (.array .int)) (ty0 := tyX7) (k := 25) (Nc := 56) (Cn := RX7) (T := TX7) (ci := 7) (lt_N0 n576 (by decide)) a572 s573 rfl rfl (fun w hw => List.mem_cons_of_mem _ (inX7 w hw)) tyX7_ok nmX7 (by decide) (List.mem_cons_of_mem _ mF_RX7_46) rfl rfl rfl rfl rfl rfl (by decide : 25 < 56) (rt (fun c => [.int (c.1 0), .ref x2, .int (c.1 2), .ref x25, .ref x52, .ref x83, .int (c.1 6), .int (c.1 7), .int (c.1 8), .ref x118, .int (c.1 10), .ref x157, .int (c.1 12), .ref x200, .ref x247, .ref x298, .int (c.1 16), .int (c.1 17), .int (c.1 18), .ref x353, .int (c.1 20), .int (c.1 21), .int (c.1 22), .ref x412, .ref x475, .ref x542, .int (c.1 26), .int (c.1 27), .int (c.1 28), .int (c.1 29), .int (c.1 30), .int (c.1 31), .int (c.1 32), .null, .null, .null, .null, .int (c.1 37), .null, .int (c.1 39), .null, .int (c.1 41), .null, .int (c.1 43), .int (c.1 44), .int (c.1 45), .int (c.1 46), .int (c.1 47), .int (c.1 48), .null, .int (c.1 50), .int (c.1 51), .null, .null, .null, .int (c.1 55)]) 7) rfl dX7_init_108 (fun Y577 C578 K579 n580 a581 s582 => ?_)
  have f583 := isI_tr f548 K579 (nb_r (by decide))
  have f584 := isI_tr f549 K579 (nb_r (by decide))
  have f585 := isI_tr f550 K579 (nb_r (by decide))
  have f586 := isI_tr f551 K579 (nb_r (by decide))
  have f587 := isI_tr f552 K579 (nb_r (by decide))
  have f588 := isI_tr f553 K579 (nb_r (by decide))
  have f589 := isI_tr f554 K579 (nb_r (by decide))
  have f590 := isI_tr f555 K579 (nb_r (by decide))
  have f591 := isI_tr f556 K579 (nb_r (by decide))
  have f592 := isI_tr f557 K579 (nb_r (by decide))
  have f593 := isI_tr f558 K579 (nb_r (by decide))
  have f594 := isI_tr f559 K579 (nb_r (by decide))
  have f595 := isI_tr f574 K579 (nb_r (by decide))
  have a596 := (K579.2.2.1 (b + 1) (lt_N n576 (by decide))).trans a560
  have a597 := (K579.2.2.1 (b + 2) (lt_N n576 (by decide))).trans a561
  have a598 := (K579.2.2.1 (b + 3) (lt_N n576 (by decide))).trans a562
  have a599 := (K579.2.2.1 (b + 4) (lt_N n576 (by decide))).trans a563
  have a600 := (K579.2.2.1 (b + 5) (lt_N n576 (by decide))).trans a564
  have a601 := (K579.2.2.1 (b + 6) (lt_N n576 (by decide))).trans a565
  have a602 := (K579.2.2.1 (b + 7) (lt_N n576 (by decide))).trans a566
  have a603 := (K579.2.2.1 (b + 8) (lt_N n576 (by decide))).trans a567
  have a604 := (K579.2.2.1 (b + 9) (lt_N n576 (by decide))).trans a568
  have a605 := (K579.2.2.1 (b + 10) (lt_N n576 (by decide))).trans a569
  have a606 := (K579.2.2.1 (b + 11) (lt_N n576 (by decide))).trans a570
  have a607 := (K579.2.2.1 (b + 12) (lt_N n576 (by decide))).trans a571
  have a608 := (K579.2.2.1 (b + 13) (lt_N n576 (by decide))).trans a546
  have a609 := (K579.2.2.1 b (lt_N0 n576 (by decide))).trans a572
  have k610 := keep_tr (b := b) k575 K579 (Or.inl rfl)
  have n611 : Y577.N = b + 14 := n580.trans n576
  refine g_aload_n C578 0 dX7_init_111 rfl ?_
  refine g_sipush C578 (v := (400 : Int32)) dX7_init_112 (by decide) ?_
  refine g_newA C578 hXa (id := b + 14) n611 .int .int rfl (List.mem_cons_of_mem _ mArr_I) Y577.cI 0 rfl (fun _ _ z => z) rfl (k := 400) (by decide) (by decide) (by decide) (by decide) (by decide) dX7_init_115 (fun Y612 x613 C614 K615 n616 a617 s618 => ?_)
  have f619 := isI_tr f583 K615 (nb_ (by decide))
  have f620 := isI_tr f584 K615 (nb_ (by decide))
  have f621 := isI_tr f585 K615 (nb_ (by decide))
  have f622 := isI_tr f586 K615 (nb_ (by decide))
  have f623 := isI_tr f587 K615 (nb_ (by decide))
  have f624 := isI_tr f588 K615 (nb_ (by decide))
  have f625 := isI_tr f589 K615 (nb_ (by decide))
  have f626 := isI_tr f590 K615 (nb_ (by decide))
  have f627 := isI_tr f591 K615 (nb_ (by decide))
  have f628 := isI_tr f592 K615 (nb_ (by decide))
  have f629 := isI_tr f593 K615 (nb_ (by decide))
  have f630 := isI_tr f594 K615 (nb_ (by decide))
  have f631 := isI_tr f595 K615 (nb_ (by decide))
  have a632 := (K615.2.2.1 (b + 1) (lt_N n611 (by decide))).trans a596
  have a633 := (K615.2.2.1 (b + 2) (lt_N n611 (by decide))).trans a597
  have a634 := (K615.2.2.1 (b + 3) (lt_N n611 (by decide))).trans a598
  have a635 := (K615.2.2.1 (b + 4) (lt_N n611 (by decide))).trans a599
  have a636 := (K615.2.2.1 (b + 5) (lt_N n611 (by decide))).trans a600
  have a637 := (K615.2.2.1 (b + 6) (lt_N n611 (by decide))).trans a601
  have a638 := (K615.2.2.1 (b + 7) (lt_N n611 (by decide))).trans a602
  have a639 := (K615.2.2.1 (b + 8) (lt_N n611 (by decide))).trans a603
  have a640 := (K615.2.2.1 (b + 9) (lt_N n611 (by decide))).trans a604
  have a641 := (K615.2.2.1 (b + 10) (lt_N n611 (by decide))).trans a605
  have a642 := (K615.2.2.1 (b + 11) (lt_N n611 (by decide))).trans a606
  have a643 := (K615.2.2.1 (b + 12) (lt_N n611 (by decide))).trans a607
  have a644 := (K615.2.2.1 (b + 13) (lt_N n611 (by decide))).trans a608
  have a645 := (K615.2.2.1 b (lt_N0 n611 (by decide))).trans a581
  have s646 := (K615.2.2.2 b (lt_N0 n611 (by decide)) (nb_l (by decide))).trans s582
  have f647 := isI_new s618 K615 n616
  have k648 := keep_tr (b := b) k610 K615 (Or.inr (ge_N hN (by decide)))
  have n649 : Y612.N = b + 15 := n616
  refine g_putR C614 hXi (i := b) (ty := (.array .int)) (ty0 := tyX7) (k := 33) (Nc := 56) (Cn := RX7) (T := TX7) (ci := 7) (lt_N0 n649 (by decide)) a645 s646 rfl rfl (fun w hw => List.mem_cons_of_mem _ (inX7 w hw)) tyX7_ok nmX7 (by decide) (List.mem_cons_of_mem _ mF_RX7_49) rfl rfl rfl rfl rfl rfl (by decide : 33 < 56) (rt (fun c => [.int (c.1 0), .ref x2, .int (c.1 2), .ref x25, .ref x52, .ref x83, .int (c.1 6), .int (c.1 7), .int (c.1 8), .ref x118, .int (c.1 10), .ref x157, .int (c.1 12), .ref x200, .ref x247, .ref x298, .int (c.1 16), .int (c.1 17), .int (c.1 18), .ref x353, .int (c.1 20), .int (c.1 21), .int (c.1 22), .ref x412, .ref x475, .ref x542, .int (c.1 26), .int (c.1 27), .int (c.1 28), .int (c.1 29), .int (c.1 30), .int (c.1 31), .int (c.1 32), .ref x613, .null, .null, .null, .int (c.1 37), .null, .int (c.1 39), .null, .int (c.1 41), .null, .int (c.1 43), .int (c.1 44), .int (c.1 45), .int (c.1 46), .int (c.1 47), .int (c.1 48), .null, .int (c.1 50), .int (c.1 51), .null, .null, .null, .int (c.1 55)]) 7) rfl dX7_init_117 (fun Y650 C651 K652 n653 a654 s655 => ?_)
  have f656 := isI_tr f619 K652 (nb_r (by decide))
  have f657 := isI_tr f620 K652 (nb_r (by decide))
  have f658 := isI_tr f621 K652 (nb_r (by decide))
  have f659 := isI_tr f622 K652 (nb_r (by decide))
  have f660 := isI_tr f623 K652 (nb_r (by decide))
  have f661 := isI_tr f624 K652 (nb_r (by decide))
  have f662 := isI_tr f625 K652 (nb_r (by decide))
  have f663 := isI_tr f626 K652 (nb_r (by decide))
  have f664 := isI_tr f627 K652 (nb_r (by decide))
  have f665 := isI_tr f628 K652 (nb_r (by decide))
  have f666 := isI_tr f629 K652 (nb_r (by decide))
  have f667 := isI_tr f630 K652 (nb_r (by decide))
  have f668 := isI_tr f631 K652 (nb_r (by decide))
  have f669 := isI_tr f647 K652 (nb_r (by decide))
  have a670 := (K652.2.2.1 (b + 1) (lt_N n649 (by decide))).trans a632
  have a671 := (K652.2.2.1 (b + 2) (lt_N n649 (by decide))).trans a633
  have a672 := (K652.2.2.1 (b + 3) (lt_N n649 (by decide))).trans a634
  have a673 := (K652.2.2.1 (b + 4) (lt_N n649 (by decide))).trans a635
  have a674 := (K652.2.2.1 (b + 5) (lt_N n649 (by decide))).trans a636
  have a675 := (K652.2.2.1 (b + 6) (lt_N n649 (by decide))).trans a637
  have a676 := (K652.2.2.1 (b + 7) (lt_N n649 (by decide))).trans a638
  have a677 := (K652.2.2.1 (b + 8) (lt_N n649 (by decide))).trans a639
  have a678 := (K652.2.2.1 (b + 9) (lt_N n649 (by decide))).trans a640
  have a679 := (K652.2.2.1 (b + 10) (lt_N n649 (by decide))).trans a641
  have a680 := (K652.2.2.1 (b + 11) (lt_N n649 (by decide))).trans a642
  have a681 := (K652.2.2.1 (b + 12) (lt_N n649 (by decide))).trans a643
  have a682 := (K652.2.2.1 (b + 13) (lt_N n649 (by decide))).trans a644
  have a683 := (K652.2.2.1 (b + 14) (lt_N n649 (by decide))).trans a617
  have a684 := (K652.2.2.1 b (lt_N0 n649 (by decide))).trans a645
  have k685 := keep_tr (b := b) k648 K652 (Or.inl rfl)
  have n686 : Y650.N = b + 15 := n653.trans n649
  refine g_aload_n C651 0 dX7_init_120 rfl ?_
  refine g_iconst C651 (v := (2 : Int32)) dX7_init_121 (by decide) ?_
  refine g_newA C651 hXa (id := b + 15) n686 .boolean .boolean rfl (List.mem_cons_of_mem _ mArr_Z) Y650.cZ 2 rfl (fun _ _ z => z) rfl (k := 2) (by decide) (by decide) (by decide) (by decide) (by decide) dX7_init_122 (fun Y687 x688 C689 K690 n691 a692 s693 => ?_)
  have f694 := isI_tr f656 K690 (nb_ (by decide))
  have f695 := isI_tr f657 K690 (nb_ (by decide))
  have f696 := isI_tr f658 K690 (nb_ (by decide))
  have f697 := isI_tr f659 K690 (nb_ (by decide))
  have f698 := isI_tr f660 K690 (nb_ (by decide))
  have f699 := isI_tr f661 K690 (nb_ (by decide))
  have f700 := isI_tr f662 K690 (nb_ (by decide))
  have f701 := isI_tr f663 K690 (nb_ (by decide))
  have f702 := isI_tr f664 K690 (nb_ (by decide))
  have f703 := isI_tr f665 K690 (nb_ (by decide))
  have f704 := isI_tr f666 K690 (nb_ (by decide))
  have f705 := isI_tr f667 K690 (nb_ (by decide))
  have f706 := isI_tr f668 K690 (nb_ (by decide))
  have f707 := isI_tr f669 K690 (nb_ (by decide))
  have a708 := (K690.2.2.1 (b + 1) (lt_N n686 (by decide))).trans a670
  have a709 := (K690.2.2.1 (b + 2) (lt_N n686 (by decide))).trans a671
  have a710 := (K690.2.2.1 (b + 3) (lt_N n686 (by decide))).trans a672
  have a711 := (K690.2.2.1 (b + 4) (lt_N n686 (by decide))).trans a673
  have a712 := (K690.2.2.1 (b + 5) (lt_N n686 (by decide))).trans a674
  have a713 := (K690.2.2.1 (b + 6) (lt_N n686 (by decide))).trans a675
  have a714 := (K690.2.2.1 (b + 7) (lt_N n686 (by decide))).trans a676
  have a715 := (K690.2.2.1 (b + 8) (lt_N n686 (by decide))).trans a677
  have a716 := (K690.2.2.1 (b + 9) (lt_N n686 (by decide))).trans a678
  have a717 := (K690.2.2.1 (b + 10) (lt_N n686 (by decide))).trans a679
  have a718 := (K690.2.2.1 (b + 11) (lt_N n686 (by decide))).trans a680
  have a719 := (K690.2.2.1 (b + 12) (lt_N n686 (by decide))).trans a681
  have a720 := (K690.2.2.1 (b + 13) (lt_N n686 (by decide))).trans a682
  have a721 := (K690.2.2.1 (b + 14) (lt_N n686 (by decide))).trans a683
  have a722 := (K690.2.2.1 b (lt_N0 n686 (by decide))).trans a654
  have s723 := (K690.2.2.2 b (lt_N0 n686 (by decide)) (nb_l (by decide))).trans s655
  have f724 := isZ_new s693 K690 n691
  have k725 := keep_tr (b := b) k685 K690 (Or.inr (ge_N hN (by decide)))
  have n726 : Y687.N = b + 16 := n691
  refine g_putR C689 hXi (i := b) (ty := (.array .boolean)) (ty0 := tyX7) (k := 34) (Nc := 56) (Cn := RX7) (T := TX7) (ci := 7) (lt_N0 n726 (by decide)) a722 s723 rfl rfl (fun w hw => List.mem_cons_of_mem _ (inX7 w hw)) tyX7_ok nmX7 (by decide) (List.mem_cons_of_mem _ mF_RX7_52) rfl rfl rfl rfl rfl rfl (by decide : 34 < 56) (rt (fun c => [.int (c.1 0), .ref x2, .int (c.1 2), .ref x25, .ref x52, .ref x83, .int (c.1 6), .int (c.1 7), .int (c.1 8), .ref x118, .int (c.1 10), .ref x157, .int (c.1 12), .ref x200, .ref x247, .ref x298, .int (c.1 16), .int (c.1 17), .int (c.1 18), .ref x353, .int (c.1 20), .int (c.1 21), .int (c.1 22), .ref x412, .ref x475, .ref x542, .int (c.1 26), .int (c.1 27), .int (c.1 28), .int (c.1 29), .int (c.1 30), .int (c.1 31), .int (c.1 32), .ref x613, .ref x688, .null, .null, .int (c.1 37), .null, .int (c.1 39), .null, .int (c.1 41), .null, .int (c.1 43), .int (c.1 44), .int (c.1 45), .int (c.1 46), .int (c.1 47), .int (c.1 48), .null, .int (c.1 50), .int (c.1 51), .null, .null, .null, .int (c.1 55)]) 7) rfl dX7_init_124 (fun Y727 C728 K729 n730 a731 s732 => ?_)
  have f733 := isI_tr f694 K729 (nb_r (by decide))
  have f734 := isI_tr f695 K729 (nb_r (by decide))
  have f735 := isI_tr f696 K729 (nb_r (by decide))
  have f736 := isI_tr f697 K729 (nb_r (by decide))
  have f737 := isI_tr f698 K729 (nb_r (by decide))
  have f738 := isI_tr f699 K729 (nb_r (by decide))
  have f739 := isI_tr f700 K729 (nb_r (by decide))
  have f740 := isI_tr f701 K729 (nb_r (by decide))
  have f741 := isI_tr f702 K729 (nb_r (by decide))
  have f742 := isI_tr f703 K729 (nb_r (by decide))
  have f743 := isI_tr f704 K729 (nb_r (by decide))
  have f744 := isI_tr f705 K729 (nb_r (by decide))
  have f745 := isI_tr f706 K729 (nb_r (by decide))
  have f746 := isI_tr f707 K729 (nb_r (by decide))
  have f747 := isZ_tr f724 K729 (nb_r (by decide))
  have a748 := (K729.2.2.1 (b + 1) (lt_N n726 (by decide))).trans a708
  have a749 := (K729.2.2.1 (b + 2) (lt_N n726 (by decide))).trans a709
  have a750 := (K729.2.2.1 (b + 3) (lt_N n726 (by decide))).trans a710
  have a751 := (K729.2.2.1 (b + 4) (lt_N n726 (by decide))).trans a711
  have a752 := (K729.2.2.1 (b + 5) (lt_N n726 (by decide))).trans a712
  have a753 := (K729.2.2.1 (b + 6) (lt_N n726 (by decide))).trans a713
  have a754 := (K729.2.2.1 (b + 7) (lt_N n726 (by decide))).trans a714
  have a755 := (K729.2.2.1 (b + 8) (lt_N n726 (by decide))).trans a715
  have a756 := (K729.2.2.1 (b + 9) (lt_N n726 (by decide))).trans a716
  have a757 := (K729.2.2.1 (b + 10) (lt_N n726 (by decide))).trans a717
  have a758 := (K729.2.2.1 (b + 11) (lt_N n726 (by decide))).trans a718
  have a759 := (K729.2.2.1 (b + 12) (lt_N n726 (by decide))).trans a719
  have a760 := (K729.2.2.1 (b + 13) (lt_N n726 (by decide))).trans a720
  have a761 := (K729.2.2.1 (b + 14) (lt_N n726 (by decide))).trans a721
  have a762 := (K729.2.2.1 (b + 15) (lt_N n726 (by decide))).trans a692
  have a763 := (K729.2.2.1 b (lt_N0 n726 (by decide))).trans a722
  have k764 := keep_tr (b := b) k725 K729 (Or.inl rfl)
  have n765 : Y727.N = b + 16 := n730.trans n726
  refine g_aload_n C728 0 dX7_init_127 rfl ?_
  refine g_bipush C728 (v := (24 : Int32)) dX7_init_128 (by decide) ?_
  refine g_newA C728 hXa (id := b + 16) n765 .int .int rfl (List.mem_cons_of_mem _ mArr_I) Y727.cI 0 rfl (fun _ _ z => z) rfl (k := 24) (by decide) (by decide) (by decide) (by decide) (by decide) dX7_init_130 (fun Y766 x767 C768 K769 n770 a771 s772 => ?_)
  have f773 := isI_tr f733 K769 (nb_ (by decide))
  have f774 := isI_tr f734 K769 (nb_ (by decide))
  have f775 := isI_tr f735 K769 (nb_ (by decide))
  have f776 := isI_tr f736 K769 (nb_ (by decide))
  have f777 := isI_tr f737 K769 (nb_ (by decide))
  have f778 := isI_tr f738 K769 (nb_ (by decide))
  have f779 := isI_tr f739 K769 (nb_ (by decide))
  have f780 := isI_tr f740 K769 (nb_ (by decide))
  have f781 := isI_tr f741 K769 (nb_ (by decide))
  have f782 := isI_tr f742 K769 (nb_ (by decide))
  have f783 := isI_tr f743 K769 (nb_ (by decide))
  have f784 := isI_tr f744 K769 (nb_ (by decide))
  have f785 := isI_tr f745 K769 (nb_ (by decide))
  have f786 := isI_tr f746 K769 (nb_ (by decide))
  have f787 := isZ_tr f747 K769 (nb_ (by decide))
  have a788 := (K769.2.2.1 (b + 1) (lt_N n765 (by decide))).trans a748
  have a789 := (K769.2.2.1 (b + 2) (lt_N n765 (by decide))).trans a749
  have a790 := (K769.2.2.1 (b + 3) (lt_N n765 (by decide))).trans a750
  have a791 := (K769.2.2.1 (b + 4) (lt_N n765 (by decide))).trans a751
  have a792 := (K769.2.2.1 (b + 5) (lt_N n765 (by decide))).trans a752
  have a793 := (K769.2.2.1 (b + 6) (lt_N n765 (by decide))).trans a753
  have a794 := (K769.2.2.1 (b + 7) (lt_N n765 (by decide))).trans a754
  have a795 := (K769.2.2.1 (b + 8) (lt_N n765 (by decide))).trans a755
  have a796 := (K769.2.2.1 (b + 9) (lt_N n765 (by decide))).trans a756
  have a797 := (K769.2.2.1 (b + 10) (lt_N n765 (by decide))).trans a757
  have a798 := (K769.2.2.1 (b + 11) (lt_N n765 (by decide))).trans a758
  have a799 := (K769.2.2.1 (b + 12) (lt_N n765 (by decide))).trans a759
  have a800 := (K769.2.2.1 (b + 13) (lt_N n765 (by decide))).trans a760
  have a801 := (K769.2.2.1 (b + 14) (lt_N n765 (by decide))).trans a761
  have a802 := (K769.2.2.1 (b + 15) (lt_N n765 (by decide))).trans a762
  have a803 := (K769.2.2.1 b (lt_N0 n765 (by decide))).trans a731
  have s804 := (K769.2.2.2 b (lt_N0 n765 (by decide)) (nb_l (by decide))).trans s732
  have f805 := isI_new s772 K769 n770
  have k806 := keep_tr (b := b) k764 K769 (Or.inr (ge_N hN (by decide)))
  have n807 : Y766.N = b + 17 := n770
  refine g_putR C768 hXi (i := b) (ty := (.array .int)) (ty0 := tyX7) (k := 35) (Nc := 56) (Cn := RX7) (T := TX7) (ci := 7) (lt_N0 n807 (by decide)) a803 s804 rfl rfl (fun w hw => List.mem_cons_of_mem _ (inX7 w hw)) tyX7_ok nmX7 (by decide) (List.mem_cons_of_mem _ mF_RX7_56) rfl rfl rfl rfl rfl rfl (by decide : 35 < 56) (rt (fun c => [.int (c.1 0), .ref x2, .int (c.1 2), .ref x25, .ref x52, .ref x83, .int (c.1 6), .int (c.1 7), .int (c.1 8), .ref x118, .int (c.1 10), .ref x157, .int (c.1 12), .ref x200, .ref x247, .ref x298, .int (c.1 16), .int (c.1 17), .int (c.1 18), .ref x353, .int (c.1 20), .int (c.1 21), .int (c.1 22), .ref x412, .ref x475, .ref x542, .int (c.1 26), .int (c.1 27), .int (c.1 28), .int (c.1 29), .int (c.1 30), .int (c.1 31), .int (c.1 32), .ref x613, .ref x688, .ref x767, .null, .int (c.1 37), .null, .int (c.1 39), .null, .int (c.1 41), .null, .int (c.1 43), .int (c.1 44), .int (c.1 45), .int (c.1 46), .int (c.1 47), .int (c.1 48), .null, .int (c.1 50), .int (c.1 51), .null, .null, .null, .int (c.1 55)]) 7) rfl dX7_init_132 (fun Y808 C809 K810 n811 a812 s813 => ?_)
  have f814 := isI_tr f773 K810 (nb_r (by decide))
  have f815 := isI_tr f774 K810 (nb_r (by decide))
  have f816 := isI_tr f775 K810 (nb_r (by decide))
  have f817 := isI_tr f776 K810 (nb_r (by decide))
  have f818 := isI_tr f777 K810 (nb_r (by decide))
  have f819 := isI_tr f778 K810 (nb_r (by decide))
  have f820 := isI_tr f779 K810 (nb_r (by decide))
  have f821 := isI_tr f780 K810 (nb_r (by decide))
  have f822 := isI_tr f781 K810 (nb_r (by decide))
  have f823 := isI_tr f782 K810 (nb_r (by decide))
  have f824 := isI_tr f783 K810 (nb_r (by decide))
  have f825 := isI_tr f784 K810 (nb_r (by decide))
  have f826 := isI_tr f785 K810 (nb_r (by decide))
  have f827 := isI_tr f786 K810 (nb_r (by decide))
  have f828 := isZ_tr f787 K810 (nb_r (by decide))
  have f829 := isI_tr f805 K810 (nb_r (by decide))
  have a830 := (K810.2.2.1 (b + 1) (lt_N n807 (by decide))).trans a788
  have a831 := (K810.2.2.1 (b + 2) (lt_N n807 (by decide))).trans a789
  have a832 := (K810.2.2.1 (b + 3) (lt_N n807 (by decide))).trans a790
  have a833 := (K810.2.2.1 (b + 4) (lt_N n807 (by decide))).trans a791
  have a834 := (K810.2.2.1 (b + 5) (lt_N n807 (by decide))).trans a792
  have a835 := (K810.2.2.1 (b + 6) (lt_N n807 (by decide))).trans a793
  have a836 := (K810.2.2.1 (b + 7) (lt_N n807 (by decide))).trans a794
  have a837 := (K810.2.2.1 (b + 8) (lt_N n807 (by decide))).trans a795
  have a838 := (K810.2.2.1 (b + 9) (lt_N n807 (by decide))).trans a796
  have a839 := (K810.2.2.1 (b + 10) (lt_N n807 (by decide))).trans a797
  have a840 := (K810.2.2.1 (b + 11) (lt_N n807 (by decide))).trans a798
  have a841 := (K810.2.2.1 (b + 12) (lt_N n807 (by decide))).trans a799
  have a842 := (K810.2.2.1 (b + 13) (lt_N n807 (by decide))).trans a800
  have a843 := (K810.2.2.1 (b + 14) (lt_N n807 (by decide))).trans a801
  have a844 := (K810.2.2.1 (b + 15) (lt_N n807 (by decide))).trans a802
  have a845 := (K810.2.2.1 (b + 16) (lt_N n807 (by decide))).trans a771
  have a846 := (K810.2.2.1 b (lt_N0 n807 (by decide))).trans a803
  have k847 := keep_tr (b := b) k806 K810 (Or.inl rfl)
  have n848 : Y808.N = b + 17 := n811.trans n807
  refine g_aload_n C809 0 dX7_init_135 rfl ?_
  refine g_bipush C809 (v := (6 : Int32)) dX7_init_136 (by decide) ?_
  refine g_newA C809 hXa (id := b + 17) n848 .int .int rfl (List.mem_cons_of_mem _ mArr_I) Y808.cI 0 rfl (fun _ _ z => z) rfl (k := 6) (by decide) (by decide) (by decide) (by decide) (by decide) dX7_init_138 (fun Y849 x850 C851 K852 n853 a854 s855 => ?_)
  have f856 := isI_tr f814 K852 (nb_ (by decide))
  have f857 := isI_tr f815 K852 (nb_ (by decide))
  have f858 := isI_tr f816 K852 (nb_ (by decide))
  have f859 := isI_tr f817 K852 (nb_ (by decide))
  have f860 := isI_tr f818 K852 (nb_ (by decide))
  have f861 := isI_tr f819 K852 (nb_ (by decide))
  have f862 := isI_tr f820 K852 (nb_ (by decide))
  have f863 := isI_tr f821 K852 (nb_ (by decide))
  have f864 := isI_tr f822 K852 (nb_ (by decide))
  have f865 := isI_tr f823 K852 (nb_ (by decide))
  have f866 := isI_tr f824 K852 (nb_ (by decide))
  have f867 := isI_tr f825 K852 (nb_ (by decide))
  have f868 := isI_tr f826 K852 (nb_ (by decide))
  have f869 := isI_tr f827 K852 (nb_ (by decide))
  have f870 := isZ_tr f828 K852 (nb_ (by decide))
  have f871 := isI_tr f829 K852 (nb_ (by decide))
  have a872 := (K852.2.2.1 (b + 1) (lt_N n848 (by decide))).trans a830
  have a873 := (K852.2.2.1 (b + 2) (lt_N n848 (by decide))).trans a831
  have a874 := (K852.2.2.1 (b + 3) (lt_N n848 (by decide))).trans a832
  have a875 := (K852.2.2.1 (b + 4) (lt_N n848 (by decide))).trans a833
  have a876 := (K852.2.2.1 (b + 5) (lt_N n848 (by decide))).trans a834
  have a877 := (K852.2.2.1 (b + 6) (lt_N n848 (by decide))).trans a835
  have a878 := (K852.2.2.1 (b + 7) (lt_N n848 (by decide))).trans a836
  have a879 := (K852.2.2.1 (b + 8) (lt_N n848 (by decide))).trans a837
  have a880 := (K852.2.2.1 (b + 9) (lt_N n848 (by decide))).trans a838
  have a881 := (K852.2.2.1 (b + 10) (lt_N n848 (by decide))).trans a839
  have a882 := (K852.2.2.1 (b + 11) (lt_N n848 (by decide))).trans a840
  have a883 := (K852.2.2.1 (b + 12) (lt_N n848 (by decide))).trans a841
  have a884 := (K852.2.2.1 (b + 13) (lt_N n848 (by decide))).trans a842
  have a885 := (K852.2.2.1 (b + 14) (lt_N n848 (by decide))).trans a843
  have a886 := (K852.2.2.1 (b + 15) (lt_N n848 (by decide))).trans a844
  have a887 := (K852.2.2.1 (b + 16) (lt_N n848 (by decide))).trans a845
  have a888 := (K852.2.2.1 b (lt_N0 n848 (by decide))).trans a812
  have s889 := (K852.2.2.2 b (lt_N0 n848 (by decide)) (nb_l (by decide))).trans s813
  have f890 := isI_new s855 K852 n853
  have k891 := keep_tr (b := b) k847 K852 (Or.inr (ge_N hN (by decide)))
  have n892 : Y849.N = b + 18 := n853
  refine g_putR C851 hXi (i := b) (ty := (.array .int)) (ty0 := tyX7) (k := 36) (Nc := 56) (Cn := RX7) (T := TX7) (ci := 7) (lt_N0 n892 (by decide)) a888 s889 rfl rfl (fun w hw => List.mem_cons_of_mem _ (inX7 w hw)) tyX7_ok nmX7 (by decide) (List.mem_cons_of_mem _ mF_RX7_59) rfl rfl rfl rfl rfl rfl (by decide : 36 < 56) (rt (fun c => [.int (c.1 0), .ref x2, .int (c.1 2), .ref x25, .ref x52, .ref x83, .int (c.1 6), .int (c.1 7), .int (c.1 8), .ref x118, .int (c.1 10), .ref x157, .int (c.1 12), .ref x200, .ref x247, .ref x298, .int (c.1 16), .int (c.1 17), .int (c.1 18), .ref x353, .int (c.1 20), .int (c.1 21), .int (c.1 22), .ref x412, .ref x475, .ref x542, .int (c.1 26), .int (c.1 27), .int (c.1 28), .int (c.1 29), .int (c.1 30), .int (c.1 31), .int (c.1 32), .ref x613, .ref x688, .ref x767, .ref x850, .int (c.1 37), .null, .int (c.1 39), .null, .int (c.1 41), .null, .int (c.1 43), .int (c.1 44), .int (c.1 45), .int (c.1 46), .int (c.1 47), .int (c.1 48), .null, .int (c.1 50), .int (c.1 51), .null, .null, .null, .int (c.1 55)]) 7) rfl dX7_init_140 (fun Y893 C894 K895 n896 a897 s898 => ?_)
  have f899 := isI_tr f856 K895 (nb_r (by decide))
  have f900 := isI_tr f857 K895 (nb_r (by decide))
  have f901 := isI_tr f858 K895 (nb_r (by decide))
  have f902 := isI_tr f859 K895 (nb_r (by decide))
  have f903 := isI_tr f860 K895 (nb_r (by decide))
  have f904 := isI_tr f861 K895 (nb_r (by decide))
  have f905 := isI_tr f862 K895 (nb_r (by decide))
  have f906 := isI_tr f863 K895 (nb_r (by decide))
  have f907 := isI_tr f864 K895 (nb_r (by decide))
  have f908 := isI_tr f865 K895 (nb_r (by decide))
  have f909 := isI_tr f866 K895 (nb_r (by decide))
  have f910 := isI_tr f867 K895 (nb_r (by decide))
  have f911 := isI_tr f868 K895 (nb_r (by decide))
  have f912 := isI_tr f869 K895 (nb_r (by decide))
  have f913 := isZ_tr f870 K895 (nb_r (by decide))
  have f914 := isI_tr f871 K895 (nb_r (by decide))
  have f915 := isI_tr f890 K895 (nb_r (by decide))
  have a916 := (K895.2.2.1 (b + 1) (lt_N n892 (by decide))).trans a872
  have a917 := (K895.2.2.1 (b + 2) (lt_N n892 (by decide))).trans a873
  have a918 := (K895.2.2.1 (b + 3) (lt_N n892 (by decide))).trans a874
  have a919 := (K895.2.2.1 (b + 4) (lt_N n892 (by decide))).trans a875
  have a920 := (K895.2.2.1 (b + 5) (lt_N n892 (by decide))).trans a876
  have a921 := (K895.2.2.1 (b + 6) (lt_N n892 (by decide))).trans a877
  have a922 := (K895.2.2.1 (b + 7) (lt_N n892 (by decide))).trans a878
  have a923 := (K895.2.2.1 (b + 8) (lt_N n892 (by decide))).trans a879
  have a924 := (K895.2.2.1 (b + 9) (lt_N n892 (by decide))).trans a880
  have a925 := (K895.2.2.1 (b + 10) (lt_N n892 (by decide))).trans a881
  have a926 := (K895.2.2.1 (b + 11) (lt_N n892 (by decide))).trans a882
  have a927 := (K895.2.2.1 (b + 12) (lt_N n892 (by decide))).trans a883
  have a928 := (K895.2.2.1 (b + 13) (lt_N n892 (by decide))).trans a884
  have a929 := (K895.2.2.1 (b + 14) (lt_N n892 (by decide))).trans a885
  have a930 := (K895.2.2.1 (b + 15) (lt_N n892 (by decide))).trans a886
  have a931 := (K895.2.2.1 (b + 16) (lt_N n892 (by decide))).trans a887
  have a932 := (K895.2.2.1 (b + 17) (lt_N n892 (by decide))).trans a854
  have a933 := (K895.2.2.1 b (lt_N0 n892 (by decide))).trans a888
  have k934 := keep_tr (b := b) k891 K895 (Or.inl rfl)
  have n935 : Y893.N = b + 18 := n896.trans n892
  refine g_aload_n C894 0 dX7_init_143 rfl ?_
  refine g_bipush C894 (v := (7 : Int32)) dX7_init_144 (by decide) ?_
  refine g_newA C894 hXa (id := b + 18) n935 .int .int rfl (List.mem_cons_of_mem _ mArr_I) Y893.cI 0 rfl (fun _ _ z => z) rfl (k := 7) (by decide) (by decide) (by decide) (by decide) (by decide) dX7_init_146 (fun Y936 x937 C938 K939 n940 a941 s942 => ?_)
  have f943 := isI_tr f899 K939 (nb_ (by decide))
  have f944 := isI_tr f900 K939 (nb_ (by decide))
  have f945 := isI_tr f901 K939 (nb_ (by decide))
  have f946 := isI_tr f902 K939 (nb_ (by decide))
  have f947 := isI_tr f903 K939 (nb_ (by decide))
  have f948 := isI_tr f904 K939 (nb_ (by decide))
  have f949 := isI_tr f905 K939 (nb_ (by decide))
  have f950 := isI_tr f906 K939 (nb_ (by decide))
  have f951 := isI_tr f907 K939 (nb_ (by decide))
  have f952 := isI_tr f908 K939 (nb_ (by decide))
  have f953 := isI_tr f909 K939 (nb_ (by decide))
  have f954 := isI_tr f910 K939 (nb_ (by decide))
  have f955 := isI_tr f911 K939 (nb_ (by decide))
  have f956 := isI_tr f912 K939 (nb_ (by decide))
  have f957 := isZ_tr f913 K939 (nb_ (by decide))
  have f958 := isI_tr f914 K939 (nb_ (by decide))
  have f959 := isI_tr f915 K939 (nb_ (by decide))
  have a960 := (K939.2.2.1 (b + 1) (lt_N n935 (by decide))).trans a916
  have a961 := (K939.2.2.1 (b + 2) (lt_N n935 (by decide))).trans a917
  have a962 := (K939.2.2.1 (b + 3) (lt_N n935 (by decide))).trans a918
  have a963 := (K939.2.2.1 (b + 4) (lt_N n935 (by decide))).trans a919
  have a964 := (K939.2.2.1 (b + 5) (lt_N n935 (by decide))).trans a920
  have a965 := (K939.2.2.1 (b + 6) (lt_N n935 (by decide))).trans a921
  have a966 := (K939.2.2.1 (b + 7) (lt_N n935 (by decide))).trans a922
  have a967 := (K939.2.2.1 (b + 8) (lt_N n935 (by decide))).trans a923
  have a968 := (K939.2.2.1 (b + 9) (lt_N n935 (by decide))).trans a924
  have a969 := (K939.2.2.1 (b + 10) (lt_N n935 (by decide))).trans a925
  have a970 := (K939.2.2.1 (b + 11) (lt_N n935 (by decide))).trans a926
  have a971 := (K939.2.2.1 (b + 12) (lt_N n935 (by decide))).trans a927
  have a972 := (K939.2.2.1 (b + 13) (lt_N n935 (by decide))).trans a928
  have a973 := (K939.2.2.1 (b + 14) (lt_N n935 (by decide))).trans a929
  have a974 := (K939.2.2.1 (b + 15) (lt_N n935 (by decide))).trans a930
  have a975 := (K939.2.2.1 (b + 16) (lt_N n935 (by decide))).trans a931
  have a976 := (K939.2.2.1 (b + 17) (lt_N n935 (by decide))).trans a932
  have a977 := (K939.2.2.1 b (lt_N0 n935 (by decide))).trans a897
  have s978 := (K939.2.2.2 b (lt_N0 n935 (by decide)) (nb_l (by decide))).trans s898
  have f979 := isI_new s942 K939 n940
  have k980 := keep_tr (b := b) k934 K939 (Or.inr (ge_N hN (by decide)))
  have n981 : Y936.N = b + 19 := n940
  refine g_putR C938 hXi (i := b) (ty := (.array .int)) (ty0 := tyX7) (k := 38) (Nc := 56) (Cn := RX7) (T := TX7) (ci := 7) (lt_N0 n981 (by decide)) a977 s978 rfl rfl (fun w hw => List.mem_cons_of_mem _ (inX7 w hw)) tyX7_ok nmX7 (by decide) (List.mem_cons_of_mem _ mF_RX7_62) rfl rfl rfl rfl rfl rfl (by decide : 38 < 56) (rt (fun c => [.int (c.1 0), .ref x2, .int (c.1 2), .ref x25, .ref x52, .ref x83, .int (c.1 6), .int (c.1 7), .int (c.1 8), .ref x118, .int (c.1 10), .ref x157, .int (c.1 12), .ref x200, .ref x247, .ref x298, .int (c.1 16), .int (c.1 17), .int (c.1 18), .ref x353, .int (c.1 20), .int (c.1 21), .int (c.1 22), .ref x412, .ref x475, .ref x542, .int (c.1 26), .int (c.1 27), .int (c.1 28), .int (c.1 29), .int (c.1 30), .int (c.1 31), .int (c.1 32), .ref x613, .ref x688, .ref x767, .ref x850, .int (c.1 37), .ref x937, .int (c.1 39), .null, .int (c.1 41), .null, .int (c.1 43), .int (c.1 44), .int (c.1 45), .int (c.1 46), .int (c.1 47), .int (c.1 48), .null, .int (c.1 50), .int (c.1 51), .null, .null, .null, .int (c.1 55)]) 7) rfl dX7_init_148 (fun Y982 C983 K984 n985 a986 s987 => ?_)
  have f988 := isI_tr f943 K984 (nb_r (by decide))
  have f989 := isI_tr f944 K984 (nb_r (by decide))
  have f990 := isI_tr f945 K984 (nb_r (by decide))
  have f991 := isI_tr f946 K984 (nb_r (by decide))
  have f992 := isI_tr f947 K984 (nb_r (by decide))
  have f993 := isI_tr f948 K984 (nb_r (by decide))
  have f994 := isI_tr f949 K984 (nb_r (by decide))
  have f995 := isI_tr f950 K984 (nb_r (by decide))
  have f996 := isI_tr f951 K984 (nb_r (by decide))
  have f997 := isI_tr f952 K984 (nb_r (by decide))
  have f998 := isI_tr f953 K984 (nb_r (by decide))
  have f999 := isI_tr f954 K984 (nb_r (by decide))
  have f1000 := isI_tr f955 K984 (nb_r (by decide))
  have f1001 := isI_tr f956 K984 (nb_r (by decide))
  have f1002 := isZ_tr f957 K984 (nb_r (by decide))
  have f1003 := isI_tr f958 K984 (nb_r (by decide))
  have f1004 := isI_tr f959 K984 (nb_r (by decide))
  have f1005 := isI_tr f979 K984 (nb_r (by decide))
  have a1006 := (K984.2.2.1 (b + 1) (lt_N n981 (by decide))).trans a960
  have a1007 := (K984.2.2.1 (b + 2) (lt_N n981 (by decide))).trans a961
  have a1008 := (K984.2.2.1 (b + 3) (lt_N n981 (by decide))).trans a962
  have a1009 := (K984.2.2.1 (b + 4) (lt_N n981 (by decide))).trans a963
  have a1010 := (K984.2.2.1 (b + 5) (lt_N n981 (by decide))).trans a964
  have a1011 := (K984.2.2.1 (b + 6) (lt_N n981 (by decide))).trans a965
  have a1012 := (K984.2.2.1 (b + 7) (lt_N n981 (by decide))).trans a966
  have a1013 := (K984.2.2.1 (b + 8) (lt_N n981 (by decide))).trans a967
  have a1014 := (K984.2.2.1 (b + 9) (lt_N n981 (by decide))).trans a968
  have a1015 := (K984.2.2.1 (b + 10) (lt_N n981 (by decide))).trans a969
  have a1016 := (K984.2.2.1 (b + 11) (lt_N n981 (by decide))).trans a970
  have a1017 := (K984.2.2.1 (b + 12) (lt_N n981 (by decide))).trans a971
  have a1018 := (K984.2.2.1 (b + 13) (lt_N n981 (by decide))).trans a972
  have a1019 := (K984.2.2.1 (b + 14) (lt_N n981 (by decide))).trans a973
  have a1020 := (K984.2.2.1 (b + 15) (lt_N n981 (by decide))).trans a974
  have a1021 := (K984.2.2.1 (b + 16) (lt_N n981 (by decide))).trans a975
  have a1022 := (K984.2.2.1 (b + 17) (lt_N n981 (by decide))).trans a976
  have a1023 := (K984.2.2.1 (b + 18) (lt_N n981 (by decide))).trans a941
  have a1024 := (K984.2.2.1 b (lt_N0 n981 (by decide))).trans a977
  have k1025 := keep_tr (b := b) k980 K984 (Or.inl rfl)
  have n1026 : Y982.N = b + 19 := n985.trans n981
  refine g_aload_n C983 0 dX7_init_151 rfl ?_
  refine g_bipush C983 (v := (7 : Int32)) dX7_init_152 (by decide) ?_
  refine g_newA C983 hXa (id := b + 19) n1026 .int .int rfl (List.mem_cons_of_mem _ mArr_I) Y982.cI 0 rfl (fun _ _ z => z) rfl (k := 7) (by decide) (by decide) (by decide) (by decide) (by decide) dX7_init_154 (fun Y1027 x1028 C1029 K1030 n1031 a1032 s1033 => ?_)
  have f1034 := isI_tr f988 K1030 (nb_ (by decide))
  have f1035 := isI_tr f989 K1030 (nb_ (by decide))
  have f1036 := isI_tr f990 K1030 (nb_ (by decide))
  have f1037 := isI_tr f991 K1030 (nb_ (by decide))
  have f1038 := isI_tr f992 K1030 (nb_ (by decide))
  have f1039 := isI_tr f993 K1030 (nb_ (by decide))
  have f1040 := isI_tr f994 K1030 (nb_ (by decide))
  have f1041 := isI_tr f995 K1030 (nb_ (by decide))
  have f1042 := isI_tr f996 K1030 (nb_ (by decide))
  have f1043 := isI_tr f997 K1030 (nb_ (by decide))
  have f1044 := isI_tr f998 K1030 (nb_ (by decide))
  have f1045 := isI_tr f999 K1030 (nb_ (by decide))
  have f1046 := isI_tr f1000 K1030 (nb_ (by decide))
  have f1047 := isI_tr f1001 K1030 (nb_ (by decide))
  have f1048 := isZ_tr f1002 K1030 (nb_ (by decide))
  have f1049 := isI_tr f1003 K1030 (nb_ (by decide))
  have f1050 := isI_tr f1004 K1030 (nb_ (by decide))
  have f1051 := isI_tr f1005 K1030 (nb_ (by decide))
  have a1052 := (K1030.2.2.1 (b + 1) (lt_N n1026 (by decide))).trans a1006
  have a1053 := (K1030.2.2.1 (b + 2) (lt_N n1026 (by decide))).trans a1007
  have a1054 := (K1030.2.2.1 (b + 3) (lt_N n1026 (by decide))).trans a1008
  have a1055 := (K1030.2.2.1 (b + 4) (lt_N n1026 (by decide))).trans a1009
  have a1056 := (K1030.2.2.1 (b + 5) (lt_N n1026 (by decide))).trans a1010
  have a1057 := (K1030.2.2.1 (b + 6) (lt_N n1026 (by decide))).trans a1011
  have a1058 := (K1030.2.2.1 (b + 7) (lt_N n1026 (by decide))).trans a1012
  have a1059 := (K1030.2.2.1 (b + 8) (lt_N n1026 (by decide))).trans a1013
  have a1060 := (K1030.2.2.1 (b + 9) (lt_N n1026 (by decide))).trans a1014
  have a1061 := (K1030.2.2.1 (b + 10) (lt_N n1026 (by decide))).trans a1015
  have a1062 := (K1030.2.2.1 (b + 11) (lt_N n1026 (by decide))).trans a1016
  have a1063 := (K1030.2.2.1 (b + 12) (lt_N n1026 (by decide))).trans a1017
  have a1064 := (K1030.2.2.1 (b + 13) (lt_N n1026 (by decide))).trans a1018
  have a1065 := (K1030.2.2.1 (b + 14) (lt_N n1026 (by decide))).trans a1019
  have a1066 := (K1030.2.2.1 (b + 15) (lt_N n1026 (by decide))).trans a1020
  have a1067 := (K1030.2.2.1 (b + 16) (lt_N n1026 (by decide))).trans a1021
  have a1068 := (K1030.2.2.1 (b + 17) (lt_N n1026 (by decide))).trans a1022
  have a1069 := (K1030.2.2.1 (b + 18) (lt_N n1026 (by decide))).trans a1023
  have a1070 := (K1030.2.2.1 b (lt_N0 n1026 (by decide))).trans a986
  have s1071 := (K1030.2.2.2 b (lt_N0 n1026 (by decide)) (nb_l (by decide))).trans s987
  have f1072 := isI_new s1033 K1030 n1031
  have k1073 := keep_tr (b := b) k1025 K1030 (Or.inr (ge_N hN (by decide)))
  have n1074 : Y1027.N = b + 20 := n1031
  refine g_putR C1029 hXi (i := b) (ty := (.array .int)) (ty0 := tyX7) (k := 40) (Nc := 56) (Cn := RX7) (T := TX7) (ci := 7) (lt_N0 n1074 (by decide)) a1070 s1071 rfl rfl (fun w hw => List.mem_cons_of_mem _ (inX7 w hw)) tyX7_ok nmX7 (by decide) (List.mem_cons_of_mem _ mF_RX7_65) rfl rfl rfl rfl rfl rfl (by decide : 40 < 56) (rt (fun c => [.int (c.1 0), .ref x2, .int (c.1 2), .ref x25, .ref x52, .ref x83, .int (c.1 6), .int (c.1 7), .int (c.1 8), .ref x118, .int (c.1 10), .ref x157, .int (c.1 12), .ref x200, .ref x247, .ref x298, .int (c.1 16), .int (c.1 17), .int (c.1 18), .ref x353, .int (c.1 20), .int (c.1 21), .int (c.1 22), .ref x412, .ref x475, .ref x542, .int (c.1 26), .int (c.1 27), .int (c.1 28), .int (c.1 29), .int (c.1 30), .int (c.1 31), .int (c.1 32), .ref x613, .ref x688, .ref x767, .ref x850, .int (c.1 37), .ref x937, .int (c.1 39), .ref x1028, .int (c.1 41), .null, .int (c.1 43), .int (c.1 44), .int (c.1 45), .int (c.1 46), .int (c.1 47), .int (c.1 48), .null, .int (c.1 50), .int (c.1 51), .null, .null, .null, .int (c.1 55)]) 7) rfl dX7_init_156 (fun Y1075 C1076 K1077 n1078 a1079 s1080 => ?_)
  have f1081 := isI_tr f1034 K1077 (nb_r (by decide))
  have f1082 := isI_tr f1035 K1077 (nb_r (by decide))
  have f1083 := isI_tr f1036 K1077 (nb_r (by decide))
  have f1084 := isI_tr f1037 K1077 (nb_r (by decide))
  have f1085 := isI_tr f1038 K1077 (nb_r (by decide))
  have f1086 := isI_tr f1039 K1077 (nb_r (by decide))
  have f1087 := isI_tr f1040 K1077 (nb_r (by decide))
  have f1088 := isI_tr f1041 K1077 (nb_r (by decide))
  have f1089 := isI_tr f1042 K1077 (nb_r (by decide))
  have f1090 := isI_tr f1043 K1077 (nb_r (by decide))
  have f1091 := isI_tr f1044 K1077 (nb_r (by decide))
  have f1092 := isI_tr f1045 K1077 (nb_r (by decide))
  have f1093 := isI_tr f1046 K1077 (nb_r (by decide))
  have f1094 := isI_tr f1047 K1077 (nb_r (by decide))
  have f1095 := isZ_tr f1048 K1077 (nb_r (by decide))
  have f1096 := isI_tr f1049 K1077 (nb_r (by decide))
  have f1097 := isI_tr f1050 K1077 (nb_r (by decide))
  have f1098 := isI_tr f1051 K1077 (nb_r (by decide))
  have f1099 := isI_tr f1072 K1077 (nb_r (by decide))
  have a1100 := (K1077.2.2.1 (b + 1) (lt_N n1074 (by decide))).trans a1052
  have a1101 := (K1077.2.2.1 (b + 2) (lt_N n1074 (by decide))).trans a1053
  have a1102 := (K1077.2.2.1 (b + 3) (lt_N n1074 (by decide))).trans a1054
  have a1103 := (K1077.2.2.1 (b + 4) (lt_N n1074 (by decide))).trans a1055
  have a1104 := (K1077.2.2.1 (b + 5) (lt_N n1074 (by decide))).trans a1056
  have a1105 := (K1077.2.2.1 (b + 6) (lt_N n1074 (by decide))).trans a1057
  have a1106 := (K1077.2.2.1 (b + 7) (lt_N n1074 (by decide))).trans a1058
  have a1107 := (K1077.2.2.1 (b + 8) (lt_N n1074 (by decide))).trans a1059
  have a1108 := (K1077.2.2.1 (b + 9) (lt_N n1074 (by decide))).trans a1060
  have a1109 := (K1077.2.2.1 (b + 10) (lt_N n1074 (by decide))).trans a1061
  have a1110 := (K1077.2.2.1 (b + 11) (lt_N n1074 (by decide))).trans a1062
  have a1111 := (K1077.2.2.1 (b + 12) (lt_N n1074 (by decide))).trans a1063
  have a1112 := (K1077.2.2.1 (b + 13) (lt_N n1074 (by decide))).trans a1064
  have a1113 := (K1077.2.2.1 (b + 14) (lt_N n1074 (by decide))).trans a1065
  have a1114 := (K1077.2.2.1 (b + 15) (lt_N n1074 (by decide))).trans a1066
  have a1115 := (K1077.2.2.1 (b + 16) (lt_N n1074 (by decide))).trans a1067
  have a1116 := (K1077.2.2.1 (b + 17) (lt_N n1074 (by decide))).trans a1068
  have a1117 := (K1077.2.2.1 (b + 18) (lt_N n1074 (by decide))).trans a1069
  have a1118 := (K1077.2.2.1 (b + 19) (lt_N n1074 (by decide))).trans a1032
  have a1119 := (K1077.2.2.1 b (lt_N0 n1074 (by decide))).trans a1070
  have k1120 := keep_tr (b := b) k1073 K1077 (Or.inl rfl)
  have n1121 : Y1075.N = b + 20 := n1078.trans n1074
  refine g_aload_n C1076 0 dX7_init_159 rfl ?_
  refine g_bipush C1076 (v := (7 : Int32)) dX7_init_160 (by decide) ?_
  refine g_newA C1076 hXa (id := b + 20) n1121 .int .int rfl (List.mem_cons_of_mem _ mArr_I) Y1075.cI 0 rfl (fun _ _ z => z) rfl (k := 7) (by decide) (by decide) (by decide) (by decide) (by decide) dX7_init_162 (fun Y1122 x1123 C1124 K1125 n1126 a1127 s1128 => ?_)
  have f1129 := isI_tr f1081 K1125 (nb_ (by decide))
  have f1130 := isI_tr f1082 K1125 (nb_ (by decide))
  have f1131 := isI_tr f1083 K1125 (nb_ (by decide))
  have f1132 := isI_tr f1084 K1125 (nb_ (by decide))
  have f1133 := isI_tr f1085 K1125 (nb_ (by decide))
  have f1134 := isI_tr f1086 K1125 (nb_ (by decide))
  have f1135 := isI_tr f1087 K1125 (nb_ (by decide))
  have f1136 := isI_tr f1088 K1125 (nb_ (by decide))
  have f1137 := isI_tr f1089 K1125 (nb_ (by decide))
  have f1138 := isI_tr f1090 K1125 (nb_ (by decide))
  have f1139 := isI_tr f1091 K1125 (nb_ (by decide))
  have f1140 := isI_tr f1092 K1125 (nb_ (by decide))
  have f1141 := isI_tr f1093 K1125 (nb_ (by decide))
  have f1142 := isI_tr f1094 K1125 (nb_ (by decide))
  have f1143 := isZ_tr f1095 K1125 (nb_ (by decide))
  have f1144 := isI_tr f1096 K1125 (nb_ (by decide))
  have f1145 := isI_tr f1097 K1125 (nb_ (by decide))
  have f1146 := isI_tr f1098 K1125 (nb_ (by decide))
  have f1147 := isI_tr f1099 K1125 (nb_ (by decide))
  have a1148 := (K1125.2.2.1 (b + 1) (lt_N n1121 (by decide))).trans a1100
  have a1149 := (K1125.2.2.1 (b + 2) (lt_N n1121 (by decide))).trans a1101
  have a1150 := (K1125.2.2.1 (b + 3) (lt_N n1121 (by decide))).trans a1102
  have a1151 := (K1125.2.2.1 (b + 4) (lt_N n1121 (by decide))).trans a1103
  have a1152 := (K1125.2.2.1 (b + 5) (lt_N n1121 (by decide))).trans a1104
  have a1153 := (K1125.2.2.1 (b + 6) (lt_N n1121 (by decide))).trans a1105
  have a1154 := (K1125.2.2.1 (b + 7) (lt_N n1121 (by decide))).trans a1106
  have a1155 := (K1125.2.2.1 (b + 8) (lt_N n1121 (by decide))).trans a1107
  have a1156 := (K1125.2.2.1 (b + 9) (lt_N n1121 (by decide))).trans a1108
  have a1157 := (K1125.2.2.1 (b + 10) (lt_N n1121 (by decide))).trans a1109
  have a1158 := (K1125.2.2.1 (b + 11) (lt_N n1121 (by decide))).trans a1110
  have a1159 := (K1125.2.2.1 (b + 12) (lt_N n1121 (by decide))).trans a1111
  have a1160 := (K1125.2.2.1 (b + 13) (lt_N n1121 (by decide))).trans a1112
  have a1161 := (K1125.2.2.1 (b + 14) (lt_N n1121 (by decide))).trans a1113
  have a1162 := (K1125.2.2.1 (b + 15) (lt_N n1121 (by decide))).trans a1114
  have a1163 := (K1125.2.2.1 (b + 16) (lt_N n1121 (by decide))).trans a1115
  have a1164 := (K1125.2.2.1 (b + 17) (lt_N n1121 (by decide))).trans a1116
  have a1165 := (K1125.2.2.1 (b + 18) (lt_N n1121 (by decide))).trans a1117
  have a1166 := (K1125.2.2.1 (b + 19) (lt_N n1121 (by decide))).trans a1118
  have a1167 := (K1125.2.2.1 b (lt_N0 n1121 (by decide))).trans a1079
  have s1168 := (K1125.2.2.2 b (lt_N0 n1121 (by decide)) (nb_l (by decide))).trans s1080
  have f1169 := isI_new s1128 K1125 n1126
  have k1170 := keep_tr (b := b) k1120 K1125 (Or.inr (ge_N hN (by decide)))
  have n1171 : Y1122.N = b + 21 := n1126
  refine g_putR C1124 hXi (i := b) (ty := (.array .int)) (ty0 := tyX7) (k := 42) (Nc := 56) (Cn := RX7) (T := TX7) (ci := 7) (lt_N0 n1171 (by decide)) a1167 s1168 rfl rfl (fun w hw => List.mem_cons_of_mem _ (inX7 w hw)) tyX7_ok nmX7 (by decide) (List.mem_cons_of_mem _ mF_RX7_68) rfl rfl rfl rfl rfl rfl (by decide : 42 < 56) (rt (fun c => [.int (c.1 0), .ref x2, .int (c.1 2), .ref x25, .ref x52, .ref x83, .int (c.1 6), .int (c.1 7), .int (c.1 8), .ref x118, .int (c.1 10), .ref x157, .int (c.1 12), .ref x200, .ref x247, .ref x298, .int (c.1 16), .int (c.1 17), .int (c.1 18), .ref x353, .int (c.1 20), .int (c.1 21), .int (c.1 22), .ref x412, .ref x475, .ref x542, .int (c.1 26), .int (c.1 27), .int (c.1 28), .int (c.1 29), .int (c.1 30), .int (c.1 31), .int (c.1 32), .ref x613, .ref x688, .ref x767, .ref x850, .int (c.1 37), .ref x937, .int (c.1 39), .ref x1028, .int (c.1 41), .ref x1123, .int (c.1 43), .int (c.1 44), .int (c.1 45), .int (c.1 46), .int (c.1 47), .int (c.1 48), .null, .int (c.1 50), .int (c.1 51), .null, .null, .null, .int (c.1 55)]) 7) rfl dX7_init_164 (fun Y1172 C1173 K1174 n1175 a1176 s1177 => ?_)
  have f1178 := isI_tr f1129 K1174 (nb_r (by decide))
  have f1179 := isI_tr f1130 K1174 (nb_r (by decide))
  have f1180 := isI_tr f1131 K1174 (nb_r (by decide))
  have f1181 := isI_tr f1132 K1174 (nb_r (by decide))
  have f1182 := isI_tr f1133 K1174 (nb_r (by decide))
  have f1183 := isI_tr f1134 K1174 (nb_r (by decide))
  have f1184 := isI_tr f1135 K1174 (nb_r (by decide))
  have f1185 := isI_tr f1136 K1174 (nb_r (by decide))
  have f1186 := isI_tr f1137 K1174 (nb_r (by decide))
  have f1187 := isI_tr f1138 K1174 (nb_r (by decide))
  have f1188 := isI_tr f1139 K1174 (nb_r (by decide))
  have f1189 := isI_tr f1140 K1174 (nb_r (by decide))
  have f1190 := isI_tr f1141 K1174 (nb_r (by decide))
  have f1191 := isI_tr f1142 K1174 (nb_r (by decide))
  have f1192 := isZ_tr f1143 K1174 (nb_r (by decide))
  have f1193 := isI_tr f1144 K1174 (nb_r (by decide))
  have f1194 := isI_tr f1145 K1174 (nb_r (by decide))
  have f1195 := isI_tr f1146 K1174 (nb_r (by decide))
  have f1196 := isI_tr f1147 K1174 (nb_r (by decide))
  have f1197 := isI_tr f1169 K1174 (nb_r (by decide))
  have a1198 := (K1174.2.2.1 (b + 1) (lt_N n1171 (by decide))).trans a1148
  have a1199 := (K1174.2.2.1 (b + 2) (lt_N n1171 (by decide))).trans a1149
  have a1200 := (K1174.2.2.1 (b + 3) (lt_N n1171 (by decide))).trans a1150
  have a1201 := (K1174.2.2.1 (b + 4) (lt_N n1171 (by decide))).trans a1151
  have a1202 := (K1174.2.2.1 (b + 5) (lt_N n1171 (by decide))).trans a1152
  have a1203 := (K1174.2.2.1 (b + 6) (lt_N n1171 (by decide))).trans a1153
  have a1204 := (K1174.2.2.1 (b + 7) (lt_N n1171 (by decide))).trans a1154
  have a1205 := (K1174.2.2.1 (b + 8) (lt_N n1171 (by decide))).trans a1155
  have a1206 := (K1174.2.2.1 (b + 9) (lt_N n1171 (by decide))).trans a1156
  have a1207 := (K1174.2.2.1 (b + 10) (lt_N n1171 (by decide))).trans a1157
  have a1208 := (K1174.2.2.1 (b + 11) (lt_N n1171 (by decide))).trans a1158
  have a1209 := (K1174.2.2.1 (b + 12) (lt_N n1171 (by decide))).trans a1159
  have a1210 := (K1174.2.2.1 (b + 13) (lt_N n1171 (by decide))).trans a1160
  have a1211 := (K1174.2.2.1 (b + 14) (lt_N n1171 (by decide))).trans a1161
  have a1212 := (K1174.2.2.1 (b + 15) (lt_N n1171 (by decide))).trans a1162
  have a1213 := (K1174.2.2.1 (b + 16) (lt_N n1171 (by decide))).trans a1163
  have a1214 := (K1174.2.2.1 (b + 17) (lt_N n1171 (by decide))).trans a1164
  have a1215 := (K1174.2.2.1 (b + 18) (lt_N n1171 (by decide))).trans a1165
  have a1216 := (K1174.2.2.1 (b + 19) (lt_N n1171 (by decide))).trans a1166
  have a1217 := (K1174.2.2.1 (b + 20) (lt_N n1171 (by decide))).trans a1127
  have a1218 := (K1174.2.2.1 b (lt_N0 n1171 (by decide))).trans a1167
  have k1219 := keep_tr (b := b) k1170 K1174 (Or.inl rfl)
  have n1220 : Y1172.N = b + 21 := n1175.trans n1171
  refine g_aload_n C1173 0 dX7_init_167 rfl ?_
  refine g_bipush C1173 (v := (7 : Int32)) dX7_init_168 (by decide) ?_
  refine g_newA C1173 hXa (id := b + 21) n1220 .int .int rfl (List.mem_cons_of_mem _ mArr_I) Y1172.cI 0 rfl (fun _ _ z => z) rfl (k := 7) (by decide) (by decide) (by decide) (by decide) (by decide) dX7_init_170 (fun Y1221 x1222 C1223 K1224 n1225 a1226 s1227 => ?_)
  have f1228 := isI_tr f1178 K1224 (nb_ (by decide))
  have f1229 := isI_tr f1179 K1224 (nb_ (by decide))
  have f1230 := isI_tr f1180 K1224 (nb_ (by decide))
  have f1231 := isI_tr f1181 K1224 (nb_ (by decide))
  have f1232 := isI_tr f1182 K1224 (nb_ (by decide))
  have f1233 := isI_tr f1183 K1224 (nb_ (by decide))
  have f1234 := isI_tr f1184 K1224 (nb_ (by decide))
  have f1235 := isI_tr f1185 K1224 (nb_ (by decide))
  have f1236 := isI_tr f1186 K1224 (nb_ (by decide))
  have f1237 := isI_tr f1187 K1224 (nb_ (by decide))
  have f1238 := isI_tr f1188 K1224 (nb_ (by decide))
  have f1239 := isI_tr f1189 K1224 (nb_ (by decide))
  have f1240 := isI_tr f1190 K1224 (nb_ (by decide))
  have f1241 := isI_tr f1191 K1224 (nb_ (by decide))
  have f1242 := isZ_tr f1192 K1224 (nb_ (by decide))
  have f1243 := isI_tr f1193 K1224 (nb_ (by decide))
  have f1244 := isI_tr f1194 K1224 (nb_ (by decide))
  have f1245 := isI_tr f1195 K1224 (nb_ (by decide))
  have f1246 := isI_tr f1196 K1224 (nb_ (by decide))
  have f1247 := isI_tr f1197 K1224 (nb_ (by decide))
  have a1248 := (K1224.2.2.1 (b + 1) (lt_N n1220 (by decide))).trans a1198
  have a1249 := (K1224.2.2.1 (b + 2) (lt_N n1220 (by decide))).trans a1199
  have a1250 := (K1224.2.2.1 (b + 3) (lt_N n1220 (by decide))).trans a1200
  have a1251 := (K1224.2.2.1 (b + 4) (lt_N n1220 (by decide))).trans a1201
  have a1252 := (K1224.2.2.1 (b + 5) (lt_N n1220 (by decide))).trans a1202
  have a1253 := (K1224.2.2.1 (b + 6) (lt_N n1220 (by decide))).trans a1203
  have a1254 := (K1224.2.2.1 (b + 7) (lt_N n1220 (by decide))).trans a1204
  have a1255 := (K1224.2.2.1 (b + 8) (lt_N n1220 (by decide))).trans a1205
  have a1256 := (K1224.2.2.1 (b + 9) (lt_N n1220 (by decide))).trans a1206
  have a1257 := (K1224.2.2.1 (b + 10) (lt_N n1220 (by decide))).trans a1207
  have a1258 := (K1224.2.2.1 (b + 11) (lt_N n1220 (by decide))).trans a1208
  have a1259 := (K1224.2.2.1 (b + 12) (lt_N n1220 (by decide))).trans a1209
  have a1260 := (K1224.2.2.1 (b + 13) (lt_N n1220 (by decide))).trans a1210
  have a1261 := (K1224.2.2.1 (b + 14) (lt_N n1220 (by decide))).trans a1211
  have a1262 := (K1224.2.2.1 (b + 15) (lt_N n1220 (by decide))).trans a1212
  have a1263 := (K1224.2.2.1 (b + 16) (lt_N n1220 (by decide))).trans a1213
  have a1264 := (K1224.2.2.1 (b + 17) (lt_N n1220 (by decide))).trans a1214
  have a1265 := (K1224.2.2.1 (b + 18) (lt_N n1220 (by decide))).trans a1215
  have a1266 := (K1224.2.2.1 (b + 19) (lt_N n1220 (by decide))).trans a1216
  have a1267 := (K1224.2.2.1 (b + 20) (lt_N n1220 (by decide))).trans a1217
  have a1268 := (K1224.2.2.1 b (lt_N0 n1220 (by decide))).trans a1176
  have s1269 := (K1224.2.2.2 b (lt_N0 n1220 (by decide)) (nb_l (by decide))).trans s1177
  have f1270 := isI_new s1227 K1224 n1225
  have k1271 := keep_tr (b := b) k1219 K1224 (Or.inr (ge_N hN (by decide)))
  have n1272 : Y1221.N = b + 22 := n1225
  refine g_putR C1223 hXi (i := b) (ty := (.array .int)) (ty0 := tyX7) (k := 49) (Nc := 56) (Cn := RX7) (T := TX7) (ci := 7) (lt_N0 n1272 (by decide)) a1268 s1269 rfl rfl (fun w hw => List.mem_cons_of_mem _ (inX7 w hw)) tyX7_ok nmX7 (by decide) (List.mem_cons_of_mem _ mF_RX7_71) rfl rfl rfl rfl rfl rfl (by decide : 49 < 56) (rt (fun c => [.int (c.1 0), .ref x2, .int (c.1 2), .ref x25, .ref x52, .ref x83, .int (c.1 6), .int (c.1 7), .int (c.1 8), .ref x118, .int (c.1 10), .ref x157, .int (c.1 12), .ref x200, .ref x247, .ref x298, .int (c.1 16), .int (c.1 17), .int (c.1 18), .ref x353, .int (c.1 20), .int (c.1 21), .int (c.1 22), .ref x412, .ref x475, .ref x542, .int (c.1 26), .int (c.1 27), .int (c.1 28), .int (c.1 29), .int (c.1 30), .int (c.1 31), .int (c.1 32), .ref x613, .ref x688, .ref x767, .ref x850, .int (c.1 37), .ref x937, .int (c.1 39), .ref x1028, .int (c.1 41), .ref x1123, .int (c.1 43), .int (c.1 44), .int (c.1 45), .int (c.1 46), .int (c.1 47), .int (c.1 48), .ref x1222, .int (c.1 50), .int (c.1 51), .null, .null, .null, .int (c.1 55)]) 7) rfl dX7_init_172 (fun Y1273 C1274 K1275 n1276 a1277 s1278 => ?_)
  have f1279 := isI_tr f1228 K1275 (nb_r (by decide))
  have f1280 := isI_tr f1229 K1275 (nb_r (by decide))
  have f1281 := isI_tr f1230 K1275 (nb_r (by decide))
  have f1282 := isI_tr f1231 K1275 (nb_r (by decide))
  have f1283 := isI_tr f1232 K1275 (nb_r (by decide))
  have f1284 := isI_tr f1233 K1275 (nb_r (by decide))
  have f1285 := isI_tr f1234 K1275 (nb_r (by decide))
  have f1286 := isI_tr f1235 K1275 (nb_r (by decide))
  have f1287 := isI_tr f1236 K1275 (nb_r (by decide))
  have f1288 := isI_tr f1237 K1275 (nb_r (by decide))
  have f1289 := isI_tr f1238 K1275 (nb_r (by decide))
  have f1290 := isI_tr f1239 K1275 (nb_r (by decide))
  have f1291 := isI_tr f1240 K1275 (nb_r (by decide))
  have f1292 := isI_tr f1241 K1275 (nb_r (by decide))
  have f1293 := isZ_tr f1242 K1275 (nb_r (by decide))
  have f1294 := isI_tr f1243 K1275 (nb_r (by decide))
  have f1295 := isI_tr f1244 K1275 (nb_r (by decide))
  have f1296 := isI_tr f1245 K1275 (nb_r (by decide))
  have f1297 := isI_tr f1246 K1275 (nb_r (by decide))
  have f1298 := isI_tr f1247 K1275 (nb_r (by decide))
  have f1299 := isI_tr f1270 K1275 (nb_r (by decide))
  have a1300 := (K1275.2.2.1 (b + 1) (lt_N n1272 (by decide))).trans a1248
  have a1301 := (K1275.2.2.1 (b + 2) (lt_N n1272 (by decide))).trans a1249
  have a1302 := (K1275.2.2.1 (b + 3) (lt_N n1272 (by decide))).trans a1250
  have a1303 := (K1275.2.2.1 (b + 4) (lt_N n1272 (by decide))).trans a1251
  have a1304 := (K1275.2.2.1 (b + 5) (lt_N n1272 (by decide))).trans a1252
  have a1305 := (K1275.2.2.1 (b + 6) (lt_N n1272 (by decide))).trans a1253
  have a1306 := (K1275.2.2.1 (b + 7) (lt_N n1272 (by decide))).trans a1254
  have a1307 := (K1275.2.2.1 (b + 8) (lt_N n1272 (by decide))).trans a1255
  have a1308 := (K1275.2.2.1 (b + 9) (lt_N n1272 (by decide))).trans a1256
  have a1309 := (K1275.2.2.1 (b + 10) (lt_N n1272 (by decide))).trans a1257
  have a1310 := (K1275.2.2.1 (b + 11) (lt_N n1272 (by decide))).trans a1258
  have a1311 := (K1275.2.2.1 (b + 12) (lt_N n1272 (by decide))).trans a1259
  have a1312 := (K1275.2.2.1 (b + 13) (lt_N n1272 (by decide))).trans a1260
  have a1313 := (K1275.2.2.1 (b + 14) (lt_N n1272 (by decide))).trans a1261
  have a1314 := (K1275.2.2.1 (b + 15) (lt_N n1272 (by decide))).trans a1262
  have a1315 := (K1275.2.2.1 (b + 16) (lt_N n1272 (by decide))).trans a1263
  have a1316 := (K1275.2.2.1 (b + 17) (lt_N n1272 (by decide))).trans a1264
  have a1317 := (K1275.2.2.1 (b + 18) (lt_N n1272 (by decide))).trans a1265
  have a1318 := (K1275.2.2.1 (b + 19) (lt_N n1272 (by decide))).trans a1266
  have a1319 := (K1275.2.2.1 (b + 20) (lt_N n1272 (by decide))).trans a1267
  have a1320 := (K1275.2.2.1 (b + 21) (lt_N n1272 (by decide))).trans a1226
  have a1321 := (K1275.2.2.1 b (lt_N0 n1272 (by decide))).trans a1268
  have k1322 := keep_tr (b := b) k1271 K1275 (Or.inl rfl)
  have n1323 : Y1273.N = b + 22 := n1276.trans n1272
  refine g_aload_n C1274 0 dX7_init_175 rfl ?_
  refine g_iconst C1274 (v := (4 : Int32)) dX7_init_176 (by decide) ?_
  refine g_newA C1274 hXa (id := b + 22) n1323 .int .int rfl (List.mem_cons_of_mem _ mArr_I) Y1273.cI 0 rfl (fun _ _ z => z) rfl (k := 4) (by decide) (by decide) (by decide) (by decide) (by decide) dX7_init_177 (fun Y1324 x1325 C1326 K1327 n1328 a1329 s1330 => ?_)
  have f1331 := isI_tr f1279 K1327 (nb_ (by decide))
  have f1332 := isI_tr f1280 K1327 (nb_ (by decide))
  have f1333 := isI_tr f1281 K1327 (nb_ (by decide))
  have f1334 := isI_tr f1282 K1327 (nb_ (by decide))
  have f1335 := isI_tr f1283 K1327 (nb_ (by decide))
  have f1336 := isI_tr f1284 K1327 (nb_ (by decide))
  have f1337 := isI_tr f1285 K1327 (nb_ (by decide))
  have f1338 := isI_tr f1286 K1327 (nb_ (by decide))
  have f1339 := isI_tr f1287 K1327 (nb_ (by decide))
  have f1340 := isI_tr f1288 K1327 (nb_ (by decide))
  have f1341 := isI_tr f1289 K1327 (nb_ (by decide))
  have f1342 := isI_tr f1290 K1327 (nb_ (by decide))
  have f1343 := isI_tr f1291 K1327 (nb_ (by decide))
  have f1344 := isI_tr f1292 K1327 (nb_ (by decide))
  have f1345 := isZ_tr f1293 K1327 (nb_ (by decide))
  have f1346 := isI_tr f1294 K1327 (nb_ (by decide))
  have f1347 := isI_tr f1295 K1327 (nb_ (by decide))
  have f1348 := isI_tr f1296 K1327 (nb_ (by decide))
  have f1349 := isI_tr f1297 K1327 (nb_ (by decide))
  have f1350 := isI_tr f1298 K1327 (nb_ (by decide))
  have f1351 := isI_tr f1299 K1327 (nb_ (by decide))
  have a1352 := (K1327.2.2.1 (b + 1) (lt_N n1323 (by decide))).trans a1300
  have a1353 := (K1327.2.2.1 (b + 2) (lt_N n1323 (by decide))).trans a1301
  have a1354 := (K1327.2.2.1 (b + 3) (lt_N n1323 (by decide))).trans a1302
  have a1355 := (K1327.2.2.1 (b + 4) (lt_N n1323 (by decide))).trans a1303
  have a1356 := (K1327.2.2.1 (b + 5) (lt_N n1323 (by decide))).trans a1304
  have a1357 := (K1327.2.2.1 (b + 6) (lt_N n1323 (by decide))).trans a1305
  have a1358 := (K1327.2.2.1 (b + 7) (lt_N n1323 (by decide))).trans a1306
  have a1359 := (K1327.2.2.1 (b + 8) (lt_N n1323 (by decide))).trans a1307
  have a1360 := (K1327.2.2.1 (b + 9) (lt_N n1323 (by decide))).trans a1308
  have a1361 := (K1327.2.2.1 (b + 10) (lt_N n1323 (by decide))).trans a1309
  have a1362 := (K1327.2.2.1 (b + 11) (lt_N n1323 (by decide))).trans a1310
  have a1363 := (K1327.2.2.1 (b + 12) (lt_N n1323 (by decide))).trans a1311
  have a1364 := (K1327.2.2.1 (b + 13) (lt_N n1323 (by decide))).trans a1312
  have a1365 := (K1327.2.2.1 (b + 14) (lt_N n1323 (by decide))).trans a1313
  have a1366 := (K1327.2.2.1 (b + 15) (lt_N n1323 (by decide))).trans a1314
  have a1367 := (K1327.2.2.1 (b + 16) (lt_N n1323 (by decide))).trans a1315
  have a1368 := (K1327.2.2.1 (b + 17) (lt_N n1323 (by decide))).trans a1316
  have a1369 := (K1327.2.2.1 (b + 18) (lt_N n1323 (by decide))).trans a1317
  have a1370 := (K1327.2.2.1 (b + 19) (lt_N n1323 (by decide))).trans a1318
  have a1371 := (K1327.2.2.1 (b + 20) (lt_N n1323 (by decide))).trans a1319
  have a1372 := (K1327.2.2.1 (b + 21) (lt_N n1323 (by decide))).trans a1320
  have a1373 := (K1327.2.2.1 b (lt_N0 n1323 (by decide))).trans a1277
  have s1374 := (K1327.2.2.2 b (lt_N0 n1323 (by decide)) (nb_l (by decide))).trans s1278
  have f1375 := isI_new s1330 K1327 n1328
  have k1376 := keep_tr (b := b) k1322 K1327 (Or.inr (ge_N hN (by decide)))
  have n1377 : Y1324.N = b + 23 := n1328
  refine g_putR C1326 hXi (i := b) (ty := (.array .int)) (ty0 := tyX7) (k := 52) (Nc := 56) (Cn := RX7) (T := TX7) (ci := 7) (lt_N0 n1377 (by decide)) a1373 s1374 rfl rfl (fun w hw => List.mem_cons_of_mem _ (inX7 w hw)) tyX7_ok nmX7 (by decide) (List.mem_cons_of_mem _ mF_RX7_74) rfl rfl rfl rfl rfl rfl (by decide : 52 < 56) (rt (fun c => [.int (c.1 0), .ref x2, .int (c.1 2), .ref x25, .ref x52, .ref x83, .int (c.1 6), .int (c.1 7), .int (c.1 8), .ref x118, .int (c.1 10), .ref x157, .int (c.1 12), .ref x200, .ref x247, .ref x298, .int (c.1 16), .int (c.1 17), .int (c.1 18), .ref x353, .int (c.1 20), .int (c.1 21), .int (c.1 22), .ref x412, .ref x475, .ref x542, .int (c.1 26), .int (c.1 27), .int (c.1 28), .int (c.1 29), .int (c.1 30), .int (c.1 31), .int (c.1 32), .ref x613, .ref x688, .ref x767, .ref x850, .int (c.1 37), .ref x937, .int (c.1 39), .ref x1028, .int (c.1 41), .ref x1123, .int (c.1 43), .int (c.1 44), .int (c.1 45), .int (c.1 46), .int (c.1 47), .int (c.1 48), .ref x1222, .int (c.1 50), .int (c.1 51), .ref x1325, .null, .null, .int (c.1 55)]) 7) rfl dX7_init_179 (fun Y1378 C1379 K1380 n1381 a1382 s1383 => ?_)
  have f1384 := isI_tr f1331 K1380 (nb_r (by decide))
  have f1385 := isI_tr f1332 K1380 (nb_r (by decide))
  have f1386 := isI_tr f1333 K1380 (nb_r (by decide))
  have f1387 := isI_tr f1334 K1380 (nb_r (by decide))
  have f1388 := isI_tr f1335 K1380 (nb_r (by decide))
  have f1389 := isI_tr f1336 K1380 (nb_r (by decide))
  have f1390 := isI_tr f1337 K1380 (nb_r (by decide))
  have f1391 := isI_tr f1338 K1380 (nb_r (by decide))
  have f1392 := isI_tr f1339 K1380 (nb_r (by decide))
  have f1393 := isI_tr f1340 K1380 (nb_r (by decide))
  have f1394 := isI_tr f1341 K1380 (nb_r (by decide))
  have f1395 := isI_tr f1342 K1380 (nb_r (by decide))
  have f1396 := isI_tr f1343 K1380 (nb_r (by decide))
  have f1397 := isI_tr f1344 K1380 (nb_r (by decide))
  have f1398 := isZ_tr f1345 K1380 (nb_r (by decide))
  have f1399 := isI_tr f1346 K1380 (nb_r (by decide))
  have f1400 := isI_tr f1347 K1380 (nb_r (by decide))
  have f1401 := isI_tr f1348 K1380 (nb_r (by decide))
  have f1402 := isI_tr f1349 K1380 (nb_r (by decide))
  have f1403 := isI_tr f1350 K1380 (nb_r (by decide))
  have f1404 := isI_tr f1351 K1380 (nb_r (by decide))
  have f1405 := isI_tr f1375 K1380 (nb_r (by decide))
  have a1406 := (K1380.2.2.1 (b + 1) (lt_N n1377 (by decide))).trans a1352
  have a1407 := (K1380.2.2.1 (b + 2) (lt_N n1377 (by decide))).trans a1353
  have a1408 := (K1380.2.2.1 (b + 3) (lt_N n1377 (by decide))).trans a1354
  have a1409 := (K1380.2.2.1 (b + 4) (lt_N n1377 (by decide))).trans a1355
  have a1410 := (K1380.2.2.1 (b + 5) (lt_N n1377 (by decide))).trans a1356
  have a1411 := (K1380.2.2.1 (b + 6) (lt_N n1377 (by decide))).trans a1357
  have a1412 := (K1380.2.2.1 (b + 7) (lt_N n1377 (by decide))).trans a1358
  have a1413 := (K1380.2.2.1 (b + 8) (lt_N n1377 (by decide))).trans a1359
  have a1414 := (K1380.2.2.1 (b + 9) (lt_N n1377 (by decide))).trans a1360
  have a1415 := (K1380.2.2.1 (b + 10) (lt_N n1377 (by decide))).trans a1361
  have a1416 := (K1380.2.2.1 (b + 11) (lt_N n1377 (by decide))).trans a1362
  have a1417 := (K1380.2.2.1 (b + 12) (lt_N n1377 (by decide))).trans a1363
  have a1418 := (K1380.2.2.1 (b + 13) (lt_N n1377 (by decide))).trans a1364
  have a1419 := (K1380.2.2.1 (b + 14) (lt_N n1377 (by decide))).trans a1365
  have a1420 := (K1380.2.2.1 (b + 15) (lt_N n1377 (by decide))).trans a1366
  have a1421 := (K1380.2.2.1 (b + 16) (lt_N n1377 (by decide))).trans a1367
  have a1422 := (K1380.2.2.1 (b + 17) (lt_N n1377 (by decide))).trans a1368
  have a1423 := (K1380.2.2.1 (b + 18) (lt_N n1377 (by decide))).trans a1369
  have a1424 := (K1380.2.2.1 (b + 19) (lt_N n1377 (by decide))).trans a1370
  have a1425 := (K1380.2.2.1 (b + 20) (lt_N n1377 (by decide))).trans a1371
  have a1426 := (K1380.2.2.1 (b + 21) (lt_N n1377 (by decide))).trans a1372
  have a1427 := (K1380.2.2.1 (b + 22) (lt_N n1377 (by decide))).trans a1329
  have a1428 := (K1380.2.2.1 b (lt_N0 n1377 (by decide))).trans a1373
  have k1429 := keep_tr (b := b) k1376 K1380 (Or.inl rfl)
  have n1430 : Y1378.N = b + 23 := n1381.trans n1377
  refine g_aload_n C1379 0 dX7_init_182 rfl ?_
  refine g_iconst C1379 (v := (4 : Int32)) dX7_init_183 (by decide) ?_
  refine g_newA C1379 hXa (id := b + 23) n1430 .int .int rfl (List.mem_cons_of_mem _ mArr_I) Y1378.cI 0 rfl (fun _ _ z => z) rfl (k := 4) (by decide) (by decide) (by decide) (by decide) (by decide) dX7_init_184 (fun Y1431 x1432 C1433 K1434 n1435 a1436 s1437 => ?_)
  have f1438 := isI_tr f1384 K1434 (nb_ (by decide))
  have f1439 := isI_tr f1385 K1434 (nb_ (by decide))
  have f1440 := isI_tr f1386 K1434 (nb_ (by decide))
  have f1441 := isI_tr f1387 K1434 (nb_ (by decide))
  have f1442 := isI_tr f1388 K1434 (nb_ (by decide))
  have f1443 := isI_tr f1389 K1434 (nb_ (by decide))
  have f1444 := isI_tr f1390 K1434 (nb_ (by decide))
  have f1445 := isI_tr f1391 K1434 (nb_ (by decide))
  have f1446 := isI_tr f1392 K1434 (nb_ (by decide))
  have f1447 := isI_tr f1393 K1434 (nb_ (by decide))
  have f1448 := isI_tr f1394 K1434 (nb_ (by decide))
  have f1449 := isI_tr f1395 K1434 (nb_ (by decide))
  have f1450 := isI_tr f1396 K1434 (nb_ (by decide))
  have f1451 := isI_tr f1397 K1434 (nb_ (by decide))
  have f1452 := isZ_tr f1398 K1434 (nb_ (by decide))
  have f1453 := isI_tr f1399 K1434 (nb_ (by decide))
  have f1454 := isI_tr f1400 K1434 (nb_ (by decide))
  have f1455 := isI_tr f1401 K1434 (nb_ (by decide))
  have f1456 := isI_tr f1402 K1434 (nb_ (by decide))
  have f1457 := isI_tr f1403 K1434 (nb_ (by decide))
  have f1458 := isI_tr f1404 K1434 (nb_ (by decide))
  have f1459 := isI_tr f1405 K1434 (nb_ (by decide))
  have a1460 := (K1434.2.2.1 (b + 1) (lt_N n1430 (by decide))).trans a1406
  have a1461 := (K1434.2.2.1 (b + 2) (lt_N n1430 (by decide))).trans a1407
  have a1462 := (K1434.2.2.1 (b + 3) (lt_N n1430 (by decide))).trans a1408
  have a1463 := (K1434.2.2.1 (b + 4) (lt_N n1430 (by decide))).trans a1409
  have a1464 := (K1434.2.2.1 (b + 5) (lt_N n1430 (by decide))).trans a1410
  have a1465 := (K1434.2.2.1 (b + 6) (lt_N n1430 (by decide))).trans a1411
  have a1466 := (K1434.2.2.1 (b + 7) (lt_N n1430 (by decide))).trans a1412
  have a1467 := (K1434.2.2.1 (b + 8) (lt_N n1430 (by decide))).trans a1413
  have a1468 := (K1434.2.2.1 (b + 9) (lt_N n1430 (by decide))).trans a1414
  have a1469 := (K1434.2.2.1 (b + 10) (lt_N n1430 (by decide))).trans a1415
  have a1470 := (K1434.2.2.1 (b + 11) (lt_N n1430 (by decide))).trans a1416
  have a1471 := (K1434.2.2.1 (b + 12) (lt_N n1430 (by decide))).trans a1417
  have a1472 := (K1434.2.2.1 (b + 13) (lt_N n1430 (by decide))).trans a1418
  have a1473 := (K1434.2.2.1 (b + 14) (lt_N n1430 (by decide))).trans a1419
  have a1474 := (K1434.2.2.1 (b + 15) (lt_N n1430 (by decide))).trans a1420
  have a1475 := (K1434.2.2.1 (b + 16) (lt_N n1430 (by decide))).trans a1421
  have a1476 := (K1434.2.2.1 (b + 17) (lt_N n1430 (by decide))).trans a1422
  have a1477 := (K1434.2.2.1 (b + 18) (lt_N n1430 (by decide))).trans a1423
  have a1478 := (K1434.2.2.1 (b + 19) (lt_N n1430 (by decide))).trans a1424
  have a1479 := (K1434.2.2.1 (b + 20) (lt_N n1430 (by decide))).trans a1425
  have a1480 := (K1434.2.2.1 (b + 21) (lt_N n1430 (by decide))).trans a1426
  have a1481 := (K1434.2.2.1 (b + 22) (lt_N n1430 (by decide))).trans a1427
  have a1482 := (K1434.2.2.1 b (lt_N0 n1430 (by decide))).trans a1382
  have s1483 := (K1434.2.2.2 b (lt_N0 n1430 (by decide)) (nb_l (by decide))).trans s1383
  have f1484 := isI_new s1437 K1434 n1435
  have k1485 := keep_tr (b := b) k1429 K1434 (Or.inr (ge_N hN (by decide)))
  have n1486 : Y1431.N = b + 24 := n1435
  refine g_putR C1433 hXi (i := b) (ty := (.array .int)) (ty0 := tyX7) (k := 53) (Nc := 56) (Cn := RX7) (T := TX7) (ci := 7) (lt_N0 n1486 (by decide)) a1482 s1483 rfl rfl (fun w hw => List.mem_cons_of_mem _ (inX7 w hw)) tyX7_ok nmX7 (by decide) (List.mem_cons_of_mem _ mF_RX7_77) rfl rfl rfl rfl rfl rfl (by decide : 53 < 56) (rt (fun c => [.int (c.1 0), .ref x2, .int (c.1 2), .ref x25, .ref x52, .ref x83, .int (c.1 6), .int (c.1 7), .int (c.1 8), .ref x118, .int (c.1 10), .ref x157, .int (c.1 12), .ref x200, .ref x247, .ref x298, .int (c.1 16), .int (c.1 17), .int (c.1 18), .ref x353, .int (c.1 20), .int (c.1 21), .int (c.1 22), .ref x412, .ref x475, .ref x542, .int (c.1 26), .int (c.1 27), .int (c.1 28), .int (c.1 29), .int (c.1 30), .int (c.1 31), .int (c.1 32), .ref x613, .ref x688, .ref x767, .ref x850, .int (c.1 37), .ref x937, .int (c.1 39), .ref x1028, .int (c.1 41), .ref x1123, .int (c.1 43), .int (c.1 44), .int (c.1 45), .int (c.1 46), .int (c.1 47), .int (c.1 48), .ref x1222, .int (c.1 50), .int (c.1 51), .ref x1325, .ref x1432, .null, .int (c.1 55)]) 7) rfl dX7_init_186 (fun Y1487 C1488 K1489 n1490 a1491 s1492 => ?_)
  have f1493 := isI_tr f1438 K1489 (nb_r (by decide))
  have f1494 := isI_tr f1439 K1489 (nb_r (by decide))
  have f1495 := isI_tr f1440 K1489 (nb_r (by decide))
  have f1496 := isI_tr f1441 K1489 (nb_r (by decide))
  have f1497 := isI_tr f1442 K1489 (nb_r (by decide))
  have f1498 := isI_tr f1443 K1489 (nb_r (by decide))
  have f1499 := isI_tr f1444 K1489 (nb_r (by decide))
  have f1500 := isI_tr f1445 K1489 (nb_r (by decide))
  have f1501 := isI_tr f1446 K1489 (nb_r (by decide))
  have f1502 := isI_tr f1447 K1489 (nb_r (by decide))
  have f1503 := isI_tr f1448 K1489 (nb_r (by decide))
  have f1504 := isI_tr f1449 K1489 (nb_r (by decide))
  have f1505 := isI_tr f1450 K1489 (nb_r (by decide))
  have f1506 := isI_tr f1451 K1489 (nb_r (by decide))
  have f1507 := isZ_tr f1452 K1489 (nb_r (by decide))
  have f1508 := isI_tr f1453 K1489 (nb_r (by decide))
  have f1509 := isI_tr f1454 K1489 (nb_r (by decide))
  have f1510 := isI_tr f1455 K1489 (nb_r (by decide))
  have f1511 := isI_tr f1456 K1489 (nb_r (by decide))
  have f1512 := isI_tr f1457 K1489 (nb_r (by decide))
  have f1513 := isI_tr f1458 K1489 (nb_r (by decide))
  have f1514 := isI_tr f1459 K1489 (nb_r (by decide))
  have f1515 := isI_tr f1484 K1489 (nb_r (by decide))
  have a1516 := (K1489.2.2.1 (b + 1) (lt_N n1486 (by decide))).trans a1460
  have a1517 := (K1489.2.2.1 (b + 2) (lt_N n1486 (by decide))).trans a1461
  have a1518 := (K1489.2.2.1 (b + 3) (lt_N n1486 (by decide))).trans a1462
  have a1519 := (K1489.2.2.1 (b + 4) (lt_N n1486 (by decide))).trans a1463
  have a1520 := (K1489.2.2.1 (b + 5) (lt_N n1486 (by decide))).trans a1464
  have a1521 := (K1489.2.2.1 (b + 6) (lt_N n1486 (by decide))).trans a1465
  have a1522 := (K1489.2.2.1 (b + 7) (lt_N n1486 (by decide))).trans a1466
  have a1523 := (K1489.2.2.1 (b + 8) (lt_N n1486 (by decide))).trans a1467
  have a1524 := (K1489.2.2.1 (b + 9) (lt_N n1486 (by decide))).trans a1468
  have a1525 := (K1489.2.2.1 (b + 10) (lt_N n1486 (by decide))).trans a1469
  have a1526 := (K1489.2.2.1 (b + 11) (lt_N n1486 (by decide))).trans a1470
  have a1527 := (K1489.2.2.1 (b + 12) (lt_N n1486 (by decide))).trans a1471
  have a1528 := (K1489.2.2.1 (b + 13) (lt_N n1486 (by decide))).trans a1472
  have a1529 := (K1489.2.2.1 (b + 14) (lt_N n1486 (by decide))).trans a1473
  have a1530 := (K1489.2.2.1 (b + 15) (lt_N n1486 (by decide))).trans a1474
  have a1531 := (K1489.2.2.1 (b + 16) (lt_N n1486 (by decide))).trans a1475
  have a1532 := (K1489.2.2.1 (b + 17) (lt_N n1486 (by decide))).trans a1476
  have a1533 := (K1489.2.2.1 (b + 18) (lt_N n1486 (by decide))).trans a1477
  have a1534 := (K1489.2.2.1 (b + 19) (lt_N n1486 (by decide))).trans a1478
  have a1535 := (K1489.2.2.1 (b + 20) (lt_N n1486 (by decide))).trans a1479
  have a1536 := (K1489.2.2.1 (b + 21) (lt_N n1486 (by decide))).trans a1480
  have a1537 := (K1489.2.2.1 (b + 22) (lt_N n1486 (by decide))).trans a1481
  have a1538 := (K1489.2.2.1 (b + 23) (lt_N n1486 (by decide))).trans a1436
  have a1539 := (K1489.2.2.1 b (lt_N0 n1486 (by decide))).trans a1482
  have k1540 := keep_tr (b := b) k1485 K1489 (Or.inl rfl)
  have n1541 : Y1487.N = b + 24 := n1490.trans n1486
  refine g_aload_n C1488 0 dX7_init_189 rfl ?_
  refine g_sipush C1488 (v := (160 : Int32)) dX7_init_190 (by decide) ?_
  refine g_newA C1488 hXa (id := b + 24) n1541 .int .int rfl (List.mem_cons_of_mem _ mArr_I) Y1487.cI 0 rfl (fun _ _ z => z) rfl (k := 160) (by decide) (by decide) (by decide) (by decide) (by decide) dX7_init_193 (fun Y1542 x1543 C1544 K1545 n1546 a1547 s1548 => ?_)
  have f1549 := isI_tr f1493 K1545 (nb_ (by decide))
  have f1550 := isI_tr f1494 K1545 (nb_ (by decide))
  have f1551 := isI_tr f1495 K1545 (nb_ (by decide))
  have f1552 := isI_tr f1496 K1545 (nb_ (by decide))
  have f1553 := isI_tr f1497 K1545 (nb_ (by decide))
  have f1554 := isI_tr f1498 K1545 (nb_ (by decide))
  have f1555 := isI_tr f1499 K1545 (nb_ (by decide))
  have f1556 := isI_tr f1500 K1545 (nb_ (by decide))
  have f1557 := isI_tr f1501 K1545 (nb_ (by decide))
  have f1558 := isI_tr f1502 K1545 (nb_ (by decide))
  have f1559 := isI_tr f1503 K1545 (nb_ (by decide))
  have f1560 := isI_tr f1504 K1545 (nb_ (by decide))
  have f1561 := isI_tr f1505 K1545 (nb_ (by decide))
  have f1562 := isI_tr f1506 K1545 (nb_ (by decide))
  have f1563 := isZ_tr f1507 K1545 (nb_ (by decide))
  have f1564 := isI_tr f1508 K1545 (nb_ (by decide))
  have f1565 := isI_tr f1509 K1545 (nb_ (by decide))
  have f1566 := isI_tr f1510 K1545 (nb_ (by decide))
  have f1567 := isI_tr f1511 K1545 (nb_ (by decide))
  have f1568 := isI_tr f1512 K1545 (nb_ (by decide))
  have f1569 := isI_tr f1513 K1545 (nb_ (by decide))
  have f1570 := isI_tr f1514 K1545 (nb_ (by decide))
  have f1571 := isI_tr f1515 K1545 (nb_ (by decide))
  have a1572 := (K1545.2.2.1 (b + 1) (lt_N n1541 (by decide))).trans a1516
  have a1573 := (K1545.2.2.1 (b + 2) (lt_N n1541 (by decide))).trans a1517
  have a1574 := (K1545.2.2.1 (b + 3) (lt_N n1541 (by decide))).trans a1518
  have a1575 := (K1545.2.2.1 (b + 4) (lt_N n1541 (by decide))).trans a1519
  have a1576 := (K1545.2.2.1 (b + 5) (lt_N n1541 (by decide))).trans a1520
  have a1577 := (K1545.2.2.1 (b + 6) (lt_N n1541 (by decide))).trans a1521
  have a1578 := (K1545.2.2.1 (b + 7) (lt_N n1541 (by decide))).trans a1522
  have a1579 := (K1545.2.2.1 (b + 8) (lt_N n1541 (by decide))).trans a1523
  have a1580 := (K1545.2.2.1 (b + 9) (lt_N n1541 (by decide))).trans a1524
  have a1581 := (K1545.2.2.1 (b + 10) (lt_N n1541 (by decide))).trans a1525
  have a1582 := (K1545.2.2.1 (b + 11) (lt_N n1541 (by decide))).trans a1526
  have a1583 := (K1545.2.2.1 (b + 12) (lt_N n1541 (by decide))).trans a1527
  have a1584 := (K1545.2.2.1 (b + 13) (lt_N n1541 (by decide))).trans a1528
  have a1585 := (K1545.2.2.1 (b + 14) (lt_N n1541 (by decide))).trans a1529
  have a1586 := (K1545.2.2.1 (b + 15) (lt_N n1541 (by decide))).trans a1530
  have a1587 := (K1545.2.2.1 (b + 16) (lt_N n1541 (by decide))).trans a1531
  have a1588 := (K1545.2.2.1 (b + 17) (lt_N n1541 (by decide))).trans a1532
  have a1589 := (K1545.2.2.1 (b + 18) (lt_N n1541 (by decide))).trans a1533
  have a1590 := (K1545.2.2.1 (b + 19) (lt_N n1541 (by decide))).trans a1534
  have a1591 := (K1545.2.2.1 (b + 20) (lt_N n1541 (by decide))).trans a1535
  have a1592 := (K1545.2.2.1 (b + 21) (lt_N n1541 (by decide))).trans a1536
  have a1593 := (K1545.2.2.1 (b + 22) (lt_N n1541 (by decide))).trans a1537
  have a1594 := (K1545.2.2.1 (b + 23) (lt_N n1541 (by decide))).trans a1538
  have a1595 := (K1545.2.2.1 b (lt_N0 n1541 (by decide))).trans a1491
  have s1596 := (K1545.2.2.2 b (lt_N0 n1541 (by decide)) (nb_l (by decide))).trans s1492
  have f1597 := isI_new s1548 K1545 n1546
  have k1598 := keep_tr (b := b) k1540 K1545 (Or.inr (ge_N hN (by decide)))
  have n1599 : Y1542.N = b + 25 := n1546
  refine g_putR C1544 hXi (i := b) (ty := (.array .int)) (ty0 := tyX7) (k := 54) (Nc := 56) (Cn := RX7) (T := TX7) (ci := 7) (lt_N0 n1599 (by decide)) a1595 s1596 rfl rfl (fun w hw => List.mem_cons_of_mem _ (inX7 w hw)) tyX7_ok nmX7 (by decide) (List.mem_cons_of_mem _ mF_RX7_80) rfl rfl rfl rfl rfl rfl (by decide : 54 < 56) (rt (fun c => [.int (c.1 0), .ref x2, .int (c.1 2), .ref x25, .ref x52, .ref x83, .int (c.1 6), .int (c.1 7), .int (c.1 8), .ref x118, .int (c.1 10), .ref x157, .int (c.1 12), .ref x200, .ref x247, .ref x298, .int (c.1 16), .int (c.1 17), .int (c.1 18), .ref x353, .int (c.1 20), .int (c.1 21), .int (c.1 22), .ref x412, .ref x475, .ref x542, .int (c.1 26), .int (c.1 27), .int (c.1 28), .int (c.1 29), .int (c.1 30), .int (c.1 31), .int (c.1 32), .ref x613, .ref x688, .ref x767, .ref x850, .int (c.1 37), .ref x937, .int (c.1 39), .ref x1028, .int (c.1 41), .ref x1123, .int (c.1 43), .int (c.1 44), .int (c.1 45), .int (c.1 46), .int (c.1 47), .int (c.1 48), .ref x1222, .int (c.1 50), .int (c.1 51), .ref x1325, .ref x1432, .ref x1543, .int (c.1 55)]) 7) rfl dX7_init_195 (fun Y1600 C1601 K1602 n1603 a1604 s1605 => ?_)
  have f1606 := isI_tr f1549 K1602 (nb_r (by decide))
  have f1607 := isI_tr f1550 K1602 (nb_r (by decide))
  have f1608 := isI_tr f1551 K1602 (nb_r (by decide))
  have f1609 := isI_tr f1552 K1602 (nb_r (by decide))
  have f1610 := isI_tr f1553 K1602 (nb_r (by decide))
  have f1611 := isI_tr f1554 K1602 (nb_r (by decide))
  have f1612 := isI_tr f1555 K1602 (nb_r (by decide))
  have f1613 := isI_tr f1556 K1602 (nb_r (by decide))
  have f1614 := isI_tr f1557 K1602 (nb_r (by decide))
  have f1615 := isI_tr f1558 K1602 (nb_r (by decide))
  have f1616 := isI_tr f1559 K1602 (nb_r (by decide))
  have f1617 := isI_tr f1560 K1602 (nb_r (by decide))
  have f1618 := isI_tr f1561 K1602 (nb_r (by decide))
  have f1619 := isI_tr f1562 K1602 (nb_r (by decide))
  have f1620 := isZ_tr f1563 K1602 (nb_r (by decide))
  have f1621 := isI_tr f1564 K1602 (nb_r (by decide))
  have f1622 := isI_tr f1565 K1602 (nb_r (by decide))
  have f1623 := isI_tr f1566 K1602 (nb_r (by decide))
  have f1624 := isI_tr f1567 K1602 (nb_r (by decide))
  have f1625 := isI_tr f1568 K1602 (nb_r (by decide))
  have f1626 := isI_tr f1569 K1602 (nb_r (by decide))
  have f1627 := isI_tr f1570 K1602 (nb_r (by decide))
  have f1628 := isI_tr f1571 K1602 (nb_r (by decide))
  have f1629 := isI_tr f1597 K1602 (nb_r (by decide))
  have a1630 := (K1602.2.2.1 (b + 1) (lt_N n1599 (by decide))).trans a1572
  have a1631 := (K1602.2.2.1 (b + 2) (lt_N n1599 (by decide))).trans a1573
  have a1632 := (K1602.2.2.1 (b + 3) (lt_N n1599 (by decide))).trans a1574
  have a1633 := (K1602.2.2.1 (b + 4) (lt_N n1599 (by decide))).trans a1575
  have a1634 := (K1602.2.2.1 (b + 5) (lt_N n1599 (by decide))).trans a1576
  have a1635 := (K1602.2.2.1 (b + 6) (lt_N n1599 (by decide))).trans a1577
  have a1636 := (K1602.2.2.1 (b + 7) (lt_N n1599 (by decide))).trans a1578
  have a1637 := (K1602.2.2.1 (b + 8) (lt_N n1599 (by decide))).trans a1579
  have a1638 := (K1602.2.2.1 (b + 9) (lt_N n1599 (by decide))).trans a1580
  have a1639 := (K1602.2.2.1 (b + 10) (lt_N n1599 (by decide))).trans a1581
  have a1640 := (K1602.2.2.1 (b + 11) (lt_N n1599 (by decide))).trans a1582
  have a1641 := (K1602.2.2.1 (b + 12) (lt_N n1599 (by decide))).trans a1583
  have a1642 := (K1602.2.2.1 (b + 13) (lt_N n1599 (by decide))).trans a1584
  have a1643 := (K1602.2.2.1 (b + 14) (lt_N n1599 (by decide))).trans a1585
  have a1644 := (K1602.2.2.1 (b + 15) (lt_N n1599 (by decide))).trans a1586
  have a1645 := (K1602.2.2.1 (b + 16) (lt_N n1599 (by decide))).trans a1587
  have a1646 := (K1602.2.2.1 (b + 17) (lt_N n1599 (by decide))).trans a1588
  have a1647 := (K1602.2.2.1 (b + 18) (lt_N n1599 (by decide))).trans a1589
  have a1648 := (K1602.2.2.1 (b + 19) (lt_N n1599 (by decide))).trans a1590
  have a1649 := (K1602.2.2.1 (b + 20) (lt_N n1599 (by decide))).trans a1591
  have a1650 := (K1602.2.2.1 (b + 21) (lt_N n1599 (by decide))).trans a1592
  have a1651 := (K1602.2.2.1 (b + 22) (lt_N n1599 (by decide))).trans a1593
  have a1652 := (K1602.2.2.1 (b + 23) (lt_N n1599 (by decide))).trans a1594
  have a1653 := (K1602.2.2.1 (b + 24) (lt_N n1599 (by decide))).trans a1547
  have a1654 := (K1602.2.2.1 b (lt_N0 n1599 (by decide))).trans a1595
  have k1655 := keep_tr (b := b) k1598 K1602 (Or.inl rfl)
  have n1656 : Y1600.N = b + 25 := n1603.trans n1599
  have f1657 : isX7 Y1600 b := ⟨(lt_N0 n1656 (by decide)), by rw [s1605]; unfold sX7; rw [a1630, a1631, a1632, a1633, a1634, a1635, a1636, a1637, a1638, a1639, a1640, a1641, a1642, a1643, a1644, a1645, a1646, a1647, a1648, a1649, a1650, a1651, a1652, a1653], f1606, f1607, f1608, f1609, f1610, f1611, f1612, f1613, f1614, f1615, f1616, f1617, f1618, f1619, f1620, f1621, f1622, f1623, f1624, f1625, f1626, f1627, f1628, f1629⟩
  rw [← a1604]
  exact sf_X7_init C1601 (fun pc lv μ' hd q => hr pc lv Y1600 μ' hd C1601 k1655 ⟨n1656, f1657, q⟩) (cx_YI C1601) f1657 h
