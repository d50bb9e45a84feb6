def SX6_shortest_2 (X : XT) (Y : YT) (b : Nat) : Int32 → Mem → Prop := fun v1 μ => G X Y 2 2 [(0, .ref (Y.ad b)), (1, .int v1)] [] μ
set_option maxRecDepth 20000 in
set_option maxHeartbeats 4000000 in
theorem tX6_shortest_2 {X : XT} {Y : YT} {l0 : Launch} {b : Nat} {Q : Int32 → Mem → Prop} (C : Cx X Y 2 cX6_shortest RX6 WX6_shortest (rmB 7 182) l0) (hr : RI X Y cX6_shortest .int Q) (hI : YI Y) (h0 : isX6 Y b) (v1 : Int32) (μ : Mem) (h : nX6_shortest_2 b Q (SX6_shortest_2 X Y b) v1 μ) : G X Y 2 2 [(0, .ref (Y.ad b)), (1, .int v1)] [] μ := by
  unfold nX6_shortest_2 at h
  refine g_iload_n C 1 dX6_shortest_2 rfl ?_
  refine g_iconst C (v := (5 : Int32)) dX6_shortest_3 (by decide) ?_
  refine g_icmp_gt C 42 dX6_shortest_4 (by decide) (fun c1 => ?_) (fun c1 => ?_)
  · replace h := h.1 c1
    refine g_bipush C (v := (-4 : Int32)) dX6_shortest_42 (by decide) ?_
    exact hr _ _ _ _ _ dX6_shortest_44 rfl h
  · replace h := h.2 c1
    refine g_aload_n C 0 dX6_shortest_7 rfl ?_
    refine gf_RX6_62 C h0 dX6_shortest_8 ?_
    refine g_aload_n C 0 dX6_shortest_11 rfl ?_
    refine gf_RX6_10 C h0 dX6_shortest_12 ?_
    refine g_aload_n C 0 dX6_shortest_15 rfl ?_
    refine gf_RX6_33 C h0 dX6_shortest_16 ?_
    refine g_iload_n C 1 dX6_shortest_19 rfl ?_
    refine g_iconst C (v := (0 : Int32)) dX6_shortest_20 (by decide) ?_
    refine g_callVV C [.ref (Y.ad (b + 1)), .ref (Y.ad (b + 40)), .int v1, .int ((0 : Int32))] [] (ok_X3_lookAtRows hI (isX6_search h0) (isX6_rules h0) (isX6_kitchen h0) h) (cw_RX6_242 _) rfl dc_X3_lookAtRows ⟨Nat.le_of_ble_eq_true rfl, Nat.le_of_ble_eq_true rfl⟩ (isX3_lt (isX6_search h0)) (isX3_sh (isX6_search h0)) rfl rfl rfl rfl (Nat.le_of_ble_eq_true rfl) dX6_shortest_21 (fun m2 h => ?_)
    refine g_aload_n C 0 dX6_shortest_24 rfl ?_
    refine gf_RX6_62 C h0 dX6_shortest_25 ?_
    refine gf_RX6_276 C (isX6_search h0) dX6_shortest_28 ?_
    refine g_if_le C 36 dX6_shortest_31 (by decide) (fun c4 => ?_) (fun c4 => ?_)
    · replace h := h.1 c4
      refine g_iinc C (v := v1 + 1) 1 [(1, .int (v1 + 1)), (0, .ref (Y.ad b))] dX6_shortest_36 rfl rfl (by decide) rfl ?_
      refine g_goto C 2 dX6_shortest_39 (by decide) ?_
      refine g_lv (lv2 := [(0, .ref (Y.ad b)), (1, .int (v1 + 1))]) [1, 0] ?_ rfl
      exact h
    · replace h := h.2 c4
      refine g_iload_n C 1 dX6_shortest_34 rfl ?_
      exact hr _ _ _ _ _ dX6_shortest_35 rfl h
set_option maxRecDepth 20000 in
set_option maxHeartbeats 4000000 in
theorem ok_X6_shortest {Y : YT} {l0 : Launch} {b : Nat} {μ : Mem} {Q : Int32 → Mem → Prop} (hI : YI Y) (h0 : isX6 Y b) (h : PX6_shortest b μ Q) : MI l0 yX6_shortest WX6_shortest 7 182 Y [.ref (Y.ad b)] μ Q := by
  refine mI_of (ty := .int) (cc := cX6_shortest) (maxL := 2) (by decide +kernel) rfl hI (Nat.le_of_ble_eq_true rfl) (fun X C hr => ?_)
  replace C : Cx X Y 2 cX6_shortest RX6 WX6_shortest (rmB 7 182) l0 := C
  refine g_lv (lv2 := [(0, .ref (Y.ad b))]) [0] ?_ rfl
  unfold PX6_shortest at h
  replace h := h (SX6_shortest_2 X Y b) (fun v1 μ z => tX6_shortest_2 C hr hI h0 v1 μ z)
  refine g_iconst C (v := (1 : Int32)) dX6_shortest_0 (by decide) ?_
  refine g_istore_n C [(1, .int ((1 : Int32))), (0, .ref (Y.ad b))] dX6_shortest_1 (by decide) rfl ?_
  refine g_lv (lv2 := [(0, .ref (Y.ad b)), (1, .int ((1 : Int32)))]) [1, 0] ?_ rfl
  exact h
set_option maxRecDepth 20000 in
set_option maxHeartbeats 4000000 in
theorem ok_X6_small {Y : YT} {l0 : Launch} {b : Nat} {p1 : Int32} {p2 : Int32} {μ : Mem} {Q : Int32 → Mem → Prop} (hI : YI Y) (h0 : isX6 Y b) (h : PX6_small b p1 p2 μ Q) : MI l0 yX6_small WX6_small 7 182 Y [.ref (Y.ad b), .int p1, .int p2] μ Q := by
  refine mI_of (ty := .int) (cc := cX6_small) (maxL := 3) (by decide +kernel) rfl hI (Nat.le_of_ble_eq_true rfl) (fun X C hr => ?_)
  replace C : Cx X Y 3 cX6_small RX6 WX6_small (rmB 7 182) l0 := C
  refine g_lv (lv2 := [(0, .ref (Y.ad b)), (1, .int p1), (2, .int p2)]) [0, 1, 2] ?_ rfl
  unfold PX6_small at h
  refine g_aload_n C 0 dX6_small_0 rfl ?_
  refine gf_RX6_10 C h0 dX6_small_1 ?_
  refine g_iload_n C 1 dX6_small_4 rfl ?_
  refine g_callVI C [.int p1] [] (ok_X2_hasThing hI (isX6_rules h0) h) (cw_RX6_103 _) rfl dc_X2_hasThing ⟨Nat.le_of_ble_eq_true rfl, Nat.le_of_ble_eq_true rfl⟩ (isX2_lt (isX6_rules h0)) (isX2_sh (isX6_rules h0)) rfl rfl rfl rfl (Nat.le_of_ble_eq_true rfl) dX6_small_5 (fun r2 m1 h => ?_)
  refine g_if_eq C 21 dX6_small_8 (by decide) (fun c3 => ?_) (fun c3 => ?_)
  · replace h := h.1 c3
    refine g_iconst C (v := (-1 : Int32)) dX6_small_21 (by decide) ?_
    exact hr _ _ _ _ _ dX6_small_22 rfl h
  · replace h := h.2 c3
    refine g_iload_n C 2 dX6_small_11 rfl ?_
    refine g_iconst C (v := (1 : Int32)) dX6_small_12 (by decide) ?_
    refine g_icmp_lt C 21 dX6_small_13 (by decide) (fun c4 => ?_) (fun c4 => ?_)
    · replace h := h.1 c4
      refine g_iconst C (v := (-1 : Int32)) dX6_small_21 (by decide) ?_
      exact hr _ _ _ _ _ dX6_small_22 rfl h
    · replace h := h.2 c4
      refine g_iload_n C 2 dX6_small_16 rfl ?_
      refine g_iconst C (v := (4 : Int32)) dX6_small_17 (by decide) ?_
      refine g_icmp_le C 23 dX6_small_18 (by decide) (fun c5 => ?_) (fun c5 => ?_)
      · replace h := h.1 c5
        refine g_aload_n C 0 dX6_small_23 rfl ?_
        refine gf_RX6_16 C h0 dX6_small_24 ?_
        refine g_aload_n C 0 dX6_small_27 rfl ?_
        refine gf_RX6_10 C h0 dX6_small_28 ?_
        refine g_iload_n C 1 dX6_small_31 rfl ?_
        refine g_callVV C [.ref (Y.ad (b + 1)), .int p1] [] (ok_X2_copyWithSmallDish hI (isX6_otherRules h0) (isX6_rules h0) h) (cw_RX6_288 _) rfl dc_X2_copyWithSmallDish ⟨Nat.le_of_ble_eq_true rfl, Nat.le_of_ble_eq_true rfl⟩ (isX2_lt (isX6_otherRules h0)) (isX2_sh (isX6_otherRules h0)) rfl rfl rfl rfl (Nat.le_of_ble_eq_true rfl) dX6_small_32 (fun m6 h => ?_)
        refine g_aload_n C 0 dX6_small_35 rfl ?_
        refine gf_RX6_62 C h0 dX6_small_36 ?_
        refine g_aload_n C 0 dX6_small_39 rfl ?_
        refine gf_RX6_16 C h0 dX6_small_40 ?_
        refine g_aload_n C 0 dX6_small_43 rfl ?_
        refine gf_RX6_33 C h0 dX6_small_44 ?_
        refine g_iload_n C 2 dX6_small_47 rfl ?_
        refine g_iconst C (v := (0 : Int32)) dX6_small_48 (by decide) ?_
        refine g_callVV C [.ref (Y.ad (b + 13)), .ref (Y.ad (b + 40)), .int p2, .int ((0 : Int32))] [] (ok_X3_lookAtRows hI (isX6_search h0) (isX6_otherRules h0) (isX6_kitchen h0) h) (cw_RX6_242 _) rfl dc_X3_lookAtRows ⟨Nat.le_of_ble_eq_true rfl, Nat.le_of_ble_eq_true rfl⟩ (isX3_lt (isX6_search h0)) (isX3_sh (isX6_search h0)) rfl rfl rfl rfl (Nat.le_of_ble_eq_true rfl) dX6_small_49 (fun m8 h => ?_)
        refine g_aload_n C 0 dX6_small_52 rfl ?_
        refine gf_RX6_62 C h0 dX6_small_53 ?_
        refine gf_RX6_276 C (isX6_search h0) dX6_small_56 ?_
        exact hr _ _ _ _ _ dX6_small_59 rfl h
      · replace h := h.2 c5
        refine g_iconst C (v := (-1 : Int32)) dX6_small_21 (by decide) ?_
        exact hr _ _ _ _ _ dX6_small_22 rfl h
def SX6_dish_20 (X : XT) (Y : YT) (b : Nat) (p1 : Int32) : Int32 → Int32 → Int32 → Mem → Prop := fun v2 v3 v4 μ => G X Y 5 20 [(0, .ref (Y.ad b)), (1, .int p1), (2, .int v2), (3, .int v3), (4, .int v4)] [] μ
set_option maxRecDepth 20000 in
set_option maxHeartbeats 4000000 in
theorem tX6_dish_84 {X : XT} {Y : YT} {l0 : Launch} {b : Nat} {p1 : Int32} {Q : Int32 → Mem → Prop} (C : Cx X Y 5 cX6_dish RX6 WX6_dish (rmB 7 182) l0) (hr : RI X Y cX6_dish .int Q) (hI : YI Y) (h0 : isX6 Y b) (v2 : Int32) (v3 : Int32) (v4 : Int32) (μ : Mem) (h : nX6_dish_84 b p1 Q (SX6_dish_20 X Y b p1) v2 v3 v4 μ) : G X Y 5 84 [(0, .ref (Y.ad b)), (1, .int p1), (2, .int v2), (3, .int v3), (4, .int v4)] [] μ := by
  unfold nX6_dish_84 at h
  refine g_iinc C (v := v4 + 1) 4 [(4, .int (v4 + 1)), (0, .ref (Y.ad b)), (1, .int p1), (2, .int v2), (3, .int v3)] dX6_dish_84 rfl rfl (by decide) rfl ?_
  refine g_goto C 20 dX6_dish_87 (by decide) ?_
  refine g_lv (lv2 := [(0, .ref (Y.ad b)), (1, .int p1), (2, .int v2), (3, .int v3), (4, .int (v4 + 1))]) [1, 2, 3, 4, 0] ?_ rfl
  exact h
set_option maxRecDepth 20000 in
set_option maxHeartbeats 4000000 in
theorem tX6_dish_20 {X : XT} {Y : YT} {l0 : Launch} {b : Nat} {p1 : Int32} {Q : Int32 → Mem → Prop} (C : Cx X Y 5 cX6_dish RX6 WX6_dish (rmB 7 182) l0) (hr : RI X Y cX6_dish .int Q) (hI : YI Y) (h0 : isX6 Y b) (v2 : Int32) (v3 : Int32) (v4 : Int32) (μ : Mem) (h : nX6_dish_20 b p1 Q (SX6_dish_20 X Y b p1) v2 v3 v4 μ) : G X Y 5 20 [(0, .ref (Y.ad b)), (1, .int p1), (2, .int v2), (3, .int v3), (4, .int v4)] [] μ := by
  unfold nX6_dish_20 at h
  refine g_iload C 4 dX6_dish_20 rfl ?_
  refine g_aload_n C 0 dX6_dish_22 rfl ?_
  refine gf_RX6_10 C h0 dX6_dish_23 ?_
  refine gf_RX6_292 C (isX6_rules h0) dX6_dish_26 ?_
  refine g_icmp_ge C 90 dX6_dish_29 (by decide) (fun c3 => ?_) (fun c3 => ?_)
  · replace h := h.1 c3
    refine g_iload_n C 2 dX6_dish_90 rfl ?_
    exact hr _ _ _ _ _ dX6_dish_91 rfl h
  · replace h := h.2 c3
    refine g_aload_n C 0 dX6_dish_32 rfl ?_
    refine gf_RX6_16 C h0 dX6_dish_33 ?_
    refine g_aload_n C 0 dX6_dish_36 rfl ?_
    refine gf_RX6_10 C h0 dX6_dish_37 ?_
    refine g_iload C 4 dX6_dish_40 rfl ?_
    refine g_callVV C [.ref (Y.ad (b + 1)), .int v4] [] (ok_X2_copyWithSmallDish hI (isX6_otherRules h0) (isX6_rules h0) h) (cw_RX6_288 _) rfl dc_X2_copyWithSmallDish ⟨Nat.le_of_ble_eq_true rfl, Nat.le_of_ble_eq_true rfl⟩ (isX2_lt (isX6_otherRules h0)) (isX2_sh (isX6_otherRules h0)) rfl rfl rfl rfl (Nat.le_of_ble_eq_true rfl) dX6_dish_42 (fun m4 h => ?_)
    refine g_aload_n C 0 dX6_dish_45 rfl ?_
    refine gf_RX6_62 C h0 dX6_dish_46 ?_
    refine g_aload_n C 0 dX6_dish_49 rfl ?_
    refine gf_RX6_16 C h0 dX6_dish_50 ?_
    refine g_aload_n C 0 dX6_dish_53 rfl ?_
    refine gf_RX6_33 C h0 dX6_dish_54 ?_
    refine g_iload_n C 1 dX6_dish_57 rfl ?_
    refine g_iconst C (v := (0 : Int32)) dX6_dish_58 (by decide) ?_
    refine g_callVV C [.ref (Y.ad (b + 13)), .ref (Y.ad (b + 40)), .int p1, .int ((0 : Int32))] [] (ok_X3_lookAtRows hI (isX6_search h0) (isX6_otherRules h0) (isX6_kitchen h0) h) (cw_RX6_242 _) rfl dc_X3_lookAtRows ⟨Nat.le_of_ble_eq_true rfl, Nat.le_of_ble_eq_true rfl⟩ (isX3_lt (isX6_search h0)) (isX3_sh (isX6_search h0)) rfl rfl rfl rfl (Nat.le_of_ble_eq_true rfl) dX6_dish_59 (fun m6 h => ?_)
    refine g_aload_n C 0 dX6_dish_62 rfl ?_
    refine gf_RX6_62 C h0 dX6_dish_63 ?_
    refine gf_RX6_276 C (isX6_search h0) dX6_dish_66 ?_
    refine g_iload_n C 3 dX6_dish_69 rfl ?_
    refine g_icmp_le C 84 dX6_dish_70 (by decide) (fun c8 => ?_) (fun c8 => ?_)
    · replace h := h.1 c8
      exact tX6_dish_84 C hr hI h0 _ _ _ _ h
    · replace h := h.2 c8
      refine g_aload_n C 0 dX6_dish_73 rfl ?_
      refine gf_RX6_62 C h0 dX6_dish_74 ?_
      refine gf_RX6_276 C (isX6_search h0) dX6_dish_77 ?_
      refine g_istore_n C [(3, .int (m6.1 (b + 60) 15)), (0, .ref (Y.ad b)), (1, .int p1), (2, .int v2), (4, .int v4)] dX6_dish_80 (by decide) rfl ?_
      refine g_iload C 4 dX6_dish_81 rfl ?_
      refine g_istore_n C [(2, .int v4), (3, .int (m6.1 (b + 60) 15)), (0, .ref (Y.ad b)), (1, .int p1), (4, .int v4)] dX6_dish_83 (by decide) rfl ?_
      refine g_lv (lv2 := [(0, .ref (Y.ad b)), (1, .int p1), (2, .int v4), (3, .int (m6.1 (b + 60) 15)), (4, .int v4)]) [2, 3, 0, 1, 4] ?_ rfl
      exact tX6_dish_84 C hr hI h0 _ _ _ _ h
set_option maxRecDepth 20000 in
set_option maxHeartbeats 4000000 in
theorem ok_X6_dish {Y : YT} {l0 : Launch} {b : Nat} {p1 : Int32} {μ : Mem} {Q : Int32 → Mem → Prop} (hI : YI Y) (h0 : isX6 Y b) (h : PX6_dish b p1 μ Q) : MI l0 yX6_dish WX6_dish 7 182 Y [.ref (Y.ad b), .int p1] μ Q := by
  refine mI_of (ty := .int) (cc := cX6_dish) (maxL := 5) (by decide +kernel) rfl hI (Nat.le_of_ble_eq_true rfl) (fun X C hr => ?_)
  replace C : Cx X Y 5 cX6_dish RX6 WX6_dish (rmB 7 182) l0 := C
  refine g_lv (lv2 := [(0, .ref (Y.ad b)), (1, .int p1)]) [0, 1] ?_ rfl
  unfold PX6_dish at h
  replace h := h (SX6_dish_20 X Y b p1) (fun v2 v3 v4 μ z => tX6_dish_20 C hr hI h0 v2 v3 v4 μ z)
  refine g_iload_n C 1 dX6_dish_0 rfl ?_
  refine g_iconst C (v := (1 : Int32)) dX6_dish_1 (by decide) ?_
  refine g_icmp_lt C 10 dX6_dish_2 (by decide) (fun c1 => ?_) (fun c1 => ?_)
  · replace h := h.1 c1
    refine g_iconst C (v := (-1 : Int32)) dX6_dish_10 (by decide) ?_
    exact hr _ _ _ _ _ dX6_dish_11 rfl h
  · replace h := h.2 c1
    refine g_iload_n C 1 dX6_dish_5 rfl ?_
    refine g_iconst C (v := (4 : Int32)) dX6_dish_6 (by decide) ?_
    refine g_icmp_le C 12 dX6_dish_7 (by decide) (fun c2 => ?_) (fun c2 => ?_)
    · replace h := h.1 c2
      refine g_bipush C (v := (-4 : Int32)) dX6_dish_12 (by decide) ?_
      refine g_istore_n C [(2, .int ((-4 : Int32))), (0, .ref (Y.ad b)), (1, .int p1)] dX6_dish_14 (by decide) rfl ?_
      refine g_iconst C (v := (-1 : Int32)) dX6_dish_15 (by decide) ?_
      refine g_istore_n C [(3, .int ((-1 : Int32))), (2, .int ((-4 : Int32))), (0, .ref (Y.ad b)), (1, .int p1)] dX6_dish_16 (by decide) rfl ?_
      refine g_iconst C (v := (0 : Int32)) dX6_dish_17 (by decide) ?_
      refine g_istore C [(4, .int ((0 : Int32))), (3, .int ((-1 : Int32))), (2, .int ((-4 : Int32))), (0, .ref (Y.ad b)), (1, .int p1)] dX6_dish_18 (by decide) rfl ?_
      refine g_lv (lv2 := [(0, .ref (Y.ad b)), (1, .int p1), (2, .int ((-4 : Int32))), (3, .int ((-1 : Int32))), (4, .int ((0 : Int32)))]) [3, 4, 2, 1, 0] ?_ rfl
      exact h
    · replace h := h.2 c2
      refine g_iconst C (v := (-1 : Int32)) dX6_dish_10 (by decide) ?_
      exact hr _ _ _ _ _ dX6_dish_11 rfl h
set_option maxRecDepth 20000 in
set_option maxHeartbeats 4000000 in
theorem ok_X6_cheap {Y : YT} {l0 : Launch} {b : Nat} {p1 : Int32} {p2 : Int32} {p3 : Int32} {μ : Mem} {Q : Int32 → Mem → Prop} (hI : YI Y) (h0 : isX6 Y b) (h : PX6_cheap b p1 p2 p3 μ Q) : MI l0 yX6_cheap WX6_cheap 7 182 Y [.ref (Y.ad b), .int p1, .int p2, .int p3] μ Q := by
  refine mI_of (ty := .int) (cc := cX6_cheap) (maxL := 4) (by decide +kernel) rfl hI (Nat.le_of_ble_eq_true rfl) (fun X C hr => ?_)
  replace C : Cx X Y 4 cX6_cheap RX6 WX6_cheap (rmB 7 182) l0 := C
  refine g_lv (lv2 := [(0, .ref (Y.ad b)), (1, .int p1), (2, .int p2), (3, .int p3)]) [0, 1, 2, 3] ?_ rfl
  unfold PX6_cheap at h
  refine g_aload_n C 0 dX6_cheap_0 rfl ?_
  refine gf_RX6_10 C h0 dX6_cheap_1 ?_
  refine g_iload_n C 1 dX6_cheap_4 rfl ?_
  refine g_callVI C [.int p1] [] (ok_X2_hasThing hI (isX6_rules h0) h) (cw_RX6_103 _) rfl dc_X2_hasThing ⟨Nat.le_of_ble_eq_true rfl, Nat.le_of_ble_eq_true rfl⟩ (isX2_lt (isX6_rules h0)) (isX2_sh (isX6_rules h0)) rfl rfl rfl rfl (Nat.le_of_ble_eq_true rfl) dX6_cheap_5 (fun r2 m1 h => ?_)
  refine g_if_eq C 31 dX6_cheap_8 (by decide) (fun c3 => ?_) (fun c3 => ?_)
  · replace h := h.1 c3
    refine g_iconst C (v := (-1 : Int32)) dX6_cheap_31 (by decide) ?_
    exact hr _ _ _ _ _ dX6_cheap_32 rfl h
  · replace h := h.2 c3
    refine g_iload_n C 2 dX6_cheap_11 rfl ?_
    refine g_if_lt C 31 dX6_cheap_12 (by decide) (fun c4 => ?_) (fun c4 => ?_)
    · replace h := h.1 c4
      refine g_iconst C (v := (-1 : Int32)) dX6_cheap_31 (by decide) ?_
      exact hr _ _ _ _ _ dX6_cheap_32 rfl h
    · replace h := h.2 c4
      refine g_iload_n C 2 dX6_cheap_15 rfl ?_
      refine g_bipush C (v := (60 : Int32)) dX6_cheap_16 (by decide) ?_
      refine g_icmp_gt C 31 dX6_cheap_18 (by decide) (fun c5 => ?_) (fun c5 => ?_)
      · replace h := h.1 c5
        refine g_iconst C (v := (-1 : Int32)) dX6_cheap_31 (by decide) ?_
        exact hr _ _ _ _ _ dX6_cheap_32 rfl h
      · replace h := h.2 c5
        refine g_iload_n C 3 dX6_cheap_21 rfl ?_
        refine g_iconst C (v := (1 : Int32)) dX6_cheap_22 (by decide) ?_
        refine g_icmp_lt C 31 dX6_cheap_23 (by decide) (fun c6 => ?_) (fun c6 => ?_)
        · replace h := h.1 c6
          refine g_iconst C (v := (-1 : Int32)) dX6_cheap_31 (by decide) ?_
          exact hr _ _ _ _ _ dX6_cheap_32 rfl h
        · replace h := h.2 c6
          refine g_iload_n C 3 dX6_cheap_26 rfl ?_
          refine g_iconst C (v := (5 : Int32)) dX6_cheap_27 (by decide) ?_
          refine g_icmp_le C 33 dX6_cheap_28 (by decide) (fun c7 => ?_) (fun c7 => ?_)
          · replace h := h.1 c7
            refine g_aload_n C 0 dX6_cheap_33 rfl ?_
            refine gf_RX6_16 C h0 dX6_cheap_34 ?_
            refine g_aload_n C 0 dX6_cheap_37 rfl ?_
            refine gf_RX6_10 C h0 dX6_cheap_38 ?_
            refine g_callVV C [.ref (Y.ad (b + 1))] [] (ok_X2_copyFrom hI (isX6_otherRules h0) (isX6_rules h0) h) (cw_RX6_96 _) rfl dc_X2_copyFrom ⟨Nat.le_of_ble_eq_true rfl, Nat.le_of_ble_eq_true rfl⟩ (isX2_lt (isX6_otherRules h0)) (isX2_sh (isX6_otherRules h0)) rfl rfl rfl rfl (Nat.le_of_ble_eq_true rfl) dX6_cheap_41 (fun m8 h => ?_)
            refine g_aload_n C 0 dX6_cheap_44 rfl ?_
            refine gf_RX6_16 C h0 dX6_cheap_45 ?_
            refine gf_RX6_113 C (isX6_otherRules h0) dX6_cheap_48 ?_
            refine g_iload_n C 1 dX6_cheap_51 rfl ?_
            refine g_iload_n C 2 dX6_cheap_52 rfl ?_
            refine g_iast C (isX2_price (isX6_otherRules h0)).1 (isX2_price (isX6_otherRules h0)).2 h.1 dX6_cheap_53 ?_
            replace h := h.2
            refine g_aload_n C 0 dX6_cheap_54 rfl ?_
            refine gf_RX6_62 C h0 dX6_cheap_55 ?_
            refine g_aload_n C 0 dX6_cheap_58 rfl ?_
            refine gf_RX6_16 C h0 dX6_cheap_59 ?_
            refine g_aload_n C 0 dX6_cheap_62 rfl ?_
            refine gf_RX6_33 C h0 dX6_cheap_63 ?_
            refine g_iload_n C 3 dX6_cheap_66 rfl ?_
            refine g_iconst C (v := (0 : Int32)) dX6_cheap_67 (by decide) ?_
            refine g_callVV C [.ref (Y.ad (b + 13)), .ref (Y.ad (b + 40)), .int p3, .int ((0 : Int32))] [] (ok_X3_lookAtRows hI (isX6_search h0) (isX6_otherRules h0) (isX6_kitchen h0) h) (cw_RX6_242 _) rfl dc_X3_lookAtRows ⟨Nat.le_of_ble_eq_true rfl, Nat.le_of_ble_eq_true rfl⟩ (isX3_lt (isX6_search h0)) (isX3_sh (isX6_search h0)) rfl rfl rfl rfl (Nat.le_of_ble_eq_true rfl) dX6_cheap_68 (fun m10 h => ?_)
            refine g_aload_n C 0 dX6_cheap_71 rfl ?_
            refine gf_RX6_62 C h0 dX6_cheap_72 ?_
            refine gf_RX6_246 C (isX6_search h0) dX6_cheap_75 ?_
            refine g_if_ne C 86 dX6_cheap_78 (by decide) (fun c12 => ?_) (fun c12 => ?_)
            · replace h := h.1 c12
              refine g_aload_n C 0 dX6_cheap_86 rfl ?_
              refine gf_RX6_62 C h0 dX6_cheap_87 ?_
              refine gf_RX6_252 C (isX6_search h0) dX6_cheap_90 ?_
              exact hr _ _ _ _ _ dX6_cheap_93 rfl h
            · replace h := h.2 c12
              refine g_bipush C (v := (-4 : Int32)) dX6_cheap_81 (by decide) ?_
              refine g_goto C 93 dX6_cheap_83 (by decide) ?_
              exact hr _ _ _ _ _ dX6_cheap_93 rfl h
          · replace h := h.2 c7
            refine g_iconst C (v := (-1 : Int32)) dX6_cheap_31 (by decide) ?_
            exact hr _ _ _ _ _ dX6_cheap_32 rfl h
set_option maxRecDepth 20000 in
set_option maxHeartbeats 4000000 in
theorem ok_X6_cold {Y : YT} {l0 : Launch} {b : Nat} {p1 : Int32} {p2 : Int32} {μ : Mem} {Q : Int32 → Mem → Prop} (hI : YI Y) (h0 : isX6 Y b) (h : PX6_cold b p1 p2 μ Q) : MI l0 yX6_cold WX6_cold 7 182 Y [.ref (Y.ad b), .int p1, .int p2] μ Q := by
  refine mI_of (ty := .int) (cc := cX6_cold) (maxL := 3) (by decide +kernel) rfl hI (Nat.le_of_ble_eq_true rfl) (fun X C hr => ?_)
  replace C : Cx X Y 3 cX6_cold RX6 WX6_cold (rmB 7 182) l0 := C
  refine g_lv (lv2 := [(0, .ref (Y.ad b)), (1, .int p1), (2, .int p2)]) [0, 1, 2] ?_ rfl
  unfold PX6_cold at h
  refine g_aload_n C 0 dX6_cold_0 rfl ?_
  refine gf_RX6_10 C h0 dX6_cold_1 ?_
  refine g_iload_n C 1 dX6_cold_4 rfl ?_
  refine g_callVI C [.int p1] [] (ok_X2_hasThing hI (isX6_rules h0) h) (cw_RX6_103 _) rfl dc_X2_hasThing ⟨Nat.le_of_ble_eq_true rfl, Nat.le_of_ble_eq_true rfl⟩ (isX2_lt (isX6_rules h0)) (isX2_sh (isX6_rules h0)) rfl rfl rfl rfl (Nat.le_of_ble_eq_true rfl) dX6_cold_5 (fun r2 m1 h => ?_)
  refine g_if_eq C 21 dX6_cold_8 (by decide) (fun c3 => ?_) (fun c3 => ?_)
  · replace h := h.1 c3
    refine g_iconst C (v := (-1 : Int32)) dX6_cold_21 (by decide) ?_
    exact hr _ _ _ _ _ dX6_cold_22 rfl h
  · replace h := h.2 c3
    refine g_iload_n C 2 dX6_cold_11 rfl ?_
    refine g_iconst C (v := (1 : Int32)) dX6_cold_12 (by decide) ?_
    refine g_icmp_lt C 21 dX6_cold_13 (by decide) (fun c4 => ?_) (fun c4 => ?_)
    · replace h := h.1 c4
      refine g_iconst C (v := (-1 : Int32)) dX6_cold_21 (by decide) ?_
      exact hr _ _ _ _ _ dX6_cold_22 rfl h
    · replace h := h.2 c4
      refine g_iload_n C 2 dX6_cold_16 rfl ?_
      refine g_iconst C (v := (5 : Int32)) dX6_cold_17 (by decide) ?_
      refine g_icmp_le C 23 dX6_cold_18 (by decide) (fun c5 => ?_) (fun c5 => ?_)
      · replace h := h.1 c5
        refine g_aload_n C 0 dX6_cold_23 rfl ?_
        refine gf_RX6_16 C h0 dX6_cold_24 ?_
        refine g_aload_n C 0 dX6_cold_27 rfl ?_
        refine gf_RX6_10 C h0 dX6_cold_28 ?_
        refine g_callVV C [.ref (Y.ad (b + 1))] [] (ok_X2_copyFrom hI (isX6_otherRules h0) (isX6_rules h0) h) (cw_RX6_96 _) rfl dc_X2_copyFrom ⟨Nat.le_of_ble_eq_true rfl, Nat.le_of_ble_eq_true rfl⟩ (isX2_lt (isX6_otherRules h0)) (isX2_sh (isX6_otherRules h0)) rfl rfl rfl rfl (Nat.le_of_ble_eq_true rfl) dX6_cold_31 (fun m6 h => ?_)
        refine g_aload_n C 0 dX6_cold_34 rfl ?_
        refine gf_RX6_16 C h0 dX6_cold_35 ?_
        refine gf_RX6_107 C (isX6_otherRules h0) dX6_cold_38 ?_
        refine g_iload_n C 1 dX6_cold_41 rfl ?_
        refine g_iconst C (v := (4 : Int32)) dX6_cold_42 (by decide) ?_
        refine g_aload_n C 0 dX6_cold_43 rfl ?_
        refine gf_RX6_10 C h0 dX6_cold_44 ?_
        refine gf_RX6_107 C (isX6_rules h0) dX6_cold_47 ?_
        refine g_iload_n C 1 dX6_cold_50 rfl ?_
        refine g_iald C (isX2_keeps (isX6_rules h0)).1 (isX2_keeps (isX6_rules h0)).2 h.1 dX6_cold_51 ?_
        replace h := h.2
        refine g_iconst C (v := (1 : Int32)) dX6_cold_52 (by decide) ?_
        refine g_iadd C dX6_cold_53 ?_
        refine g_min C (List.mem_cons_of_mem _ mM_RX6_295) (List.mem_cons_of_mem _ mLib_min_s) (List.mem_cons_of_mem _ mLib_math) (List.mem_cons_of_mem _ mLib_min_c) (Nat.le_of_ble_eq_true rfl) (Nat.le_of_ble_eq_true rfl) dX6_cold_54 ?_
        refine g_topi (fun x8 ex8 => ?_)
        replace h := h x8 ex8
        refine g_iast C (isX2_keeps (isX6_otherRules h0)).1 (isX2_keeps (isX6_otherRules h0)).2 h.1 dX6_cold_57 ?_
        replace h := h.2
        refine g_aload_n C 0 dX6_cold_58 rfl ?_
        refine gf_RX6_62 C h0 dX6_cold_59 ?_
        refine g_aload_n C 0 dX6_cold_62 rfl ?_
        refine gf_RX6_16 C h0 dX6_cold_63 ?_
        refine g_aload_n C 0 dX6_cold_66 rfl ?_
        refine gf_RX6_33 C h0 dX6_cold_67 ?_
        refine g_iload_n C 2 dX6_cold_70 rfl ?_
        refine g_iconst C (v := (0 : Int32)) dX6_cold_71 (by decide) ?_
        refine g_callVV C [.ref (Y.ad (b + 13)), .ref (Y.ad (b + 40)), .int p2, .int ((0 : Int32))] [] (ok_X3_lookAtRows hI (isX6_search h0) (isX6_otherRules h0) (isX6_kitchen h0) h) (cw_RX6_242 _) rfl dc_X3_lookAtRows ⟨Nat.le_of_ble_eq_true rfl, Nat.le_of_ble_eq_true rfl⟩ (isX3_lt (isX6_search h0)) (isX3_sh (isX6_search h0)) rfl rfl rfl rfl (Nat.le_of_ble_eq_true rfl) dX6_cold_72 (fun m9 h => ?_)
        refine g_aload_n C 0 dX6_cold_75 rfl ?_
        refine gf_RX6_62 C h0 dX6_cold_76 ?_
        refine gf_RX6_246 C (isX6_search h0) dX6_cold_79 ?_
        refine g_if_ne C 90 dX6_cold_82 (by decide) (fun c11 => ?_) (fun c11 => ?_)
        · replace h := h.1 c11
          refine g_aload_n C 0 dX6_cold_90 rfl ?_
          refine gf_RX6_62 C h0 dX6_cold_91 ?_
          refine gf_RX6_249 C (isX6_search h0) dX6_cold_94 ?_
          exact hr _ _ _ _ _ dX6_cold_97 rfl h
        · replace h := h.2 c11
          refine g_bipush C (v := (-4 : Int32)) dX6_cold_85 (by decide) ?_
          refine g_goto C 97 dX6_cold_87 (by decide) ?_
          exact hr _ _ _ _ _ dX6_cold_97 rfl h
      · replace h := h.2 c5
        refine g_iconst C (v := (-1 : Int32)) dX6_cold_21 (by decide) ?_
        exact hr _ _ _ _ _ dX6_cold_22 rfl h
set_option maxRecDepth 20000 in
set_option maxHeartbeats 4000000 in
theorem ok_X6_sheet {Y : YT} {l0 : Launch} {b : Nat} {p1 : Int32} {p2 : Int32} {p3 : Int32} {μ : Mem} {Q : Int32 → Mem → Prop} (hI : YI Y) (h0 : isX6 Y b) (h : PX6_sheet b p1 p2 p3 μ Q) : MI l0 yX6_sheet WX6_sheet 1 24 Y [.ref (Y.ad b), .int p1, .int p2, .int p3] μ Q := by
  refine mI_of (ty := .int) (cc := cX6_sheet) (maxL := 4) (by decide +kernel) rfl hI (Nat.le_of_ble_eq_true rfl) (fun X C hr => ?_)
  replace C : Cx X Y 4 cX6_sheet RX6 WX6_sheet (rmB 1 24) l0 := C
  refine g_lv (lv2 := [(0, .ref (Y.ad b)), (1, .int p1), (2, .int p2), (3, .int p3)]) [0, 1, 2, 3] ?_ rfl
  unfold PX6_sheet at h
  refine g_iload_n C 1 dX6_sheet_0 rfl ?_
  refine g_if_lt C 24 dX6_sheet_1 (by decide) (fun c1 => ?_) (fun c1 => ?_)
  · replace h := h.1 c1
    refine g_iconst C (v := (-1 : Int32)) dX6_sheet_24 (by decide) ?_
    exact hr _ _ _ _ _ dX6_sheet_25 rfl h
  · replace h := h.2 c1
    refine g_iload_n C 1 dX6_sheet_4 rfl ?_
    refine g_iconst C (v := (4 : Int32)) dX6_sheet_5 (by decide) ?_
    refine g_icmp_ge C 24 dX6_sheet_6 (by decide) (fun c2 => ?_) (fun c2 => ?_)
    · replace h := h.1 c2
      refine g_iconst C (v := (-1 : Int32)) dX6_sheet_24 (by decide) ?_
      exact hr _ _ _ _ _ dX6_sheet_25 rfl h
    · replace h := h.2 c2
      refine g_iload_n C 2 dX6_sheet_9 rfl ?_
      refine g_if_lt C 24 dX6_sheet_10 (by decide) (fun c3 => ?_) (fun c3 => ?_)
      · replace h := h.1 c3
        refine g_iconst C (v := (-1 : Int32)) dX6_sheet_24 (by decide) ?_
        exact hr _ _ _ _ _ dX6_sheet_25 rfl h
      · replace h := h.2 c3
        refine g_iload_n C 2 dX6_sheet_13 rfl ?_
        refine g_iconst C (v := (3 : Int32)) dX6_sheet_14 (by decide) ?_
        refine g_icmp_ge C 24 dX6_sheet_15 (by decide) (fun c4 => ?_) (fun c4 => ?_)
        · replace h := h.1 c4
          refine g_iconst C (v := (-1 : Int32)) dX6_sheet_24 (by decide) ?_
          exact hr _ _ _ _ _ dX6_sheet_25 rfl h
        · replace h := h.2 c4
          refine g_iload_n C 3 dX6_sheet_18 rfl ?_
          refine g_bipush C (v := (40 : Int32)) dX6_sheet_19 (by decide) ?_
          refine g_icmp_le C 26 dX6_sheet_21 (by decide) (fun c5 => ?_) (fun c5 => ?_)
          · replace h := h.1 c5
            refine g_iload_n C 3 dX6_sheet_26 rfl ?_
            refine g_if_ge C 33 dX6_sheet_27 (by decide) (fun c6 => ?_) (fun c6 => ?_)
            · replace h := h.1 c6
              refine g_aload_n C 0 dX6_sheet_33 rfl ?_
              refine gf_RX6_69 C h0 dX6_sheet_34 ?_
              refine g_iload_n C 1 dX6_sheet_37 rfl ?_
              refine g_iload_n C 2 dX6_sheet_38 rfl ?_
              refine g_iload_n C 3 dX6_sheet_39 rfl ?_
              refine g_callVV C [.int p1, .int p2, .int p3] [] (ok_X4_begin hI (isX6_sheets h0) h) (cw_RX6_301 _) rfl dc_X4_begin ⟨Nat.le_of_ble_eq_true rfl, Nat.le_of_ble_eq_true rfl⟩ (isX4_lt (isX6_sheets h0)) (isX4_sh (isX6_sheets h0)) rfl rfl rfl rfl (Nat.le_of_ble_eq_true rfl) dX6_sheet_40 (fun m7 h => ?_)
              refine g_iconst C (v := (1 : Int32)) dX6_sheet_43 (by decide) ?_
              exact hr _ _ _ _ _ dX6_sheet_44 rfl h
            · replace h := h.2 c6
              refine g_bipush C (v := (-14 : Int32)) dX6_sheet_30 (by decide) ?_
              exact hr _ _ _ _ _ dX6_sheet_32 rfl h
          · replace h := h.2 c5
            refine g_iconst C (v := (-1 : Int32)) dX6_sheet_24 (by decide) ?_
            exact hr _ _ _ _ _ dX6_sheet_25 rfl h
set_option maxRecDepth 20000 in
set_option maxHeartbeats 4000000 in
theorem ok_X6_lay {Y : YT} {l0 : Launch} {b : Nat} {p1 : Int32} {p2 : Int32} {p3 : Int32} {μ : Mem} {Q : Int32 → Mem → Prop} (hI : YI Y) (h0 : isX6 Y b) (h : PX6_lay b p1 p2 p3 μ Q) : MI l0 yX6_lay WX6_lay 1 23 Y [.ref (Y.ad b), .int p1, .int p2, .int p3] μ Q := by
  refine mI_of (ty := .int) (cc := cX6_lay) (maxL := 4) (by decide +kernel) rfl hI (Nat.le_of_ble_eq_true rfl) (fun X C hr => ?_)
  replace C : Cx X Y 4 cX6_lay RX6 WX6_lay (rmB 1 23) l0 := C
  refine g_lv (lv2 := [(0, .ref (Y.ad b)), (1, .int p1), (2, .int p2), (3, .int p3)]) [0, 1, 2, 3] ?_ rfl
  unfold PX6_lay at h
  refine g_iload_n C 1 dX6_lay_0 rfl ?_
  refine g_if_lt C 9 dX6_lay_1 (by decide) (fun c1 => ?_) (fun c1 => ?_)
  · replace h := h.1 c1
    refine g_iconst C (v := (-1 : Int32)) dX6_lay_9 (by decide) ?_
    exact hr _ _ _ _ _ dX6_lay_10 rfl h
  · replace h := h.2 c1
    refine g_iload_n C 1 dX6_lay_4 rfl ?_
    refine g_iconst C (v := (4 : Int32)) dX6_lay_5 (by decide) ?_
    refine g_icmp_lt C 11 dX6_lay_6 (by decide) (fun c2 => ?_) (fun c2 => ?_)
    · replace h := h.1 c2
      refine g_aload_n C 0 dX6_lay_11 rfl ?_
      refine gf_RX6_69 C h0 dX6_lay_12 ?_
      refine g_iload_n C 1 dX6_lay_15 rfl ?_
      refine g_callVI C [.int p1] [] (ok_X4_isNothing hI (isX6_sheets h0) h) (cw_RX6_305 _) rfl dc_X4_isNothing ⟨Nat.le_of_ble_eq_true rfl, Nat.le_of_ble_eq_true rfl⟩ (isX4_lt (isX6_sheets h0)) (isX4_sh (isX6_sheets h0)) rfl rfl rfl rfl (Nat.le_of_ble_eq_true rfl) dX6_lay_16 (fun r4 m3 h => ?_)
      refine g_if_eq C 25 dX6_lay_19 (by decide) (fun c5 => ?_) (fun c5 => ?_)
      · replace h := h.1 c5
        refine g_iload_n C 2 dX6_lay_25 rfl ?_
        refine g_if_lt C 42 dX6_lay_26 (by decide) (fun c6 => ?_) (fun c6 => ?_)
        · replace h := h.1 c6
          refine g_bipush C (v := (-12 : Int32)) dX6_lay_42 (by decide) ?_
          exact hr _ _ _ _ _ dX6_lay_44 rfl h
        · replace h := h.2 c6
          refine g_iload_n C 2 dX6_lay_29 rfl ?_
          refine g_aload_n C 0 dX6_lay_30 rfl ?_
          refine gf_RX6_69 C h0 dX6_lay_31 ?_
          refine gf_RX6_308 C (isX6_sheets h0) dX6_lay_34 ?_
          refine g_iload_n C 1 dX6_lay_37 rfl ?_
          refine g_iald C (isX4_cellCount (isX6_sheets h0)).1 (isX4_cellCount (isX6_sheets h0)).2 h.1 dX6_lay_38 ?_
          replace h := h.2
          refine g_icmp_lt C 45 dX6_lay_39 (by decide) (fun c7 => ?_) (fun c7 => ?_)
          · replace h := h.1 c7
            refine g_aload_n C 0 dX6_lay_45 rfl ?_
            refine gf_RX6_69 C h0 dX6_lay_46 ?_
            refine g_iload_n C 1 dX6_lay_49 rfl ?_
            refine g_iload_n C 2 dX6_lay_50 rfl ?_
            refine g_iload_n C 3 dX6_lay_51 rfl ?_
            refine g_callVV C [.int p1, .int p2, .int p3] [] (ok_X4_setCell hI (isX6_sheets h0) h) (cw_RX6_311 _) rfl dc_X4_setCell ⟨Nat.le_of_ble_eq_true rfl, Nat.le_of_ble_eq_true rfl⟩ (isX4_lt (isX6_sheets h0)) (isX4_sh (isX6_sheets h0)) rfl rfl rfl rfl (Nat.le_of_ble_eq_true rfl) dX6_lay_52 (fun m8 h => ?_)
            refine g_iconst C (v := (1 : Int32)) dX6_lay_55 (by decide) ?_
            exact hr _ _ _ _ _ dX6_lay_56 rfl h
          · replace h := h.2 c7
            refine g_bipush C (v := (-12 : Int32)) dX6_lay_42 (by decide) ?_
            exact hr _ _ _ _ _ dX6_lay_44 rfl h
      · replace h := h.2 c5
        refine g_bipush C (v := (-11 : Int32)) dX6_lay_22 (by decide) ?_
        exact hr _ _ _ _ _ dX6_lay_24 rfl h
    · replace h := h.2 c2
      refine g_iconst C (v := (-1 : Int32)) dX6_lay_9 (by decide) ?_
      exact hr _ _ _ _ _ dX6_lay_10 rfl h
set_option maxRecDepth 20000 in
set_option maxHeartbeats 4000000 in
theorem ok_X6_canPutLot {Y : YT} {l0 : Launch} {b : Nat} {p1 : Int32} {p2 : Int32} {μ : Mem} {Q : Int32 → Mem → Prop} (hI : YI Y) (h0 : isX6 Y b) (h : PX6_canPutLot b p1 p2 μ Q) : MI l0 yX6_canPutLot WX6_canPutLot 2 44 Y [.ref (Y.ad b), .int p1, .int p2] μ Q := by
  refine mI_of (ty := .boolean) (cc := cX6_canPutLot) (maxL := 3) (by decide +kernel) rfl hI (Nat.le_of_ble_eq_true rfl) (fun X C hr => ?_)
  replace C : Cx X Y 3 cX6_canPutLot RX6 WX6_canPutLot (rmB 2 44) l0 := C
  refine g_lv (lv2 := [(0, .ref (Y.ad b)), (1, .int p1), (2, .int p2)]) [0, 1, 2] ?_ rfl
  unfold PX6_canPutLot at h
  refine g_aload_n C 0 dX6_canPutLot_0 rfl ?_
  refine g_aload_n C 0 dX6_canPutLot_1 rfl ?_
  refine gf_RX6_69 C h0 dX6_canPutLot_2 ?_
  refine g_iload_n C 1 dX6_canPutLot_5 rfl ?_
  refine g_iload_n C 2 dX6_canPutLot_6 rfl ?_
  refine g_callVI C [.int p1, .int p2] [.ref (Y.ad b)] (ok_X4_cellAt hI (isX6_sheets h0) h) (cw_RX6_330 _) rfl dc_X4_cellAt ⟨Nat.le_of_ble_eq_true rfl, Nat.le_of_ble_eq_true rfl⟩ (isX4_lt (isX6_sheets h0)) (isX4_sh (isX6_sheets h0)) rfl rfl rfl rfl (Nat.le_of_ble_eq_true rfl) dX6_canPutLot_7 (fun r2 m1 h => ?_)
  refine g_aload_n C 0 dX6_canPutLot_10 rfl ?_
  refine gf_RX6_69 C h0 dX6_canPutLot_11 ?_
  refine g_iload_n C 1 dX6_canPutLot_14 rfl ?_
  refine g_iload_n C 2 dX6_canPutLot_15 rfl ?_
  refine g_iconst C (v := (1 : Int32)) dX6_canPutLot_16 (by decide) ?_
  refine g_iadd C dX6_canPutLot_17 ?_
  refine g_callVI C [.int p1, .int (p2 + ((1 : Int32)))] [.int r2, .ref (Y.ad b)] (ok_X4_cellAt hI (isX6_sheets h0) h) (cw_RX6_330 _) rfl dc_X4_cellAt ⟨Nat.le_of_ble_eq_true rfl, Nat.le_of_ble_eq_true rfl⟩ (isX4_lt (isX6_sheets h0)) (isX4_sh (isX6_sheets h0)) rfl rfl rfl rfl (Nat.le_of_ble_eq_true rfl) dX6_canPutLot_18 (fun r4 m3 h => ?_)
  refine g_aload_n C 0 dX6_canPutLot_21 rfl ?_
  refine gf_RX6_69 C h0 dX6_canPutLot_22 ?_
  refine g_iload_n C 1 dX6_canPutLot_25 rfl ?_
  refine g_iload_n C 2 dX6_canPutLot_26 rfl ?_
  refine g_iconst C (v := (2 : Int32)) dX6_canPutLot_27 (by decide) ?_
  refine g_iadd C dX6_canPutLot_28 ?_
  refine g_callVI C [.int p1, .int (p2 + ((2 : Int32)))] [.int r4, .int r2, .ref (Y.ad b)] (ok_X4_cellAt hI (isX6_sheets h0) h) (cw_RX6_330 _) rfl dc_X4_cellAt ⟨Nat.le_of_ble_eq_true rfl, Nat.le_of_ble_eq_true rfl⟩ (isX4_lt (isX6_sheets h0)) (isX4_sh (isX6_sheets h0)) rfl rfl rfl rfl (Nat.le_of_ble_eq_true rfl) dX6_canPutLot_29 (fun r6 m5 h => ?_)
  refine g_callVI C [.int r2, .int r4, .int r6] [] (ok_X6_canPut hI h0 h) (cw_RX6_153 _) rfl dc_X6_canPut ⟨Nat.le_of_ble_eq_true rfl, Nat.le_of_ble_eq_true rfl⟩ (isX6_lt h0) (isX6_sh h0) rfl rfl rfl rfl (Nat.le_of_ble_eq_true rfl) dX6_canPutLot_32 (fun r8 m7 h => ?_)
  exact hr _ _ _ _ _ dX6_canPutLot_35 h.1.1 h.2
set_option maxRecDepth 20000 in
set_option maxHeartbeats 4000000 in
theorem ok_X6_putLot {Y : YT} {l0 : Launch} {b : Nat} {p1 : Int32} {p2 : Int32} {μ : Mem} {Q : Mem → Prop} (hI : YI Y) (h0 : isX6 Y b) (h : PX6_putLot b p1 p2 μ Q) : MV l0 yX6_putLot WX6_putLot 1 22 Y [.ref (Y.ad b), .int p1, .int p2] μ Q := by
  refine mV_of (cc := cX6_putLot) (maxL := 3) (by decide +kernel) rfl hI (Nat.le_of_ble_eq_true rfl) (fun X C hr => ?_)
  replace C : Cx X Y 3 cX6_putLot RX6 WX6_putLot (rmB 1 22) l0 := C
  refine g_lv (lv2 := [(0, .ref (Y.ad b)), (1, .int p1), (2, .int p2)]) [0, 1, 2] ?_ rfl
  unfold PX6_putLot at h
  refine g_aload_n C 0 dX6_putLot_0 rfl ?_
  refine gf_RX6_33 C h0 dX6_putLot_1 ?_
  refine gf_RX6_157 C (isX6_kitchen h0) dX6_putLot_4 ?_
  refine g_aload_n C 0 dX6_putLot_7 rfl ?_
  refine gf_RX6_69 C h0 dX6_putLot_8 ?_
  refine g_iload_n C 1 dX6_putLot_11 rfl ?_
  refine g_iload_n C 2 dX6_putLot_12 rfl ?_
  refine g_callVI C [.int p1, .int p2] [.ref (Y.ad (b + 40 + 1))] (ok_X4_cellAt hI (isX6_sheets h0) h) (cw_RX6_330 _) rfl dc_X4_cellAt ⟨Nat.le_of_ble_eq_true rfl, Nat.le_of_ble_eq_true rfl⟩ (isX4_lt (isX6_sheets h0)) (isX4_sh (isX6_sheets h0)) rfl rfl rfl rfl (Nat.le_of_ble_eq_true rfl) dX6_putLot_13 (fun r2 m1 h => ?_)
  refine g_iconst C (v := (4 : Int32)) dX6_putLot_16 (by decide) ?_
  refine g_imul C dX6_putLot_17 ?_
  refine g_aload_n C 0 dX6_putLot_18 rfl ?_
  refine gf_RX6_69 C h0 dX6_putLot_19 ?_
  refine g_iload_n C 1 dX6_putLot_22 rfl ?_
  refine g_iload_n C 2 dX6_putLot_23 rfl ?_
  refine g_iconst C (v := (1 : Int32)) dX6_putLot_24 (by decide) ?_
  refine g_iadd C dX6_putLot_25 ?_
  refine g_callVI C [.int p1, .int (p2 + ((1 : Int32)))] [.int (r2 * ((4 : Int32))), .ref (Y.ad (b + 40 + 1))] (ok_X4_cellAt hI (isX6_sheets h0) h) (cw_RX6_330 _) rfl dc_X4_cellAt ⟨Nat.le_of_ble_eq_true rfl, Nat.le_of_ble_eq_true rfl⟩ (isX4_lt (isX6_sheets h0)) (isX4_sh (isX6_sheets h0)) rfl rfl rfl rfl (Nat.le_of_ble_eq_true rfl) dX6_putLot_26 (fun r4 m3 h => ?_)
  refine g_iadd C dX6_putLot_29 ?_
  refine g_aload_n C 0 dX6_putLot_30 rfl ?_
  refine gf_RX6_69 C h0 dX6_putLot_31 ?_
  refine g_iload_n C 1 dX6_putLot_34 rfl ?_
  refine g_iload_n C 2 dX6_putLot_35 rfl ?_
  refine g_iconst C (v := (2 : Int32)) dX6_putLot_36 (by decide) ?_
  refine g_iadd C dX6_putLot_37 ?_
  refine g_callVI C [.int p1, .int (p2 + ((2 : Int32)))] [.int ((r2 * ((4 : Int32))) + r4), .ref (Y.ad (b + 40 + 1))] (ok_X4_cellAt hI (isX6_sheets h0) h) (cw_RX6_330 _) rfl dc_X4_cellAt ⟨Nat.le_of_ble_eq_true rfl, Nat.le_of_ble_eq_true rfl⟩ (isX4_lt (isX6_sheets h0)) (isX4_sh (isX6_sheets h0)) rfl rfl rfl rfl (Nat.le_of_ble_eq_true rfl) dX6_putLot_38 (fun r6 m5 h => ?_)
  refine g_iast C (isX0_units (isX6_kitchen h0)).1 (isX0_units (isX6_kitchen h0)).2 h.1 dX6_putLot_41 ?_
  replace h := h.2
  exact hr _ _ _ _ dX6_putLot_42 h
def SX6_read_58 (X : XT) (Y : YT) (b : Nat) (p1 : Int32) (p2 : Int32) (p3 : Int32) (p4 : Int32) : Int32 → Int32 → Int32 → Mem → Prop := fun v5 v6 v7 μ => G X Y 8 58 [(0, .ref (Y.ad b)), (1, .int p1), (2, .int p2), (3, .int p3), (4, .int p4), (5, .int v5), (6, .int v6), (7, .int v7)] [] μ
def SX6_read_129 (X : XT) (Y : YT) (b : Nat) (p1 : Int32) (p2 : Int32) (p3 : Int32) (p4 : Int32) : Int32 → Int32 → Int32 → Mem → Prop := fun v5 v6 v7 μ => G X Y 8 129 [(0, .ref (Y.ad b)), (1, .int p1), (2, .int p2), (3, .int p3), (4, .int p4), (5, .int v5), (6, .int v6), (7, .int v7)] [] μ
set_option maxRecDepth 20000 in
set_option maxHeartbeats 4000000 in
theorem tX6_read_50 {X : XT} {Y : YT} {l0 : Launch} {b : Nat} {p1 : Int32} {p2 : Int32} {p3 : Int32} {p4 : Int32} {Q : Int32 → Mem → Prop} (C : Cx X Y 8 cX6_read RX6 WX6_read (rmB 3 66) l0) (hr : RI X Y cX6_read .int Q) (hI : YI Y) (h0 : isX6 Y b) (w0 : Int32) (μ : Mem) (h : nX6_read_50 b p1 p2 p3 p4 Q (SX6_read_58 X Y b p1 p2 p3 p4) (SX6_read_129 X Y b p1 p2 p3 p4) w0 μ) : G X Y 8 50 [(0, .ref (Y.ad b)), (1, .int p1), (2, .int p2), (3, .int p3), (4, .int p4)] [.int w0] μ := by
  unfold nX6_read_50 at h
  refine g_istore C [(5, .int w0), (0, .ref (Y.ad b)), (1, .int p1), (2, .int p2), (3, .int p3), (4, .int p4)] dX6_read_50 (by decide) rfl ?_
  refine g_iconst C (v := (0 : Int32)) dX6_read_52 (by decide) ?_
  refine g_istore C [(6, .int ((0 : Int32))), (5, .int w0), (0, .ref (Y.ad b)), (1, .int p1), (2, .int p2), (3, .int p3), (4, .int p4)] dX6_read_53 (by decide) rfl ?_
  refine g_iconst C (v := (0 : Int32)) dX6_read_55 (by decide) ?_
  refine g_istore C [(7, .int ((0 : Int32))), (6, .int ((0 : Int32))), (5, .int w0), (0, .ref (Y.ad b)), (1, .int p1), (2, .int p2), (3, .int p3), (4, .int p4)] dX6_read_56 (by decide) rfl ?_
  refine g_lv (lv2 := [(0, .ref (Y.ad b)), (1, .int p1), (2, .int p2), (3, .int p3), (4, .int p4), (5, .int w0), (6, .int ((0 : Int32))), (7, .int ((0 : Int32)))]) [3, 4, 5, 6, 7, 2, 1, 0] ?_ rfl
  exact h
set_option maxRecDepth 20000 in
set_option maxHeartbeats 4000000 in
theorem tX6_read_120 {X : XT} {Y : YT} {l0 : Launch} {b : Nat} {p1 : Int32} {p2 : Int32} {p3 : Int32} {p4 : Int32} {Q : Int32 → Mem → Prop} (C : Cx X Y 8 cX6_read RX6 WX6_read (rmB 3 66) l0) (hr : RI X Y cX6_read .int Q) (hI : YI Y) (h0 : isX6 Y b) (v5 : Int32) (v6 : Int32) (v7 : Int32) (μ : Mem) (h : nX6_read_120 b p1 p2 p3 p4 Q (SX6_read_58 X Y b p1 p2 p3 p4) (SX6_read_129 X Y b p1 p2 p3 p4) v5 v6 v7 μ) : G X Y 8 120 [(0, .ref (Y.ad b)), (1, .int p1), (2, .int p2), (3, .int p3), (4, .int p4), (5, .int v5), (6, .int v6), (7, .int v7)] [] μ := by
  unfold nX6_read_120 at h
  refine g_iinc C (v := v7 + 1) 7 [(7, .int (v7 + 1)), (0, .ref (Y.ad b)), (1, .int p1), (2, .int p2), (3, .int p3), (4, .int p4), (5, .int v5), (6, .int v6)] dX6_read_120 rfl rfl (by decide) rfl ?_
  refine g_goto C 58 dX6_read_123 (by decide) ?_
  refine g_lv (lv2 := [(0, .ref (Y.ad b)), (1, .int p1), (2, .int p2), (3, .int p3), (4, .int p4), (5, .int v5), (6, .int v6), (7, .int (v7 + 1))]) [1, 2, 3, 4, 5, 6, 7, 0] ?_ rfl
  exact h
set_option maxRecDepth 20000 in
set_option maxHeartbeats 4000000 in
theorem tX6_read_126 {X : XT} {Y : YT} {l0 : Launch} {b : Nat} {p1 : Int32} {p2 : Int32} {p3 : Int32} {p4 : Int32} {Q : Int32 → Mem → Prop} (C : Cx X Y 8 cX6_read RX6 WX6_read (rmB 3 66) l0) (hr : RI X Y cX6_read .int Q) (hI : YI Y) (h0 : isX6 Y b) (v5 : Int32) (v6 : Int32) (μ : Mem) (h : nX6_read_126 b p1 p2 p3 p4 Q (SX6_read_58 X Y b p1 p2 p3 p4) (SX6_read_129 X Y b p1 p2 p3 p4) v5 v6 μ) : G X Y 8 126 [(0, .ref (Y.ad b)), (1, .int p1), (2, .int p2), (3, .int p3), (4, .int p4), (5, .int v5), (6, .int v6)] [] μ := by
  unfold nX6_read_126 at h
  refine g_iconst C (v := (0 : Int32)) dX6_read_126 (by decide) ?_
  refine g_istore C [(7, .int ((0 : Int32))), (0, .ref (Y.ad b)), (1, .int p1), (2, .int p2), (3, .int p3), (4, .int p4), (5, .int v5), (6, .int v6)] dX6_read_127 (by decide) rfl ?_
  refine g_lv (lv2 := [(0, .ref (Y.ad b)), (1, .int p1), (2, .int p2), (3, .int p3), (4, .int p4), (5, .int v5), (6, .int v6), (7, .int ((0 : Int32)))]) [1, 2, 3, 4, 5, 6, 7, 0] ?_ rfl
  exact h
set_option maxRecDepth 20000 in
set_option maxHeartbeats 4000000 in
theorem tX6_read_58 {X : XT} {Y : YT} {l0 : Launch} {b : Nat} {p1 : Int32} {p2 : Int32} {p3 : Int32} {p4 : Int32} {Q : Int32 → Mem → Prop} (C : Cx X Y 8 cX6_read RX6 WX6_read (rmB 3 66) l0) (hr : RI X Y cX6_read .int Q) (hI : YI Y) (h0 : isX6 Y b) (v5 : Int32) (v6 : Int32) (v7 : Int32) (μ : Mem) (h : nX6_read_58 b p1 p2 p3 p4 Q (SX6_read_58 X Y b p1 p2 p3 p4) (SX6_read_129 X Y b p1 p2 p3 p4) v5 v6 v7 μ) : G X Y 8 58 [(0, .ref (Y.ad b)), (1, .int p1), (2, .int p2), (3, .int p3), (4, .int p4), (5, .int v5), (6, .int v6), (7, .int v7)] [] μ := by
  unfold nX6_read_58 at h
  refine g_iload C 7 dX6_read_58 rfl ?_
  refine g_iload C 4 dX6_read_60 rfl ?_
  refine g_icmp_ge C 126 dX6_read_62 (by decide) (fun c10 => ?_) (fun c10 => ?_)
  · replace h := h.1 c10
    refine g_lv (lv2 := [(0, .ref (Y.ad b)), (1, .int p1), (2, .int p2), (3, .int p3), (4, .int p4), (5, .int v5), (6, .int v6)]) [0, 1, 2, 3, 4, 5, 6] ?_ rfl
    exact tX6_read_126 C hr hI h0 _ _ _ h
  · replace h := h.2 c10
    refine g_iload C 5 dX6_read_65 rfl ?_
    refine g_if_ne C 126 dX6_read_67 (by decide) (fun c11 => ?_) (fun c11 => ?_)
    · replace h := h.1 c11
      refine g_lv (lv2 := [(0, .ref (Y.ad b)), (1, .int p1), (2, .int p2), (3, .int p3), (4, .int p4), (5, .int v5), (6, .int v6)]) [0, 1, 2, 3, 4, 5, 6] ?_ rfl
      exact tX6_read_126 C hr hI h0 _ _ _ h
    · replace h := h.2 c11
      refine g_aload_n C 0 dX6_read_70 rfl ?_
      refine gf_RX6_69 C h0 dX6_read_71 ?_
      refine g_iload_n C 1 dX6_read_74 rfl ?_
      refine g_iload_n C 3 dX6_read_75 rfl ?_
      refine g_i2l C dX6_read_76 ?_
      refine g_ldc2 C (v := (3 : Int64)) (List.mem_cons_of_mem _ mL_RX6_317) dX6_read_77 ?_
      refine g_iload C 7 dX6_read_80 rfl ?_
      refine g_i2l C dX6_read_82 ?_
      refine g_lmul C dX6_read_83 ?_
      refine g_ladd C dX6_read_84 ?_
      refine g_callVI C [.int p1, .long (p3.toInt64 + (((3 : Int64)) * v7.toInt64))] [] (ok_X4_isLotWhole hI (isX6_sheets h0) h) (cw_RX6_319 _) rfl dc_X4_isLotWhole ⟨Nat.le_of_ble_eq_true rfl, Nat.le_of_ble_eq_true rfl⟩ (isX4_lt (isX6_sheets h0)) (isX4_sh (isX6_sheets h0)) rfl rfl rfl rfl (Nat.le_of_ble_eq_true rfl) dX6_read_85 (fun r13 m12 h => ?_)
      refine g_if_ne C 97 dX6_read_88 (by decide) (fun c14 => ?_) (fun c14 => ?_)
      · replace h := h.1 c14
        refine g_aload_n C 0 dX6_read_97 rfl ?_
        refine g_iload_n C 1 dX6_read_98 rfl ?_
        refine g_iload_n C 3 dX6_read_99 rfl ?_
        refine g_iconst C (v := (3 : Int32)) dX6_read_100 (by decide) ?_
        refine g_iload C 7 dX6_read_101 rfl ?_
        refine g_imul C dX6_read_103 ?_
        refine g_iadd C dX6_read_104 ?_
        refine g_callVI C [.int p1, .int (p3 + (((3 : Int32)) * v7))] [] (ok_X6_canPutLot hI h0 h) (cw_RX6_323 _) rfl dc_X6_canPutLot ⟨Nat.le_of_ble_eq_true rfl, Nat.le_of_ble_eq_true rfl⟩ (isX6_lt h0) (isX6_sh h0) rfl rfl rfl rfl (Nat.le_of_ble_eq_true rfl) dX6_read_105 (fun r16 m15 h => ?_)
        refine g_if_ne C 117 dX6_read_108 (by decide) (fun c17 => ?_) (fun c17 => ?_)
        · replace h := h.1 c17
          refine g_iinc C (v := v6 + 1) 6 [(6, .int (v6 + 1)), (0, .ref (Y.ad b)), (1, .int p1), (2, .int p2), (3, .int p3), (4, .int p4), (5, .int v5), (7, .int v7)] dX6_read_117 rfl rfl (by decide) rfl ?_
          refine g_lv (lv2 := [(0, .ref (Y.ad b)), (1, .int p1), (2, .int p2), (3, .int p3), (4, .int p4), (5, .int v5), (6, .int (v6 + 1)), (7, .int v7)]) [1, 2, 3, 4, 5, 6, 0, 7] ?_ rfl
          exact tX6_read_120 C hr hI h0 _ _ _ _ h
        · replace h := h.2 c17
          refine g_bipush C (v := (-20 : Int32)) dX6_read_111 (by decide) ?_
          refine g_iload C 7 dX6_read_113 rfl ?_
          refine g_isub C dX6_read_115 ?_
          exact hr _ _ _ _ _ dX6_read_116 rfl h
      · replace h := h.2 c14
        refine g_iconst C (v := (2 : Int32)) dX6_read_91 (by decide) ?_
        refine g_istore C [(5, .int ((2 : Int32))), (0, .ref (Y.ad b)), (1, .int p1), (2, .int p2), (3, .int p3), (4, .int p4), (6, .int v6), (7, .int v7)] dX6_read_92 (by decide) rfl ?_
        refine g_goto C 120 dX6_read_94 (by decide) ?_
        refine g_lv (lv2 := [(0, .ref (Y.ad b)), (1, .int p1), (2, .int p2), (3, .int p3), (4, .int p4), (5, .int ((2 : Int32))), (6, .int v6), (7, .int v7)]) [1, 2, 3, 4, 5, 0, 6, 7] ?_ rfl
        exact tX6_read_120 C hr hI h0 _ _ _ _ h
set_option maxRecDepth 20000 in
set_option maxHeartbeats 4000000 in
theorem tX6_read_129 {X : XT} {Y : YT} {l0 : Launch} {b : Nat} {p1 : Int32} {p2 : Int32} {p3 : Int32} {p4 : Int32} {Q : Int32 → Mem → Prop} (C : Cx X Y 8 cX6_read RX6 WX6_read (rmB 3 66) l0) (hr : RI X Y cX6_read .int Q) (hI : YI Y) (h0 : isX6 Y b) (v5 : Int32) (v6 : Int32) (v7 : Int32) (μ : Mem) (h : nX6_read_129 b p1 p2 p3 p4 Q (SX6_read_58 X Y b p1 p2 p3 p4) (SX6_read_129 X Y b p1 p2 p3 p4) v5 v6 v7 μ) : G X Y 8 129 [(0, .ref (Y.ad b)), (1, .int p1), (2, .int p2), (3, .int p3), (4, .int p4), (5, .int v5), (6, .int v6), (7, .int v7)] [] μ := by
  unfold nX6_read_129 at h
  refine g_iload C 7 dX6_read_129 rfl ?_
  refine g_iload C 6 dX6_read_131 rfl ?_
  refine g_icmp_ge C 153 dX6_read_133 (by decide) (fun c18 => ?_) (fun c18 => ?_)
  · replace h := h.1 c18
    refine g_aload_n C 0 dX6_read_153 rfl ?_
    refine g_iload C 5 dX6_read_154 rfl ?_
    refine gp_RX6_73 C h0 dX6_read_156 ?_
    refine g_iload C 6 dX6_read_159 rfl ?_
    exact hr _ _ _ _ _ dX6_read_161 rfl h
  · replace h := h.2 c18
    refine g_aload_n C 0 dX6_read_136 rfl ?_
    refine g_iload_n C 1 dX6_read_137 rfl ?_
    refine g_iload_n C 3 dX6_read_138 rfl ?_
    refine g_iconst C (v := (3 : Int32)) dX6_read_139 (by decide) ?_
    refine g_iload C 7 dX6_read_140 rfl ?_
    refine g_imul C dX6_read_142 ?_
    refine g_iadd C dX6_read_143 ?_
    refine g_callVV C [.int p1, .int (p3 + (((3 : Int32)) * v7))] [] (ok_X6_putLot hI h0 h) (cw_RX6_326 _) rfl dc_X6_putLot ⟨Nat.le_of_ble_eq_true rfl, Nat.le_of_ble_eq_true rfl⟩ (isX6_lt h0) (isX6_sh h0) rfl rfl rfl rfl (Nat.le_of_ble_eq_true rfl) dX6_read_144 (fun m19 h => ?_)
    refine g_iinc C (v := v7 + 1) 7 [(7, .int (v7 + 1)), (0, .ref (Y.ad b)), (1, .int p1), (2, .int p2), (3, .int p3), (4, .int p4), (5, .int v5), (6, .int v6)] dX6_read_147 rfl rfl (by decide) rfl ?_
    refine g_goto C 129 dX6_read_150 (by decide) ?_
    refine g_lv (lv2 := [(0, .ref (Y.ad b)), (1, .int p1), (2, .int p2), (3, .int p3), (4, .int p4), (5, .int v5), (6, .int v6), (7, .int (v7 + 1))]) [1, 2, 3, 4, 5, 6, 7, 0] ?_ rfl
    exact h
set_option maxRecDepth 20000 in
set_option maxHeartbeats 4000000 in
theorem ok_X6_read {Y : YT} {l0 : Launch} {b : Nat} {p1 : Int32} {p2 : Int32} {p3 : Int32} {p4 : Int32} {μ : Mem} {Q : Int32 → Mem → Prop} (hI : YI Y) (h0 : isX6 Y b) (h : PX6_read b p1 p2 p3 p4 μ Q) : MI l0 yX6_read WX6_read 3 66 Y [.ref (Y.ad b), .int p1, .int p2, .int p3, .int p4] μ Q := by
  refine mI_of (ty := .int) (cc := cX6_read) (maxL := 8) (by decide +kernel) rfl hI (Nat.le_of_ble_eq_true rfl) (fun X C hr => ?_)
  replace C : Cx X Y 8 cX6_read RX6 WX6_read (rmB 3 66) l0 := C
  refine g_lv (lv2 := [(0, .ref (Y.ad b)), (1, .int p1), (2, .int p2), (3, .int p3), (4, .int p4)]) [0, 1, 2, 3, 4] ?_ rfl
  unfold PX6_read at h
  replace h := h (SX6_read_58 X Y b p1 p2 p3 p4) (SX6_read_129 X Y b p1 p2 p3 p4) (fun v5 v6 v7 μ z => tX6_read_58 C hr hI h0 v5 v6 v7 μ z) (fun v5 v6 v7 μ z => tX6_read_129 C hr hI h0 v5 v6 v7 μ z)
  refine g_iload_n C 1 dX6_read_0 rfl ?_
  refine g_if_lt C 30 dX6_read_1 (by decide) (fun c1 => ?_) (fun c1 => ?_)
  · replace h := h.1 c1
    refine g_iconst C (v := (-1 : Int32)) dX6_read_30 (by decide) ?_
    exact hr _ _ _ _ _ dX6_read_31 rfl h
  · replace h := h.2 c1
    refine g_iload_n C 1 dX6_read_4 rfl ?_
    refine g_iconst C (v := (4 : Int32)) dX6_read_5 (by decide) ?_
    refine g_icmp_ge C 30 dX6_read_6 (by decide) (fun c2 => ?_) (fun c2 => ?_)
    · replace h := h.1 c2
      refine g_iconst C (v := (-1 : Int32)) dX6_read_30 (by decide) ?_
      exact hr _ _ _ _ _ dX6_read_31 rfl h
    · replace h := h.2 c2
      refine g_iload_n C 2 dX6_read_9 rfl ?_
      refine g_if_lt C 30 dX6_read_10 (by decide) (fun c3 => ?_) (fun c3 => ?_)
      · replace h := h.1 c3
        refine g_iconst C (v := (-1 : Int32)) dX6_read_30 (by decide) ?_
        exact hr _ _ _ _ _ dX6_read_31 rfl h
      · replace h := h.2 c3
        refine g_iload_n C 2 dX6_read_13 rfl ?_
        refine g_iconst C (v := (3 : Int32)) dX6_read_14 (by decide) ?_
        refine g_icmp_ge C 30 dX6_read_15 (by decide) (fun c4 => ?_) (fun c4 => ?_)
        · replace h := h.1 c4
          refine g_iconst C (v := (-1 : Int32)) dX6_read_30 (by decide) ?_
          exact hr _ _ _ _ _ dX6_read_31 rfl h
        · replace h := h.2 c4
          refine g_iload C 4 dX6_read_18 rfl ?_
          refine g_if_lt C 30 dX6_read_20 (by decide) (fun c5 => ?_) (fun c5 => ?_)
          · replace h := h.1 c5
            refine g_iconst C (v := (-1 : Int32)) dX6_read_30 (by decide) ?_
            exact hr _ _ _ _ _ dX6_read_31 rfl h
          · replace h := h.2 c5
            refine g_iload C 4 dX6_read_23 rfl ?_
            refine g_bipush C (v := (12 : Int32)) dX6_read_25 (by decide) ?_
            refine g_icmp_le C 32 dX6_read_27 (by decide) (fun c6 => ?_) (fun c6 => ?_)
            · replace h := h.1 c6
              refine g_iload C 4 dX6_read_32 rfl ?_
              refine g_if_ne C 41 dX6_read_34 (by decide) (fun c7 => ?_) (fun c7 => ?_)
              · replace h := h.1 c7
                refine g_aload_n C 0 dX6_read_41 rfl ?_
                refine gf_RX6_69 C h0 dX6_read_42 ?_
                refine g_iload_n C 1 dX6_read_45 rfl ?_
                refine g_iload_n C 2 dX6_read_46 rfl ?_
                refine g_callVI C [.int p1, .int p2] [] (ok_X4_faultAsOf hI (isX6_sheets h0) h) (cw_RX6_314 _) rfl dc_X4_faultAsOf ⟨Nat.le_of_ble_eq_true rfl, Nat.le_of_ble_eq_true rfl⟩ (isX4_lt (isX6_sheets h0)) (isX4_sh (isX6_sheets h0)) rfl rfl rfl rfl (Nat.le_of_ble_eq_true rfl) dX6_read_47 (fun r9 m8 h => ?_)
                exact tX6_read_50 C hr hI h0 _ _ h
              · replace h := h.2 c7
                refine g_iconst C (v := (0 : Int32)) dX6_read_37 (by decide) ?_
                refine g_goto C 50 dX6_read_38 (by decide) ?_
                exact tX6_read_50 C hr hI h0 _ _ h
            · replace h := h.2 c6
              refine g_iconst C (v := (-1 : Int32)) dX6_read_30 (by decide) ?_
              exact hr _ _ _ _ _ dX6_read_31 rfl h
set_option maxRecDepth 20000 in
set_option maxHeartbeats 4000000 in
theorem ok_X6_torn {Y : YT} {l0 : Launch} {b : Nat} {μ : Mem} {Q : Int32 → Mem → Prop} (hI : YI Y) (h0 : isX6 Y b) (h : PX6_torn b μ Q) : MI l0 yX6_torn WX6_torn 0 0 Y [.ref (Y.ad b)] μ Q := by
  refine mI_of (ty := .int) (cc := cX6_torn) (maxL := 1) (by decide +kernel) rfl hI (Nat.le_of_ble_eq_true rfl) (fun X C hr => ?_)
  replace C : Cx X Y 1 cX6_torn RX6 WX6_torn (rmB 0 0) l0 := C
  refine g_lv (lv2 := [(0, .ref (Y.ad b))]) [0] ?_ rfl
  unfold PX6_torn at h
  refine g_aload_n C 0 dX6_torn_0 rfl ?_
  refine gf_RX6_73 C h0 dX6_torn_1 ?_
  exact hr _ _ _ _ _ dX6_torn_4 rfl h
set_option maxRecDepth 20000 in
set_option maxHeartbeats 4000000 in
theorem tX6_count_75 {X : XT} {Y : YT} {l0 : Launch} {b : Nat} {p1 : Int32} {Q : Int32 → Mem → Prop} (C : Cx X Y 2 cX6_count RX6 WX6_count (rmB 1 21) l0) (hr : RI X Y cX6_count .int Q) (hI : YI Y) (h0 : isX6 Y b) (w0 : Int32) (μ : Mem) (h : nX6_count_75 b p1 Q w0 μ) : G X Y 2 75 [(0, .ref (Y.ad b)), (1, .int p1)] [.int w0] μ := by
  unfold nX6_count_75 at h
  refine g_aload_n C 0 dX6_count_75 rfl ?_
  refine gf_RX6_41 C h0 dX6_count_76 ?_
  refine g_iconst C (v := (1 : Int32)) dX6_count_79 (by decide) ?_
  refine g_zald C (isX6_imageKept h0).1 (isX6_imageKept h0).2 h.1 dX6_count_80 ?_
  replace h := h.2
  refine g_if_eq C 88 dX6_count_81 (by decide) (fun c12 => ?_) (fun c12 => ?_)
  · replace h := h.1 c12
    refine g_iconst C (v := (0 : Int32)) dX6_count_88 (by decide) ?_
    refine g_iadd C dX6_count_89 ?_
    exact hr _ _ _ _ _ dX6_count_90 rfl h
  · replace h := h.2 c12
    refine g_iconst C (v := (1 : Int32)) dX6_count_84 (by decide) ?_
    refine g_goto C 89 dX6_count_85 (by decide) ?_
    refine g_iadd C dX6_count_89 ?_
    exact hr _ _ _ _ _ dX6_count_90 rfl h
set_option maxRecDepth 20000 in
set_option maxHeartbeats 4000000 in
theorem ok_X6_count {Y : YT} {l0 : Launch} {b : Nat} {p1 : Int32} {μ : Mem} {Q : Int32 → Mem → Prop} (hI : YI Y) (h0 : isX6 Y b) (h : PX6_count b p1 μ Q) : MI l0 yX6_count WX6_count 1 21 Y [.ref (Y.ad b), .int p1] μ Q := by
  refine mI_of (ty := .int) (cc := cX6_count) (maxL := 2) (by decide +kernel) rfl hI (Nat.le_of_ble_eq_true rfl) (fun X C hr => ?_)
  replace C : Cx X Y 2 cX6_count RX6 WX6_count (rmB 1 21) l0 := C
  refine g_lv (lv2 := [(0, .ref (Y.ad b)), (1, .int p1)]) [0, 1] ?_ rfl
  unfold PX6_count at h
  refine g_iload_n C 1 dX6_count_0 rfl ?_
  by_cases c1 : p1 = 0
  · refine g_tableIn C 40 dX6_count_1 (by rw [c1]; decide) (by rw [c1]; decide) (by rw [c1]; rfl) (by decide) ?_
    replace h := h.1 c1
    refine g_aload_n C 0 dX6_count_40 rfl ?_
    refine gf_RX6_10 C h0 dX6_count_41 ?_
    refine gf_RX6_292 C (isX6_rules h0) dX6_count_44 ?_
    exact hr _ _ _ _ _ dX6_count_47 rfl h
  by_cases c2 : p1 = 1
  · refine g_tableIn C 48 dX6_count_1 (by rw [c2]; decide) (by rw [c2]; decide) (by rw [c2]; rfl) (by decide) ?_
    replace h := h.2.1 c2
    refine g_aload_n C 0 dX6_count_48 rfl ?_
    refine gf_RX6_10 C h0 dX6_count_49 ?_
    refine gf_RX6_282 C (isX6_rules h0) dX6_count_52 ?_
    exact hr _ _ _ _ _ dX6_count_55 rfl h
  by_cases c3 : p1 = 2
  · refine g_tableIn C 56 dX6_count_1 (by rw [c3]; decide) (by rw [c3]; decide) (by rw [c3]; rfl) (by decide) ?_
    replace h := h.2.2.1 c3
    refine g_aload_n C 0 dX6_count_56 rfl ?_
    refine gf_RX6_49 C h0 dX6_count_57 ?_
    exact hr _ _ _ _ _ dX6_count_60 rfl h
  by_cases c4 : p1 = 3
  · refine g_tableIn C 61 dX6_count_1 (by rw [c4]; decide) (by rw [c4]; decide) (by rw [c4]; rfl) (by decide) ?_
    replace h := h.2.2.2.1 c4
    refine g_aload_n C 0 dX6_count_61 rfl ?_
    refine gf_RX6_41 C h0 dX6_count_62 ?_
    refine g_iconst C (v := (0 : Int32)) dX6_count_65 (by decide) ?_
    refine g_zald C (isX6_imageKept h0).1 (isX6_imageKept h0).2 h.1 dX6_count_66 ?_
    replace h := h.2
    refine g_if_eq C 74 dX6_count_67 (by decide) (fun c5 => ?_) (fun c5 => ?_)
    · replace h := h.1 c5
      refine g_iconst C (v := (0 : Int32)) dX6_count_74 (by decide) ?_
      exact tX6_count_75 C hr hI h0 _ _ h
    · replace h := h.2 c5
      refine g_iconst C (v := (1 : Int32)) dX6_count_70 (by decide) ?_
      refine g_goto C 75 dX6_count_71 (by decide) ?_
      exact tX6_count_75 C hr hI h0 _ _ h
  by_cases c6 : p1 = 4
  · refine g_tableIn C 91 dX6_count_1 (by rw [c6]; decide) (by rw [c6]; decide) (by rw [c6]; rfl) (by decide) ?_
    replace h := h.2.2.2.2.1 c6
    refine g_aload_n C 0 dX6_count_91 rfl ?_
    refine gf_RX6_22 C h0 dX6_count_92 ?_
    refine gf_RX6_76 C (isX6_reader h0) dX6_count_95 ?_
    exact hr _ _ _ _ _ dX6_count_98 rfl h
  by_cases c7 : p1 = 5
  · refine g_tableIn C 99 dX6_count_1 (by rw [c7]; decide) (by rw [c7]; decide) (by rw [c7]; rfl) (by decide) ?_
    replace h := h.2.2.2.2.2.1 c7
    refine g_aload_n C 0 dX6_count_99 rfl ?_
    refine gf_RX6_69 C h0 dX6_count_100 ?_
    refine g_iconst C (v := (0 : Int32)) dX6_count_103 (by decide) ?_
    refine g_callVI C [.int ((0 : Int32))] [] (ok_X4_isNothing hI (isX6_sheets h0) h) (cw_RX6_305 _) rfl dc_X4_isNothing ⟨Nat.le_of_ble_eq_true rfl, Nat.le_of_ble_eq_true rfl⟩ (isX4_lt (isX6_sheets h0)) (isX4_sh (isX6_sheets h0)) rfl rfl rfl rfl (Nat.le_of_ble_eq_true rfl) dX6_count_104 (fun r9 m8 h => ?_)
    refine g_if_eq C 115 dX6_count_107 (by decide) (fun c10 => ?_) (fun c10 => ?_)
    · replace h := h.1 c10
      refine g_aload_n C 0 dX6_count_115 rfl ?_
      refine gf_RX6_69 C h0 dX6_count_116 ?_
      refine gf_RX6_308 C (isX6_sheets h0) dX6_count_119 ?_
      refine g_iconst C (v := (0 : Int32)) dX6_count_122 (by decide) ?_
      refine g_iald C (isX4_cellCount (isX6_sheets h0)).1 (isX4_cellCount (isX6_sheets h0)).2 h.1 dX6_count_123 ?_
      replace h := h.2
      exact hr _ _ _ _ _ dX6_count_124 rfl h
    · replace h := h.2 c10
      refine g_bipush C (v := (-4 : Int32)) dX6_count_110 (by decide) ?_
      refine g_goto C 124 dX6_count_112 (by decide) ?_
      exact hr _ _ _ _ _ dX6_count_124 rfl h
  have c11 : p1.toInt < 0 ∨ 5 < p1.toInt := by
    have z := (And.intro True.intro ⟨lv_neT (a := 0) c1 rfl, lv_neT (a := 1) c2 rfl, lv_neT (a := 2) c3 rfl, lv_neT (a := 3) c4 rfl, lv_neT (a := 4) c6 rfl, lv_neT (a := 5) c7 rfl⟩ : True ∧ ¬ p1.toInt = 0 ∧ ¬ p1.toInt = 1 ∧ ¬ p1.toInt = 2 ∧ ¬ p1.toInt = 3 ∧ ¬ p1.toInt = 4 ∧ ¬ p1.toInt = 5)
    omega
  refine g_tableOut C 125 dX6_count_1 c11 (by decide) ?_
  replace h := h.2.2.2.2.2.2 c11
  refine g_iconst C (v := (-1 : Int32)) dX6_count_125 (by decide) ?_
  exact hr _ _ _ _ _ dX6_count_126 rfl h
set_option maxRecDepth 20000 in
set_option maxHeartbeats 4000000 in
theorem tX7_in_17 {X : XT} {Y : YT} {l0 : Launch} {p0 : Int64} {p2 : Int64} {p4 : Int64} {Q : Int32 → Mem → Prop} (C : Cx X Y 6 cX7_in RX7 WX7_in (rmB 0 0) l0) (hr : RI X Y cX7_in .boolean Q) (hI : YI Y)  (μ : Mem) (h : nX7_in_17 p0 p2 p4 Q  μ) : G X Y 6 17 [(0, .long p0), (2, .long p2), (4, .long p4)] [] μ := by
  unfold nX7_in_17 at h
  refine g_iconst C (v := (0 : Int32)) dX7_in_17 (by decide) ?_
  exact hr _ _ _ _ _ dX7_in_18 rfl h
set_option maxRecDepth 20000 in
set_option maxHeartbeats 4000000 in
theorem ok_X7_in {Y : YT} {l0 : Launch} {p0 : Int64} {p2 : Int64} {p4 : Int64} {μ : Mem} {Q : Int32 → Mem → Prop} (hI : YI Y) (h : PX7_in p0 p2 p4 μ Q) : MI l0 yX7_in WX7_in 0 0 Y [.long p0, .long p2, .long p4] μ Q := by
  refine mI_of (ty := .boolean) (cc := cX7_in) (maxL := 6) (by decide +kernel) rfl hI (Nat.le_of_ble_eq_true rfl) (fun X C hr => ?_)
  replace C : Cx X Y 6 cX7_in RX7 WX7_in (rmB 0 0) l0 := C
  refine g_lv (lv2 := [(0, .long p0), (2, .long p2), (4, .long p4)]) [0, 1, 2] ?_ rfl
  unfold PX7_in at h
  refine g_lload_n C 0 dX7_in_0 rfl ?_
  refine g_lload_n C 1 dX7_in_1 rfl ?_
  refine g_lcmp C dX7_in_2 ?_
  refine g_if_lt C 17 dX7_in_3 (by decide) (fun c1 => ?_) (fun c1 => ?_)
  · replace h := h.1 c1
    exact tX7_in_17 C hr hI  _ h
  · replace h := h.2 c1
    refine g_lload_n C 0 dX7_in_6 rfl ?_
    refine g_lload C 2 dX7_in_7 rfl ?_
    refine g_lcmp C dX7_in_9 ?_
    refine g_if_gt C 17 dX7_in_10 (by decide) (fun c2 => ?_) (fun c2 => ?_)
    · replace h := h.1 c2
      exact tX7_in_17 C hr hI  _ h
    · replace h := h.2 c2
      refine g_iconst C (v := (1 : Int32)) dX7_in_13 (by decide) ?_
      refine g_goto C 18 dX7_in_14 (by decide) ?_
      exact hr _ _ _ _ _ dX7_in_18 rfl h
set_option maxRecDepth 20000 in
set_option maxHeartbeats 4000000 in
theorem ok_X7_flag {Y : YT} {l0 : Launch} {p0 : Int32} {μ : Mem} {Q : Int32 → Mem → Prop} (hI : YI Y) (h : PX7_flag p0 μ Q) : MI l0 yX7_flag WX7_flag 0 0 Y [.int p0] μ Q := by
  refine mI_of (ty := .int) (cc := cX7_flag) (maxL := 1) (by decide +kernel) rfl hI (Nat.le_of_ble_eq_true rfl) (fun X C hr => ?_)
  replace C : Cx X Y 1 cX7_flag RX7 WX7_flag (rmB 0 0) l0 := C
  refine g_lv (lv2 := [(0, .int p0)]) [0] ?_ rfl
  unfold PX7_flag at h
  refine g_iload_n C 0 dX7_flag_0 rfl ?_
  refine g_if_eq C 8 dX7_flag_1 (by decide) (fun c1 => ?_) (fun c1 => ?_)
  · replace h := h.1 c1
    refine g_iconst C (v := (0 : Int32)) dX7_flag_8 (by decide) ?_
    exact hr _ _ _ _ _ dX7_flag_9 rfl h
  · replace h := h.2 c1
    refine g_iconst C (v := (1 : Int32)) dX7_flag_4 (by decide) ?_
    refine g_goto C 9 dX7_flag_5 (by decide) ?_
    exact hr _ _ _ _ _ dX7_flag_9 rfl h
def SX7_firstDraft_43 (X : XT) (Y : YT) (b : Nat) : Int32 → Mem → Prop := fun v1 μ => G X Y 2 43 [(0, .ref (Y.ad b)), (1, .int v1)] [] μ
set_option maxRecDepth 20000 in
set_option maxHeartbeats 4000000 in
theorem tX7_firstDraft_43 {X : XT} {Y : YT} {l0 : Launch} {b : Nat} {Q : Mem → Prop} (C : Cx X Y 2 cX7_firstDraft RX7 WX7_firstDraft (rmB 0 0) l0) (hr : RV X Y cX7_firstDraft Q) (hI : YI Y) (h0 : isX7 Y b) (v1 : Int32) (μ : Mem) (h : nX7_firstDraft_43 b Q (SX7_firstDraft_43 X Y b) v1 μ) : G X Y 2 43 [(0, .ref (Y.ad b)), (1, .int v1)] [] μ := by
  unfold nX7_firstDraft_43 at h
  refine g_iload_n C 1 dX7_firstDraft_43 rfl ?_
  refine g_bipush C (v := (7 : Int32)) dX7_firstDraft_44 (by decide) ?_
  refine g_icmp_ge C 62 dX7_firstDraft_46 (by decide) (fun c5 => ?_) (fun c5 => ?_)
  · replace h := h.1 c5
    exact hr _ _ _ _ dX7_firstDraft_62 h
  · replace h := h.2 c5
    refine g_aload_n C 0 dX7_firstDraft_49 rfl ?_
    refine gf_RX7_37 C h0 dX7_firstDraft_50 ?_
    refine g_iload_n C 1 dX7_firstDraft_53 rfl ?_
    refine g_iconst C (v := (0 : Int32)) dX7_firstDraft_54 (by decide) ?_
    refine g_iast C (isX7_dChance h0).1 (isX7_dChance h0).2 h.1 dX7_firstDraft_55 ?_
    replace h := h.2
    refine g_iinc C (v := v1 + 1) 1 [(1, .int (v1 + 1)), (0, .ref (Y.ad b))] dX7_firstDraft_56 rfl rfl (by decide) rfl ?_
    refine g_goto C 43 dX7_firstDraft_59 (by decide) ?_
    refine g_lv (lv2 := [(0, .ref (Y.ad b)), (1, .int (v1 + 1))]) [1, 0] ?_ rfl
    exact h
set_option maxRecDepth 20000 in
set_option maxHeartbeats 4000000 in
theorem ok_X7_firstDraft {Y : YT} {l0 : Launch} {b : Nat} {μ : Mem} {Q : Mem → Prop} (hI : YI Y) (h0 : isX7 Y b) (h : PX7_firstDraft b μ Q) : MV l0 yX7_firstDraft WX7_firstDraft 0 0 Y [.ref (Y.ad b)] μ Q := by
  refine mV_of (cc := cX7_firstDraft) (maxL := 2) (by decide +kernel) rfl hI (Nat.le_of_ble_eq_true rfl) (fun X C hr => ?_)
  replace C : Cx X Y 2 cX7_firstDraft RX7 WX7_firstDraft (rmB 0 0) l0 := C
  refine g_lv (lv2 := [(0, .ref (Y.ad b))]) [0] ?_ rfl
  unfold PX7_firstDraft at h
  replace h := h (SX7_firstDraft_43 X Y b) (fun v1 μ z => tX7_firstDraft_43 C hr hI h0 v1 μ z)
  refine g_aload_n C 0 dX7_firstDraft_0 rfl ?_
  refine g_iconst C (v := (0 : Int32)) dX7_firstDraft_1 (by decide) ?_
  refine gp_RX7_89 C h0 dX7_firstDraft_2 ?_
  refine g_aload_n C 0 dX7_firstDraft_5 rfl ?_
  refine g_iconst C (v := (0 : Int32)) dX7_firstDraft_6 (by decide) ?_
  refine gp_RX7_93 C h0 dX7_firstDraft_7 ?_
  refine g_mem (fun m1 em1 => ?_)
  replace h := h m1 em1
  refine g_aload_n C 0 dX7_firstDraft_10 rfl ?_
  refine g_iconst C (v := (0 : Int32)) dX7_firstDraft_11 (by decide) ?_
  refine gp_RX7_96 C h0 dX7_firstDraft_12 ?_
  refine g_aload_n C 0 dX7_firstDraft_15 rfl ?_
  refine g_bipush C (v := (127 : Int32)) dX7_firstDraft_16 (by decide) ?_
  refine gp_RX7_99 C h0 dX7_firstDraft_18 ?_
  refine g_mem (fun m2 em2 => ?_)
  replace h := h m2 em2
  refine g_aload_n C 0 dX7_firstDraft_21 rfl ?_
  refine g_iconst C (v := (0 : Int32)) dX7_firstDraft_22 (by decide) ?_
  refine gp_RX7_102 C h0 dX7_firstDraft_23 ?_
  refine g_aload_n C 0 dX7_firstDraft_26 rfl ?_
  refine g_iconst C (v := (0 : Int32)) dX7_firstDraft_27 (by decide) ?_
  refine gp_RX7_105 C h0 nz0 dX7_firstDraft_28 ?_
  refine g_mem (fun m3 em3 => ?_)
  replace h := h m3 em3
  refine g_aload_n C 0 dX7_firstDraft_31 rfl ?_
  refine g_iconst C (v := (0 : Int32)) dX7_firstDraft_32 (by decide) ?_
  refine gp_RX7_109 C h0 nz0 dX7_firstDraft_33 ?_
  refine g_aload_n C 0 dX7_firstDraft_36 rfl ?_
  refine g_iconst C (v := (0 : Int32)) dX7_firstDraft_37 (by decide) ?_
  refine gp_RX7_112 C h0 dX7_firstDraft_38 ?_
  refine g_mem (fun m4 em4 => ?_)
  replace h := h m4 em4
  refine g_iconst C (v := (0 : Int32)) dX7_firstDraft_41 (by decide) ?_
  refine g_istore_n C [(1, .int ((0 : Int32))), (0, .ref (Y.ad b))] dX7_firstDraft_42 (by decide) rfl ?_
  refine g_lv (lv2 := [(0, .ref (Y.ad b)), (1, .int ((0 : Int32)))]) [1, 0] ?_ rfl
  exact h
def SX7_keepDraft_42 (X : XT) (Y : YT) (b : Nat) : Int32 → Mem → Prop := fun v1 μ => G X Y 2 42 [(0, .ref (Y.ad b)), (1, .int v1)] [] μ
def SX7_keepDraft_68 (X : XT) (Y : YT) (b : Nat) : Int32 → Mem → Prop := fun v1 μ => G X Y 2 68 [(0, .ref (Y.ad b)), (1, .int v1)] [] μ
def SX7_keepDraft_94 (X : XT) (Y : YT) (b : Nat) : Int32 → Mem → Prop := fun v1 μ => G X Y 2 94 [(0, .ref (Y.ad b)), (1, .int v1)] [] μ
def SX7_keepDraft_132 (X : XT) (Y : YT) (b : Nat) : Int32 → Mem → Prop := fun v1 μ => G X Y 2 132 [(0, .ref (Y.ad b)), (1, .int v1)] [] μ
def SX7_keepDraft_158 (X : XT) (Y : YT) (b : Nat) : Int32 → Mem → Prop := fun v1 μ => G X Y 2 158 [(0, .ref (Y.ad b)), (1, .int v1)] [] μ
set_option maxRecDepth 20000 in
set_option maxHeartbeats 4000000 in
theorem tX7_keepDraft_42 {X : XT} {Y : YT} {l0 : Launch} {b : Nat} {Q : Mem → Prop} (C : Cx X Y 2 cX7_keepDraft RX7 WX7_keepDraft (rmB 1 25) l0) (hr : RV X Y cX7_keepDraft Q) (hI : YI Y) (h0 : isX7 Y b) (v1 : Int32) (μ : Mem) (h : nX7_keepDraft_42 b Q (SX7_keepDraft_42 X Y b) (SX7_keepDraft_68 X Y b) (SX7_keepDraft_94 X Y b) (SX7_keepDraft_132 X Y b) (SX7_keepDraft_158 X Y b) v1 μ) : G X Y 2 42 [(0, .ref (Y.ad b)), (1, .int v1)] [] μ := by
  unfold nX7_keepDraft_42 at h
  refine g_iload_n C 1 dX7_keepDraft_42 rfl ?_
  refine g_bipush C (v := (18 : Int32)) dX7_keepDraft_43 (by decide) ?_
  refine g_icmp_ge C 66 dX7_keepDraft_45 (by decide) (fun c3 => ?_) (fun c3 => ?_)
  · replace h := h.1 c3
    refine g_iconst C (v := (0 : Int32)) dX7_keepDraft_66 (by decide) ?_
    refine g_istore_n C [(1, .int ((0 : Int32))), (0, .ref (Y.ad b))] dX7_keepDraft_67 (by decide) rfl ?_
    refine g_lv (lv2 := [(0, .ref (Y.ad b)), (1, .int ((0 : Int32)))]) [1, 0] ?_ rfl
    exact h
  · replace h := h.2 c3
    refine g_aload_n C 0 dX7_keepDraft_48 rfl ?_
    refine gf_RX7_7 C h0 dX7_keepDraft_49 ?_
    refine g_iload_n C 1 dX7_keepDraft_52 rfl ?_
    refine g_aload_n C 0 dX7_keepDraft_53 rfl ?_
    refine gf_RX7_25 C h0 dX7_keepDraft_54 ?_
    refine g_iload_n C 1 dX7_keepDraft_57 rfl ?_
    refine g_iald C (isX7_dThing h0).1 (isX7_dThing h0).2 h.1 dX7_keepDraft_58 ?_
    replace h := h.2
    refine g_iast C (isX7_thing h0).1 (isX7_thing h0).2 h.1 dX7_keepDraft_59 ?_
    replace h := h.2
    refine g_iinc C (v := v1 + 1) 1 [(1, .int (v1 + 1)), (0, .ref (Y.ad b))] dX7_keepDraft_60 rfl rfl (by decide) rfl ?_
    refine g_goto C 42 dX7_keepDraft_63 (by decide) ?_
    refine g_lv (lv2 := [(0, .ref (Y.ad b)), (1, .int (v1 + 1))]) [1, 0] ?_ rfl
    exact h
set_option maxRecDepth 20000 in
set_option maxHeartbeats 4000000 in
theorem tX7_keepDraft_68 {X : XT} {Y : YT} {l0 : Launch} {b : Nat} {Q : Mem → Prop} (C : Cx X Y 2 cX7_keepDraft RX7 WX7_keepDraft (rmB 1 25) l0) (hr : RV X Y cX7_keepDraft Q) (hI : YI Y) (h0 : isX7 Y b) (v1 : Int32) (μ : Mem) (h : nX7_keepDraft_68 b Q (SX7_keepDraft_42 X Y b) (SX7_keepDraft_68 X Y b) (SX7_keepDraft_94 X Y b) (SX7_keepDraft_132 X Y b) (SX7_keepDraft_158 X Y b) v1 μ) : G X Y 2 68 [(0, .ref (Y.ad b)), (1, .int v1)] [] μ := by
  unfold nX7_keepDraft_68 at h
  refine g_iload_n C 1 dX7_keepDraft_68 rfl ?_
  refine g_bipush C (v := (45 : Int32)) dX7_keepDraft_69 (by decide) ?_
  refine g_icmp_ge C 92 dX7_keepDraft_71 (by decide) (fun c4 => ?_) (fun c4 => ?_)
  · replace h := h.1 c4
    refine g_iconst C (v := (0 : Int32)) dX7_keepDraft_92 (by decide) ?_
    refine g_istore_n C [(1, .int ((0 : Int32))), (0, .ref (Y.ad b))] dX7_keepDraft_93 (by decide) rfl ?_
    refine g_lv (lv2 := [(0, .ref (Y.ad b)), (1, .int ((0 : Int32)))]) [1, 0] ?_ rfl
    exact h
  · replace h := h.2 c4
    refine g_aload_n C 0 dX7_keepDraft_74 rfl ?_
    refine gf_RX7_13 C h0 dX7_keepDraft_75 ?_
    refine g_iload_n C 1 dX7_keepDraft_78 rfl ?_
    refine g_aload_n C 0 dX7_keepDraft_79 rfl ?_
    refine gf_RX7_28 C h0 dX7_keepDraft_80 ?_
    refine g_iload_n C 1 dX7_keepDraft_83 rfl ?_
    refine g_iald C (isX7_dSupper h0).1 (isX7_dSupper h0).2 h.1 dX7_keepDraft_84 ?_
    replace h := h.2
    refine g_iast C (isX7_supper h0).1 (isX7_supper h0).2 h.1 dX7_keepDraft_85 ?_
    replace h := h.2
    refine g_iinc C (v := v1 + 1) 1 [(1, .int (v1 + 1)), (0, .ref (Y.ad b))] dX7_keepDraft_86 rfl rfl (by decide) rfl ?_
    refine g_goto C 68 dX7_keepDraft_89 (by decide) ?_
    refine g_lv (lv2 := [(0, .ref (Y.ad b)), (1, .int (v1 + 1))]) [1, 0] ?_ rfl
    exact h
set_option maxRecDepth 20000 in
set_option maxHeartbeats 4000000 in
theorem tX7_keepDraft_94 {X : XT} {Y : YT} {l0 : Launch} {b : Nat} {Q : Mem → Prop} (C : Cx X Y 2 cX7_keepDraft RX7 WX7_keepDraft (rmB 1 25) l0) (hr : RV X Y cX7_keepDraft Q) (hI : YI Y) (h0 : isX7 Y b) (v1 : Int32) (μ : Mem) (h : nX7_keepDraft_94 b Q (SX7_keepDraft_42 X Y b) (SX7_keepDraft_68 X Y b) (SX7_keepDraft_94 X Y b) (SX7_keepDraft_132 X Y b) (SX7_keepDraft_158 X Y b) v1 μ) : G X Y 2 94 [(0, .ref (Y.ad b)), (1, .int v1)] [] μ := by
  unfold nX7_keepDraft_94 at h
  refine g_iload_n C 1 dX7_keepDraft_94 rfl ?_
  refine g_bipush C (v := (54 : Int32)) dX7_keepDraft_95 (by decide) ?_
  refine g_icmp_ge C 130 dX7_keepDraft_97 (by decide) (fun c5 => ?_) (fun c5 => ?_)
  · replace h := h.1 c5
    refine g_iconst C (v := (0 : Int32)) dX7_keepDraft_130 (by decide) ?_
    refine g_istore_n C [(1, .int ((0 : Int32))), (0, .ref (Y.ad b))] dX7_keepDraft_131 (by decide) rfl ?_
    refine g_lv (lv2 := [(0, .ref (Y.ad b)), (1, .int ((0 : Int32)))]) [1, 0] ?_ rfl
    exact h
  · replace h := h.2 c5
    refine g_aload_n C 0 dX7_keepDraft_100 rfl ?_
    refine gf_RX7_16 C h0 dX7_keepDraft_101 ?_
    refine g_iload_n C 1 dX7_keepDraft_104 rfl ?_
    refine g_aload_n C 0 dX7_keepDraft_105 rfl ?_
    refine gf_RX7_31 C h0 dX7_keepDraft_106 ?_
    refine g_iload_n C 1 dX7_keepDraft_109 rfl ?_
    refine g_iald C (isX7_dWants h0).1 (isX7_dWants h0).2 h.1 dX7_keepDraft_110 ?_
    replace h := h.2
    refine g_iast C (isX7_wants h0).1 (isX7_wants h0).2 h.1 dX7_keepDraft_111 ?_
    replace h := h.2
    refine g_aload_n C 0 dX7_keepDraft_112 rfl ?_
    refine gf_RX7_19 C h0 dX7_keepDraft_113 ?_
    refine g_iload_n C 1 dX7_keepDraft_116 rfl ?_
    refine g_aload_n C 0 dX7_keepDraft_117 rfl ?_
    refine gf_RX7_34 C h0 dX7_keepDraft_118 ?_
    refine g_iload_n C 1 dX7_keepDraft_121 rfl ?_
    refine g_iald C (isX7_dLeaves h0).1 (isX7_dLeaves h0).2 h.1 dX7_keepDraft_122 ?_
    replace h := h.2
    refine g_iast C (isX7_leaves h0).1 (isX7_leaves h0).2 h.1 dX7_keepDraft_123 ?_
    replace h := h.2
    refine g_mem (fun m6 em6 => ?_)
    replace h := h m6 em6
    refine g_iinc C (v := v1 + 1) 1 [(1, .int (v1 + 1)), (0, .ref (Y.ad b))] dX7_keepDraft_124 rfl rfl (by decide) rfl ?_
    refine g_goto C 94 dX7_keepDraft_127 (by decide) ?_
    refine g_lv (lv2 := [(0, .ref (Y.ad b)), (1, .int (v1 + 1))]) [1, 0] ?_ rfl
    exact h
set_option maxRecDepth 20000 in
set_option maxHeartbeats 4000000 in
theorem tX7_keepDraft_132 {X : XT} {Y : YT} {l0 : Launch} {b : Nat} {Q : Mem → Prop} (C : Cx X Y 2 cX7_keepDraft RX7 WX7_keepDraft (rmB 1 25) l0) (hr : RV X Y cX7_keepDraft Q) (hI : YI Y) (h0 : isX7 Y b) (v1 : Int32) (μ : Mem) (h : nX7_keepDraft_132 b Q (SX7_keepDraft_42 X Y b) (SX7_keepDraft_68 X Y b) (SX7_keepDraft_94 X Y b) (SX7_keepDraft_132 X Y b) (SX7_keepDraft_158 X Y b) v1 μ) : G X Y 2 132 [(0, .ref (Y.ad b)), (1, .int v1)] [] μ := by
  unfold nX7_keepDraft_132 at h
  refine g_iload_n C 1 dX7_keepDraft_132 rfl ?_
  refine g_bipush C (v := (7 : Int32)) dX7_keepDraft_133 (by decide) ?_
  refine g_icmp_ge C 156 dX7_keepDraft_135 (by decide) (fun c7 => ?_) (fun c7 => ?_)
  · replace h := h.1 c7
    refine g_iconst C (v := (0 : Int32)) dX7_keepDraft_156 (by decide) ?_
    refine g_istore_n C [(1, .int ((0 : Int32))), (0, .ref (Y.ad b))] dX7_keepDraft_157 (by decide) rfl ?_
    refine g_lv (lv2 := [(0, .ref (Y.ad b)), (1, .int ((0 : Int32)))]) [1, 0] ?_ rfl
    exact h
  · replace h := h.2 c7
    refine g_aload_n C 0 dX7_keepDraft_138 rfl ?_
    refine gf_RX7_22 C h0 dX7_keepDraft_139 ?_
    refine g_iload_n C 1 dX7_keepDraft_142 rfl ?_
    refine g_aload_n C 0 dX7_keepDraft_143 rfl ?_
    refine gf_RX7_37 C h0 dX7_keepDraft_144 ?_
    refine g_iload_n C 1 dX7_keepDraft_147 rfl ?_
    refine g_iald C (isX7_dChance h0).1 (isX7_dChance h0).2 h.1 dX7_keepDraft_148 ?_
    replace h := h.2
    refine g_iast C (isX7_chance h0).1 (isX7_chance h0).2 h.1 dX7_keepDraft_149 ?_
    replace h := h.2
    refine g_iinc C (v := v1 + 1) 1 [(1, .int (v1 + 1)), (0, .ref (Y.ad b))] dX7_keepDraft_150 rfl rfl (by decide) rfl ?_
    refine g_goto C 132 dX7_keepDraft_153 (by decide) ?_
    refine g_lv (lv2 := [(0, .ref (Y.ad b)), (1, .int (v1 + 1))]) [1, 0] ?_ rfl
    exact h
set_option maxRecDepth 20000 in
set_option maxHeartbeats 4000000 in
theorem tX7_keepDraft_193 {X : XT} {Y : YT} {l0 : Launch} {b : Nat} {Q : Mem → Prop} (C : Cx X Y 2 cX7_keepDraft RX7 WX7_keepDraft (rmB 1 25) l0) (hr : RV X Y cX7_keepDraft Q) (hI : YI Y) (h0 : isX7 Y b) (v1 : Int32) (w0 : Int32) (w1 : Int32) (μ : Mem) (h : nX7_keepDraft_193 b Q (SX7_keepDraft_42 X Y b) (SX7_keepDraft_68 X Y b) (SX7_keepDraft_94 X Y b) (SX7_keepDraft_132 X Y b) (SX7_keepDraft_158 X Y b) v1 w0 w1 μ) : G X Y 2 193 [(0, .ref (Y.ad b)), (1, .int v1)] [.int w0, .int w1, .ref (Y.ad (b + 14))] μ := by
  unfold nX7_keepDraft_193 at h
  refine g_iast C (isX7_st h0).1 (isX7_st h0).2 h.1 dX7_keepDraft_193 ?_
  replace h := h.2
  refine g_iinc C (v := v1 + 1) 1 [(1, .int (v1 + 1)), (0, .ref (Y.ad b))] dX7_keepDraft_194 rfl rfl (by decide) rfl ?_
  refine g_goto C 158 dX7_keepDraft_197 (by decide) ?_
  refine g_lv (lv2 := [(0, .ref (Y.ad b)), (1, .int (v1 + 1))]) [1, 0] ?_ rfl
  exact h
set_option maxRecDepth 20000 in
set_option maxHeartbeats 4000000 in
theorem tX7_keepDraft_158 {X : XT} {Y : YT} {l0 : Launch} {b : Nat} {Q : Mem → Prop} (C : Cx X Y 2 cX7_keepDraft RX7 WX7_keepDraft (rmB 1 25) l0) (hr : RV X Y cX7_keepDraft Q) (hI : YI Y) (h0 : isX7 Y b) (v1 : Int32) (μ : Mem) (h : nX7_keepDraft_158 b Q (SX7_keepDraft_42 X Y b) (SX7_keepDraft_68 X Y b) (SX7_keepDraft_94 X Y b) (SX7_keepDraft_132 X Y b) (SX7_keepDraft_158 X Y b) v1 μ) : G X Y 2 158 [(0, .ref (Y.ad b)), (1, .int v1)] [] μ := by
  unfold nX7_keepDraft_158 at h
  refine g_iload_n C 1 dX7_keepDraft_158 rfl ?_
  refine g_bipush C (v := (36 : Int32)) dX7_keepDraft_159 (by decide) ?_
  refine g_icmp_ge C 200 dX7_keepDraft_161 (by decide) (fun c8 => ?_) (fun c8 => ?_)
  · replace h := h.1 c8
    refine g_aload_n C 0 dX7_keepDraft_200 rfl ?_
    refine gf_RX7_49 C h0 dX7_keepDraft_201 ?_
    refine g_sipush C (v := (316 : Int32)) dX7_keepDraft_204 (by decide) ?_
    refine g_iconst C (v := (0 : Int32)) dX7_keepDraft_207 (by decide) ?_
    refine g_iast C (isX7_st h0).1 (isX7_st h0).2 h.1 dX7_keepDraft_208 ?_
    replace h := h.2
    refine g_aload_n C 0 dX7_keepDraft_209 rfl ?_
    refine gf_RX7_49 C h0 dX7_keepDraft_210 ?_
    refine g_sipush C (v := (317 : Int32)) dX7_keepDraft_213 (by decide) ?_
    refine g_bipush C (v := (-4 : Int32)) dX7_keepDraft_216 (by decide) ?_
    refine g_iast C (isX7_st h0).1 (isX7_st h0).2 h.1 dX7_keepDraft_218 ?_
    replace h := h.2
    refine g_mem (fun m9 em9 => ?_)
    replace h := h m9 em9
    refine g_aload_n C 0 dX7_keepDraft_219 rfl ?_
    refine gf_RX7_52 C h0 dX7_keepDraft_220 ?_
    refine g_iconst C (v := (0 : Int32)) dX7_keepDraft_223 (by decide) ?_
    refine g_iconst C (v := (0 : Int32)) dX7_keepDraft_224 (by decide) ?_
    refine g_zast C (isX7_isKept h0).1 (isX7_isKept h0).2 h.1 dX7_keepDraft_225 ?_
    replace h := h.2
    refine g_aload_n C 0 dX7_keepDraft_226 rfl ?_
    refine gf_RX7_52 C h0 dX7_keepDraft_227 ?_
    refine g_iconst C (v := (1 : Int32)) dX7_keepDraft_230 (by decide) ?_
    refine g_iconst C (v := (0 : Int32)) dX7_keepDraft_231 (by decide) ?_
    refine g_zast C (isX7_isKept h0).1 (isX7_isKept h0).2 h.1 dX7_keepDraft_232 ?_
    replace h := h.2
    refine g_mem (fun m10 em10 => ?_)
    replace h := h m10 em10
    refine g_aload_n C 0 dX7_keepDraft_233 rfl ?_
    refine g_iconst C (v := (0 : Int32)) dX7_keepDraft_234 (by decide) ?_
    refine gp_RX7_138 C h0 dX7_keepDraft_235 ?_
    exact hr _ _ _ _ dX7_keepDraft_238 h
  · replace h := h.2 c8
    refine g_aload_n C 0 dX7_keepDraft_164 rfl ?_
    refine gf_RX7_49 C h0 dX7_keepDraft_165 ?_
    refine g_sipush C (v := (280 : Int32)) dX7_keepDraft_168 (by decide) ?_
    refine g_iload_n C 1 dX7_keepDraft_171 rfl ?_
    refine g_iadd C dX7_keepDraft_172 ?_
    refine g_iload_n C 1 dX7_keepDraft_173 rfl ?_
    refine g_i2l C dX7_keepDraft_174 ?_
    refine g_ldc2 C (v := (24 : Int64)) (List.mem_cons_of_mem _ mL_RX7_130) dX7_keepDraft_175 ?_
    refine g_ldc2 C (v := (32 : Int64)) (List.mem_cons_of_mem _ mL_RX7_132) dX7_keepDraft_178 ?_
    refine g_callSI C [.long v1.toInt64, .long ((24 : Int64)), .long ((32 : Int64))] [.int (((280 : Int32)) + v1), .ref (Y.ad (b + 14))] (ok_X7_in hI  h) (cw_RX7_134 _) rfl dc_X7_in ⟨Nat.le_of_ble_eq_true rfl, Nat.le_of_ble_eq_true rfl⟩ rfl (Nat.le_of_ble_eq_true rfl) dX7_keepDraft_181 (fun r12 m11 h => ?_)
    refine g_if_eq C 192 dX7_keepDraft_184 (by decide) (fun c13 => ?_) (fun c13 => ?_)
    · replace h := h.1 c13
      refine g_iconst C (v := (0 : Int32)) dX7_keepDraft_192 (by decide) ?_
      exact tX7_keepDraft_193 C hr hI h0 _ _ _ _ h
    · replace h := h.2 c13
      refine g_bipush C (v := (-4 : Int32)) dX7_keepDraft_187 (by decide) ?_
      refine g_goto C 193 dX7_keepDraft_189 (by decide) ?_
      exact tX7_keepDraft_193 C hr hI h0 _ _ _ _ h
set_option maxRecDepth 20000 in
set_option maxHeartbeats 4000000 in
theorem ok_X7_keepDraft {Y : YT} {l0 : Launch} {b : Nat} {μ : Mem} {Q : Mem → Prop} (hI : YI Y) (h0 : isX7 Y b) (h : PX7_keepDraft b μ Q) : MV l0 yX7_keepDraft WX7_keepDraft 1 25 Y [.ref (Y.ad b)] μ Q := by
  refine mV_of (cc := cX7_keepDraft) (maxL := 2) (by decide +kernel) rfl hI (Nat.le_of_ble_eq_true rfl) (fun X C hr => ?_)
  replace C : Cx X Y 2 cX7_keepDraft RX7 WX7_keepDraft (rmB 1 25) l0 := C
  refine g_lv (lv2 := [(0, .ref (Y.ad b))]) [0] ?_ rfl
  unfold PX7_keepDraft at h
  replace h := h (SX7_keepDraft_42 X Y b) (SX7_keepDraft_68 X Y b) (SX7_keepDraft_94 X Y b) (SX7_keepDraft_132 X Y b) (SX7_keepDraft_158 X Y b) (fun v1 μ z => tX7_keepDraft_42 C hr hI h0 v1 μ z) (fun v1 μ z => tX7_keepDraft_68 C hr hI h0 v1 μ z) (fun v1 μ z => tX7_keepDraft_94 C hr hI h0 v1 μ z) (fun v1 μ z => tX7_keepDraft_132 C hr hI h0 v1 μ z) (fun v1 μ z => tX7_keepDraft_158 C hr hI h0 v1 μ z)
  refine g_aload_n C 0 dX7_keepDraft_0 rfl ?_
  refine g_aload_n C 0 dX7_keepDraft_1 rfl ?_
  refine gf_RX7_89 C h0 dX7_keepDraft_2 ?_
  refine gp_RX7_115 C h0 dX7_keepDraft_5 ?_
  refine g_aload_n C 0 dX7_keepDraft_8 rfl ?_
  refine g_aload_n C 0 dX7_keepDraft_9 rfl ?_
  refine gf_RX7_93 C h0 dX7_keepDraft_10 ?_
  refine gp_RX7_118 C h0 dX7_keepDraft_13 ?_
  refine g_mem (fun m1 em1 => ?_)
  replace h := h m1 em1
  refine g_aload_n C 0 dX7_keepDraft_16 rfl ?_
  refine g_aload_n C 0 dX7_keepDraft_17 rfl ?_
  refine gf_RX7_96 C h0 dX7_keepDraft_18 ?_
  refine gp_RX7_121 C h0 dX7_keepDraft_21 ?_
  refine g_aload_n C 0 dX7_keepDraft_24 rfl ?_
  refine g_aload_n C 0 dX7_keepDraft_25 rfl ?_
  refine gf_RX7_99 C h0 dX7_keepDraft_26 ?_
  refine gp_RX7_124 C h0 dX7_keepDraft_29 ?_
  refine g_mem (fun m2 em2 => ?_)
  replace h := h m2 em2
  refine g_aload_n C 0 dX7_keepDraft_32 rfl ?_
  refine g_aload_n C 0 dX7_keepDraft_33 rfl ?_
  refine gf_RX7_102 C h0 dX7_keepDraft_34 ?_
  refine gp_RX7_127 C h0 dX7_keepDraft_37 ?_
  refine g_iconst C (v := (0 : Int32)) dX7_keepDraft_40 (by decide) ?_
  refine g_istore_n C [(1, .int ((0 : Int32))), (0, .ref (Y.ad b))] dX7_keepDraft_41 (by decide) rfl ?_
  refine g_lv (lv2 := [(0, .ref (Y.ad b)), (1, .int ((0 : Int32)))]) [1, 0] ?_ rfl
  exact h
def SX7_feed_19 (X : XT) (Y : YT) (b : Nat) (p1 : Int64) : Int32 → Mem → Prop := fun v3 μ => G X Y 4 19 [(0, .ref (Y.ad b)), (1, .long p1), (3, .int v3)] [] μ
set_option maxRecDepth 20000 in
set_option maxHeartbeats 4000000 in
theorem tX7_feed_19 {X : XT} {Y : YT} {l0 : Launch} {b : Nat} {p1 : Int64} {Q : Int32 → Mem → Prop} (C : Cx X Y 4 cX7_feed RX7 WX7_feed (rmB 0 0) l0) (hr : RI X Y cX7_feed .int Q) (hI : YI Y) (h0 : isX7 Y b) (v3 : Int32) (μ : Mem) (h : nX7_feed_19 b p1 Q (SX7_feed_19 X Y b p1) v3 μ) : G X Y 4 19 [(0, .ref (Y.ad b)), (1, .long p1), (3, .int v3)] [] μ := by
  unfold nX7_feed_19 at h
  refine g_iload_n C 2 dX7_feed_19 rfl ?_
  refine g_if_lt C 56 dX7_feed_20 (by decide) (fun c2 => ?_) (fun c2 => ?_)
  · replace h := h.1 c2
    refine g_aload_n C 0 dX7_feed_56 rfl ?_
    refine gf_RX7_141 C h0 dX7_feed_57 ?_
    exact hr _ _ _ _ _ dX7_feed_60 rfl h
  · replace h := h.2 c2
    refine g_aload_n C 0 dX7_feed_23 rfl ?_
    refine gf_RX7_46 C h0 dX7_feed_24 ?_
    refine g_aload_n C 0 dX7_feed_27 rfl ?_
    refine gf_RX7_141 C h0 dX7_feed_28 ?_
    refine g_lload_n C 1 dX7_feed_31 rfl ?_
    refine g_iload_n C 2 dX7_feed_32 rfl ?_
    refine g_lshr C dX7_feed_33 ?_
    refine g_ldc2 C (v := (255 : Int64)) (List.mem_cons_of_mem _ mL_RX7_144) dX7_feed_34 ?_
    refine g_land C dX7_feed_37 ?_
    refine g_l2i C dX7_feed_38 ?_
    refine g_iast C (isX7_tape h0).1 (isX7_tape h0).2 h.1 dX7_feed_39 ?_
    replace h := h.2
    refine g_mem (fun m3 em3 => ?_)
    replace h := h m3 em3
    refine g_aload_n C 0 dX7_feed_40 rfl ?_
    refine g_dup C dX7_feed_41 rfl ?_
    refine gf_RX7_141 C h0 dX7_feed_42 ?_
    refine g_iconst C (v := (1 : Int32)) dX7_feed_45 (by decide) ?_
    refine g_iadd C dX7_feed_46 ?_
    refine gp_RX7_141 C h0 dX7_feed_47 ?_
    refine g_iinc C (v := v3 + (-8)) 2 [(3, .int (v3 + (-8))), (0, .ref (Y.ad b)), (1, .long p1)] dX7_feed_50 rfl rfl (by decide) rfl ?_
    refine g_goto C 19 dX7_feed_53 (by decide) ?_
    refine g_lv (lv2 := [(0, .ref (Y.ad b)), (1, .long p1), (3, .int (v3 + (-8)))]) [1, 2, 0] ?_ rfl
    exact h
set_option maxRecDepth 20000 in
set_option maxHeartbeats 4000000 in
theorem ok_X7_feed {Y : YT} {l0 : Launch} {b : Nat} {p1 : Int64} {μ : Mem} {Q : Int32 → Mem → Prop} (hI : YI Y) (h0 : isX7 Y b) (h : PX7_feed b p1 μ Q) : MI l0 yX7_feed WX7_feed 0 0 Y [.ref (Y.ad b), .long p1] μ Q := by
  refine mI_of (ty := .int) (cc := cX7_feed) (maxL := 4) (by decide +kernel) rfl hI (Nat.le_of_ble_eq_true rfl) (fun X C hr => ?_)
  replace C : Cx X Y 4 cX7_feed RX7 WX7_feed (rmB 0 0) l0 := C
  refine g_lv (lv2 := [(0, .ref (Y.ad b)), (1, .long p1)]) [0, 1] ?_ rfl
  unfold PX7_feed at h
  replace h := h (SX7_feed_19 X Y b p1) (fun v3 μ z => tX7_feed_19 C hr hI h0 v3 μ z)
  refine g_aload_n C 0 dX7_feed_0 rfl ?_
  refine gf_RX7_141 C h0 dX7_feed_1 ?_
  refine g_bipush C (v := (8 : Int32)) dX7_feed_4 (by decide) ?_
  refine g_iadd C dX7_feed_6 ?_
  refine g_sipush C (v := (400 : Int32)) dX7_feed_7 (by decide) ?_
  refine g_icmp_le C 16 dX7_feed_10 (by decide) (fun c1 => ?_) (fun c1 => ?_)
  · replace h := h.1 c1
    refine g_bipush C (v := (56 : Int32)) dX7_feed_16 (by decide) ?_
    refine g_istore_n C [(3, .int ((56 : Int32))), (0, .ref (Y.ad b)), (1, .long p1)] dX7_feed_18 (by decide) rfl ?_
    refine g_lv (lv2 := [(0, .ref (Y.ad b)), (1, .long p1), (3, .int ((56 : Int32)))]) [1, 2, 0] ?_ rfl
    exact h
  · replace h := h.2 c1
    refine g_bipush C (v := (-3 : Int32)) dX7_feed_13 (by decide) ?_
    exact hr _ _ _ _ _ dX7_feed_15 rfl h
set_option maxRecDepth 20000 in
set_option maxHeartbeats 4000000 in
theorem ok_X7_end {Y : YT} {l0 : Launch} {b : Nat} {p1 : Int32} {μ : Mem} {Q : Int32 → Mem → Prop} (hI : YI Y) (h0 : isX7 Y b) (h : PX7_end b p1 μ Q) : MI l0 yX7_end WX7_end 1 25 Y [.ref (Y.ad b), .int p1] μ Q := by
  refine mI_of (ty := .int) (cc := cX7_end) (maxL := 3) (by decide +kernel) rfl hI (Nat.le_of_ble_eq_true rfl) (fun X C hr => ?_)
  replace C : Cx X Y 3 cX7_end RX7 WX7_end (rmB 1 25) l0 := C
  refine g_lv (lv2 := [(0, .ref (Y.ad b)), (1, .int p1)]) [0, 1] ?_ rfl
  unfold PX7_end at h
  refine g_iload_n C 1 dX7_end_0 rfl ?_
  refine g_i2l C dX7_end_1 ?_
  refine g_lconst C (v := (0 : Int64)) dX7_end_2 (by decide) ?_
  refine g_aload_n C 0 dX7_end_3 rfl ?_
  refine gf_RX7_141 C h0 dX7_end_4 ?_
  refine g_i2l C dX7_end_7 ?_
  refine g_callSI C [.long p1.toInt64, .long ((0 : Int64)), .long ((μ.1 b 26).toInt64)] [] (ok_X7_in hI  h) (cw_RX7_134 _) rfl dc_X7_in ⟨Nat.le_of_ble_eq_true rfl, Nat.le_of_ble_eq_true rfl⟩ rfl (Nat.le_of_ble_eq_true rfl) dX7_end_8 (fun r2 m1 h => ?_)
  refine g_if_ne C 16 dX7_end_11 (by decide) (fun c3 => ?_) (fun c3 => ?_)
  · replace h := h.1 c3
    refine g_aload_n C 0 dX7_end_16 rfl ?_
    refine gf_RX7_141 C h0 dX7_end_17 ?_
    refine g_istore_n C [(2, .int (m1.1 b 26)), (0, .ref (Y.ad b)), (1, .int p1)] dX7_end_20 (by decide) rfl ?_
    refine g_aload_n C 1 dX7_end_21 rfl ?_
    refine g_iload_n C 2 dX7_end_22 rfl ?_
    refine gp_RX7_141 C h0 dX7_end_23 ?_
    refine g_iload_n C 0 dX7_end_26 rfl ?_
    exact hr _ _ _ _ _ dX7_end_27 rfl h
  · replace h := h.2 c3
    refine g_iconst C (v := (-1 : Int32)) dX7_end_14 (by decide) ?_
    exact hr _ _ _ _ _ dX7_end_15 rfl h
set_option maxRecDepth 20000 in
set_option maxHeartbeats 4000000 in
theorem ok_X7_needs {Y : YT} {l0 : Launch} {b : Nat} {p1 : Int32} {p2 : Int32} {μ : Mem} {Q : Mem → Prop} (hI : YI Y) (h0 : isX7 Y b) (h : PX7_needs b p1 p2 μ Q) : MV l0 yX7_needs WX7_needs 0 0 Y [.ref (Y.ad b), .int p1, .int p2] μ Q := by
  refine mV_of (cc := cX7_needs) (maxL := 3) (by decide +kernel) rfl hI (Nat.le_of_ble_eq_true rfl) (fun X C hr => ?_)
  replace C : Cx X Y 3 cX7_needs RX7 WX7_needs (rmB 0 0) l0 := C
  refine g_lv (lv2 := [(0, .ref (Y.ad b)), (1, .int p1), (2, .int p2)]) [0, 1, 2] ?_ rfl
  unfold PX7_needs at h
  refine g_iload_n C 1 dX7_needs_0 rfl ?_
  refine g_if_ne C 24 dX7_needs_1 (by decide) (fun c1 => ?_) (fun c1 => ?_)
  · replace h := h.1 c1
    exact hr _ _ _ _ dX7_needs_24 h
  · replace h := h.2 c1
    refine g_aload_n C 0 dX7_needs_4 rfl ?_
    refine gf_RX7_146 C h0 dX7_needs_5 ?_
    refine g_if_ne C 24 dX7_needs_8 (by decide) (fun c2 => ?_) (fun c2 => ?_)
    · replace h := h.1 c2
      exact hr _ _ _ _ dX7_needs_24 h
    · replace h := h.2 c2
      refine g_aload_n C 0 dX7_needs_11 rfl ?_
      refine g_iload_n C 2 dX7_needs_12 rfl ?_
      refine gp_RX7_146 C h0 dX7_needs_13 ?_
      refine g_aload_n C 0 dX7_needs_16 rfl ?_
      refine g_aload_n C 0 dX7_needs_17 rfl ?_
      refine gf_RX7_149 C h0 dX7_needs_18 ?_
      refine gp_RX7_152 C h0 dX7_needs_21 ?_
      refine g_mem (fun m3 em3 => ?_)
      replace h := h m3 em3
      exact hr _ _ _ _ dX7_needs_24 h
set_option maxRecDepth 20000 in
set_option maxHeartbeats 4000000 in
theorem ok_X7_look {Y : YT} {l0 : Launch} {b : Nat} {p1 : Int32} {μ : Mem} {Q : Int32 → Mem → Prop} (hI : YI Y) (h0 : isX7 Y b) (h : PX7_look b p1 μ Q) : MI l0 yX7_look WX7_look 0 0 Y [.ref (Y.ad b), .int p1] μ Q := by
  refine mI_of (ty := .int) (cc := cX7_look) (maxL := 2) (by decide +kernel) rfl hI (Nat.le_of_ble_eq_true rfl) (fun X C hr => ?_)
  replace C : Cx X Y 2 cX7_look RX7 WX7_look (rmB 0 0) l0 := C
  refine g_lv (lv2 := [(0, .ref (Y.ad b)), (1, .int p1)]) [0, 1] ?_ rfl
  unfold PX7_look at h
  refine g_iload_n C 1 dX7_look_0 rfl ?_
  refine g_aload_n C 0 dX7_look_1 rfl ?_
  refine gf_RX7_141 C h0 dX7_look_2 ?_
  refine g_icmp_ge C 17 dX7_look_5 (by decide) (fun c1 => ?_) (fun c1 => ?_)
  · replace h := h.1 c1
    refine g_iconst C (v := (-1 : Int32)) dX7_look_17 (by decide) ?_
    exact hr _ _ _ _ _ dX7_look_18 rfl h
  · replace h := h.2 c1
    refine g_aload_n C 0 dX7_look_8 rfl ?_
    refine gf_RX7_46 C h0 dX7_look_9 ?_
    refine g_iload_n C 1 dX7_look_12 rfl ?_
    refine g_iald C (isX7_tape h0).1 (isX7_tape h0).2 h.1 dX7_look_13 ?_
    replace h := h.2
    refine g_goto C 18 dX7_look_14 (by decide) ?_
    exact hr _ _ _ _ _ dX7_look_18 rfl h
set_option maxRecDepth 20000 in
set_option maxHeartbeats 4000000 in
theorem tX7_is_74 {X : XT} {Y : YT} {l0 : Launch} {b : Nat} {p1 : Int32} {p2 : Int32} {p3 : Int32} {p4 : Int32} {p5 : Int32} {Q : Int32 → Mem → Prop} (C : Cx X Y 6 cX7_is RX7 WX7_is (rmB 1 21) l0) (hr : RI X Y cX7_is .boolean Q) (hI : YI Y) (h0 : isX7 Y b) (μ : Mem) (h : nX7_is_74 b p1 p2 p3 p4 p5 Q  μ) : G X Y 6 74 [(0, .ref (Y.ad b)), (1, .int p1), (2, .int p2), (3, .int p3), (4, .int p4), (5, .int p5)] [] μ := by
  unfold nX7_is_74 at h
  refine g_iconst C (v := (1 : Int32)) dX7_is_74 (by decide) ?_
  refine g_goto C 79 dX7_is_75 (by decide) ?_
  exact hr _ _ _ _ _ dX7_is_79 rfl h
set_option maxRecDepth 20000 in
set_option maxHeartbeats 4000000 in
theorem tX7_is_78 {X : XT} {Y : YT} {l0 : Launch} {b : Nat} {p1 : Int32} {p2 : Int32} {p3 : Int32} {p4 : Int32} {p5 : Int32} {Q : Int32 → Mem → Prop} (C : Cx X Y 6 cX7_is RX7 WX7_is (rmB 1 21) l0) (hr : RI X Y cX7_is .boolean Q) (hI : YI Y) (h0 : isX7 Y b) (μ : Mem) (h : nX7_is_78 b p1 p2 p3 p4 p5 Q  μ) : G X Y 6 78 [(0, .ref (Y.ad b)), (1, .int p1), (2, .int p2), (3, .int p3), (4, .int p4), (5, .int p5)] [] μ := by
  unfold nX7_is_78 at h
  refine g_iconst C (v := (0 : Int32)) dX7_is_78 (by decide) ?_
  exact hr _ _ _ _ _ dX7_is_79 rfl h
set_option maxRecDepth 20000 in
set_option maxHeartbeats 4000000 in
theorem ok_X7_is {Y : YT} {l0 : Launch} {b : Nat} {p1 : Int32} {p2 : Int32} {p3 : Int32} {p4 : Int32} {p5 : Int32} {μ : Mem} {Q : Int32 → Mem → Prop} (hI : YI Y) (h0 : isX7 Y b) (h : PX7_is b p1 p2 p3 p4 p5 μ Q) : MI l0 yX7_is WX7_is 1 21 Y [.ref (Y.ad b), .int p1, .int p2, .int p3, .int p4, .int p5] μ Q := by
  refine mI_of (ty := .boolean) (cc := cX7_is) (maxL := 6) (by decide +kernel) rfl hI (Nat.le_of_ble_eq_true rfl) (fun X C hr => ?_)
  replace C : Cx X Y 6 cX7_is RX7 WX7_is (rmB 1 21) l0 := C
  refine g_lv (lv2 := [(0, .ref (Y.ad b)), (1, .int p1), (2, .int p2), (3, .int p3), (4, .int p4), (5, .int p5)]) [0, 1, 2, 3, 4, 5] ?_ rfl
  unfold PX7_is at h
  refine g_aload_n C 0 dX7_is_0 rfl ?_
  refine gf_RX7_155 C h0 dX7_is_1 ?_
  refine g_aload_n C 0 dX7_is_4 rfl ?_
  refine gf_RX7_149 C h0 dX7_is_5 ?_
  refine g_isub C dX7_is_8 ?_
  refine g_iload_n C 1 dX7_is_9 rfl ?_
  refine g_icmp_ne C 78 dX7_is_10 (by decide) (fun c1 => ?_) (fun c1 => ?_)
  · replace h := h.1 c1
    exact tX7_is_78 C hr hI h0 _ h
  · replace h := h.2 c1
    refine g_aload_n C 0 dX7_is_13 rfl ?_
    refine g_aload_n C 0 dX7_is_14 rfl ?_
    refine gf_RX7_149 C h0 dX7_is_15 ?_
    refine g_callVI C [.int (μ.1 b 28)] [] (ok_X7_look hI h0 h) (cw_RX7_158 _) rfl dc_X7_look ⟨Nat.le_of_ble_eq_true rfl, Nat.le_of_ble_eq_true rfl⟩ (isX7_lt h0) (isX7_sh h0) rfl rfl rfl rfl (Nat.le_of_ble_eq_true rfl) dX7_is_18 (fun r3 m2 h => ?_)
    refine g_iload_n C 2 dX7_is_21 rfl ?_
    refine g_icmp_ne C 78 dX7_is_22 (by decide) (fun c4 => ?_) (fun c4 => ?_)
    · replace h := h.1 c4
      exact tX7_is_78 C hr hI h0 _ h
    · replace h := h.2 c4
      refine g_aload_n C 0 dX7_is_25 rfl ?_
      refine g_aload_n C 0 dX7_is_26 rfl ?_
      refine gf_RX7_149 C h0 dX7_is_27 ?_
      refine g_iconst C (v := (1 : Int32)) dX7_is_30 (by decide) ?_
      refine g_iadd C dX7_is_31 ?_
      refine g_callVI C [.int ((m2.1 b 28) + ((1 : Int32)))] [] (ok_X7_look hI h0 h) (cw_RX7_158 _) rfl dc_X7_look ⟨Nat.le_of_ble_eq_true rfl, Nat.le_of_ble_eq_true rfl⟩ (isX7_lt h0) (isX7_sh h0) rfl rfl rfl rfl (Nat.le_of_ble_eq_true rfl) dX7_is_32 (fun r6 m5 h => ?_)
      refine g_iload_n C 3 dX7_is_35 rfl ?_
      refine g_icmp_ne C 78 dX7_is_36 (by decide) (fun c7 => ?_) (fun c7 => ?_)
      · replace h := h.1 c7
        exact tX7_is_78 C hr hI h0 _ h
      · replace h := h.2 c7
        refine g_aload_n C 0 dX7_is_39 rfl ?_
        refine g_aload_n C 0 dX7_is_40 rfl ?_
        refine gf_RX7_149 C h0 dX7_is_41 ?_
        refine g_iconst C (v := (2 : Int32)) dX7_is_44 (by decide) ?_
        refine g_iadd C dX7_is_45 ?_
        refine g_callVI C [.int ((m5.1 b 28) + ((2 : Int32)))] [] (ok_X7_look hI h0 h) (cw_RX7_158 _) rfl dc_X7_look ⟨Nat.le_of_ble_eq_true rfl, Nat.le_of_ble_eq_true rfl⟩ (isX7_lt h0) (isX7_sh h0) rfl rfl rfl rfl (Nat.le_of_ble_eq_true rfl) dX7_is_46 (fun r9 m8 h => ?_)
        refine g_iload C 4 dX7_is_49 rfl ?_
        refine g_icmp_ne C 78 dX7_is_51 (by decide) (fun c10 => ?_) (fun c10 => ?_)
        · replace h := h.1 c10
          exact tX7_is_78 C hr hI h0 _ h
        · replace h := h.2 c10
          refine g_iload_n C 1 dX7_is_54 rfl ?_
          refine g_iconst C (v := (4 : Int32)) dX7_is_55 (by decide) ?_
          refine g_icmp_lt C 74 dX7_is_56 (by decide) (fun c11 => ?_) (fun c11 => ?_)
          · replace h := h.1 c11
            exact tX7_is_74 C hr hI h0 _ h
          · replace h := h.2 c11
            refine g_aload_n C 0 dX7_is_59 rfl ?_
            refine g_aload_n C 0 dX7_is_60 rfl ?_
            refine gf_RX7_149 C h0 dX7_is_61 ?_
            refine g_iconst C (v := (3 : Int32)) dX7_is_64 (by decide) ?_
            refine g_iadd C dX7_is_65 ?_
            refine g_callVI C [.int ((m8.1 b 28) + ((3 : Int32)))] [] (ok_X7_look hI h0 h) (cw_RX7_158 _) rfl dc_X7_look ⟨Nat.le_of_ble_eq_true rfl, Nat.le_of_ble_eq_true rfl⟩ (isX7_lt h0) (isX7_sh h0) rfl rfl rfl rfl (Nat.le_of_ble_eq_true rfl) dX7_is_66 (fun r13 m12 h => ?_)
            refine g_iload C 5 dX7_is_69 rfl ?_
            refine g_icmp_ne C 78 dX7_is_71 (by decide) (fun c14 => ?_) (fun c14 => ?_)
            · replace h := h.1 c14
              exact tX7_is_78 C hr hI h0 _ h
            · replace h := h.2 c14
              exact tX7_is_74 C hr hI h0 _ h
set_option maxRecDepth 20000 in
set_option maxHeartbeats 4000000 in
theorem tX7_goesOn_32 {X : XT} {Y : YT} {l0 : Launch} {b : Nat} {p1 : Int32} {p2 : Int32} {Q : Int32 → Mem → Prop} (C : Cx X Y 3 cX7_goesOn RX7 WX7_goesOn (rmB 1 21) l0) (hr : RI X Y cX7_goesOn .boolean Q) (hI : YI Y) (h0 : isX7 Y b) (μ : Mem) (h : nX7_goesOn_32 b p1 p2 Q  μ) : G X Y 3 32 [(0, .ref (Y.ad b)), (1, .int p1), (2, .int p2)] [] μ := by
  unfold nX7_goesOn_32 at h
  refine g_iconst C (v := (1 : Int32)) dX7_goesOn_32 (by decide) ?_
  refine g_goto C 37 dX7_goesOn_33 (by decide) ?_
  exact hr _ _ _ _ _ dX7_goesOn_37 rfl h
set_option maxRecDepth 20000 in
set_option maxHeartbeats 4000000 in
theorem tX7_goesOn_36 {X : XT} {Y : YT} {l0 : Launch} {b : Nat} {p1 : Int32} {p2 : Int32} {Q : Int32 → Mem → Prop} (C : Cx X Y 3 cX7_goesOn RX7 WX7_goesOn (rmB 1 21) l0) (hr : RI X Y cX7_goesOn .boolean Q) (hI : YI Y) (h0 : isX7 Y b) (μ : Mem) (h : nX7_goesOn_36 b p1 p2 Q  μ) : G X Y 3 36 [(0, .ref (Y.ad b)), (1, .int p1), (2, .int p2)] [] μ := by
  unfold nX7_goesOn_36 at h
  refine g_iconst C (v := (0 : Int32)) dX7_goesOn_36 (by decide) ?_
  exact hr _ _ _ _ _ dX7_goesOn_37 rfl h
set_option maxRecDepth 20000 in
set_option maxHeartbeats 4000000 in
theorem ok_X7_goesOn {Y : YT} {l0 : Launch} {b : Nat} {p1 : Int32} {p2 : Int32} {μ : Mem} {Q : Int32 → Mem → Prop} (hI : YI Y) (h0 : isX7 Y b) (h : PX7_goesOn b p1 p2 μ Q) : MI l0 yX7_goesOn WX7_goesOn 1 21 Y [.ref (Y.ad b), .int p1, .int p2] μ Q := by
  refine mI_of (ty := .boolean) (cc := cX7_goesOn) (maxL := 3) (by decide +kernel) rfl hI (Nat.le_of_ble_eq_true rfl) (fun X C hr => ?_)
  replace C : Cx X Y 3 cX7_goesOn RX7 WX7_goesOn (rmB 1 21) l0 := C
  refine g_lv (lv2 := [(0, .ref (Y.ad b)), (1, .int p1), (2, .int p2)]) [0, 1, 2] ?_ rfl
  unfold PX7_goesOn at h
  refine g_aload_n C 0 dX7_goesOn_0 rfl ?_
  refine g_aload_n C 0 dX7_goesOn_1 rfl ?_
  refine gf_RX7_149 C h0 dX7_goesOn_2 ?_
  refine g_iconst C (v := (4 : Int32)) dX7_goesOn_5 (by decide) ?_
  refine g_iadd C dX7_goesOn_6 ?_
  refine g_callVI C [.int ((μ.1 b 28) + ((4 : Int32)))] [] (ok_X7_look hI h0 h) (cw_RX7_158 _) rfl dc_X7_look ⟨Nat.le_of_ble_eq_true rfl, Nat.le_of_ble_eq_true rfl⟩ (isX7_lt h0) (isX7_sh h0) rfl rfl rfl rfl (Nat.le_of_ble_eq_true rfl) dX7_goesOn_7 (fun r2 m1 h => ?_)
  refine g_iload_n C 1 dX7_goesOn_10 rfl ?_
  refine g_icmp_ne C 36 dX7_goesOn_11 (by decide) (fun c3 => ?_) (fun c3 => ?_)
  · replace h := h.1 c3
    exact tX7_goesOn_36 C hr hI h0 _ h
  · replace h := h.2 c3
    refine g_iload_n C 2 dX7_goesOn_14 rfl ?_
    refine g_if_eq C 32 dX7_goesOn_15 (by decide) (fun c4 => ?_) (fun c4 => ?_)
    · replace h := h.1 c4
      exact tX7_goesOn_32 C hr hI h0 _ h
    · replace h := h.2 c4
      refine g_aload_n C 0 dX7_goesOn_18 rfl ?_
      refine g_aload_n C 0 dX7_goesOn_19 rfl ?_
      refine gf_RX7_149 C h0 dX7_goesOn_20 ?_
      refine g_iconst C (v := (5 : Int32)) dX7_goesOn_23 (by decide) ?_
      refine g_iadd C dX7_goesOn_24 ?_
      refine g_callVI C [.int ((m1.1 b 28) + ((5 : Int32)))] [] (ok_X7_look hI h0 h) (cw_RX7_158 _) rfl dc_X7_look ⟨Nat.le_of_ble_eq_true rfl, Nat.le_of_ble_eq_true rfl⟩ (isX7_lt h0) (isX7_sh h0) rfl rfl rfl rfl (Nat.le_of_ble_eq_true rfl) dX7_goesOn_25 (fun r6 m5 h => ?_)
      refine g_iload_n C 2 dX7_goesOn_28 rfl ?_
      refine g_icmp_ne C 36 dX7_goesOn_29 (by decide) (fun c7 => ?_) (fun c7 => ?_)
      · replace h := h.1 c7
        exact tX7_goesOn_36 C hr hI h0 _ h
      · replace h := h.2 c7
        exact tX7_goesOn_32 C hr hI h0 _ h
set_option maxRecDepth 20000 in
set_option maxHeartbeats 4000000 in
theorem tX7_nameNow_258 {X : XT} {Y : YT} {l0 : Launch} {b : Nat} {Q : Int32 → Mem → Prop} (C : Cx X Y 1 cX7_nameNow RX7 WX7_nameNow (rmB 2 46) l0) (hr : RI X Y cX7_nameNow .int Q) (hI : YI Y) (h0 : isX7 Y b) (μ : Mem) (h : nX7_nameNow_258 b Q  μ) : G X Y 1 258 [(0, .ref (Y.ad b))] [] μ := by
  unfold nX7_nameNow_258 at h
  refine g_aload_n C 0 dX7_nameNow_258 rfl ?_
  refine g_iconst C (v := (4 : Int32)) dX7_nameNow_259 (by decide) ?_
  refine g_bipush C (v := (108 : Int32)) dX7_nameNow_260 (by decide) ?_
  refine g_bipush C (v := (105 : Int32)) dX7_nameNow_262 (by decide) ?_
  refine g_bipush C (v := (107 : Int32)) dX7_nameNow_264 (by decide) ?_
  refine g_bipush C (v := (101 : Int32)) dX7_nameNow_266 (by decide) ?_
  refine g_callVI C [.int ((4 : Int32)), .int ((108 : Int32)), .int ((105 : Int32)), .int ((107 : Int32)), .int ((101 : Int32))] [] (ok_X7_is hI h0 h) (cw_RX7_162 _) rfl dc_X7_is ⟨Nat.le_of_ble_eq_true rfl, Nat.le_of_ble_eq_true rfl⟩ (isX7_lt h0) (isX7_sh h0) rfl rfl rfl rfl (Nat.le_of_ble_eq_true rfl) dX7_nameNow_268 (fun r53 m52 h => ?_)
  refine g_if_eq C 279 dX7_nameNow_271 (by decide) (fun c54 => ?_) (fun c54 => ?_)
  · replace h := h.1 c54
    refine g_aload_n C 0 dX7_nameNow_279 rfl ?_
    refine g_iconst C (v := (4 : Int32)) dX7_nameNow_280 (by decide) ?_
    refine g_bipush C (v := (119 : Int32)) dX7_nameNow_281 (by decide) ?_
    refine g_bipush C (v := (111 : Int32)) dX7_nameNow_283 (by decide) ?_
    refine g_bipush C (v := (110 : Int32)) dX7_nameNow_285 (by decide) ?_
    refine g_bipush C (v := (116 : Int32)) dX7_nameNow_287 (by decide) ?_
    refine g_callVI C [.int ((4 : Int32)), .int ((119 : Int32)), .int ((111 : Int32)), .int ((110 : Int32)), .int ((116 : Int32))] [] (ok_X7_is hI h0 h) (cw_RX7_162 _) rfl dc_X7_is ⟨Nat.le_of_ble_eq_true rfl, Nat.le_of_ble_eq_true rfl⟩ (isX7_lt h0) (isX7_sh h0) rfl rfl rfl rfl (Nat.le_of_ble_eq_true rfl) dX7_nameNow_289 (fun r56 m55 h => ?_)
    refine g_if_eq C 300 dX7_nameNow_292 (by decide) (fun c57 => ?_) (fun c57 => ?_)
    · replace h := h.1 c57
      refine g_bipush C (v := (-4 : Int32)) dX7_nameNow_300 (by decide) ?_
      exact hr _ _ _ _ _ dX7_nameNow_302 rfl h
    · replace h := h.2 c57
      refine g_bipush C (v := (17 : Int32)) dX7_nameNow_295 (by decide) ?_
      refine g_goto C 302 dX7_nameNow_297 (by decide) ?_
      exact hr _ _ _ _ _ dX7_nameNow_302 rfl h
  · replace h := h.2 c54
    refine g_bipush C (v := (16 : Int32)) dX7_nameNow_274 (by decide) ?_
    refine g_goto C 302 dX7_nameNow_276 (by decide) ?_
    exact hr _ _ _ _ _ dX7_nameNow_302 rfl h
set_option maxRecDepth 20000 in
set_option maxHeartbeats 4000000 in
theorem tX7_nameNow_227 {X : XT} {Y : YT} {l0 : Launch} {b : Nat} {Q : Int32 → Mem → Prop} (C : Cx X Y 1 cX7_nameNow RX7 WX7_nameNow (rmB 2 46) l0) (hr : RI X Y cX7_nameNow .int Q) (hI : YI Y) (h0 : isX7 Y b) (μ : Mem) (h : nX7_nameNow_227 b Q  μ) : G X Y 1 227 [(0, .ref (Y.ad b))] [] μ := by
  unfold nX7_nameNow_227 at h
  refine g_aload_n C 0 dX7_nameNow_227 rfl ?_
  refine g_bipush C (v := (6 : Int32)) dX7_nameNow_228 (by decide) ?_
  refine g_bipush C (v := (108 : Int32)) dX7_nameNow_230 (by decide) ?_
  refine g_bipush C (v := (101 : Int32)) dX7_nameNow_232 (by decide) ?_
  refine g_bipush C (v := (97 : Int32)) dX7_nameNow_234 (by decide) ?_
  refine g_bipush C (v := (118 : Int32)) dX7_nameNow_236 (by decide) ?_
  refine g_callVI C [.int ((6 : Int32)), .int ((108 : Int32)), .int ((101 : Int32)), .int ((97 : Int32)), .int ((118 : Int32))] [] (ok_X7_is hI h0 h) (cw_RX7_162 _) rfl dc_X7_is ⟨Nat.le_of_ble_eq_true rfl, Nat.le_of_ble_eq_true rfl⟩ (isX7_lt h0) (isX7_sh h0) rfl rfl rfl rfl (Nat.le_of_ble_eq_true rfl) dX7_nameNow_238 (fun r47 m46 h => ?_)
  refine g_if_eq C 258 dX7_nameNow_241 (by decide) (fun c48 => ?_) (fun c48 => ?_)
  · replace h := h.1 c48
    exact tX7_nameNow_258 C hr hI h0 _ h
  · replace h := h.2 c48
    refine g_aload_n C 0 dX7_nameNow_244 rfl ?_
    refine g_bipush C (v := (101 : Int32)) dX7_nameNow_245 (by decide) ?_
    refine g_bipush C (v := (115 : Int32)) dX7_nameNow_247 (by decide) ?_
    refine g_callVI C [.int ((101 : Int32)), .int ((115 : Int32))] [] (ok_X7_goesOn hI h0 h) (cw_RX7_166 _) rfl dc_X7_goesOn ⟨Nat.le_of_ble_eq_true rfl, Nat.le_of_ble_eq_true rfl⟩ (isX7_lt h0) (isX7_sh h0) rfl rfl rfl rfl (Nat.le_of_ble_eq_true rfl) dX7_nameNow_249 (fun r50 m49 h => ?_)
    refine g_if_eq C 258 dX7_nameNow_252 (by decide) (fun c51 => ?_) (fun c51 => ?_)
    · replace h := h.1 c51
      exact tX7_nameNow_258 C hr hI h0 _ h
    · replace h := h.2 c51
      refine g_bipush C (v := (15 : Int32)) dX7_nameNow_255 (by decide) ?_
      exact hr _ _ _ _ _ dX7_nameNow_257 rfl h
set_option maxRecDepth 20000 in
set_option maxHeartbeats 4000000 in
theorem tX7_nameNow_161 {X : XT} {Y : YT} {l0 : Launch} {b : Nat} {Q : Int32 → Mem → Prop} (C : Cx X Y 1 cX7_nameNow RX7 WX7_nameNow (rmB 2 46) l0) (hr : RI X Y cX7_nameNow .int Q) (hI : YI Y) (h0 : isX7 Y b) (μ : Mem) (h : nX7_nameNow_161 b Q  μ) : G X Y 1 161 [(0, .ref (Y.ad b))] [] μ := by
  unfold nX7_nameNow_161 at h
  refine g_aload_n C 0 dX7_nameNow_161 rfl ?_
  refine g_iconst C (v := (4 : Int32)) dX7_nameNow_162 (by decide) ?_
  refine g_bipush C (v := (115 : Int32)) dX7_nameNow_163 (by decide) ?_
  refine g_bipush C (v := (104 : Int32)) dX7_nameNow_165 (by decide) ?_
  refine g_bipush C (v := (111 : Int32)) dX7_nameNow_167 (by decide) ?_
  refine g_bipush C (v := (112 : Int32)) dX7_nameNow_169 (by decide) ?_
  refine g_callVI C [.int ((4 : Int32)), .int ((115 : Int32)), .int ((104 : Int32)), .int ((111 : Int32)), .int ((112 : Int32))] [] (ok_X7_is hI h0 h) (cw_RX7_162 _) rfl dc_X7_is ⟨Nat.le_of_ble_eq_true rfl, Nat.le_of_ble_eq_true rfl⟩ (isX7_lt h0) (isX7_sh h0) rfl rfl rfl rfl (Nat.le_of_ble_eq_true rfl) dX7_nameNow_171 (fun r35 m34 h => ?_)
  refine g_if_eq C 180 dX7_nameNow_174 (by decide) (fun c36 => ?_) (fun c36 => ?_)
  · replace h := h.1 c36
    refine g_aload_n C 0 dX7_nameNow_180 rfl ?_
    refine g_iconst C (v := (3 : Int32)) dX7_nameNow_181 (by decide) ?_
    refine g_bipush C (v := (111 : Int32)) dX7_nameNow_182 (by decide) ?_
    refine g_bipush C (v := (117 : Int32)) dX7_nameNow_184 (by decide) ?_
    refine g_bipush C (v := (116 : Int32)) dX7_nameNow_186 (by decide) ?_
    refine g_iconst C (v := (0 : Int32)) dX7_nameNow_188 (by decide) ?_
    refine g_callVI C [.int ((3 : Int32)), .int ((111 : Int32)), .int ((117 : Int32)), .int ((116 : Int32)), .int ((0 : Int32))] [] (ok_X7_is hI h0 h) (cw_RX7_162 _) rfl dc_X7_is ⟨Nat.le_of_ble_eq_true rfl, Nat.le_of_ble_eq_true rfl⟩ (isX7_lt h0) (isX7_sh h0) rfl rfl rfl rfl (Nat.le_of_ble_eq_true rfl) dX7_nameNow_189 (fun r38 m37 h => ?_)
    refine g_if_eq C 198 dX7_nameNow_192 (by decide) (fun c39 => ?_) (fun c39 => ?_)
    · replace h := h.1 c39
      refine g_aload_n C 0 dX7_nameNow_198 rfl ?_
      refine g_iconst C (v := (5 : Int32)) dX7_nameNow_199 (by decide) ?_
      refine g_bipush C (v := (103 : Int32)) dX7_nameNow_200 (by decide) ?_
      refine g_bipush C (v := (117 : Int32)) dX7_nameNow_202 (by decide) ?_
      refine g_bipush C (v := (101 : Int32)) dX7_nameNow_204 (by decide) ?_
      refine g_bipush C (v := (115 : Int32)) dX7_nameNow_206 (by decide) ?_
      refine g_callVI C [.int ((5 : Int32)), .int ((103 : Int32)), .int ((117 : Int32)), .int ((101 : Int32)), .int ((115 : Int32))] [] (ok_X7_is hI h0 h) (cw_RX7_162 _) rfl dc_X7_is ⟨Nat.le_of_ble_eq_true rfl, Nat.le_of_ble_eq_true rfl⟩ (isX7_lt h0) (isX7_sh h0) rfl rfl rfl rfl (Nat.le_of_ble_eq_true rfl) dX7_nameNow_208 (fun r41 m40 h => ?_)
      refine g_if_eq C 227 dX7_nameNow_211 (by decide) (fun c42 => ?_) (fun c42 => ?_)
      · replace h := h.1 c42
        exact tX7_nameNow_227 C hr hI h0 _ h
      · replace h := h.2 c42
        refine g_aload_n C 0 dX7_nameNow_214 rfl ?_
        refine g_bipush C (v := (116 : Int32)) dX7_nameNow_215 (by decide) ?_
        refine g_iconst C (v := (0 : Int32)) dX7_nameNow_217 (by decide) ?_
        refine g_callVI C [.int ((116 : Int32)), .int ((0 : Int32))] [] (ok_X7_goesOn hI h0 h) (cw_RX7_166 _) rfl dc_X7_goesOn ⟨Nat.le_of_ble_eq_true rfl, Nat.le_of_ble_eq_true rfl⟩ (isX7_lt h0) (isX7_sh h0) rfl rfl rfl rfl (Nat.le_of_ble_eq_true rfl) dX7_nameNow_218 (fun r44 m43 h => ?_)
        refine g_if_eq C 227 dX7_nameNow_221 (by decide) (fun c45 => ?_) (fun c45 => ?_)
        · replace h := h.1 c45
          exact tX7_nameNow_227 C hr hI h0 _ h
        · replace h := h.2 c45
          refine g_bipush C (v := (14 : Int32)) dX7_nameNow_224 (by decide) ?_
          exact hr _ _ _ _ _ dX7_nameNow_226 rfl h
    · replace h := h.2 c39
      refine g_bipush C (v := (13 : Int32)) dX7_nameNow_195 (by decide) ?_
      exact hr _ _ _ _ _ dX7_nameNow_197 rfl h
  · replace h := h.2 c36
    refine g_bipush C (v := (12 : Int32)) dX7_nameNow_177 (by decide) ?_
    exact hr _ _ _ _ _ dX7_nameNow_179 rfl h
set_option maxRecDepth 20000 in
set_option maxHeartbeats 4000000 in
theorem tX7_nameNow_115 {X : XT} {Y : YT} {l0 : Launch} {b : Nat} {Q : Int32 → Mem → Prop} (C : Cx X Y 1 cX7_nameNow RX7 WX7_nameNow (rmB 2 46) l0) (hr : RI X Y cX7_nameNow .int Q) (hI : YI Y) (h0 : isX7 Y b) (μ : Mem) (h : nX7_nameNow_115 b Q  μ) : G X Y 1 115 [(0, .ref (Y.ad b))] [] μ := by
  unfold nX7_nameNow_115 at h
  refine g_aload_n C 0 dX7_nameNow_115 rfl ?_
  refine g_iconst C (v := (3 : Int32)) dX7_nameNow_116 (by decide) ?_
  refine g_bipush C (v := (97 : Int32)) dX7_nameNow_117 (by decide) ?_
  refine g_bipush C (v := (110 : Int32)) dX7_nameNow_119 (by decide) ?_
  refine g_bipush C (v := (121 : Int32)) dX7_nameNow_121 (by decide) ?_
  refine g_iconst C (v := (0 : Int32)) dX7_nameNow_123 (by decide) ?_
  refine g_callVI C [.int ((3 : Int32)), .int ((97 : Int32)), .int ((110 : Int32)), .int ((121 : Int32)), .int ((0 : Int32))] [] (ok_X7_is hI h0 h) (cw_RX7_162 _) rfl dc_X7_is ⟨Nat.le_of_ble_eq_true rfl, Nat.le_of_ble_eq_true rfl⟩ (isX7_lt h0) (isX7_sh h0) rfl rfl rfl rfl (Nat.le_of_ble_eq_true rfl) dX7_nameNow_124 (fun r26 m25 h => ?_)
  refine g_if_eq C 132 dX7_nameNow_127 (by decide) (fun c27 => ?_) (fun c27 => ?_)
  · replace h := h.1 c27
    refine g_aload_n C 0 dX7_nameNow_132 rfl ?_
    refine g_iconst C (v := (5 : Int32)) dX7_nameNow_133 (by decide) ?_
    refine g_bipush C (v := (97 : Int32)) dX7_nameNow_134 (by decide) ?_
    refine g_bipush C (v := (103 : Int32)) dX7_nameNow_136 (by decide) ?_
    refine g_bipush C (v := (97 : Int32)) dX7_nameNow_138 (by decide) ?_
    refine g_bipush C (v := (105 : Int32)) dX7_nameNow_140 (by decide) ?_
    refine g_callVI C [.int ((5 : Int32)), .int ((97 : Int32)), .int ((103 : Int32)), .int ((97 : Int32)), .int ((105 : Int32))] [] (ok_X7_is hI h0 h) (cw_RX7_162 _) rfl dc_X7_is ⟨Nat.le_of_ble_eq_true rfl, Nat.le_of_ble_eq_true rfl⟩ (isX7_lt h0) (isX7_sh h0) rfl rfl rfl rfl (Nat.le_of_ble_eq_true rfl) dX7_nameNow_142 (fun r29 m28 h => ?_)
    refine g_if_eq C 161 dX7_nameNow_145 (by decide) (fun c30 => ?_) (fun c30 => ?_)
    · replace h := h.1 c30
      exact tX7_nameNow_161 C hr hI h0 _ h
    · replace h := h.2 c30
      refine g_aload_n C 0 dX7_nameNow_148 rfl ?_
      refine g_bipush C (v := (110 : Int32)) dX7_nameNow_149 (by decide) ?_
      refine g_iconst C (v := (0 : Int32)) dX7_nameNow_151 (by decide) ?_
      refine g_callVI C [.int ((110 : Int32)), .int ((0 : Int32))] [] (ok_X7_goesOn hI h0 h) (cw_RX7_166 _) rfl dc_X7_goesOn ⟨Nat.le_of_ble_eq_true rfl, Nat.le_of_ble_eq_true rfl⟩ (isX7_lt h0) (isX7_sh h0) rfl rfl rfl rfl (Nat.le_of_ble_eq_true rfl) dX7_nameNow_152 (fun r32 m31 h => ?_)
      refine g_if_eq C 161 dX7_nameNow_155 (by decide) (fun c33 => ?_) (fun c33 => ?_)
      · replace h := h.1 c33
        exact tX7_nameNow_161 C hr hI h0 _ h
      · replace h := h.2 c33
        refine g_bipush C (v := (11 : Int32)) dX7_nameNow_158 (by decide) ?_
        exact hr _ _ _ _ _ dX7_nameNow_160 rfl h
  · replace h := h.2 c27
    refine g_iconst C (v := (3 : Int32)) dX7_nameNow_130 (by decide) ?_
    exact hr _ _ _ _ _ dX7_nameNow_131 rfl h
set_option maxRecDepth 20000 in
set_option maxHeartbeats 4000000 in
theorem tX7_nameNow_87 {X : XT} {Y : YT} {l0 : Launch} {b : Nat} {Q : Int32 → Mem → Prop} (C : Cx X Y 1 cX7_nameNow RX7 WX7_nameNow (rmB 2 46) l0) (hr : RI X Y cX7_nameNow .int Q) (hI : YI Y) (h0 : isX7 Y b) (μ : Mem) (h : nX7_nameNow_87 b Q  μ) : G X Y 1 87 [(0, .ref (Y.ad b))] [] μ := by
  unfold nX7_nameNow_87 at h
  refine g_aload_n C 0 dX7_nameNow_87 rfl ?_
  refine g_iconst C (v := (5 : Int32)) dX7_nameNow_88 (by decide) ?_
  refine g_bipush C (v := (102 : Int32)) dX7_nameNow_89 (by decide) ?_
  refine g_bipush C (v := (101 : Int32)) dX7_nameNow_91 (by decide) ?_
  refine g_bipush C (v := (97 : Int32)) dX7_nameNow_93 (by decide) ?_
  refine g_bipush C (v := (115 : Int32)) dX7_nameNow_95 (by decide) ?_
  refine g_callVI C [.int ((5 : Int32)), .int ((102 : Int32)), .int ((101 : Int32)), .int ((97 : Int32)), .int ((115 : Int32))] [] (ok_X7_is hI h0 h) (cw_RX7_162 _) rfl dc_X7_is ⟨Nat.le_of_ble_eq_true rfl, Nat.le_of_ble_eq_true rfl⟩ (isX7_lt h0) (isX7_sh h0) rfl rfl rfl rfl (Nat.le_of_ble_eq_true rfl) dX7_nameNow_97 (fun r20 m19 h => ?_)
  refine g_if_eq C 115 dX7_nameNow_100 (by decide) (fun c21 => ?_) (fun c21 => ?_)
  · replace h := h.1 c21
    exact tX7_nameNow_115 C hr hI h0 _ h
  · replace h := h.2 c21
    refine g_aload_n C 0 dX7_nameNow_103 rfl ?_
    refine g_bipush C (v := (116 : Int32)) dX7_nameNow_104 (by decide) ?_
    refine g_iconst C (v := (0 : Int32)) dX7_nameNow_106 (by decide) ?_
    refine g_callVI C [.int ((116 : Int32)), .int ((0 : Int32))] [] (ok_X7_goesOn hI h0 h) (cw_RX7_166 _) rfl dc_X7_goesOn ⟨Nat.le_of_ble_eq_true rfl, Nat.le_of_ble_eq_true rfl⟩ (isX7_lt h0) (isX7_sh h0) rfl rfl rfl rfl (Nat.le_of_ble_eq_true rfl) dX7_nameNow_107 (fun r23 m22 h => ?_)
    refine g_if_eq C 115 dX7_nameNow_110 (by decide) (fun c24 => ?_) (fun c24 => ?_)
    · replace h := h.1 c24
      exact tX7_nameNow_115 C hr hI h0 _ h
    · replace h := h.2 c24
      refine g_iconst C (v := (2 : Int32)) dX7_nameNow_113 (by decide) ?_
      exact hr _ _ _ _ _ dX7_nameNow_114 rfl h
set_option maxRecDepth 20000 in
set_option maxHeartbeats 4000000 in
theorem tX7_nameNow_57 {X : XT} {Y : YT} {l0 : Launch} {b : Nat} {Q : Int32 → Mem → Prop} (C : Cx X Y 1 cX7_nameNow RX7 WX7_nameNow (rmB 2 46) l0) (hr : RI X Y cX7_nameNow .int Q) (hI : YI Y) (h0 : isX7 Y b) (μ : Mem) (h : nX7_nameNow_57 b Q  μ) : G X Y 1 57 [(0, .ref (Y.ad b))] [] μ := by
  unfold nX7_nameNow_57 at h
  refine g_aload_n C 0 dX7_nameNow_57 rfl ?_
  refine g_bipush C (v := (6 : Int32)) dX7_nameNow_58 (by decide) ?_
  refine g_bipush C (v := (115 : Int32)) dX7_nameNow_60 (by decide) ?_
  refine g_bipush C (v := (101 : Int32)) dX7_nameNow_62 (by decide) ?_
  refine g_bipush C (v := (99 : Int32)) dX7_nameNow_64 (by decide) ?_
  refine g_bipush C (v := (111 : Int32)) dX7_nameNow_66 (by decide) ?_
  refine g_callVI C [.int ((6 : Int32)), .int ((115 : Int32)), .int ((101 : Int32)), .int ((99 : Int32)), .int ((111 : Int32))] [] (ok_X7_is hI h0 h) (cw_RX7_162 _) rfl dc_X7_is ⟨Nat.le_of_ble_eq_true rfl, Nat.le_of_ble_eq_true rfl⟩ (isX7_lt h0) (isX7_sh h0) rfl rfl rfl rfl (Nat.le_of_ble_eq_true rfl) dX7_nameNow_68 (fun r14 m13 h => ?_)
  refine g_if_eq C 87 dX7_nameNow_71 (by decide) (fun c15 => ?_) (fun c15 => ?_)
  · replace h := h.1 c15
    exact tX7_nameNow_87 C hr hI h0 _ h
  · replace h := h.2 c15
    refine g_aload_n C 0 dX7_nameNow_74 rfl ?_
    refine g_bipush C (v := (110 : Int32)) dX7_nameNow_75 (by decide) ?_
    refine g_bipush C (v := (100 : Int32)) dX7_nameNow_77 (by decide) ?_
    refine g_callVI C [.int ((110 : Int32)), .int ((100 : Int32))] [] (ok_X7_goesOn hI h0 h) (cw_RX7_166 _) rfl dc_X7_goesOn ⟨Nat.le_of_ble_eq_true rfl, Nat.le_of_ble_eq_true rfl⟩ (isX7_lt h0) (isX7_sh h0) rfl rfl rfl rfl (Nat.le_of_ble_eq_true rfl) dX7_nameNow_79 (fun r17 m16 h => ?_)
    refine g_if_eq C 87 dX7_nameNow_82 (by decide) (fun c18 => ?_) (fun c18 => ?_)
    · replace h := h.1 c18
      exact tX7_nameNow_87 C hr hI h0 _ h
    · replace h := h.2 c18
      refine g_iconst C (v := (1 : Int32)) dX7_nameNow_85 (by decide) ?_
      exact hr _ _ _ _ _ dX7_nameNow_86 rfl h
set_option maxRecDepth 20000 in
set_option maxHeartbeats 4000000 in
theorem tX7_nameNow_29 {X : XT} {Y : YT} {l0 : Launch} {b : Nat} {Q : Int32 → Mem → Prop} (C : Cx X Y 1 cX7_nameNow RX7 WX7_nameNow (rmB 2 46) l0) (hr : RI X Y cX7_nameNow .int Q) (hI : YI Y) (h0 : isX7 Y b) (μ : Mem) (h : nX7_nameNow_29 b Q  μ) : G X Y 1 29 [(0, .ref (Y.ad b))] [] μ := by
  unfold nX7_nameNow_29 at h
  refine g_aload_n C 0 dX7_nameNow_29 rfl ?_
  refine g_iconst C (v := (5 : Int32)) dX7_nameNow_30 (by decide) ?_
  refine g_bipush C (v := (102 : Int32)) dX7_nameNow_31 (by decide) ?_
  refine g_bipush C (v := (105 : Int32)) dX7_nameNow_33 (by decide) ?_
  refine g_bipush C (v := (114 : Int32)) dX7_nameNow_35 (by decide) ?_
  refine g_bipush C (v := (115 : Int32)) dX7_nameNow_37 (by decide) ?_
  refine g_callVI C [.int ((5 : Int32)), .int ((102 : Int32)), .int ((105 : Int32)), .int ((114 : Int32)), .int ((115 : Int32))] [] (ok_X7_is hI h0 h) (cw_RX7_162 _) rfl dc_X7_is ⟨Nat.le_of_ble_eq_true rfl, Nat.le_of_ble_eq_true rfl⟩ (isX7_lt h0) (isX7_sh h0) rfl rfl rfl rfl (Nat.le_of_ble_eq_true rfl) dX7_nameNow_39 (fun r8 m7 h => ?_)
  refine g_if_eq C 57 dX7_nameNow_42 (by decide) (fun c9 => ?_) (fun c9 => ?_)
  · replace h := h.1 c9
    exact tX7_nameNow_57 C hr hI h0 _ h
  · replace h := h.2 c9
    refine g_aload_n C 0 dX7_nameNow_45 rfl ?_
    refine g_bipush C (v := (116 : Int32)) dX7_nameNow_46 (by decide) ?_
    refine g_iconst C (v := (0 : Int32)) dX7_nameNow_48 (by decide) ?_
    refine g_callVI C [.int ((116 : Int32)), .int ((0 : Int32))] [] (ok_X7_goesOn hI h0 h) (cw_RX7_166 _) rfl dc_X7_goesOn ⟨Nat.le_of_ble_eq_true rfl, Nat.le_of_ble_eq_true rfl⟩ (isX7_lt h0) (isX7_sh h0) rfl rfl rfl rfl (Nat.le_of_ble_eq_true rfl) dX7_nameNow_49 (fun r11 m10 h => ?_)
    refine g_if_eq C 57 dX7_nameNow_52 (by decide) (fun c12 => ?_) (fun c12 => ?_)
    · replace h := h.1 c12
      exact tX7_nameNow_57 C hr hI h0 _ h
    · replace h := h.2 c12
      refine g_iconst C (v := (0 : Int32)) dX7_nameNow_55 (by decide) ?_
      exact hr _ _ _ _ _ dX7_nameNow_56 rfl h
set_option maxRecDepth 20000 in
set_option maxHeartbeats 4000000 in
theorem ok_X7_nameNow {Y : YT} {l0 : Launch} {b : Nat} {μ : Mem} {Q : Int32 → Mem → Prop} (hI : YI Y) (h0 : isX7 Y b) (h : PX7_nameNow b μ Q) : MI l0 yX7_nameNow WX7_nameNow 2 46 Y [.ref (Y.ad b)] μ Q := by
  refine mI_of (ty := .int) (cc := cX7_nameNow) (maxL := 1) (by decide +kernel) rfl hI (Nat.le_of_ble_eq_true rfl) (fun X C hr => ?_)
  replace C : Cx X Y 1 cX7_nameNow RX7 WX7_nameNow (rmB 2 46) l0 := C
  refine g_lv (lv2 := [(0, .ref (Y.ad b))]) [0] ?_ rfl
  unfold PX7_nameNow at h
  refine g_aload_n C 0 dX7_nameNow_0 rfl ?_
  refine g_iconst C (v := (5 : Int32)) dX7_nameNow_1 (by decide) ?_
  refine g_bipush C (v := (116 : Int32)) dX7_nameNow_2 (by decide) ?_
  refine g_bipush C (v := (104 : Int32)) dX7_nameNow_4 (by decide) ?_
  refine g_bipush C (v := (105 : Int32)) dX7_nameNow_6 (by decide) ?_
  refine g_bipush C (v := (110 : Int32)) dX7_nameNow_8 (by decide) ?_
  refine g_callVI C [.int ((5 : Int32)), .int ((116 : Int32)), .int ((104 : Int32)), .int ((105 : Int32)), .int ((110 : Int32))] [] (ok_X7_is hI h0 h) (cw_RX7_162 _) rfl dc_X7_is ⟨Nat.le_of_ble_eq_true rfl, Nat.le_of_ble_eq_true rfl⟩ (isX7_lt h0) (isX7_sh h0) rfl rfl rfl rfl (Nat.le_of_ble_eq_true rfl) dX7_nameNow_10 (fun r2 m1 h => ?_)
  refine g_if_eq C 29 dX7_nameNow_13 (by decide) (fun c3 => ?_) (fun c3 => ?_)
  · replace h := h.1 c3
    exact tX7_nameNow_29 C hr hI h0 _ h
  · replace h := h.2 c3
    refine g_aload_n C 0 dX7_nameNow_16 rfl ?_
    refine g_bipush C (v := (103 : Int32)) dX7_nameNow_17 (by decide) ?_
    refine g_iconst C (v := (0 : Int32)) dX7_nameNow_19 (by decide) ?_
    refine g_callVI C [.int ((103 : Int32)), .int ((0 : Int32))] [] (ok_X7_goesOn hI h0 h) (cw_RX7_166 _) rfl dc_X7_goesOn ⟨Nat.le_of_ble_eq_true rfl, Nat.le_of_ble_eq_true rfl⟩ (isX7_lt h0) (isX7_sh h0) rfl rfl rfl rfl (Nat.le_of_ble_eq_true rfl) dX7_nameNow_20 (fun r5 m4 h => ?_)
    refine g_if_eq C 29 dX7_nameNow_23 (by decide) (fun c6 => ?_) (fun c6 => ?_)
    · replace h := h.1 c6
      exact tX7_nameNow_29 C hr hI h0 _ h
    · replace h := h.2 c6
      refine g_bipush C (v := (10 : Int32)) dX7_nameNow_26 (by decide) ?_
      exact hr _ _ _ _ _ dX7_nameNow_28 rfl h
