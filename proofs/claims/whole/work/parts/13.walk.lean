set_option maxRecDepth 20000 in
set_option maxHeartbeats 4000000 in
theorem ok_X6_back {Y : YT} {l0 : Launch} {b : Nat} {p1 : Int32} {μ : Mem} {Q : Int32 → Mem → Prop} (hI : YI Y) (h0 : isX6 Y b) (h : PX6_back b p1 μ Q) : MI l0 yX6_back WX6_back 2 39 Y [.ref (Y.ad b), .int p1] μ Q := by
  refine mI_of (ty := .int) (cc := cX6_back) (maxL := 2) (by decide +kernel) rfl hI (Nat.le_of_ble_eq_true rfl) (fun X C hr => ?_)
  replace C : Cx X Y 2 cX6_back RX6 WX6_back (rmB 2 39) l0 := C
  refine g_lv (lv2 := [(0, .ref (Y.ad b)), (1, .int p1)]) [0, 1] ?_ rfl
  unfold PX6_back at h
  refine g_iload_n C 1 dX6_back_0 rfl ?_
  refine g_if_lt C 9 dX6_back_1 (by decide) (fun c1 => ?_) (fun c1 => ?_)
  · replace h := h.1 c1
    refine g_iconst C (v := (-1 : Int32)) dX6_back_9 (by decide) ?_
    exact hr _ _ _ _ _ dX6_back_10 rfl h
  · replace h := h.2 c1
    refine g_iload_n C 1 dX6_back_4 rfl ?_
    refine g_iconst C (v := (2 : Int32)) dX6_back_5 (by decide) ?_
    refine g_icmp_lt C 11 dX6_back_6 (by decide) (fun c2 => ?_) (fun c2 => ?_)
    · replace h := h.1 c2
      refine g_aload_n C 0 dX6_back_11 rfl ?_
      refine gf_RX6_41 C h0 dX6_back_12 ?_
      refine g_iload_n C 1 dX6_back_15 rfl ?_
      refine g_zald C (isX6_imageKept h0).1 (isX6_imageKept h0).2 h.1 dX6_back_16 ?_
      replace h := h.2
      refine g_if_ne C 23 dX6_back_17 (by decide) (fun c3 => ?_) (fun c3 => ?_)
      · replace h := h.1 c3
        refine g_aload_n C 0 dX6_back_23 rfl ?_
        refine gf_RX6_33 C h0 dX6_back_24 ?_
        refine g_aload_n C 0 dX6_back_27 rfl ?_
        refine gf_RX6_37 C h0 dX6_back_28 ?_
        refine g_iload_n C 1 dX6_back_31 rfl ?_
        refine g_aald C (isX6_images h0).1 (isX6_images h0).2.1 h.1 dX6_back_32 ?_
        have k4 := h.1
        replace h := h.2
        refine g_callVV C [.ref (Y.ad (b + 44 + 1 + 4 * p1.toNatClampNeg))] [] (ok_X0_copyFrom hI (isX6_kitchen h0) ((isX6_images h0).2.2 _ (vpin_lt k4)) h) (cw_RX6_202 _) rfl dc_X0_copyFrom ⟨Nat.le_of_ble_eq_true rfl, Nat.le_of_ble_eq_true rfl⟩ (isX0_lt (isX6_kitchen h0)) (isX0_sh (isX6_kitchen h0)) rfl rfl rfl rfl (Nat.le_of_ble_eq_true rfl) dX6_back_33 (fun m5 h => ?_)
        refine g_aload_n C 0 dX6_back_36 rfl ?_
        refine gf_RX6_33 C h0 dX6_back_37 ?_
        refine gf_RX6_184 C (isX6_kitchen h0) dX6_back_40 ?_
        exact hr _ _ _ _ _ dX6_back_43 rfl h
      · replace h := h.2 c3
        refine g_bipush C (v := (-2 : Int32)) dX6_back_20 (by decide) ?_
        exact hr _ _ _ _ _ dX6_back_22 rfl h
    · replace h := h.2 c2
      refine g_iconst C (v := (-1 : Int32)) dX6_back_9 (by decide) ?_
      exact hr _ _ _ _ _ dX6_back_10 rfl h
set_option maxRecDepth 20000 in
set_option maxHeartbeats 4000000 in
theorem tX6_day_19 {X : XT} {Y : YT} {l0 : Launch} {b : Nat} {p1 : Int32} {Q : Int32 → Mem → Prop} (C : Cx X Y 2 cX6_day RX6 WX6_day (rmB 1 21) l0) (hr : RI X Y cX6_day .int Q) (hI : YI Y) (h0 : isX6 Y b) (μ : Mem) (h : nX6_day_19 b p1 Q  μ) : G X Y 2 19 [(0, .ref (Y.ad b)), (1, .int p1)] [] μ := by
  unfold nX6_day_19 at h
  refine g_aload_n C 0 dX6_day_19 rfl ?_
  refine gf_RX6_49 C h0 dX6_day_20 ?_
  refine g_bipush C (v := (7 : Int32)) dX6_day_23 (by decide) ?_
  refine g_icmp_lt C 31 dX6_day_25 (by decide) (fun c5 => ?_) (fun c5 => ?_)
  · replace h := h.1 c5
    refine g_aload_n C 0 dX6_day_31 rfl ?_
    refine gf_RX6_45 C h0 dX6_day_32 ?_
    refine g_aload_n C 0 dX6_day_35 rfl ?_
    refine gf_RX6_49 C h0 dX6_day_36 ?_
    refine g_iload_n C 1 dX6_day_39 rfl ?_
    refine g_iast C (isX6_rowByHand h0).1 (isX6_rowByHand h0).2 h.1 dX6_day_40 ?_
    replace h := h.2
    refine g_aload_n C 0 dX6_day_41 rfl ?_
    refine g_dup C dX6_day_42 rfl ?_
    refine gf_RX6_49 C h0 dX6_day_43 ?_
    refine g_iconst C (v := (1 : Int32)) dX6_day_46 (by decide) ?_
    refine g_iadd C dX6_day_47 ?_
    refine gp_RX6_49 C h0 dX6_day_48 ?_
    refine g_mem (fun m6 em6 => ?_)
    replace h := h m6 em6
    refine g_aload_n C 0 dX6_day_51 rfl ?_
    refine gf_RX6_49 C h0 dX6_day_52 ?_
    exact hr _ _ _ _ _ dX6_day_55 rfl h
  · replace h := h.2 c5
    refine g_bipush C (v := (-3 : Int32)) dX6_day_28 (by decide) ?_
    exact hr _ _ _ _ _ dX6_day_30 rfl h
set_option maxRecDepth 20000 in
set_option maxHeartbeats 4000000 in
theorem ok_X6_day {Y : YT} {l0 : Launch} {b : Nat} {p1 : Int32} {μ : Mem} {Q : Int32 → Mem → Prop} (hI : YI Y) (h0 : isX6 Y b) (h : PX6_day b p1 μ Q) : MI l0 yX6_day WX6_day 1 21 Y [.ref (Y.ad b), .int p1] μ Q := by
  refine mI_of (ty := .int) (cc := cX6_day) (maxL := 2) (by decide +kernel) rfl hI (Nat.le_of_ble_eq_true rfl) (fun X C hr => ?_)
  replace C : Cx X Y 2 cX6_day RX6 WX6_day (rmB 1 21) l0 := C
  refine g_lv (lv2 := [(0, .ref (Y.ad b)), (1, .int p1)]) [0, 1] ?_ rfl
  unfold PX6_day at h
  refine g_iload_n C 1 dX6_day_0 rfl ?_
  refine g_bipush C (v := (-4 : Int32)) dX6_day_1 (by decide) ?_
  refine g_icmp_eq C 19 dX6_day_3 (by decide) (fun c1 => ?_) (fun c1 => ?_)
  · replace h := h.1 c1
    exact tX6_day_19 C hr hI h0 _ h
  · replace h := h.2 c1
    refine g_aload_n C 0 dX6_day_6 rfl ?_
    refine gf_RX6_10 C h0 dX6_day_7 ?_
    refine g_iload_n C 1 dX6_day_10 rfl ?_
    refine g_callVI C [.int p1] [] (ok_X2_hasSupper hI (isX6_rules h0) h) (cw_RX6_116 _) rfl dc_X2_hasSupper ⟨Nat.le_of_ble_eq_true rfl, Nat.le_of_ble_eq_true rfl⟩ (isX2_lt (isX6_rules h0)) (isX2_sh (isX6_rules h0)) rfl rfl rfl rfl (Nat.le_of_ble_eq_true rfl) dX6_day_11 (fun r3 m2 h => ?_)
    refine g_if_ne C 19 dX6_day_14 (by decide) (fun c4 => ?_) (fun c4 => ?_)
    · replace h := h.1 c4
      exact tX6_day_19 C hr hI h0 _ h
    · replace h := h.2 c4
      refine g_iconst C (v := (-1 : Int32)) dX6_day_17 (by decide) ?_
      exact hr _ _ _ _ _ dX6_day_18 rfl h
set_option maxRecDepth 20000 in
set_option maxHeartbeats 4000000 in
theorem ok_X6_clear {Y : YT} {l0 : Launch} {b : Nat} {μ : Mem} {Q : Int32 → Mem → Prop} (hI : YI Y) (h0 : isX6 Y b) (h : PX6_clear b μ Q) : MI l0 yX6_clear WX6_clear 0 0 Y [.ref (Y.ad b)] μ Q := by
  refine mI_of (ty := .int) (cc := cX6_clear) (maxL := 2) (by decide +kernel) rfl hI (Nat.le_of_ble_eq_true rfl) (fun X C hr => ?_)
  replace C : Cx X Y 2 cX6_clear RX6 WX6_clear (rmB 0 0) l0 := C
  refine g_lv (lv2 := [(0, .ref (Y.ad b))]) [0] ?_ rfl
  unfold PX6_clear at h
  refine g_aload_n C 0 dX6_clear_0 rfl ?_
  refine gf_RX6_49 C h0 dX6_clear_1 ?_
  refine g_istore_n C [(1, .int (μ.1 b 8)), (0, .ref (Y.ad b))] dX6_clear_4 (by decide) rfl ?_
  refine g_aload_n C 1 dX6_clear_5 rfl ?_
  refine g_iconst C (v := (0 : Int32)) dX6_clear_6 (by decide) ?_
  refine gp_RX6_49 C h0 dX6_clear_7 ?_
  refine g_iload_n C 0 dX6_clear_10 rfl ?_
  exact hr _ _ _ _ _ dX6_clear_11 rfl h
def SX6_rowByHandCloses_20 (X : XT) (Y : YT) (b : Nat) : Int32 → Mem → Prop := fun v1 μ => G X Y 2 20 [(0, .ref (Y.ad b)), (1, .int v1)] [] μ
set_option maxRecDepth 20000 in
set_option maxHeartbeats 4000000 in
theorem tX6_rowByHandCloses_60 {X : XT} {Y : YT} {l0 : Launch} {b : Nat} {Q : Int32 → Mem → Prop} (C : Cx X Y 2 cX6_rowByHandCloses RX6 WX6_rowByHandCloses (rmB 3 71) l0) (hr : RI X Y cX6_rowByHandCloses .boolean Q) (hI : YI Y) (h0 : isX6 Y b) (v1 : Int32) (μ : Mem) (h : nX6_rowByHandCloses_60 b Q (SX6_rowByHandCloses_20 X Y b) v1 μ) : G X Y 2 60 [(0, .ref (Y.ad b)), (1, .int v1)] [] μ := by
  unfold nX6_rowByHandCloses_60 at h
  refine g_iinc C (v := v1 + 1) 1 [(1, .int (v1 + 1)), (0, .ref (Y.ad b))] dX6_rowByHandCloses_60 rfl rfl (by decide) rfl ?_
  refine g_goto C 20 dX6_rowByHandCloses_63 (by decide) ?_
  refine g_lv (lv2 := [(0, .ref (Y.ad b)), (1, .int (v1 + 1))]) [1, 0] ?_ rfl
  exact h
set_option maxRecDepth 20000 in
set_option maxHeartbeats 4000000 in
theorem tX6_rowByHandCloses_20 {X : XT} {Y : YT} {l0 : Launch} {b : Nat} {Q : Int32 → Mem → Prop} (C : Cx X Y 2 cX6_rowByHandCloses RX6 WX6_rowByHandCloses (rmB 3 71) l0) (hr : RI X Y cX6_rowByHandCloses .boolean Q) (hI : YI Y) (h0 : isX6 Y b) (v1 : Int32) (μ : Mem) (h : nX6_rowByHandCloses_20 b Q (SX6_rowByHandCloses_20 X Y b) v1 μ) : G X Y 2 20 [(0, .ref (Y.ad b)), (1, .int v1)] [] μ := by
  unfold nX6_rowByHandCloses_20 at h
  refine g_iload_n C 1 dX6_rowByHandCloses_20 rfl ?_
  refine g_aload_n C 0 dX6_rowByHandCloses_21 rfl ?_
  refine gf_RX6_49 C h0 dX6_rowByHandCloses_22 ?_
  refine g_icmp_ge C 66 dX6_rowByHandCloses_25 (by decide) (fun c3 => ?_) (fun c3 => ?_)
  · replace h := h.1 c3
    refine g_aload_n C 0 dX6_rowByHandCloses_66 rfl ?_
    refine gf_RX6_10 C h0 dX6_rowByHandCloses_67 ?_
    refine g_aload_n C 0 dX6_rowByHandCloses_70 rfl ?_
    refine gf_RX6_33 C h0 dX6_rowByHandCloses_71 ?_
    refine g_aload_n C 0 dX6_rowByHandCloses_74 rfl ?_
    refine gf_RX6_55 C h0 dX6_rowByHandCloses_75 ?_
    refine gf_RX6_216 C (isX6_walk h0) dX6_rowByHandCloses_78 ?_
    refine g_aload_n C 0 dX6_rowByHandCloses_81 rfl ?_
    refine gf_RX6_45 C h0 dX6_rowByHandCloses_82 ?_
    refine g_aload_n C 0 dX6_rowByHandCloses_85 rfl ?_
    refine gf_RX6_49 C h0 dX6_rowByHandCloses_86 ?_
    refine g_callVI C [.ref (Y.ad (b + 40)), .ref (Y.ad (b + 55 + 1)), .ref (Y.ad (b + 54)), .int (μ.1 b 8)] [] (ok_X2_isClosed hI (isX6_rules h0) (isX6_kitchen h0) (isX5_behind (isX6_walk h0)) (isX6_rowByHand h0) h) (cw_RX6_226 _) rfl dc_X2_isClosed ⟨Nat.le_of_ble_eq_true rfl, Nat.le_of_ble_eq_true rfl⟩ (isX2_lt (isX6_rules h0)) (isX2_sh (isX6_rules h0)) rfl rfl rfl rfl (Nat.le_of_ble_eq_true rfl) dX6_rowByHandCloses_89 (fun r5 m4 h => ?_)
    exact hr _ _ _ _ _ dX6_rowByHandCloses_92 h.1.1 h.2
  · replace h := h.2 c3
    refine g_aload_n C 0 dX6_rowByHandCloses_28 rfl ?_
    refine gf_RX6_45 C h0 dX6_rowByHandCloses_29 ?_
    refine g_iload_n C 1 dX6_rowByHandCloses_32 rfl ?_
    refine g_iald C (isX6_rowByHand h0).1 (isX6_rowByHand h0).2 h.1 dX6_rowByHandCloses_33 ?_
    replace h := h.2
    refine g_bipush C (v := (-4 : Int32)) dX6_rowByHandCloses_34 (by decide) ?_
    refine g_icmp_ne C 60 dX6_rowByHandCloses_36 (by decide) (fun c6 => ?_) (fun c6 => ?_)
    · replace h := h.1 c6
      exact tX6_rowByHandCloses_60 C hr hI h0 _ _ h
    · replace h := h.2 c6
      refine g_aload_n C 0 dX6_rowByHandCloses_39 rfl ?_
      refine gf_RX6_10 C h0 dX6_rowByHandCloses_40 ?_
      refine g_aload_n C 0 dX6_rowByHandCloses_43 rfl ?_
      refine gf_RX6_33 C h0 dX6_rowByHandCloses_44 ?_
      refine gf_RX6_184 C (isX6_kitchen h0) dX6_rowByHandCloses_47 ?_
      refine g_iload_n C 1 dX6_rowByHandCloses_50 rfl ?_
      refine g_iadd C dX6_rowByHandCloses_51 ?_
      refine g_callVI C [.int ((μ.1 (b + 40) 2) + v1)] [] (ok_X2_isOut hI (isX6_rules h0) h) (cw_RX6_223 _) rfl dc_X2_isOut ⟨Nat.le_of_ble_eq_true rfl, Nat.le_of_ble_eq_true rfl⟩ (isX2_lt (isX6_rules h0)) (isX2_sh (isX6_rules h0)) rfl rfl rfl rfl (Nat.le_of_ble_eq_true rfl) dX6_rowByHandCloses_52 (fun r8 m7 h => ?_)
      refine g_if_ne C 60 dX6_rowByHandCloses_55 (by decide) (fun c9 => ?_) (fun c9 => ?_)
      · replace h := h.1 c9
        exact tX6_rowByHandCloses_60 C hr hI h0 _ _ h
      · replace h := h.2 c9
        refine g_iconst C (v := (0 : Int32)) dX6_rowByHandCloses_58 (by decide) ?_
        exact hr _ _ _ _ _ dX6_rowByHandCloses_59 rfl h
set_option maxRecDepth 20000 in
set_option maxHeartbeats 4000000 in
theorem ok_X6_rowByHandCloses {Y : YT} {l0 : Launch} {b : Nat} {μ : Mem} {Q : Int32 → Mem → Prop} (hI : YI Y) (h0 : isX6 Y b) (h : PX6_rowByHandCloses b μ Q) : MI l0 yX6_rowByHandCloses WX6_rowByHandCloses 3 71 Y [.ref (Y.ad b)] μ Q := by
  refine mI_of (ty := .boolean) (cc := cX6_rowByHandCloses) (maxL := 2) (by decide +kernel) rfl hI (Nat.le_of_ble_eq_true rfl) (fun X C hr => ?_)
  replace C : Cx X Y 2 cX6_rowByHandCloses RX6 WX6_rowByHandCloses (rmB 3 71) l0 := C
  refine g_lv (lv2 := [(0, .ref (Y.ad b))]) [0] ?_ rfl
  unfold PX6_rowByHandCloses at h
  replace h := h (SX6_rowByHandCloses_20 X Y b) (fun v1 μ z => tX6_rowByHandCloses_20 C hr hI h0 v1 μ z)
  refine g_aload_n C 0 dX6_rowByHandCloses_0 rfl ?_
  refine gf_RX6_49 C h0 dX6_rowByHandCloses_1 ?_
  refine g_iconst C (v := (1 : Int32)) dX6_rowByHandCloses_4 (by decide) ?_
  refine g_icmp_lt C 16 dX6_rowByHandCloses_5 (by decide) (fun c1 => ?_) (fun c1 => ?_)
  · replace h := h.1 c1
    refine g_iconst C (v := (0 : Int32)) dX6_rowByHandCloses_16 (by decide) ?_
    exact hr _ _ _ _ _ dX6_rowByHandCloses_17 rfl h
  · replace h := h.2 c1
    refine g_aload_n C 0 dX6_rowByHandCloses_8 rfl ?_
    refine gf_RX6_49 C h0 dX6_rowByHandCloses_9 ?_
    refine g_iconst C (v := (5 : Int32)) dX6_rowByHandCloses_12 (by decide) ?_
    refine g_icmp_le C 18 dX6_rowByHandCloses_13 (by decide) (fun c2 => ?_) (fun c2 => ?_)
    · replace h := h.1 c2
      refine g_iconst C (v := (0 : Int32)) dX6_rowByHandCloses_18 (by decide) ?_
      refine g_istore_n C [(1, .int ((0 : Int32))), (0, .ref (Y.ad b))] dX6_rowByHandCloses_19 (by decide) rfl ?_
      refine g_lv (lv2 := [(0, .ref (Y.ad b)), (1, .int ((0 : Int32)))]) [1, 0] ?_ rfl
      exact h
    · replace h := h.2 c2
      refine g_iconst C (v := (0 : Int32)) dX6_rowByHandCloses_16 (by decide) ?_
      exact hr _ _ _ _ _ dX6_rowByHandCloses_17 rfl h
set_option maxRecDepth 20000 in
set_option maxHeartbeats 4000000 in
theorem tX6_row_191 {X : XT} {Y : YT} {l0 : Launch} {b : Nat} {p1 : Int32} {Q : Int32 → Mem → Prop} (C : Cx X Y 4 cX6_row RX6 WX6_row (rmB 5 128) l0) (hr : RI X Y cX6_row .int Q) (hI : YI Y) (h0 : isX6 Y b) (μ : Mem) (h : nX6_row_191 b p1 Q  μ) : G X Y 4 191 [(0, .ref (Y.ad b)), (1, .int p1)] [] μ := by
  unfold nX6_row_191 at h
  refine g_iconst C (v := (0 : Int32)) dX6_row_191 (by decide) ?_
  exact hr _ _ _ _ _ dX6_row_192 rfl h
set_option maxRecDepth 20000 in
set_option maxHeartbeats 4000000 in
theorem tX6_row_33 {X : XT} {Y : YT} {l0 : Launch} {b : Nat} {p1 : Int32} {Q : Int32 → Mem → Prop} (C : Cx X Y 4 cX6_row RX6 WX6_row (rmB 5 128) l0) (hr : RI X Y cX6_row .int Q) (hI : YI Y) (h0 : isX6 Y b) (v2 : Int32) (μ : Mem) (h : nX6_row_33 b p1 Q v2 μ) : G X Y 4 33 [(0, .ref (Y.ad b)), (1, .int p1), (2, .int v2)] [] μ := by
  unfold nX6_row_33 at h
  refine g_aload_n C 0 dX6_row_33 rfl ?_
  refine gf_RX6_55 C h0 dX6_row_34 ?_
  refine g_aload_n C 0 dX6_row_37 rfl ?_
  refine gf_RX6_10 C h0 dX6_row_38 ?_
  refine g_aload_n C 0 dX6_row_41 rfl ?_
  refine gf_RX6_33 C h0 dX6_row_42 ?_
  refine g_aload_n C 0 dX6_row_45 rfl ?_
  refine gf_RX6_45 C h0 dX6_row_46 ?_
  refine g_aload_n C 0 dX6_row_49 rfl ?_
  refine gf_RX6_49 C h0 dX6_row_50 ?_
  refine g_iconst C (v := (0 : Int32)) dX6_row_53 (by decide) ?_
  refine g_callVI C [.ref (Y.ad (b + 1)), .ref (Y.ad (b + 40)), .ref (Y.ad (b + 54)), .int (μ.1 b 8), .int ((0 : Int32))] [] (ok_X5_go hI (isX6_walk h0) (isX6_rules h0) (isX6_kitchen h0) (isX6_rowByHand h0) h) (cw_RX6_205 _) rfl dc_X5_go ⟨Nat.le_of_ble_eq_true rfl, Nat.le_of_ble_eq_true rfl⟩ (isX5_lt (isX6_walk h0)) (isX5_sh (isX6_walk h0)) rfl rfl rfl rfl (Nat.le_of_ble_eq_true rfl) dX6_row_54 (fun r7 m6 h => ?_)
  refine g_istore_n C [(3, .int r7), (0, .ref (Y.ad b)), (1, .int p1), (2, .int v2)] dX6_row_57 (by decide) rfl ?_
  refine g_iload_n C 3 dX6_row_58 rfl ?_
  refine g_if_eq C 79 dX6_row_59 (by decide) (fun c8 => ?_) (fun c8 => ?_)
  · replace h := h.1 c8
    refine g_iload_n C 2 dX6_row_79 rfl ?_
    by_cases c9 : p1 = 0
    · refine g_tableIn C 116 dX6_row_80 (by rw [c9]; decide) (by rw [c9]; decide) (by rw [c9]; rfl) (by decide) ?_
      replace h := h.1 c9
      refine g_iload_n C 0 dX6_row_116 rfl ?_
      refine g_aload_n C 1 dX6_row_117 rfl ?_
      refine gf_RX6_49 C h0 dX6_row_118 ?_
      refine g_icmp_ge C 128 dX6_row_121 (by decide) (fun c10 => ?_) (fun c10 => ?_)
      · replace h := h.1 c10
        refine g_bipush C (v := (-4 : Int32)) dX6_row_128 (by decide) ?_
        exact hr _ _ _ _ _ dX6_row_130 rfl h
      · replace h := h.2 c10
        refine g_iload_n C 0 dX6_row_124 rfl ?_
        refine g_goto C 130 dX6_row_125 (by decide) ?_
        exact hr _ _ _ _ _ dX6_row_130 rfl h
    by_cases c11 : p1 = 1
    · refine g_tableIn C 131 dX6_row_80 (by rw [c11]; decide) (by rw [c11]; decide) (by rw [c11]; rfl) (by decide) ?_
      replace h := h.2.1 c11
      refine g_aload_n C 1 dX6_row_131 rfl ?_
      refine gf_RX6_55 C h0 dX6_row_132 ?_
      refine gf_RX6_213 C (isX6_walk h0) dX6_row_135 ?_
      exact hr _ _ _ _ _ dX6_row_138 rfl h
    by_cases c12 : p1 = 2
    · refine g_tableIn C 139 dX6_row_80 (by rw [c12]; decide) (by rw [c12]; decide) (by rw [c12]; rfl) (by decide) ?_
      replace h := h.2.2.1 c12
      refine g_aload_n C 1 dX6_row_139 rfl ?_
      refine gf_RX6_55 C h0 dX6_row_140 ?_
      refine gf_RX6_216 C (isX6_walk h0) dX6_row_143 ?_
      refine gf_RX6_187 C (isX5_behind (isX6_walk h0)) dX6_row_146 ?_
      exact hr _ _ _ _ _ dX6_row_149 rfl h
    by_cases c13 : p1 = 3
    · refine g_tableIn C 150 dX6_row_80 (by rw [c13]; decide) (by rw [c13]; decide) (by rw [c13]; rfl) (by decide) ?_
      replace h := h.2.2.2.1 c13
      refine g_aload_n C 1 dX6_row_150 rfl ?_
      refine gf_RX6_55 C h0 dX6_row_151 ?_
      refine gf_RX6_216 C (isX6_walk h0) dX6_row_154 ?_
      refine gf_RX6_190 C (isX5_behind (isX6_walk h0)) dX6_row_157 ?_
      exact hr _ _ _ _ _ dX6_row_160 rfl h
    by_cases c14 : p1 = 4
    · refine g_tableIn C 161 dX6_row_80 (by rw [c14]; decide) (by rw [c14]; decide) (by rw [c14]; rfl) (by decide) ?_
      replace h := h.2.2.2.2.1 c14
      refine g_aload_n C 1 dX6_row_161 rfl ?_
      refine gf_RX6_55 C h0 dX6_row_162 ?_
      refine gf_RX6_216 C (isX6_walk h0) dX6_row_165 ?_
      refine gf_RX6_193 C (isX5_behind (isX6_walk h0)) dX6_row_168 ?_
      exact hr _ _ _ _ _ dX6_row_171 rfl h
    have c19 : p1.toInt < 0 ∨ 4 < p1.toInt := by
      have z := (And.intro True.intro ⟨lv_neT (a := 0) c9 rfl, lv_neT (a := 1) c11 rfl, lv_neT (a := 2) c12 rfl, lv_neT (a := 3) c13 rfl, lv_neT (a := 4) c14 rfl⟩ : True ∧ ¬ p1.toInt = 0 ∧ ¬ p1.toInt = 1 ∧ ¬ p1.toInt = 2 ∧ ¬ p1.toInt = 3 ∧ ¬ p1.toInt = 4)
      omega
    refine g_tableOut C 172 dX6_row_80 c19 (by decide) ?_
    replace h := h.2.2.2.2.2 c19
    refine g_iload_n C 0 dX6_row_172 rfl ?_
    refine g_aload_n C 1 dX6_row_173 rfl ?_
    refine gf_RX6_49 C h0 dX6_row_174 ?_
    refine g_icmp_ne C 191 dX6_row_177 (by decide) (fun c15 => ?_) (fun c15 => ?_)
    · replace h := h.1 c15
      refine g_lv (lv2 := [(0, .ref (Y.ad b)), (1, .int p1)]) [1, 2] ?_ rfl
      exact tX6_row_191 C hr hI h0 _ h
    · replace h := h.2 c15
      refine g_aload_n C 1 dX6_row_180 rfl ?_
      refine g_callVI C [] [] (ok_X6_rowByHandCloses hI h0 h) (cw_RX6_219 _) rfl dc_X6_rowByHandCloses ⟨Nat.le_of_ble_eq_true rfl, Nat.le_of_ble_eq_true rfl⟩ (isX6_lt h0) (isX6_sh h0) rfl rfl rfl rfl (Nat.le_of_ble_eq_true rfl) dX6_row_181 (fun r17 m16 h => ?_)
      refine g_if_eq C 191 dX6_row_184 (by decide) (fun c18 => ?_) (fun c18 => ?_)
      · replace h := h.1 c18
        refine g_lv (lv2 := [(0, .ref (Y.ad b)), (1, .int p1)]) [1, 2] ?_ rfl
        exact tX6_row_191 C hr hI h0 _ h
      · replace h := h.2 c18
        refine g_iconst C (v := (1 : Int32)) dX6_row_187 (by decide) ?_
        refine g_goto C 192 dX6_row_188 (by decide) ?_
        exact hr _ _ _ _ _ dX6_row_192 rfl h
  · replace h := h.2 c8
    refine g_aload_n C 1 dX6_row_62 rfl ?_
    refine gf_RX6_10 C h0 dX6_row_63 ?_
    refine g_aload_n C 1 dX6_row_66 rfl ?_
    refine gf_RX6_45 C h0 dX6_row_67 ?_
    refine g_iload_n C 0 dX6_row_70 rfl ?_
    refine g_iload_n C 2 dX6_row_71 rfl ?_
    refine g_bipush C (v := (10 : Int32)) dX6_row_72 (by decide) ?_
    refine g_isub C dX6_row_74 ?_
    refine g_callVI C [.ref (Y.ad (b + 54)), .int r7, .int (p1 - ((10 : Int32)))] [] (ok_X2_timesFed hI (isX6_rules h0) (isX6_rowByHand h0) h) (cw_RX6_209 _) rfl dc_X2_timesFed ⟨Nat.le_of_ble_eq_true rfl, Nat.le_of_ble_eq_true rfl⟩ (isX2_lt (isX6_rules h0)) (isX2_sh (isX6_rules h0)) rfl rfl rfl rfl (Nat.le_of_ble_eq_true rfl) dX6_row_75 (fun r21 m20 h => ?_)
    exact hr _ _ _ _ _ dX6_row_78 rfl h
set_option maxRecDepth 20000 in
set_option maxHeartbeats 4000000 in
theorem tX6_row_17 {X : XT} {Y : YT} {l0 : Launch} {b : Nat} {p1 : Int32} {Q : Int32 → Mem → Prop} (C : Cx X Y 4 cX6_row RX6 WX6_row (rmB 5 128) l0) (hr : RI X Y cX6_row .int Q) (hI : YI Y) (h0 : isX6 Y b) (w0 : Int32) (μ : Mem) (h : nX6_row_17 b p1 Q w0 μ) : G X Y 4 17 [(0, .ref (Y.ad b)), (1, .int p1)] [.int w0] μ := by
  unfold nX6_row_17 at h
  refine g_istore_n C [(2, .int w0), (0, .ref (Y.ad b)), (1, .int p1)] dX6_row_17 (by decide) rfl ?_
  refine g_iload_n C 0 dX6_row_18 rfl ?_
  refine g_if_ne C 33 dX6_row_19 (by decide) (fun c3 => ?_) (fun c3 => ?_)
  · replace h := h.1 c3
    refine g_lv (lv2 := [(0, .ref (Y.ad b)), (1, .int p1), (2, .int w0)]) [1, 2, 0] ?_ rfl
    exact tX6_row_33 C hr hI h0 _ _ h
  · replace h := h.2 c3
    refine g_iload_n C 2 dX6_row_22 rfl ?_
    refine g_if_lt C 31 dX6_row_23 (by decide) (fun c4 => ?_) (fun c4 => ?_)
    · replace h := h.1 c4
      refine g_iconst C (v := (-1 : Int32)) dX6_row_31 (by decide) ?_
      exact hr _ _ _ _ _ dX6_row_32 rfl h
    · replace h := h.2 c4
      refine g_iload_n C 2 dX6_row_26 rfl ?_
      refine g_iconst C (v := (5 : Int32)) dX6_row_27 (by decide) ?_
      refine g_icmp_le C 33 dX6_row_28 (by decide) (fun c5 => ?_) (fun c5 => ?_)
      · replace h := h.1 c5
        refine g_lv (lv2 := [(0, .ref (Y.ad b)), (1, .int p1), (2, .int w0)]) [1, 2, 0] ?_ rfl
        exact tX6_row_33 C hr hI h0 _ _ h
      · replace h := h.2 c5
        refine g_iconst C (v := (-1 : Int32)) dX6_row_31 (by decide) ?_
        exact hr _ _ _ _ _ dX6_row_32 rfl h
set_option maxRecDepth 20000 in
set_option maxHeartbeats 4000000 in
theorem tX6_row_16 {X : XT} {Y : YT} {l0 : Launch} {b : Nat} {p1 : Int32} {Q : Int32 → Mem → Prop} (C : Cx X Y 4 cX6_row RX6 WX6_row (rmB 5 128) l0) (hr : RI X Y cX6_row .int Q) (hI : YI Y) (h0 : isX6 Y b) (μ : Mem) (h : nX6_row_16 b p1 Q  μ) : G X Y 4 16 [(0, .ref (Y.ad b)), (1, .int p1)] [] μ := by
  unfold nX6_row_16 at h
  refine g_iconst C (v := (0 : Int32)) dX6_row_16 (by decide) ?_
  exact tX6_row_17 C hr hI h0 _ _ h
set_option maxRecDepth 20000 in
set_option maxHeartbeats 4000000 in
theorem ok_X6_row {Y : YT} {l0 : Launch} {b : Nat} {p1 : Int32} {μ : Mem} {Q : Int32 → Mem → Prop} (hI : YI Y) (h0 : isX6 Y b) (h : PX6_row b p1 μ Q) : MI l0 yX6_row WX6_row 5 128 Y [.ref (Y.ad b), .int p1] μ Q := by
  refine mI_of (ty := .int) (cc := cX6_row) (maxL := 4) (by decide +kernel) rfl hI (Nat.le_of_ble_eq_true rfl) (fun X C hr => ?_)
  replace C : Cx X Y 4 cX6_row RX6 WX6_row (rmB 5 128) l0 := C
  refine g_lv (lv2 := [(0, .ref (Y.ad b)), (1, .int p1)]) [0, 1] ?_ rfl
  unfold PX6_row at h
  refine g_iload_n C 1 dX6_row_0 rfl ?_
  refine g_bipush C (v := (10 : Int32)) dX6_row_1 (by decide) ?_
  refine g_icmp_lt C 16 dX6_row_3 (by decide) (fun c1 => ?_) (fun c1 => ?_)
  · replace h := h.1 c1
    exact tX6_row_16 C hr hI h0 _ h
  · replace h := h.2 c1
    refine g_iload_n C 1 dX6_row_6 rfl ?_
    refine g_bipush C (v := (14 : Int32)) dX6_row_7 (by decide) ?_
    refine g_icmp_ge C 16 dX6_row_9 (by decide) (fun c2 => ?_) (fun c2 => ?_)
    · replace h := h.1 c2
      exact tX6_row_16 C hr hI h0 _ h
    · replace h := h.2 c2
      refine g_iconst C (v := (1 : Int32)) dX6_row_12 (by decide) ?_
      refine g_goto C 17 dX6_row_13 (by decide) ?_
      exact tX6_row_17 C hr hI h0 _ _ h
def SX6_lowestTerms_9 (X : XT) (Y : YT) (p0 : Int32) (p1 : Int32) (p2 : Int32) : Int32 → Int32 → Mem → Prop := fun v3 v4 μ => G X Y 5 9 [(0, .int p0), (1, .int p1), (2, .int p2), (3, .int v3), (4, .int v4)] [] μ
set_option maxRecDepth 20000 in
set_option maxHeartbeats 4000000 in
theorem tX6_lowestTerms_34 {X : XT} {Y : YT} {l0 : Launch} {p0 : Int32} {p1 : Int32} {p2 : Int32} {Q : Int32 → Mem → Prop} (C : Cx X Y 5 cX6_lowestTerms RX6 WX6_lowestTerms (rmB 0 0) l0) (hr : RI X Y cX6_lowestTerms .int Q) (hI : YI Y) (v3 : Int32) (v4 : Int32) (μ : Mem) (h : nX6_lowestTerms_34 p0 p1 p2 Q (SX6_lowestTerms_9 X Y p0 p1 p2) v3 v4 μ) : G X Y 5 34 [(0, .int p0), (1, .int p1), (2, .int p2), (3, .int v3), (4, .int v4)] [] μ := by
  unfold nX6_lowestTerms_34 at h
  refine g_iload_n C 2 dX6_lowestTerms_34 rfl ?_
  refine g_if_ne C 42 dX6_lowestTerms_35 (by decide) (fun c3 => ?_) (fun c3 => ?_)
  · replace h := h.1 c3
    refine g_iload C 4 dX6_lowestTerms_42 rfl ?_
    exact hr _ _ _ _ _ dX6_lowestTerms_44 rfl h
  · replace h := h.2 c3
    refine g_iload_n C 3 dX6_lowestTerms_38 rfl ?_
    refine g_goto C 44 dX6_lowestTerms_39 (by decide) ?_
    exact hr _ _ _ _ _ dX6_lowestTerms_44 rfl h
set_option maxRecDepth 20000 in
set_option maxHeartbeats 4000000 in
theorem tX6_lowestTerms_9 {X : XT} {Y : YT} {l0 : Launch} {p0 : Int32} {p1 : Int32} {p2 : Int32} {Q : Int32 → Mem → Prop} (C : Cx X Y 5 cX6_lowestTerms RX6 WX6_lowestTerms (rmB 0 0) l0) (hr : RI X Y cX6_lowestTerms .int Q) (hI : YI Y) (v3 : Int32) (v4 : Int32) (μ : Mem) (h : nX6_lowestTerms_9 p0 p1 p2 Q (SX6_lowestTerms_9 X Y p0 p1 p2) v3 v4 μ) : G X Y 5 9 [(0, .int p0), (1, .int p1), (2, .int p2), (3, .int v3), (4, .int v4)] [] μ := by
  unfold nX6_lowestTerms_9 at h
  refine g_iload C 4 dX6_lowestTerms_9 rfl ?_
  refine g_iconst C (v := (1 : Int32)) dX6_lowestTerms_11 (by decide) ?_
  refine g_icmp_le C 34 dX6_lowestTerms_12 (by decide) (fun c1 => ?_) (fun c1 => ?_)
  · replace h := h.1 c1
    exact tX6_lowestTerms_34 C hr hI  _ _ _ h
  · replace h := h.2 c1
    refine g_iload_n C 3 dX6_lowestTerms_15 rfl ?_
    refine g_iconst C (v := (2 : Int32)) dX6_lowestTerms_16 (by decide) ?_
    refine g_irem C dX6_lowestTerms_17 (by decide) ?_
    refine g_if_ne C 34 dX6_lowestTerms_18 (by decide) (fun c2 => ?_) (fun c2 => ?_)
    · replace h := h.1 c2
      exact tX6_lowestTerms_34 C hr hI  _ _ _ h
    · replace h := h.2 c2
      refine g_iload_n C 3 dX6_lowestTerms_21 rfl ?_
      refine g_iconst C (v := (2 : Int32)) dX6_lowestTerms_22 (by decide) ?_
      refine g_idiv C dX6_lowestTerms_23 (by decide) ?_
      refine g_istore_n C [(3, .int (v3 / ((2 : Int32)))), (0, .int p0), (1, .int p1), (2, .int p2), (4, .int v4)] dX6_lowestTerms_24 (by decide) rfl ?_
      refine g_iload C 4 dX6_lowestTerms_25 rfl ?_
      refine g_iconst C (v := (2 : Int32)) dX6_lowestTerms_27 (by decide) ?_
      refine g_idiv C dX6_lowestTerms_28 (by decide) ?_
      refine g_istore C [(4, .int (v4 / ((2 : Int32)))), (3, .int (v3 / ((2 : Int32)))), (0, .int p0), (1, .int p1), (2, .int p2)] dX6_lowestTerms_29 (by decide) rfl ?_
      refine g_goto C 9 dX6_lowestTerms_31 (by decide) ?_
      refine g_lv (lv2 := [(0, .int p0), (1, .int p1), (2, .int p2), (3, .int (v3 / ((2 : Int32)))), (4, .int (v4 / ((2 : Int32))))]) [2, 3, 4, 1, 0] ?_ rfl
      exact h
set_option maxRecDepth 20000 in
set_option maxHeartbeats 4000000 in
theorem ok_X6_lowestTerms {Y : YT} {l0 : Launch} {p0 : Int32} {p1 : Int32} {p2 : Int32} {μ : Mem} {Q : Int32 → Mem → Prop} (hI : YI Y) (h : PX6_lowestTerms p0 p1 p2 μ Q) : MI l0 yX6_lowestTerms WX6_lowestTerms 0 0 Y [.int p0, .int p1, .int p2] μ Q := by
  refine mI_of (ty := .int) (cc := cX6_lowestTerms) (maxL := 5) (by decide +kernel) rfl hI (Nat.le_of_ble_eq_true rfl) (fun X C hr => ?_)
  replace C : Cx X Y 5 cX6_lowestTerms RX6 WX6_lowestTerms (rmB 0 0) l0 := C
  refine g_lv (lv2 := [(0, .int p0), (1, .int p1), (2, .int p2)]) [0, 1, 2] ?_ rfl
  unfold PX6_lowestTerms at h
  replace h := h (SX6_lowestTerms_9 X Y p0 p1 p2) (fun v3 v4 μ z => tX6_lowestTerms_9 C hr hI  v3 v4 μ z)
  refine g_iload_n C 0 dX6_lowestTerms_0 rfl ?_
  refine g_istore_n C [(3, .int p0), (0, .int p0), (1, .int p1), (2, .int p2)] dX6_lowestTerms_1 (by decide) rfl ?_
  refine g_iconst C (v := (1 : Int32)) dX6_lowestTerms_2 (by decide) ?_
  refine g_iconst C (v := (2 : Int32)) dX6_lowestTerms_3 (by decide) ?_
  refine g_iload_n C 2 dX6_lowestTerms_4 rfl ?_
  refine g_imul C dX6_lowestTerms_5 ?_
  refine g_ishl C dX6_lowestTerms_6 ?_
  refine g_istore C [(4, .int (((1 : Int32)) <<< ((((2 : Int32)) * p1) &&& 31))), (3, .int p0), (0, .int p0), (1, .int p1), (2, .int p2)] dX6_lowestTerms_7 (by decide) rfl ?_
  refine g_lv (lv2 := [(0, .int p0), (1, .int p1), (2, .int p2), (3, .int p0), (4, .int (((1 : Int32)) <<< ((((2 : Int32)) * p1) &&& 31)))]) [2, 3, 4, 1, 0] ?_ rfl
  exact h
set_option maxRecDepth 20000 in
set_option maxHeartbeats 4000000 in
theorem ok_X6_bears {Y : YT} {l0 : Launch} {b : Nat} {p1 : Int32} {μ : Mem} {Q : Int32 → Mem → Prop} (hI : YI Y) (h0 : isX6 Y b) (h : PX6_bears b p1 μ Q) : MI l0 yX6_bears WX6_bears 6 155 Y [.ref (Y.ad b), .int p1] μ Q := by
  refine mI_of (ty := .int) (cc := cX6_bears) (maxL := 2) (by decide +kernel) rfl hI (Nat.le_of_ble_eq_true rfl) (fun X C hr => ?_)
  replace C : Cx X Y 2 cX6_bears RX6 WX6_bears (rmB 6 155) l0 := C
  refine g_lv (lv2 := [(0, .ref (Y.ad b)), (1, .int p1)]) [0, 1] ?_ rfl
  unfold PX6_bears at h
  refine g_iload_n C 1 dX6_bears_0 rfl ?_
  refine g_if_lt C 9 dX6_bears_1 (by decide) (fun c1 => ?_) (fun c1 => ?_)
  · replace h := h.1 c1
    refine g_iconst C (v := (-1 : Int32)) dX6_bears_9 (by decide) ?_
    exact hr _ _ _ _ _ dX6_bears_10 rfl h
  · replace h := h.2 c1
    refine g_iload_n C 1 dX6_bears_4 rfl ?_
    refine g_iconst C (v := (1 : Int32)) dX6_bears_5 (by decide) ?_
    refine g_icmp_le C 11 dX6_bears_6 (by decide) (fun c2 => ?_) (fun c2 => ?_)
    · replace h := h.1 c2
      refine g_aload_n C 0 dX6_bears_11 rfl ?_
      refine gf_RX6_55 C h0 dX6_bears_12 ?_
      refine g_aload_n C 0 dX6_bears_15 rfl ?_
      refine gf_RX6_10 C h0 dX6_bears_16 ?_
      refine g_aload_n C 0 dX6_bears_19 rfl ?_
      refine gf_RX6_33 C h0 dX6_bears_20 ?_
      refine g_aload_n C 0 dX6_bears_23 rfl ?_
      refine gf_RX6_45 C h0 dX6_bears_24 ?_
      refine g_aload_n C 0 dX6_bears_27 rfl ?_
      refine gf_RX6_49 C h0 dX6_bears_28 ?_
      refine g_callVI C [.ref (Y.ad (b + 1)), .ref (Y.ad (b + 40)), .ref (Y.ad (b + 54)), .int (μ.1 b 8)] [] (ok_X5_bearing hI (isX6_walk h0) (isX6_rules h0) (isX6_kitchen h0) (isX6_rowByHand h0) h) (cw_RX6_230 _) rfl dc_X5_bearing ⟨Nat.le_of_ble_eq_true rfl, Nat.le_of_ble_eq_true rfl⟩ (isX5_lt (isX6_walk h0)) (isX5_sh (isX6_walk h0)) rfl rfl rfl rfl (Nat.le_of_ble_eq_true rfl) dX6_bears_31 (fun r4 m3 h => ?_)
      refine g_aload_n C 0 dX6_bears_34 rfl ?_
      refine gf_RX6_49 C h0 dX6_bears_35 ?_
      refine g_iload_n C 1 dX6_bears_38 rfl ?_
      refine g_callSI C [.int r4, .int (m3.1 b 8), .int p1] [] (ok_X6_lowestTerms hI  h) (cw_RX6_234 _) rfl dc_X6_lowestTerms ⟨Nat.le_of_ble_eq_true rfl, Nat.le_of_ble_eq_true rfl⟩ rfl (Nat.le_of_ble_eq_true rfl) dX6_bears_39 (fun r6 m5 h => ?_)
      exact hr _ _ _ _ _ dX6_bears_42 rfl h
    · replace h := h.2 c2
      refine g_iconst C (v := (-1 : Int32)) dX6_bears_9 (by decide) ?_
      exact hr _ _ _ _ _ dX6_bears_10 rfl h
set_option maxRecDepth 20000 in
set_option maxHeartbeats 4000000 in
theorem tX6_isPlace_18 {X : XT} {Y : YT} {l0 : Launch} {p0 : Int32} {p1 : Int32} {Q : Int32 → Mem → Prop} (C : Cx X Y 2 cX6_isPlace RX6 WX6_isPlace (rmB 0 0) l0) (hr : RI X Y cX6_isPlace .boolean Q) (hI : YI Y)  (μ : Mem) (h : nX6_isPlace_18 p0 p1 Q  μ) : G X Y 2 18 [(0, .int p0), (1, .int p1)] [] μ := by
  unfold nX6_isPlace_18 at h
  refine g_iconst C (v := (0 : Int32)) dX6_isPlace_18 (by decide) ?_
  exact hr _ _ _ _ _ dX6_isPlace_19 rfl h
set_option maxRecDepth 20000 in
set_option maxHeartbeats 4000000 in
theorem ok_X6_isPlace {Y : YT} {l0 : Launch} {p0 : Int32} {p1 : Int32} {μ : Mem} {Q : Int32 → Mem → Prop} (hI : YI Y) (h : PX6_isPlace p0 p1 μ Q) : MI l0 yX6_isPlace WX6_isPlace 0 0 Y [.int p0, .int p1] μ Q := by
  refine mI_of (ty := .boolean) (cc := cX6_isPlace) (maxL := 2) (by decide +kernel) rfl hI (Nat.le_of_ble_eq_true rfl) (fun X C hr => ?_)
  replace C : Cx X Y 2 cX6_isPlace RX6 WX6_isPlace (rmB 0 0) l0 := C
  refine g_lv (lv2 := [(0, .int p0), (1, .int p1)]) [0, 1] ?_ rfl
  unfold PX6_isPlace at h
  refine g_iload_n C 0 dX6_isPlace_0 rfl ?_
  refine g_bipush C (v := (10 : Int32)) dX6_isPlace_1 (by decide) ?_
  refine g_icmp_lt C 18 dX6_isPlace_3 (by decide) (fun c1 => ?_) (fun c1 => ?_)
  · replace h := h.1 c1
    exact tX6_isPlace_18 C hr hI  _ h
  · replace h := h.2 c1
    refine g_iload_n C 0 dX6_isPlace_6 rfl ?_
    refine g_bipush C (v := (10 : Int32)) dX6_isPlace_7 (by decide) ?_
    refine g_iload_n C 1 dX6_isPlace_9 rfl ?_
    refine g_iadd C dX6_isPlace_10 ?_
    refine g_icmp_ge C 18 dX6_isPlace_11 (by decide) (fun c2 => ?_) (fun c2 => ?_)
    · replace h := h.1 c2
      exact tX6_isPlace_18 C hr hI  _ h
    · replace h := h.2 c2
      refine g_iconst C (v := (1 : Int32)) dX6_isPlace_14 (by decide) ?_
      refine g_goto C 19 dX6_isPlace_15 (by decide) ?_
      exact hr _ _ _ _ _ dX6_isPlace_19 rfl h
set_option maxRecDepth 20000 in
set_option maxHeartbeats 4000000 in
theorem tX6_best_39 {X : XT} {Y : YT} {l0 : Launch} {b : Nat} {p1 : Int32} {p2 : Int32} {Q : Int32 → Mem → Prop} (C : Cx X Y 4 cX6_best RX6 WX6_best (rmB 7 182) l0) (hr : RI X Y cX6_best .int Q) (hI : YI Y) (h0 : isX6 Y b) (μ : Mem) (h : nX6_best_39 b p1 p2 Q  μ) : G X Y 4 39 [(0, .ref (Y.ad b)), (1, .int p1), (2, .int p2)] [] μ := by
  unfold nX6_best_39 at h
  refine g_aload_n C 0 dX6_best_39 rfl ?_
  refine gf_RX6_62 C h0 dX6_best_40 ?_
  refine g_aload_n C 0 dX6_best_43 rfl ?_
  refine gf_RX6_10 C h0 dX6_best_44 ?_
  refine g_aload_n C 0 dX6_best_47 rfl ?_
  refine gf_RX6_33 C h0 dX6_best_48 ?_
  refine g_iload_n C 1 dX6_best_51 rfl ?_
  refine g_iconst C (v := (0 : Int32)) dX6_best_52 (by decide) ?_
  refine g_callVV C [.ref (Y.ad (b + 1)), .ref (Y.ad (b + 40)), .int p1, .int ((0 : Int32))] [] (ok_X3_lookAtRows hI (isX6_search h0) (isX6_rules h0) (isX6_kitchen h0) h) (cw_RX6_242 _) rfl dc_X3_lookAtRows ⟨Nat.le_of_ble_eq_true rfl, Nat.le_of_ble_eq_true rfl⟩ (isX3_lt (isX6_search h0)) (isX3_sh (isX6_search h0)) rfl rfl rfl rfl (Nat.le_of_ble_eq_true rfl) dX6_best_53 (fun m9 h => ?_)
  refine g_iload_n C 2 dX6_best_56 rfl ?_
  refine g_iconst C (v := (4 : Int32)) dX6_best_57 (by decide) ?_
  refine g_icmp_ne C 69 dX6_best_58 (by decide) (fun c11 => ?_) (fun c11 => ?_)
  · replace h := h.1 c11
    refine g_aload_n C 0 dX6_best_69 rfl ?_
    refine gf_RX6_62 C h0 dX6_best_70 ?_
    refine gf_RX6_246 C (isX6_search h0) dX6_best_73 ?_
    refine g_if_ne C 82 dX6_best_76 (by decide) (fun c12 => ?_) (fun c12 => ?_)
    · replace h := h.1 c12
      refine g_iload_n C 2 dX6_best_82 rfl ?_
      by_cases c13 : p2 = 0
      · refine g_tableIn C 112 dX6_best_83 (by rw [c13]; decide) (by rw [c13]; decide) (by rw [c13]; rfl) (by decide) ?_
        replace h := h.1 c13
        refine g_aload_n C 0 dX6_best_112 rfl ?_
        refine gf_RX6_62 C h0 dX6_best_113 ?_
        refine gf_RX6_249 C (isX6_search h0) dX6_best_116 ?_
        exact hr _ _ _ _ _ dX6_best_119 rfl h
      by_cases c14 : p2 = 1
      · refine g_tableIn C 120 dX6_best_83 (by rw [c14]; decide) (by rw [c14]; decide) (by rw [c14]; rfl) (by decide) ?_
        replace h := h.2.1 c14
        refine g_aload_n C 0 dX6_best_120 rfl ?_
        refine gf_RX6_62 C h0 dX6_best_121 ?_
        refine gf_RX6_252 C (isX6_search h0) dX6_best_124 ?_
        exact hr _ _ _ _ _ dX6_best_127 rfl h
      by_cases c15 : p2 = 2
      · refine g_tableIn C 128 dX6_best_83 (by rw [c15]; decide) (by rw [c15]; decide) (by rw [c15]; rfl) (by decide) ?_
        replace h := h.2.2.1 c15
        refine g_aload_n C 0 dX6_best_128 rfl ?_
        refine gf_RX6_62 C h0 dX6_best_129 ?_
        refine gf_RX6_255 C (isX6_search h0) dX6_best_132 ?_
        exact hr _ _ _ _ _ dX6_best_135 rfl h
      by_cases c16 : p2 = 3
      · refine g_tableIn C 136 dX6_best_83 (by rw [c16]; decide) (by rw [c16]; decide) (by rw [c16]; rfl) (by decide) ?_
        replace h := h.2.2.2.1 c16
        refine g_aload_n C 0 dX6_best_136 rfl ?_
        refine gf_RX6_62 C h0 dX6_best_137 ?_
        refine gf_RX6_258 C (isX6_search h0) dX6_best_140 ?_
        exact hr _ _ _ _ _ dX6_best_143 rfl h
      have c17 : p2.toInt < 0 ∨ 3 < p2.toInt := by
        have z := (And.intro True.intro ⟨lv_neT (a := 0) c13 rfl, lv_neT (a := 1) c14 rfl, lv_neT (a := 2) c15 rfl, lv_neT (a := 3) c16 rfl⟩ : True ∧ ¬ p2.toInt = 0 ∧ ¬ p2.toInt = 1 ∧ ¬ p2.toInt = 2 ∧ ¬ p2.toInt = 3)
        omega
      refine g_tableOut C 144 dX6_best_83 c17 (by decide) ?_
      replace h := h.2.2.2.2 c17
      refine g_aload_n C 0 dX6_best_144 rfl ?_
      refine gf_RX6_62 C h0 dX6_best_145 ?_
      refine gf_RX6_261 C (isX6_search h0) dX6_best_148 ?_
      refine g_iload_n C 2 dX6_best_151 rfl ?_
      refine g_bipush C (v := (10 : Int32)) dX6_best_152 (by decide) ?_
      refine g_isub C dX6_best_154 ?_
      refine g_iald C (isX3_bestRow (isX6_search h0)).1 (isX3_bestRow (isX6_search h0)).2 h.1 dX6_best_155 ?_
      replace h := h.2
      exact hr _ _ _ _ _ dX6_best_156 rfl h
    · replace h := h.2 c12
      refine g_bipush C (v := (-4 : Int32)) dX6_best_79 (by decide) ?_
      exact hr _ _ _ _ _ dX6_best_81 rfl h
  · replace h := h.2 c11
    refine g_aload_n C 0 dX6_best_61 rfl ?_
    refine gf_RX6_62 C h0 dX6_best_62 ?_
    refine gf_RX6_246 C (isX6_search h0) dX6_best_65 ?_
    exact hr _ _ _ _ _ dX6_best_68 rfl h
set_option maxRecDepth 20000 in
set_option maxHeartbeats 4000000 in
theorem tX6_best_14 {X : XT} {Y : YT} {l0 : Launch} {b : Nat} {p1 : Int32} {p2 : Int32} {Q : Int32 → Mem → Prop} (C : Cx X Y 4 cX6_best RX6 WX6_best (rmB 7 182) l0) (hr : RI X Y cX6_best .int Q) (hI : YI Y) (h0 : isX6 Y b) (w0 : Int32) (μ : Mem) (h : nX6_best_14 b p1 p2 Q w0 μ) : G X Y 4 14 [(0, .ref (Y.ad b)), (1, .int p1), (2, .int p2)] [.int w0] μ := by
  unfold nX6_best_14 at h
  refine g_istore_n C [(3, .int w0), (0, .ref (Y.ad b)), (1, .int p1), (2, .int p2)] dX6_best_14 (by decide) rfl ?_
  refine g_iload_n C 2 dX6_best_15 rfl ?_
  refine g_iconst C (v := (1 : Int32)) dX6_best_16 (by decide) ?_
  refine g_icmp_lt C 37 dX6_best_17 (by decide) (fun c3 => ?_) (fun c3 => ?_)
  · replace h := h.1 c3
    refine g_iconst C (v := (-1 : Int32)) dX6_best_37 (by decide) ?_
    exact hr _ _ _ _ _ dX6_best_38 rfl h
  · replace h := h.2 c3
    refine g_iload_n C 2 dX6_best_20 rfl ?_
    refine g_iconst C (v := (5 : Int32)) dX6_best_21 (by decide) ?_
    refine g_icmp_gt C 37 dX6_best_22 (by decide) (fun c4 => ?_) (fun c4 => ?_)
    · replace h := h.1 c4
      refine g_iconst C (v := (-1 : Int32)) dX6_best_37 (by decide) ?_
      exact hr _ _ _ _ _ dX6_best_38 rfl h
    · replace h := h.2 c4
      refine g_iload_n C 0 dX6_best_25 rfl ?_
      refine g_if_ne C 39 dX6_best_26 (by decide) (fun c5 => ?_) (fun c5 => ?_)
      · replace h := h.1 c5
        refine g_lv (lv2 := [(0, .ref (Y.ad b)), (1, .int p1), (2, .int p2)]) [1, 2, 3] ?_ rfl
        exact tX6_best_39 C hr hI h0 _ h
      · replace h := h.2 c5
        refine g_iload_n C 3 dX6_best_29 rfl ?_
        refine g_iload_n C 2 dX6_best_30 rfl ?_
        refine g_callSI C [.int p2, .int p1] [] (ok_X6_isPlace hI  h) (cw_RX6_238 _) rfl dc_X6_isPlace ⟨Nat.le_of_ble_eq_true rfl, Nat.le_of_ble_eq_true rfl⟩ rfl (Nat.le_of_ble_eq_true rfl) dX6_best_31 (fun r7 m6 h => ?_)
        refine g_if_ne C 39 dX6_best_34 (by decide) (fun c8 => ?_) (fun c8 => ?_)
        · replace h := h.1 c8
          refine g_lv (lv2 := [(0, .ref (Y.ad b)), (1, .int p1), (2, .int p2)]) [1, 2, 3] ?_ rfl
          exact tX6_best_39 C hr hI h0 _ h
        · replace h := h.2 c8
          refine g_iconst C (v := (-1 : Int32)) dX6_best_37 (by decide) ?_
          exact hr _ _ _ _ _ dX6_best_38 rfl h
set_option maxRecDepth 20000 in
set_option maxHeartbeats 4000000 in
theorem tX6_best_13 {X : XT} {Y : YT} {l0 : Launch} {b : Nat} {p1 : Int32} {p2 : Int32} {Q : Int32 → Mem → Prop} (C : Cx X Y 4 cX6_best RX6 WX6_best (rmB 7 182) l0) (hr : RI X Y cX6_best .int Q) (hI : YI Y) (h0 : isX6 Y b) (μ : Mem) (h : nX6_best_13 b p1 p2 Q  μ) : G X Y 4 13 [(0, .ref (Y.ad b)), (1, .int p1), (2, .int p2)] [] μ := by
  unfold nX6_best_13 at h
  refine g_iconst C (v := (0 : Int32)) dX6_best_13 (by decide) ?_
  exact tX6_best_14 C hr hI h0 _ _ h
set_option maxRecDepth 20000 in
set_option maxHeartbeats 4000000 in
theorem ok_X6_best {Y : YT} {l0 : Launch} {b : Nat} {p1 : Int32} {p2 : Int32} {μ : Mem} {Q : Int32 → Mem → Prop} (hI : YI Y) (h0 : isX6 Y b) (h : PX6_best b p1 p2 μ Q) : MI l0 yX6_best WX6_best 7 182 Y [.ref (Y.ad b), .int p1, .int p2] μ Q := by
  refine mI_of (ty := .int) (cc := cX6_best) (maxL := 4) (by decide +kernel) rfl hI (Nat.le_of_ble_eq_true rfl) (fun X C hr => ?_)
  replace C : Cx X Y 4 cX6_best RX6 WX6_best (rmB 7 182) l0 := C
  refine g_lv (lv2 := [(0, .ref (Y.ad b)), (1, .int p1), (2, .int p2)]) [0, 1, 2] ?_ rfl
  unfold PX6_best at h
  refine g_iload_n C 2 dX6_best_0 rfl ?_
  refine g_if_lt C 13 dX6_best_1 (by decide) (fun c1 => ?_) (fun c1 => ?_)
  · replace h := h.1 c1
    exact tX6_best_13 C hr hI h0 _ h
  · replace h := h.2 c1
    refine g_iload_n C 2 dX6_best_4 rfl ?_
    refine g_iconst C (v := (4 : Int32)) dX6_best_5 (by decide) ?_
    refine g_icmp_gt C 13 dX6_best_6 (by decide) (fun c2 => ?_) (fun c2 => ?_)
    · replace h := h.1 c2
      exact tX6_best_13 C hr hI h0 _ h
    · replace h := h.2 c2
      refine g_iconst C (v := (1 : Int32)) dX6_best_9 (by decide) ?_
      refine g_goto C 14 dX6_best_10 (by decide) ?_
      exact tX6_best_14 C hr hI h0 _ _ h
set_option maxRecDepth 20000 in
set_option maxHeartbeats 4000000 in
theorem tX6_fairest_24 {X : XT} {Y : YT} {l0 : Launch} {b : Nat} {p1 : Int32} {p2 : Int32} {Q : Int32 → Mem → Prop} (C : Cx X Y 3 cX6_fairest RX6 WX6_fairest (rmB 7 182) l0) (hr : RI X Y cX6_fairest .int Q) (hI : YI Y) (h0 : isX6 Y b) (μ : Mem) (h : nX6_fairest_24 b p1 p2 Q  μ) : G X Y 3 24 [(0, .ref (Y.ad b)), (1, .int p1), (2, .int p2)] [] μ := by
  unfold nX6_fairest_24 at h
  refine g_aload_n C 0 dX6_fairest_24 rfl ?_
  refine gf_RX6_62 C h0 dX6_fairest_25 ?_
  refine g_aload_n C 0 dX6_fairest_28 rfl ?_
  refine gf_RX6_10 C h0 dX6_fairest_29 ?_
  refine g_aload_n C 0 dX6_fairest_32 rfl ?_
  refine gf_RX6_33 C h0 dX6_fairest_33 ?_
  refine g_iload_n C 1 dX6_fairest_36 rfl ?_
  refine g_iconst C (v := (0 : Int32)) dX6_fairest_37 (by decide) ?_
  refine g_callVV C [.ref (Y.ad (b + 1)), .ref (Y.ad (b + 40)), .int p1, .int ((0 : Int32))] [] (ok_X3_lookAtRows hI (isX6_search h0) (isX6_rules h0) (isX6_kitchen h0) h) (cw_RX6_242 _) rfl dc_X3_lookAtRows ⟨Nat.le_of_ble_eq_true rfl, Nat.le_of_ble_eq_true rfl⟩ (isX3_lt (isX6_search h0)) (isX3_sh (isX6_search h0)) rfl rfl rfl rfl (Nat.le_of_ble_eq_true rfl) dX6_fairest_38 (fun m7 h => ?_)
  refine g_aload_n C 0 dX6_fairest_41 rfl ?_
  refine gf_RX6_62 C h0 dX6_fairest_42 ?_
  refine gf_RX6_246 C (isX6_search h0) dX6_fairest_45 ?_
  refine g_if_ne C 54 dX6_fairest_48 (by decide) (fun c9 => ?_) (fun c9 => ?_)
  · replace h := h.1 c9
    refine g_iload_n C 2 dX6_fairest_54 rfl ?_
    refine g_if_ne C 68 dX6_fairest_55 (by decide) (fun c10 => ?_) (fun c10 => ?_)
    · replace h := h.1 c10
      refine g_aload_n C 0 dX6_fairest_68 rfl ?_
      refine gf_RX6_62 C h0 dX6_fairest_69 ?_
      refine gf_RX6_267 C (isX6_search h0) dX6_fairest_72 ?_
      refine g_iload_n C 2 dX6_fairest_75 rfl ?_
      refine g_bipush C (v := (10 : Int32)) dX6_fairest_76 (by decide) ?_
      refine g_isub C dX6_fairest_78 ?_
      refine g_iald C (isX3_fairestRow (isX6_search h0)).1 (isX3_fairestRow (isX6_search h0)).2 h.1 dX6_fairest_79 ?_
      replace h := h.2
      exact hr _ _ _ _ _ dX6_fairest_80 rfl h
    · replace h := h.2 c10
      refine g_aload_n C 0 dX6_fairest_58 rfl ?_
      refine gf_RX6_62 C h0 dX6_fairest_59 ?_
      refine gf_RX6_264 C (isX6_search h0) dX6_fairest_62 ?_
      refine g_goto C 80 dX6_fairest_65 (by decide) ?_
      exact hr _ _ _ _ _ dX6_fairest_80 rfl h
  · replace h := h.2 c9
    refine g_bipush C (v := (-4 : Int32)) dX6_fairest_51 (by decide) ?_
    exact hr _ _ _ _ _ dX6_fairest_53 rfl h
set_option maxRecDepth 20000 in
set_option maxHeartbeats 4000000 in
theorem ok_X6_fairest {Y : YT} {l0 : Launch} {b : Nat} {p1 : Int32} {p2 : Int32} {μ : Mem} {Q : Int32 → Mem → Prop} (hI : YI Y) (h0 : isX6 Y b) (h : PX6_fairest b p1 p2 μ Q) : MI l0 yX6_fairest WX6_fairest 7 182 Y [.ref (Y.ad b), .int p1, .int p2] μ Q := by
  refine mI_of (ty := .int) (cc := cX6_fairest) (maxL := 3) (by decide +kernel) rfl hI (Nat.le_of_ble_eq_true rfl) (fun X C hr => ?_)
  replace C : Cx X Y 3 cX6_fairest RX6 WX6_fairest (rmB 7 182) l0 := C
  refine g_lv (lv2 := [(0, .ref (Y.ad b)), (1, .int p1), (2, .int p2)]) [0, 1, 2] ?_ rfl
  unfold PX6_fairest at h
  refine g_iload_n C 1 dX6_fairest_0 rfl ?_
  refine g_iconst C (v := (1 : Int32)) dX6_fairest_1 (by decide) ?_
  refine g_icmp_lt C 22 dX6_fairest_2 (by decide) (fun c1 => ?_) (fun c1 => ?_)
  · replace h := h.1 c1
    refine g_iconst C (v := (-1 : Int32)) dX6_fairest_22 (by decide) ?_
    exact hr _ _ _ _ _ dX6_fairest_23 rfl h
  · replace h := h.2 c1
    refine g_iload_n C 1 dX6_fairest_5 rfl ?_
    refine g_iconst C (v := (5 : Int32)) dX6_fairest_6 (by decide) ?_
    refine g_icmp_gt C 22 dX6_fairest_7 (by decide) (fun c2 => ?_) (fun c2 => ?_)
    · replace h := h.1 c2
      refine g_iconst C (v := (-1 : Int32)) dX6_fairest_22 (by decide) ?_
      exact hr _ _ _ _ _ dX6_fairest_23 rfl h
    · replace h := h.2 c2
      refine g_iload_n C 2 dX6_fairest_10 rfl ?_
      refine g_if_eq C 24 dX6_fairest_11 (by decide) (fun c3 => ?_) (fun c3 => ?_)
      · replace h := h.1 c3
        exact tX6_fairest_24 C hr hI h0 _ h
      · replace h := h.2 c3
        refine g_iload_n C 2 dX6_fairest_14 rfl ?_
        refine g_iload_n C 1 dX6_fairest_15 rfl ?_
        refine g_callSI C [.int p2, .int p1] [] (ok_X6_isPlace hI  h) (cw_RX6_238 _) rfl dc_X6_isPlace ⟨Nat.le_of_ble_eq_true rfl, Nat.le_of_ble_eq_true rfl⟩ rfl (Nat.le_of_ble_eq_true rfl) dX6_fairest_16 (fun r5 m4 h => ?_)
        refine g_if_ne C 24 dX6_fairest_19 (by decide) (fun c6 => ?_) (fun c6 => ?_)
        · replace h := h.1 c6
          exact tX6_fairest_24 C hr hI h0 _ h
        · replace h := h.2 c6
          refine g_iconst C (v := (-1 : Int32)) dX6_fairest_22 (by decide) ?_
          exact hr _ _ _ _ _ dX6_fairest_23 rfl h
set_option maxRecDepth 20000 in
set_option maxHeartbeats 4000000 in
theorem tX6_surest_29 {X : XT} {Y : YT} {l0 : Launch} {b : Nat} {p1 : Int32} {p2 : Int32} {Q : Int32 → Mem → Prop} (C : Cx X Y 3 cX6_surest RX6 WX6_surest (rmB 7 182) l0) (hr : RI X Y cX6_surest .int Q) (hI : YI Y) (h0 : isX6 Y b) (μ : Mem) (h : nX6_surest_29 b p1 p2 Q  μ) : G X Y 3 29 [(0, .ref (Y.ad b)), (1, .int p1), (2, .int p2)] [] μ := by
  unfold nX6_surest_29 at h
  refine g_aload_n C 0 dX6_surest_29 rfl ?_
  refine gf_RX6_62 C h0 dX6_surest_30 ?_
  refine g_aload_n C 0 dX6_surest_33 rfl ?_
  refine gf_RX6_10 C h0 dX6_surest_34 ?_
  refine g_aload_n C 0 dX6_surest_37 rfl ?_
  refine gf_RX6_33 C h0 dX6_surest_38 ?_
  refine g_iload_n C 1 dX6_surest_41 rfl ?_
  refine g_iconst C (v := (1 : Int32)) dX6_surest_42 (by decide) ?_
  refine g_callVV C [.ref (Y.ad (b + 1)), .ref (Y.ad (b + 40)), .int p1, .int ((1 : Int32))] [] (ok_X3_lookAtRows hI (isX6_search h0) (isX6_rules h0) (isX6_kitchen h0) h) (cw_RX6_242 _) rfl dc_X3_lookAtRows ⟨Nat.le_of_ble_eq_true rfl, Nat.le_of_ble_eq_true rfl⟩ (isX3_lt (isX6_search h0)) (isX3_sh (isX6_search h0)) rfl rfl rfl rfl (Nat.le_of_ble_eq_true rfl) dX6_surest_43 (fun m8 h => ?_)
  refine g_aload_n C 0 dX6_surest_46 rfl ?_
  refine gf_RX6_62 C h0 dX6_surest_47 ?_
  refine gf_RX6_246 C (isX6_search h0) dX6_surest_50 ?_
  refine g_if_ne C 59 dX6_surest_53 (by decide) (fun c10 => ?_) (fun c10 => ?_)
  · replace h := h.1 c10
    refine g_iload_n C 2 dX6_surest_59 rfl ?_
    refine g_iconst C (v := (1 : Int32)) dX6_surest_60 (by decide) ?_
    refine g_icmp_gt C 79 dX6_surest_61 (by decide) (fun c11 => ?_) (fun c11 => ?_)
    · replace h := h.1 c11
      refine g_aload_n C 0 dX6_surest_79 rfl ?_
      refine gf_RX6_62 C h0 dX6_surest_80 ?_
      refine gf_RX6_273 C (isX6_search h0) dX6_surest_83 ?_
      refine g_iload_n C 2 dX6_surest_86 rfl ?_
      refine g_bipush C (v := (10 : Int32)) dX6_surest_87 (by decide) ?_
      refine g_isub C dX6_surest_89 ?_
      refine g_iald C (isX3_surestRow (isX6_search h0)).1 (isX3_surestRow (isX6_search h0)).2 h.1 dX6_surest_90 ?_
      replace h := h.2
      exact hr _ _ _ _ _ dX6_surest_91 rfl h
    · replace h := h.2 c11
      refine g_aload_n C 0 dX6_surest_64 rfl ?_
      refine gf_RX6_62 C h0 dX6_surest_65 ?_
      refine gf_RX6_270 C (isX6_search h0) dX6_surest_68 ?_
      refine g_iload_n C 1 dX6_surest_71 rfl ?_
      refine g_iload_n C 2 dX6_surest_72 rfl ?_
      refine g_callSI C [.int (m8.1 (b + 60) 13), .int p1, .int p2] [] (ok_X6_lowestTerms hI  h) (cw_RX6_234 _) rfl dc_X6_lowestTerms ⟨Nat.le_of_ble_eq_true rfl, Nat.le_of_ble_eq_true rfl⟩ rfl (Nat.le_of_ble_eq_true rfl) dX6_surest_73 (fun r13 m12 h => ?_)
      refine g_goto C 91 dX6_surest_76 (by decide) ?_
      exact hr _ _ _ _ _ dX6_surest_91 rfl h
  · replace h := h.2 c10
    refine g_bipush C (v := (-4 : Int32)) dX6_surest_56 (by decide) ?_
    exact hr _ _ _ _ _ dX6_surest_58 rfl h
set_option maxRecDepth 20000 in
set_option maxHeartbeats 4000000 in
theorem ok_X6_surest {Y : YT} {l0 : Launch} {b : Nat} {p1 : Int32} {p2 : Int32} {μ : Mem} {Q : Int32 → Mem → Prop} (hI : YI Y) (h0 : isX6 Y b) (h : PX6_surest b p1 p2 μ Q) : MI l0 yX6_surest WX6_surest 7 182 Y [.ref (Y.ad b), .int p1, .int p2] μ Q := by
  refine mI_of (ty := .int) (cc := cX6_surest) (maxL := 3) (by decide +kernel) rfl hI (Nat.le_of_ble_eq_true rfl) (fun X C hr => ?_)
  replace C : Cx X Y 3 cX6_surest RX6 WX6_surest (rmB 7 182) l0 := C
  refine g_lv (lv2 := [(0, .ref (Y.ad b)), (1, .int p1), (2, .int p2)]) [0, 1, 2] ?_ rfl
  unfold PX6_surest at h
  refine g_iload_n C 1 dX6_surest_0 rfl ?_
  refine g_iconst C (v := (1 : Int32)) dX6_surest_1 (by decide) ?_
  refine g_icmp_lt C 27 dX6_surest_2 (by decide) (fun c1 => ?_) (fun c1 => ?_)
  · replace h := h.1 c1
    refine g_iconst C (v := (-1 : Int32)) dX6_surest_27 (by decide) ?_
    exact hr _ _ _ _ _ dX6_surest_28 rfl h
  · replace h := h.2 c1
    refine g_iload_n C 1 dX6_surest_5 rfl ?_
    refine g_iconst C (v := (3 : Int32)) dX6_surest_6 (by decide) ?_
    refine g_icmp_gt C 27 dX6_surest_7 (by decide) (fun c2 => ?_) (fun c2 => ?_)
    · replace h := h.1 c2
      refine g_iconst C (v := (-1 : Int32)) dX6_surest_27 (by decide) ?_
      exact hr _ _ _ _ _ dX6_surest_28 rfl h
    · replace h := h.2 c2
      refine g_iload_n C 2 dX6_surest_10 rfl ?_
      refine g_if_eq C 29 dX6_surest_11 (by decide) (fun c3 => ?_) (fun c3 => ?_)
      · replace h := h.1 c3
        exact tX6_surest_29 C hr hI h0 _ h
      · replace h := h.2 c3
        refine g_iload_n C 2 dX6_surest_14 rfl ?_
        refine g_iconst C (v := (1 : Int32)) dX6_surest_15 (by decide) ?_
        refine g_icmp_eq C 29 dX6_surest_16 (by decide) (fun c4 => ?_) (fun c4 => ?_)
        · replace h := h.1 c4
          exact tX6_surest_29 C hr hI h0 _ h
        · replace h := h.2 c4
          refine g_iload_n C 2 dX6_surest_19 rfl ?_
          refine g_iload_n C 1 dX6_surest_20 rfl ?_
          refine g_callSI C [.int p2, .int p1] [] (ok_X6_isPlace hI  h) (cw_RX6_238 _) rfl dc_X6_isPlace ⟨Nat.le_of_ble_eq_true rfl, Nat.le_of_ble_eq_true rfl⟩ rfl (Nat.le_of_ble_eq_true rfl) dX6_surest_21 (fun r6 m5 h => ?_)
          refine g_if_ne C 29 dX6_surest_24 (by decide) (fun c7 => ?_) (fun c7 => ?_)
          · replace h := h.1 c7
            exact tX6_surest_29 C hr hI h0 _ h
          · replace h := h.2 c7
            refine g_iconst C (v := (-1 : Int32)) dX6_surest_27 (by decide) ?_
            exact hr _ _ _ _ _ dX6_surest_28 rfl h
set_option maxRecDepth 20000 in
set_option maxHeartbeats 4000000 in
theorem tX6_closes_39 {X : XT} {Y : YT} {l0 : Launch} {b : Nat} {p1 : Int32} {p2 : Int32} {Q : Int32 → Mem → Prop} (C : Cx X Y 4 cX6_closes RX6 WX6_closes (rmB 7 182) l0) (hr : RI X Y cX6_closes .int Q) (hI : YI Y) (h0 : isX6 Y b) (μ : Mem) (h : nX6_closes_39 b p1 p2 Q  μ) : G X Y 4 39 [(0, .ref (Y.ad b)), (1, .int p1), (2, .int p2)] [] μ := by
  unfold nX6_closes_39 at h
  refine g_aload_n C 0 dX6_closes_39 rfl ?_
  refine gf_RX6_62 C h0 dX6_closes_40 ?_
  refine g_aload_n C 0 dX6_closes_43 rfl ?_
  refine gf_RX6_10 C h0 dX6_closes_44 ?_
  refine g_aload_n C 0 dX6_closes_47 rfl ?_
  refine gf_RX6_33 C h0 dX6_closes_48 ?_
  refine g_iload_n C 1 dX6_closes_51 rfl ?_
  refine g_iconst C (v := (0 : Int32)) dX6_closes_52 (by decide) ?_
  refine g_callVV C [.ref (Y.ad (b + 1)), .ref (Y.ad (b + 40)), .int p1, .int ((0 : Int32))] [] (ok_X3_lookAtRows hI (isX6_search h0) (isX6_rules h0) (isX6_kitchen h0) h) (cw_RX6_242 _) rfl dc_X3_lookAtRows ⟨Nat.le_of_ble_eq_true rfl, Nat.le_of_ble_eq_true rfl⟩ (isX3_lt (isX6_search h0)) (isX3_sh (isX6_search h0)) rfl rfl rfl rfl (Nat.le_of_ble_eq_true rfl) dX6_closes_53 (fun m9 h => ?_)
  refine g_iload_n C 2 dX6_closes_56 rfl ?_
  by_cases c11 : p2 = 0
  · refine g_tableIn C 84 dX6_closes_57 (by rw [c11]; decide) (by rw [c11]; decide) (by rw [c11]; rfl) (by decide) ?_
    replace h := h.1 c11
    refine g_aload_n C 0 dX6_closes_84 rfl ?_
    refine gf_RX6_62 C h0 dX6_closes_85 ?_
    refine gf_RX6_276 C (isX6_search h0) dX6_closes_88 ?_
    exact hr _ _ _ _ _ dX6_closes_91 rfl h
  by_cases c12 : p2 = 1
  · refine g_tableIn C 92 dX6_closes_57 (by rw [c12]; decide) (by rw [c12]; decide) (by rw [c12]; rfl) (by decide) ?_
    replace h := h.2.1 c12
    refine g_aload_n C 0 dX6_closes_92 rfl ?_
    refine gf_RX6_62 C h0 dX6_closes_93 ?_
    refine gf_RX6_279 C (isX6_search h0) dX6_closes_96 ?_
    exact hr _ _ _ _ _ dX6_closes_99 rfl h
  by_cases c13 : p2 = 2
  · refine g_tableIn C 100 dX6_closes_57 (by rw [c13]; decide) (by rw [c13]; decide) (by rw [c13]; rfl) (by decide) ?_
    replace h := h.2.2.1 c13
    refine g_iconst C (v := (1 : Int32)) dX6_closes_100 (by decide) ?_
    refine g_aload_n C 0 dX6_closes_101 rfl ?_
    refine gf_RX6_10 C h0 dX6_closes_102 ?_
    refine gf_RX6_282 C (isX6_rules h0) dX6_closes_105 ?_
    refine g_ishl C dX6_closes_108 ?_
    refine g_iconst C (v := (1 : Int32)) dX6_closes_109 (by decide) ?_
    refine g_isub C dX6_closes_110 ?_
    refine g_aload_n C 0 dX6_closes_111 rfl ?_
    refine gf_RX6_62 C h0 dX6_closes_112 ?_
    refine gf_RX6_279 C (isX6_search h0) dX6_closes_115 ?_
    refine g_iconst C (v := (-1 : Int32)) dX6_closes_118 (by decide) ?_
    refine g_ixor C dX6_closes_119 ?_
    refine g_iand C dX6_closes_120 ?_
    exact hr _ _ _ _ _ dX6_closes_121 rfl h
  have c15 : p2.toInt < 0 ∨ 2 < p2.toInt := by
    have z := (And.intro True.intro ⟨lv_neT (a := 0) c11 rfl, lv_neT (a := 1) c12 rfl, lv_neT (a := 2) c13 rfl⟩ : True ∧ ¬ p2.toInt = 0 ∧ ¬ p2.toInt = 1 ∧ ¬ p2.toInt = 2)
    omega
  refine g_tableOut C 122 dX6_closes_57 c15 (by decide) ?_
  replace h := h.2.2.2 c15
  refine g_aload_n C 0 dX6_closes_122 rfl ?_
  refine gf_RX6_62 C h0 dX6_closes_123 ?_
  refine gf_RX6_276 C (isX6_search h0) dX6_closes_126 ?_
  refine g_if_ne C 137 dX6_closes_129 (by decide) (fun c14 => ?_) (fun c14 => ?_)
  · replace h := h.1 c14
    refine g_aload_n C 0 dX6_closes_137 rfl ?_
    refine gf_RX6_62 C h0 dX6_closes_138 ?_
    refine gf_RX6_285 C (isX6_search h0) dX6_closes_141 ?_
    refine g_iload_n C 2 dX6_closes_144 rfl ?_
    refine g_bipush C (v := (10 : Int32)) dX6_closes_145 (by decide) ?_
    refine g_isub C dX6_closes_147 ?_
    refine g_iald C (isX3_closingRow (isX6_search h0)).1 (isX3_closingRow (isX6_search h0)).2 h.1 dX6_closes_148 ?_
    replace h := h.2
    exact hr _ _ _ _ _ dX6_closes_149 rfl h
  · replace h := h.2 c14
    refine g_bipush C (v := (-4 : Int32)) dX6_closes_132 (by decide) ?_
    refine g_goto C 149 dX6_closes_134 (by decide) ?_
    exact hr _ _ _ _ _ dX6_closes_149 rfl h
set_option maxRecDepth 20000 in
set_option maxHeartbeats 4000000 in
theorem tX6_closes_14 {X : XT} {Y : YT} {l0 : Launch} {b : Nat} {p1 : Int32} {p2 : Int32} {Q : Int32 → Mem → Prop} (C : Cx X Y 4 cX6_closes RX6 WX6_closes (rmB 7 182) l0) (hr : RI X Y cX6_closes .int Q) (hI : YI Y) (h0 : isX6 Y b) (w0 : Int32) (μ : Mem) (h : nX6_closes_14 b p1 p2 Q w0 μ) : G X Y 4 14 [(0, .ref (Y.ad b)), (1, .int p1), (2, .int p2)] [.int w0] μ := by
  unfold nX6_closes_14 at h
  refine g_istore_n C [(3, .int w0), (0, .ref (Y.ad b)), (1, .int p1), (2, .int p2)] dX6_closes_14 (by decide) rfl ?_
  refine g_iload_n C 2 dX6_closes_15 rfl ?_
  refine g_iconst C (v := (1 : Int32)) dX6_closes_16 (by decide) ?_
  refine g_icmp_lt C 37 dX6_closes_17 (by decide) (fun c3 => ?_) (fun c3 => ?_)
  · replace h := h.1 c3
    refine g_iconst C (v := (-1 : Int32)) dX6_closes_37 (by decide) ?_
    exact hr _ _ _ _ _ dX6_closes_38 rfl h
  · replace h := h.2 c3
    refine g_iload_n C 2 dX6_closes_20 rfl ?_
    refine g_iconst C (v := (5 : Int32)) dX6_closes_21 (by decide) ?_
    refine g_icmp_gt C 37 dX6_closes_22 (by decide) (fun c4 => ?_) (fun c4 => ?_)
    · replace h := h.1 c4
      refine g_iconst C (v := (-1 : Int32)) dX6_closes_37 (by decide) ?_
      exact hr _ _ _ _ _ dX6_closes_38 rfl h
    · replace h := h.2 c4
      refine g_iload_n C 0 dX6_closes_25 rfl ?_
      refine g_if_ne C 39 dX6_closes_26 (by decide) (fun c5 => ?_) (fun c5 => ?_)
      · replace h := h.1 c5
        refine g_lv (lv2 := [(0, .ref (Y.ad b)), (1, .int p1), (2, .int p2)]) [1, 2, 3] ?_ rfl
        exact tX6_closes_39 C hr hI h0 _ h
      · replace h := h.2 c5
        refine g_iload_n C 3 dX6_closes_29 rfl ?_
        refine g_iload_n C 2 dX6_closes_30 rfl ?_
        refine g_callSI C [.int p2, .int p1] [] (ok_X6_isPlace hI  h) (cw_RX6_238 _) rfl dc_X6_isPlace ⟨Nat.le_of_ble_eq_true rfl, Nat.le_of_ble_eq_true rfl⟩ rfl (Nat.le_of_ble_eq_true rfl) dX6_closes_31 (fun r7 m6 h => ?_)
        refine g_if_ne C 39 dX6_closes_34 (by decide) (fun c8 => ?_) (fun c8 => ?_)
        · replace h := h.1 c8
          refine g_lv (lv2 := [(0, .ref (Y.ad b)), (1, .int p1), (2, .int p2)]) [1, 2, 3] ?_ rfl
          exact tX6_closes_39 C hr hI h0 _ h
        · replace h := h.2 c8
          refine g_iconst C (v := (-1 : Int32)) dX6_closes_37 (by decide) ?_
          exact hr _ _ _ _ _ dX6_closes_38 rfl h
set_option maxRecDepth 20000 in
set_option maxHeartbeats 4000000 in
theorem tX6_closes_13 {X : XT} {Y : YT} {l0 : Launch} {b : Nat} {p1 : Int32} {p2 : Int32} {Q : Int32 → Mem → Prop} (C : Cx X Y 4 cX6_closes RX6 WX6_closes (rmB 7 182) l0) (hr : RI X Y cX6_closes .int Q) (hI : YI Y) (h0 : isX6 Y b) (μ : Mem) (h : nX6_closes_13 b p1 p2 Q  μ) : G X Y 4 13 [(0, .ref (Y.ad b)), (1, .int p1), (2, .int p2)] [] μ := by
  unfold nX6_closes_13 at h
  refine g_iconst C (v := (0 : Int32)) dX6_closes_13 (by decide) ?_
  exact tX6_closes_14 C hr hI h0 _ _ h
set_option maxRecDepth 20000 in
set_option maxHeartbeats 4000000 in
theorem ok_X6_closes {Y : YT} {l0 : Launch} {b : Nat} {p1 : Int32} {p2 : Int32} {μ : Mem} {Q : Int32 → Mem → Prop} (hI : YI Y) (h0 : isX6 Y b) (h : PX6_closes b p1 p2 μ Q) : MI l0 yX6_closes WX6_closes 7 182 Y [.ref (Y.ad b), .int p1, .int p2] μ Q := by
  refine mI_of (ty := .int) (cc := cX6_closes) (maxL := 4) (by decide +kernel) rfl hI (Nat.le_of_ble_eq_true rfl) (fun X C hr => ?_)
  replace C : Cx X Y 4 cX6_closes RX6 WX6_closes (rmB 7 182) l0 := C
  refine g_lv (lv2 := [(0, .ref (Y.ad b)), (1, .int p1), (2, .int p2)]) [0, 1, 2] ?_ rfl
  unfold PX6_closes at h
  refine g_iload_n C 2 dX6_closes_0 rfl ?_
  refine g_if_lt C 13 dX6_closes_1 (by decide) (fun c1 => ?_) (fun c1 => ?_)
  · replace h := h.1 c1
    exact tX6_closes_13 C hr hI h0 _ h
  · replace h := h.2 c1
    refine g_iload_n C 2 dX6_closes_4 rfl ?_
    refine g_iconst C (v := (2 : Int32)) dX6_closes_5 (by decide) ?_
    refine g_icmp_gt C 13 dX6_closes_6 (by decide) (fun c2 => ?_) (fun c2 => ?_)
    · replace h := h.1 c2
      exact tX6_closes_13 C hr hI h0 _ h
    · replace h := h.2 c2
      refine g_iconst C (v := (1 : Int32)) dX6_closes_9 (by decide) ?_
      refine g_goto C 14 dX6_closes_10 (by decide) ?_
      exact tX6_closes_14 C hr hI h0 _ _ h
def SX6_shortest_2 (X : XT) (Y : YT) (b : Nat) : Int32 → Mem → Prop := fun v1 μ => G X Y 2 2 [(0, .ref (Y.ad b)), (1, .int v1)] [] μ
set_option maxRecDepth 20000 in
set_option maxHeartbeats 4000000 in
theorem tX6_shortest_2 {X : XT} {Y : YT} {l0 : Launch} {b : Nat} {Q : Int32 → Mem → Prop} (C : Cx X Y 2 cX6_shortest RX6 WX6_shortest (rmB 7 182) l0) (hr : RI X Y cX6_shortest .int Q) (hI : YI Y) (h0 : isX6 Y b) (v1 : Int32) (μ : Mem) (h : nX6_shortest_2 b Q (SX6_shortest_2 X Y b) v1 μ) : G X Y 2 2 [(0, .ref (Y.ad b)), (1, .int v1)] [] μ := by
  unfold nX6_shortest_2 at h
  refine g_iload_n C 1 dX6_shortest_2 rfl ?_
  refine g_iconst C (v := (5 : Int32)) dX6_shortest_3 (by decide) ?_
  refine g_icmp_gt C 42 dX6_shortest_4 (by decide) (fun c1 => ?_) (fun c1 => ?_)
  · replace h := h.1 c1
    refine g_bipush C (v := (-4 : Int32)) dX6_shortest_42 (by decide) ?_
    exact hr _ _ _ _ _ dX6_shortest_44 rfl h
  · replace h := h.2 c1
    refine g_aload_n C 0 dX6_shortest_7 rfl ?_
    refine gf_RX6_62 C h0 dX6_shortest_8 ?_
    refine g_aload_n C 0 dX6_shortest_11 rfl ?_
    refine gf_RX6_10 C h0 dX6_shortest_12 ?_
    refine g_aload_n C 0 dX6_shortest_15 rfl ?_
    refine gf_RX6_33 C h0 dX6_shortest_16 ?_
    refine g_iload_n C 1 dX6_shortest_19 rfl ?_
    refine g_iconst C (v := (0 : Int32)) dX6_shortest_20 (by decide) ?_
    refine g_callVV C [.ref (Y.ad (b + 1)), .ref (Y.ad (b + 40)), .int v1, .int ((0 : Int32))] [] (ok_X3_lookAtRows hI (isX6_search h0) (isX6_rules h0) (isX6_kitchen h0) h) (cw_RX6_242 _) rfl dc_X3_lookAtRows ⟨Nat.le_of_ble_eq_true rfl, Nat.le_of_ble_eq_true rfl⟩ (isX3_lt (isX6_search h0)) (isX3_sh (isX6_search h0)) rfl rfl rfl rfl (Nat.le_of_ble_eq_true rfl) dX6_shortest_21 (fun m2 h => ?_)
    refine g_aload_n C 0 dX6_shortest_24 rfl ?_
    refine gf_RX6_62 C h0 dX6_shortest_25 ?_
    refine gf_RX6_276 C (isX6_search h0) dX6_shortest_28 ?_
    refine g_if_le C 36 dX6_shortest_31 (by decide) (fun c4 => ?_) (fun c4 => ?_)
    · replace h := h.1 c4
      refine g_iinc C (v := v1 + 1) 1 [(1, .int (v1 + 1)), (0, .ref (Y.ad b))] dX6_shortest_36 rfl rfl (by decide) rfl ?_
      refine g_goto C 2 dX6_shortest_39 (by decide) ?_
      refine g_lv (lv2 := [(0, .ref (Y.ad b)), (1, .int (v1 + 1))]) [1, 0] ?_ rfl
      exact h
    · replace h := h.2 c4
      refine g_iload_n C 1 dX6_shortest_34 rfl ?_
      exact hr _ _ _ _ _ dX6_shortest_35 rfl h
set_option maxRecDepth 20000 in
set_option maxHeartbeats 4000000 in
theorem ok_X6_shortest {Y : YT} {l0 : Launch} {b : Nat} {μ : Mem} {Q : Int32 → Mem → Prop} (hI : YI Y) (h0 : isX6 Y b) (h : PX6_shortest b μ Q) : MI l0 yX6_shortest WX6_shortest 7 182 Y [.ref (Y.ad b)] μ Q := by
  refine mI_of (ty := .int) (cc := cX6_shortest) (maxL := 2) (by decide +kernel) rfl hI (Nat.le_of_ble_eq_true rfl) (fun X C hr => ?_)
  replace C : Cx X Y 2 cX6_shortest RX6 WX6_shortest (rmB 7 182) l0 := C
  refine g_lv (lv2 := [(0, .ref (Y.ad b))]) [0] ?_ rfl
  unfold PX6_shortest at h
  replace h := h (SX6_shortest_2 X Y b) (fun v1 μ z => tX6_shortest_2 C hr hI h0 v1 μ z)
  refine g_iconst C (v := (1 : Int32)) dX6_shortest_0 (by decide) ?_
  refine g_istore_n C [(1, .int ((1 : Int32))), (0, .ref (Y.ad b))] dX6_shortest_1 (by decide) rfl ?_
  refine g_lv (lv2 := [(0, .ref (Y.ad b)), (1, .int ((1 : Int32)))]) [1, 0] ?_ rfl
  exact h
set_option maxRecDepth 20000 in
set_option maxHeartbeats 4000000 in
theorem ok_X6_closingWithDish {Y : YT} {l0 : Launch} {b : Nat} {p1 : Int32} {p2 : Int32} {μ : Mem} {Q : Int32 → Mem → Prop} (hI : YI Y) (h0 : isX6 Y b) (h : PX6_closingWithDish b p1 p2 μ Q) : MI l0 yX6_closingWithDish WX6_closingWithDish 7 182 Y [.ref (Y.ad b), .int p1, .int p2] μ Q := by
  refine mI_of (ty := .int) (cc := cX6_closingWithDish) (maxL := 3) (by decide +kernel) rfl hI (Nat.le_of_ble_eq_true rfl) (fun X C hr => ?_)
  replace C : Cx X Y 3 cX6_closingWithDish RX6 WX6_closingWithDish (rmB 7 182) l0 := C
  refine g_lv (lv2 := [(0, .ref (Y.ad b)), (1, .int p1), (2, .int p2)]) [0, 1, 2] ?_ rfl
  unfold PX6_closingWithDish at h
  refine g_aload_n C 0 dX6_closingWithDish_0 rfl ?_
  refine gf_RX6_16 C h0 dX6_closingWithDish_1 ?_
  refine g_aload_n C 0 dX6_closingWithDish_4 rfl ?_
  refine gf_RX6_10 C h0 dX6_closingWithDish_5 ?_
  refine g_callVV C [.ref (Y.ad (b + 1))] [] (ok_X2_copyFrom hI (isX6_otherRules h0) (isX6_rules h0) h) (cw_RX6_96 _) rfl dc_X2_copyFrom ⟨Nat.le_of_ble_eq_true rfl, Nat.le_of_ble_eq_true rfl⟩ (isX2_lt (isX6_otherRules h0)) (isX2_sh (isX6_otherRules h0)) rfl rfl rfl rfl (Nat.le_of_ble_eq_true rfl) dX6_closingWithDish_8 (fun m1 h => ?_)
  refine g_aload_n C 0 dX6_closingWithDish_11 rfl ?_
  refine gf_RX6_16 C h0 dX6_closingWithDish_12 ?_
  refine g_iload_n C 1 dX6_closingWithDish_15 rfl ?_
  refine g_callVV C [.int p1] [] (ok_X2_addSmallDish hI (isX6_otherRules h0) h) (cw_RX6_292 _) rfl dc_X2_addSmallDish ⟨Nat.le_of_ble_eq_true rfl, Nat.le_of_ble_eq_true rfl⟩ (isX2_lt (isX6_otherRules h0)) (isX2_sh (isX6_otherRules h0)) rfl rfl rfl rfl (Nat.le_of_ble_eq_true rfl) dX6_closingWithDish_16 (fun m3 h => ?_)
  refine g_aload_n C 0 dX6_closingWithDish_19 rfl ?_
  refine gf_RX6_62 C h0 dX6_closingWithDish_20 ?_
  refine g_aload_n C 0 dX6_closingWithDish_23 rfl ?_
  refine gf_RX6_16 C h0 dX6_closingWithDish_24 ?_
  refine g_aload_n C 0 dX6_closingWithDish_27 rfl ?_
  refine gf_RX6_33 C h0 dX6_closingWithDish_28 ?_
  refine g_iload_n C 2 dX6_closingWithDish_31 rfl ?_
  refine g_iconst C (v := (0 : Int32)) dX6_closingWithDish_32 (by decide) ?_
  refine g_callVV C [.ref (Y.ad (b + 13)), .ref (Y.ad (b + 40)), .int p2, .int ((0 : Int32))] [] (ok_X3_lookAtRows hI (isX6_search h0) (isX6_otherRules h0) (isX6_kitchen h0) h) (cw_RX6_242 _) rfl dc_X3_lookAtRows ⟨Nat.le_of_ble_eq_true rfl, Nat.le_of_ble_eq_true rfl⟩ (isX3_lt (isX6_search h0)) (isX3_sh (isX6_search h0)) rfl rfl rfl rfl (Nat.le_of_ble_eq_true rfl) dX6_closingWithDish_33 (fun m5 h => ?_)
  refine g_aload_n C 0 dX6_closingWithDish_36 rfl ?_
  refine gf_RX6_62 C h0 dX6_closingWithDish_37 ?_
  refine gf_RX6_276 C (isX6_search h0) dX6_closingWithDish_40 ?_
  exact hr _ _ _ _ _ dX6_closingWithDish_43 rfl h
set_option maxRecDepth 20000 in
set_option maxHeartbeats 4000000 in
theorem tX6_small_30 {X : XT} {Y : YT} {l0 : Launch} {b : Nat} {p1 : Int32} {p2 : Int32} {Q : Int32 → Mem → Prop} (C : Cx X Y 3 cX6_small RX6 WX6_small (rmB 8 204) l0) (hr : RI X Y cX6_small .int Q) (hI : YI Y) (h0 : isX6 Y b) (μ : Mem) (h : nX6_small_30 b p1 p2 Q  μ) : G X Y 3 30 [(0, .ref (Y.ad b)), (1, .int p1), (2, .int p2)] [] μ := by
  unfold nX6_small_30 at h
  refine g_iconst C (v := (-1 : Int32)) dX6_small_30 (by decide) ?_
  exact hr _ _ _ _ _ dX6_small_31 rfl h
set_option maxRecDepth 20000 in
set_option maxHeartbeats 4000000 in
theorem ok_X6_small {Y : YT} {l0 : Launch} {b : Nat} {p1 : Int32} {p2 : Int32} {μ : Mem} {Q : Int32 → Mem → Prop} (hI : YI Y) (h0 : isX6 Y b) (h : PX6_small b p1 p2 μ Q) : MI l0 yX6_small WX6_small 8 204 Y [.ref (Y.ad b), .int p1, .int p2] μ Q := by
  refine mI_of (ty := .int) (cc := cX6_small) (maxL := 3) (by decide +kernel) rfl hI (Nat.le_of_ble_eq_true rfl) (fun X C hr => ?_)
  replace C : Cx X Y 3 cX6_small RX6 WX6_small (rmB 8 204) l0 := C
  refine g_lv (lv2 := [(0, .ref (Y.ad b)), (1, .int p1), (2, .int p2)]) [0, 1, 2] ?_ rfl
  unfold PX6_small at h
  refine g_aload_n C 0 dX6_small_0 rfl ?_
  refine gf_RX6_10 C h0 dX6_small_1 ?_
  refine g_iload_n C 1 dX6_small_4 rfl ?_
  refine g_callVI C [.int p1] [] (ok_X2_hasThing hI (isX6_rules h0) h) (cw_RX6_103 _) rfl dc_X2_hasThing ⟨Nat.le_of_ble_eq_true rfl, Nat.le_of_ble_eq_true rfl⟩ (isX2_lt (isX6_rules h0)) (isX2_sh (isX6_rules h0)) rfl rfl rfl rfl (Nat.le_of_ble_eq_true rfl) dX6_small_5 (fun r2 m1 h => ?_)
  refine g_if_eq C 30 dX6_small_8 (by decide) (fun c3 => ?_) (fun c3 => ?_)
  · replace h := h.1 c3
    exact tX6_small_30 C hr hI h0 _ h
  · replace h := h.2 c3
    refine g_iload_n C 2 dX6_small_11 rfl ?_
    refine g_iconst C (v := (1 : Int32)) dX6_small_12 (by decide) ?_
    refine g_icmp_lt C 30 dX6_small_13 (by decide) (fun c4 => ?_) (fun c4 => ?_)
    · replace h := h.1 c4
      exact tX6_small_30 C hr hI h0 _ h
    · replace h := h.2 c4
      refine g_iload_n C 2 dX6_small_16 rfl ?_
      refine g_iconst C (v := (4 : Int32)) dX6_small_17 (by decide) ?_
      refine g_icmp_gt C 30 dX6_small_18 (by decide) (fun c5 => ?_) (fun c5 => ?_)
      · replace h := h.1 c5
        exact tX6_small_30 C hr hI h0 _ h
      · replace h := h.2 c5
        refine g_aload_n C 0 dX6_small_21 rfl ?_
        refine g_iload_n C 1 dX6_small_22 rfl ?_
        refine g_iload_n C 2 dX6_small_23 rfl ?_
        refine g_callVI C [.int p1, .int p2] [] (ok_X6_closingWithDish hI h0 h) (cw_RX6_288 _) rfl dc_X6_closingWithDish ⟨Nat.le_of_ble_eq_true rfl, Nat.le_of_ble_eq_true rfl⟩ (isX6_lt h0) (isX6_sh h0) rfl rfl rfl rfl (Nat.le_of_ble_eq_true rfl) dX6_small_24 (fun r7 m6 h => ?_)
        refine g_goto C 31 dX6_small_27 (by decide) ?_
        exact hr _ _ _ _ _ dX6_small_31 rfl h
def SX6_dish_20 (X : XT) (Y : YT) (b : Nat) (p1 : Int32) : Int32 → Int32 → Int32 → Mem → Prop := fun v2 v3 v4 μ => G X Y 6 20 [(0, .ref (Y.ad b)), (1, .int p1), (2, .int v2), (3, .int v3), (4, .int v4)] [] μ
set_option maxRecDepth 20000 in
set_option maxHeartbeats 4000000 in
theorem tX6_dish_53 {X : XT} {Y : YT} {l0 : Launch} {b : Nat} {p1 : Int32} {Q : Int32 → Mem → Prop} (C : Cx X Y 6 cX6_dish RX6 WX6_dish (rmB 8 204) l0) (hr : RI X Y cX6_dish .int Q) (hI : YI Y) (h0 : isX6 Y b) (v2 : Int32) (v3 : Int32) (v4 : Int32) (μ : Mem) (h : nX6_dish_53 b p1 Q (SX6_dish_20 X Y b p1) v2 v3 v4 μ) : G X Y 6 53 [(0, .ref (Y.ad b)), (1, .int p1), (2, .int v2), (3, .int v3), (4, .int v4)] [] μ := by
  unfold nX6_dish_53 at h
  refine g_iinc C (v := v4 + 1) 4 [(4, .int (v4 + 1)), (0, .ref (Y.ad b)), (1, .int p1), (2, .int v2), (3, .int v3)] dX6_dish_53 rfl rfl (by decide) rfl ?_
  refine g_goto C 20 dX6_dish_56 (by decide) ?_
  refine g_lv (lv2 := [(0, .ref (Y.ad b)), (1, .int p1), (2, .int v2), (3, .int v3), (4, .int (v4 + 1))]) [1, 2, 3, 4, 0] ?_ rfl
  exact h
set_option maxRecDepth 20000 in
set_option maxHeartbeats 4000000 in
theorem tX6_dish_20 {X : XT} {Y : YT} {l0 : Launch} {b : Nat} {p1 : Int32} {Q : Int32 → Mem → Prop} (C : Cx X Y 6 cX6_dish RX6 WX6_dish (rmB 8 204) l0) (hr : RI X Y cX6_dish .int Q) (hI : YI Y) (h0 : isX6 Y b) (v2 : Int32) (v3 : Int32) (v4 : Int32) (μ : Mem) (h : nX6_dish_20 b p1 Q (SX6_dish_20 X Y b p1) v2 v3 v4 μ) : G X Y 6 20 [(0, .ref (Y.ad b)), (1, .int p1), (2, .int v2), (3, .int v3), (4, .int v4)] [] μ := by
  unfold nX6_dish_20 at h
  refine g_iload C 4 dX6_dish_20 rfl ?_
  refine g_aload_n C 0 dX6_dish_22 rfl ?_
  refine gf_RX6_10 C h0 dX6_dish_23 ?_
  refine gf_RX6_296 C (isX6_rules h0) dX6_dish_26 ?_
  refine g_icmp_ge C 59 dX6_dish_29 (by decide) (fun c3 => ?_) (fun c3 => ?_)
  · replace h := h.1 c3
    refine g_iload_n C 2 dX6_dish_59 rfl ?_
    exact hr _ _ _ _ _ dX6_dish_60 rfl h
  · replace h := h.2 c3
    refine g_aload_n C 0 dX6_dish_32 rfl ?_
    refine g_iload C 4 dX6_dish_33 rfl ?_
    refine g_iload_n C 1 dX6_dish_35 rfl ?_
    refine g_callVI C [.int v4, .int p1] [] (ok_X6_closingWithDish hI h0 h) (cw_RX6_288 _) rfl dc_X6_closingWithDish ⟨Nat.le_of_ble_eq_true rfl, Nat.le_of_ble_eq_true rfl⟩ (isX6_lt h0) (isX6_sh h0) rfl rfl rfl rfl (Nat.le_of_ble_eq_true rfl) dX6_dish_36 (fun r5 m4 h => ?_)
    refine g_istore C [(5, .int r5), (0, .ref (Y.ad b)), (1, .int p1), (2, .int v2), (3, .int v3), (4, .int v4)] dX6_dish_39 (by decide) rfl ?_
    refine g_iload C 0 dX6_dish_41 rfl ?_
    refine g_iload_n C 4 dX6_dish_43 rfl ?_
    refine g_icmp_le C 53 dX6_dish_44 (by decide) (fun c6 => ?_) (fun c6 => ?_)
    · replace h := h.1 c6
      refine g_lv (lv2 := [(0, .ref (Y.ad b)), (1, .int p1), (2, .int v2), (3, .int v3), (4, .int v4)]) [1, 2, 3, 4, 5] ?_ rfl
      exact tX6_dish_53 C hr hI h0 _ _ _ _ h
    · replace h := h.2 c6
      refine g_iload C 0 dX6_dish_47 rfl ?_
      refine g_istore_n C [(3, .int r5), (5, .int r5), (0, .ref (Y.ad b)), (1, .int p1), (2, .int v2), (4, .int v4)] dX6_dish_49 (by decide) rfl ?_
      refine g_iload C 5 dX6_dish_50 rfl ?_
      refine g_istore_n C [(2, .int v4), (3, .int r5), (5, .int r5), (0, .ref (Y.ad b)), (1, .int p1), (4, .int v4)] dX6_dish_52 (by decide) rfl ?_
      refine g_lv (lv2 := [(0, .ref (Y.ad b)), (1, .int p1), (2, .int v4), (3, .int r5), (4, .int v4)]) [3, 4, 0, 1, 5] ?_ rfl
      exact tX6_dish_53 C hr hI h0 _ _ _ _ h
set_option maxRecDepth 20000 in
set_option maxHeartbeats 4000000 in
theorem ok_X6_dish {Y : YT} {l0 : Launch} {b : Nat} {p1 : Int32} {μ : Mem} {Q : Int32 → Mem → Prop} (hI : YI Y) (h0 : isX6 Y b) (h : PX6_dish b p1 μ Q) : MI l0 yX6_dish WX6_dish 8 204 Y [.ref (Y.ad b), .int p1] μ Q := by
  refine mI_of (ty := .int) (cc := cX6_dish) (maxL := 6) (by decide +kernel) rfl hI (Nat.le_of_ble_eq_true rfl) (fun X C hr => ?_)
  replace C : Cx X Y 6 cX6_dish RX6 WX6_dish (rmB 8 204) l0 := C
  refine g_lv (lv2 := [(0, .ref (Y.ad b)), (1, .int p1)]) [0, 1] ?_ rfl
  unfold PX6_dish at h
  replace h := h (SX6_dish_20 X Y b p1) (fun v2 v3 v4 μ z => tX6_dish_20 C hr hI h0 v2 v3 v4 μ z)
  refine g_iload_n C 1 dX6_dish_0 rfl ?_
  refine g_iconst C (v := (1 : Int32)) dX6_dish_1 (by decide) ?_
  refine g_icmp_lt C 10 dX6_dish_2 (by decide) (fun c1 => ?_) (fun c1 => ?_)
  · replace h := h.1 c1
    refine g_iconst C (v := (-1 : Int32)) dX6_dish_10 (by decide) ?_
    exact hr _ _ _ _ _ dX6_dish_11 rfl h
  · replace h := h.2 c1
    refine g_iload_n C 1 dX6_dish_5 rfl ?_
    refine g_iconst C (v := (4 : Int32)) dX6_dish_6 (by decide) ?_
    refine g_icmp_le C 12 dX6_dish_7 (by decide) (fun c2 => ?_) (fun c2 => ?_)
    · replace h := h.1 c2
      refine g_bipush C (v := (-4 : Int32)) dX6_dish_12 (by decide) ?_
      refine g_istore_n C [(2, .int ((-4 : Int32))), (0, .ref (Y.ad b)), (1, .int p1)] dX6_dish_14 (by decide) rfl ?_
      refine g_iconst C (v := (-1 : Int32)) dX6_dish_15 (by decide) ?_
      refine g_istore_n C [(3, .int ((-1 : Int32))), (2, .int ((-4 : Int32))), (0, .ref (Y.ad b)), (1, .int p1)] dX6_dish_16 (by decide) rfl ?_
      refine g_iconst C (v := (0 : Int32)) dX6_dish_17 (by decide) ?_
      refine g_istore C [(4, .int ((0 : Int32))), (3, .int ((-1 : Int32))), (2, .int ((-4 : Int32))), (0, .ref (Y.ad b)), (1, .int p1)] dX6_dish_18 (by decide) rfl ?_
      refine g_lv (lv2 := [(0, .ref (Y.ad b)), (1, .int p1), (2, .int ((-4 : Int32))), (3, .int ((-1 : Int32))), (4, .int ((0 : Int32)))]) [3, 4, 2, 1, 0] ?_ rfl
      exact h
    · replace h := h.2 c2
      refine g_iconst C (v := (-1 : Int32)) dX6_dish_10 (by decide) ?_
      exact hr _ _ _ _ _ dX6_dish_11 rfl h
set_option maxRecDepth 20000 in
set_option maxHeartbeats 4000000 in
theorem ok_X6_cheap {Y : YT} {l0 : Launch} {b : Nat} {p1 : Int32} {p2 : Int32} {p3 : Int32} {μ : Mem} {Q : Int32 → Mem → Prop} (hI : YI Y) (h0 : isX6 Y b) (h : PX6_cheap b p1 p2 p3 μ Q) : MI l0 yX6_cheap WX6_cheap 7 182 Y [.ref (Y.ad b), .int p1, .int p2, .int p3] μ Q := by
  refine mI_of (ty := .int) (cc := cX6_cheap) (maxL := 4) (by decide +kernel) rfl hI (Nat.le_of_ble_eq_true rfl) (fun X C hr => ?_)
  replace C : Cx X Y 4 cX6_cheap RX6 WX6_cheap (rmB 7 182) l0 := C
  refine g_lv (lv2 := [(0, .ref (Y.ad b)), (1, .int p1), (2, .int p2), (3, .int p3)]) [0, 1, 2, 3] ?_ rfl
  unfold PX6_cheap at h
  refine g_aload_n C 0 dX6_cheap_0 rfl ?_
  refine gf_RX6_10 C h0 dX6_cheap_1 ?_
  refine g_iload_n C 1 dX6_cheap_4 rfl ?_
  refine g_callVI C [.int p1] [] (ok_X2_hasThing hI (isX6_rules h0) h) (cw_RX6_103 _) rfl dc_X2_hasThing ⟨Nat.le_of_ble_eq_true rfl, Nat.le_of_ble_eq_true rfl⟩ (isX2_lt (isX6_rules h0)) (isX2_sh (isX6_rules h0)) rfl rfl rfl rfl (Nat.le_of_ble_eq_true rfl) dX6_cheap_5 (fun r2 m1 h => ?_)
  refine g_if_eq C 31 dX6_cheap_8 (by decide) (fun c3 => ?_) (fun c3 => ?_)
  · replace h := h.1 c3
    refine g_iconst C (v := (-1 : Int32)) dX6_cheap_31 (by decide) ?_
    exact hr _ _ _ _ _ dX6_cheap_32 rfl h
  · replace h := h.2 c3
    refine g_iload_n C 2 dX6_cheap_11 rfl ?_
    refine g_if_lt C 31 dX6_cheap_12 (by decide) (fun c4 => ?_) (fun c4 => ?_)
    · replace h := h.1 c4
      refine g_iconst C (v := (-1 : Int32)) dX6_cheap_31 (by decide) ?_
      exact hr _ _ _ _ _ dX6_cheap_32 rfl h
    · replace h := h.2 c4
      refine g_iload_n C 2 dX6_cheap_15 rfl ?_
      refine g_bipush C (v := (60 : Int32)) dX6_cheap_16 (by decide) ?_
      refine g_icmp_gt C 31 dX6_cheap_18 (by decide) (fun c5 => ?_) (fun c5 => ?_)
      · replace h := h.1 c5
        refine g_iconst C (v := (-1 : Int32)) dX6_cheap_31 (by decide) ?_
        exact hr _ _ _ _ _ dX6_cheap_32 rfl h
      · replace h := h.2 c5
        refine g_iload_n C 3 dX6_cheap_21 rfl ?_
        refine g_iconst C (v := (1 : Int32)) dX6_cheap_22 (by decide) ?_
        refine g_icmp_lt C 31 dX6_cheap_23 (by decide) (fun c6 => ?_) (fun c6 => ?_)
        · replace h := h.1 c6
          refine g_iconst C (v := (-1 : Int32)) dX6_cheap_31 (by decide) ?_
          exact hr _ _ _ _ _ dX6_cheap_32 rfl h
        · replace h := h.2 c6
          refine g_iload_n C 3 dX6_cheap_26 rfl ?_
          refine g_iconst C (v := (5 : Int32)) dX6_cheap_27 (by decide) ?_
          refine g_icmp_le C 33 dX6_cheap_28 (by decide) (fun c7 => ?_) (fun c7 => ?_)
          · replace h := h.1 c7
            refine g_aload_n C 0 dX6_cheap_33 rfl ?_
            refine gf_RX6_16 C h0 dX6_cheap_34 ?_
            refine g_aload_n C 0 dX6_cheap_37 rfl ?_
            refine gf_RX6_10 C h0 dX6_cheap_38 ?_
            refine g_callVV C [.ref (Y.ad (b + 1))] [] (ok_X2_copyFrom hI (isX6_otherRules h0) (isX6_rules h0) h) (cw_RX6_96 _) rfl dc_X2_copyFrom ⟨Nat.le_of_ble_eq_true rfl, Nat.le_of_ble_eq_true rfl⟩ (isX2_lt (isX6_otherRules h0)) (isX2_sh (isX6_otherRules h0)) rfl rfl rfl rfl (Nat.le_of_ble_eq_true rfl) dX6_cheap_41 (fun m8 h => ?_)
            refine g_aload_n C 0 dX6_cheap_44 rfl ?_
            refine gf_RX6_16 C h0 dX6_cheap_45 ?_
            refine gf_RX6_113 C (isX6_otherRules h0) dX6_cheap_48 ?_
            refine g_iload_n C 1 dX6_cheap_51 rfl ?_
            refine g_iload_n C 2 dX6_cheap_52 rfl ?_
            refine g_iast C (isX2_price (isX6_otherRules h0)).1 (isX2_price (isX6_otherRules h0)).2 h.1 dX6_cheap_53 ?_
            replace h := h.2
            refine g_aload_n C 0 dX6_cheap_54 rfl ?_
            refine gf_RX6_62 C h0 dX6_cheap_55 ?_
            refine g_aload_n C 0 dX6_cheap_58 rfl ?_
            refine gf_RX6_16 C h0 dX6_cheap_59 ?_
            refine g_aload_n C 0 dX6_cheap_62 rfl ?_
            refine gf_RX6_33 C h0 dX6_cheap_63 ?_
            refine g_iload_n C 3 dX6_cheap_66 rfl ?_
            refine g_iconst C (v := (0 : Int32)) dX6_cheap_67 (by decide) ?_
            refine g_callVV C [.ref (Y.ad (b + 13)), .ref (Y.ad (b + 40)), .int p3, .int ((0 : Int32))] [] (ok_X3_lookAtRows hI (isX6_search h0) (isX6_otherRules h0) (isX6_kitchen h0) h) (cw_RX6_242 _) rfl dc_X3_lookAtRows ⟨Nat.le_of_ble_eq_true rfl, Nat.le_of_ble_eq_true rfl⟩ (isX3_lt (isX6_search h0)) (isX3_sh (isX6_search h0)) rfl rfl rfl rfl (Nat.le_of_ble_eq_true rfl) dX6_cheap_68 (fun m10 h => ?_)
            refine g_aload_n C 0 dX6_cheap_71 rfl ?_
            refine gf_RX6_62 C h0 dX6_cheap_72 ?_
            refine gf_RX6_246 C (isX6_search h0) dX6_cheap_75 ?_
            refine g_if_ne C 86 dX6_cheap_78 (by decide) (fun c12 => ?_) (fun c12 => ?_)
            · replace h := h.1 c12
              refine g_aload_n C 0 dX6_cheap_86 rfl ?_
              refine gf_RX6_62 C h0 dX6_cheap_87 ?_
              refine gf_RX6_252 C (isX6_search h0) dX6_cheap_90 ?_
              exact hr _ _ _ _ _ dX6_cheap_93 rfl h
            · replace h := h.2 c12
              refine g_bipush C (v := (-4 : Int32)) dX6_cheap_81 (by decide) ?_
              refine g_goto C 93 dX6_cheap_83 (by decide) ?_
              exact hr _ _ _ _ _ dX6_cheap_93 rfl h
          · replace h := h.2 c7
            refine g_iconst C (v := (-1 : Int32)) dX6_cheap_31 (by decide) ?_
            exact hr _ _ _ _ _ dX6_cheap_32 rfl h
set_option maxRecDepth 20000 in
set_option maxHeartbeats 4000000 in
theorem ok_X6_cold {Y : YT} {l0 : Launch} {b : Nat} {p1 : Int32} {p2 : Int32} {μ : Mem} {Q : Int32 → Mem → Prop} (hI : YI Y) (h0 : isX6 Y b) (h : PX6_cold b p1 p2 μ Q) : MI l0 yX6_cold WX6_cold 7 182 Y [.ref (Y.ad b), .int p1, .int p2] μ Q := by
  refine mI_of (ty := .int) (cc := cX6_cold) (maxL := 3) (by decide +kernel) rfl hI (Nat.le_of_ble_eq_true rfl) (fun X C hr => ?_)
  replace C : Cx X Y 3 cX6_cold RX6 WX6_cold (rmB 7 182) l0 := C
  refine g_lv (lv2 := [(0, .ref (Y.ad b)), (1, .int p1), (2, .int p2)]) [0, 1, 2] ?_ rfl
  unfold PX6_cold at h
  refine g_aload_n C 0 dX6_cold_0 rfl ?_
  refine gf_RX6_10 C h0 dX6_cold_1 ?_
  refine g_iload_n C 1 dX6_cold_4 rfl ?_
  refine g_callVI C [.int p1] [] (ok_X2_hasThing hI (isX6_rules h0) h) (cw_RX6_103 _) rfl dc_X2_hasThing ⟨Nat.le_of_ble_eq_true rfl, Nat.le_of_ble_eq_true rfl⟩ (isX2_lt (isX6_rules h0)) (isX2_sh (isX6_rules h0)) rfl rfl rfl rfl (Nat.le_of_ble_eq_true rfl) dX6_cold_5 (fun r2 m1 h => ?_)
  refine g_if_eq C 21 dX6_cold_8 (by decide) (fun c3 => ?_) (fun c3 => ?_)
  · replace h := h.1 c3
    refine g_iconst C (v := (-1 : Int32)) dX6_cold_21 (by decide) ?_
    exact hr _ _ _ _ _ dX6_cold_22 rfl h
  · replace h := h.2 c3
    refine g_iload_n C 2 dX6_cold_11 rfl ?_
    refine g_iconst C (v := (1 : Int32)) dX6_cold_12 (by decide) ?_
    refine g_icmp_lt C 21 dX6_cold_13 (by decide) (fun c4 => ?_) (fun c4 => ?_)
    · replace h := h.1 c4
      refine g_iconst C (v := (-1 : Int32)) dX6_cold_21 (by decide) ?_
      exact hr _ _ _ _ _ dX6_cold_22 rfl h
    · replace h := h.2 c4
      refine g_iload_n C 2 dX6_cold_16 rfl ?_
      refine g_iconst C (v := (5 : Int32)) dX6_cold_17 (by decide) ?_
      refine g_icmp_le C 23 dX6_cold_18 (by decide) (fun c5 => ?_) (fun c5 => ?_)
      · replace h := h.1 c5
        refine g_aload_n C 0 dX6_cold_23 rfl ?_
        refine gf_RX6_16 C h0 dX6_cold_24 ?_
        refine g_aload_n C 0 dX6_cold_27 rfl ?_
        refine gf_RX6_10 C h0 dX6_cold_28 ?_
        refine g_callVV C [.ref (Y.ad (b + 1))] [] (ok_X2_copyFrom hI (isX6_otherRules h0) (isX6_rules h0) h) (cw_RX6_96 _) rfl dc_X2_copyFrom ⟨Nat.le_of_ble_eq_true rfl, Nat.le_of_ble_eq_true rfl⟩ (isX2_lt (isX6_otherRules h0)) (isX2_sh (isX6_otherRules h0)) rfl rfl rfl rfl (Nat.le_of_ble_eq_true rfl) dX6_cold_31 (fun m6 h => ?_)
        refine g_aload_n C 0 dX6_cold_34 rfl ?_
        refine gf_RX6_16 C h0 dX6_cold_35 ?_
        refine gf_RX6_107 C (isX6_otherRules h0) dX6_cold_38 ?_
        refine g_iload_n C 1 dX6_cold_41 rfl ?_
        refine g_iconst C (v := (4 : Int32)) dX6_cold_42 (by decide) ?_
        refine g_aload_n C 0 dX6_cold_43 rfl ?_
        refine gf_RX6_10 C h0 dX6_cold_44 ?_
        refine gf_RX6_107 C (isX6_rules h0) dX6_cold_47 ?_
        refine g_iload_n C 1 dX6_cold_50 rfl ?_
        refine g_iald C (isX2_keeps (isX6_rules h0)).1 (isX2_keeps (isX6_rules h0)).2 h.1 dX6_cold_51 ?_
        replace h := h.2
        refine g_iconst C (v := (1 : Int32)) dX6_cold_52 (by decide) ?_
        refine g_iadd C dX6_cold_53 ?_
        refine g_min C (List.mem_cons_of_mem _ mM_RX6_299) (List.mem_cons_of_mem _ mLib_min_s) (List.mem_cons_of_mem _ mLib_math) (List.mem_cons_of_mem _ mLib_min_c) (Nat.le_of_ble_eq_true rfl) (Nat.le_of_ble_eq_true rfl) dX6_cold_54 ?_
        refine g_topi (fun x8 ex8 => ?_)
        replace h := h x8 ex8
        refine g_iast C (isX2_keeps (isX6_otherRules h0)).1 (isX2_keeps (isX6_otherRules h0)).2 h.1 dX6_cold_57 ?_
        replace h := h.2
        refine g_aload_n C 0 dX6_cold_58 rfl ?_
        refine gf_RX6_62 C h0 dX6_cold_59 ?_
        refine g_aload_n C 0 dX6_cold_62 rfl ?_
        refine gf_RX6_16 C h0 dX6_cold_63 ?_
        refine g_aload_n C 0 dX6_cold_66 rfl ?_
        refine gf_RX6_33 C h0 dX6_cold_67 ?_
        refine g_iload_n C 2 dX6_cold_70 rfl ?_
        refine g_iconst C (v := (0 : Int32)) dX6_cold_71 (by decide) ?_
        refine g_callVV C [.ref (Y.ad (b + 13)), .ref (Y.ad (b + 40)), .int p2, .int ((0 : Int32))] [] (ok_X3_lookAtRows hI (isX6_search h0) (isX6_otherRules h0) (isX6_kitchen h0) h) (cw_RX6_242 _) rfl dc_X3_lookAtRows ⟨Nat.le_of_ble_eq_true rfl, Nat.le_of_ble_eq_true rfl⟩ (isX3_lt (isX6_search h0)) (isX3_sh (isX6_search h0)) rfl rfl rfl rfl (Nat.le_of_ble_eq_true rfl) dX6_cold_72 (fun m9 h => ?_)
        refine g_aload_n C 0 dX6_cold_75 rfl ?_
        refine gf_RX6_62 C h0 dX6_cold_76 ?_
        refine gf_RX6_246 C (isX6_search h0) dX6_cold_79 ?_
        refine g_if_ne C 90 dX6_cold_82 (by decide) (fun c11 => ?_) (fun c11 => ?_)
        · replace h := h.1 c11
          refine g_aload_n C 0 dX6_cold_90 rfl ?_
          refine gf_RX6_62 C h0 dX6_cold_91 ?_
          refine gf_RX6_249 C (isX6_search h0) dX6_cold_94 ?_
          exact hr _ _ _ _ _ dX6_cold_97 rfl h
        · replace h := h.2 c11
          refine g_bipush C (v := (-4 : Int32)) dX6_cold_85 (by decide) ?_
          refine g_goto C 97 dX6_cold_87 (by decide) ?_
          exact hr _ _ _ _ _ dX6_cold_97 rfl h
      · replace h := h.2 c5
        refine g_iconst C (v := (-1 : Int32)) dX6_cold_21 (by decide) ?_
        exact hr _ _ _ _ _ dX6_cold_22 rfl h
set_option maxRecDepth 20000 in
set_option maxHeartbeats 4000000 in
theorem ok_X6_sheet {Y : YT} {l0 : Launch} {b : Nat} {p1 : Int32} {p2 : Int32} {p3 : Int32} {μ : Mem} {Q : Int32 → Mem → Prop} (hI : YI Y) (h0 : isX6 Y b) (h : PX6_sheet b p1 p2 p3 μ Q) : MI l0 yX6_sheet WX6_sheet 1 24 Y [.ref (Y.ad b), .int p1, .int p2, .int p3] μ Q := by
  refine mI_of (ty := .int) (cc := cX6_sheet) (maxL := 4) (by decide +kernel) rfl hI (Nat.le_of_ble_eq_true rfl) (fun X C hr => ?_)
  replace C : Cx X Y 4 cX6_sheet RX6 WX6_sheet (rmB 1 24) l0 := C
  refine g_lv (lv2 := [(0, .ref (Y.ad b)), (1, .int p1), (2, .int p2), (3, .int p3)]) [0, 1, 2, 3] ?_ rfl
  unfold PX6_sheet at h
  refine g_iload_n C 1 dX6_sheet_0 rfl ?_
  refine g_if_lt C 24 dX6_sheet_1 (by decide) (fun c1 => ?_) (fun c1 => ?_)
  · replace h := h.1 c1
    refine g_iconst C (v := (-1 : Int32)) dX6_sheet_24 (by decide) ?_
    exact hr _ _ _ _ _ dX6_sheet_25 rfl h
  · replace h := h.2 c1
    refine g_iload_n C 1 dX6_sheet_4 rfl ?_
    refine g_iconst C (v := (4 : Int32)) dX6_sheet_5 (by decide) ?_
    refine g_icmp_ge C 24 dX6_sheet_6 (by decide) (fun c2 => ?_) (fun c2 => ?_)
    · replace h := h.1 c2
      refine g_iconst C (v := (-1 : Int32)) dX6_sheet_24 (by decide) ?_
      exact hr _ _ _ _ _ dX6_sheet_25 rfl h
    · replace h := h.2 c2
      refine g_iload_n C 2 dX6_sheet_9 rfl ?_
      refine g_if_lt C 24 dX6_sheet_10 (by decide) (fun c3 => ?_) (fun c3 => ?_)
      · replace h := h.1 c3
        refine g_iconst C (v := (-1 : Int32)) dX6_sheet_24 (by decide) ?_
        exact hr _ _ _ _ _ dX6_sheet_25 rfl h
      · replace h := h.2 c3
        refine g_iload_n C 2 dX6_sheet_13 rfl ?_
        refine g_iconst C (v := (3 : Int32)) dX6_sheet_14 (by decide) ?_
        refine g_icmp_ge C 24 dX6_sheet_15 (by decide) (fun c4 => ?_) (fun c4 => ?_)
        · replace h := h.1 c4
          refine g_iconst C (v := (-1 : Int32)) dX6_sheet_24 (by decide) ?_
          exact hr _ _ _ _ _ dX6_sheet_25 rfl h
        · replace h := h.2 c4
          refine g_iload_n C 3 dX6_sheet_18 rfl ?_
          refine g_bipush C (v := (40 : Int32)) dX6_sheet_19 (by decide) ?_
          refine g_icmp_le C 26 dX6_sheet_21 (by decide) (fun c5 => ?_) (fun c5 => ?_)
          · replace h := h.1 c5
            refine g_iload_n C 3 dX6_sheet_26 rfl ?_
            refine g_if_ge C 33 dX6_sheet_27 (by decide) (fun c6 => ?_) (fun c6 => ?_)
            · replace h := h.1 c6
              refine g_aload_n C 0 dX6_sheet_33 rfl ?_
              refine gf_RX6_69 C h0 dX6_sheet_34 ?_
              refine g_iload_n C 1 dX6_sheet_37 rfl ?_
              refine g_iload_n C 2 dX6_sheet_38 rfl ?_
              refine g_iload_n C 3 dX6_sheet_39 rfl ?_
              refine g_callVV C [.int p1, .int p2, .int p3] [] (ok_X4_begin hI (isX6_sheets h0) h) (cw_RX6_304 _) rfl dc_X4_begin ⟨Nat.le_of_ble_eq_true rfl, Nat.le_of_ble_eq_true rfl⟩ (isX4_lt (isX6_sheets h0)) (isX4_sh (isX6_sheets h0)) rfl rfl rfl rfl (Nat.le_of_ble_eq_true rfl) dX6_sheet_40 (fun m7 h => ?_)
              refine g_iconst C (v := (1 : Int32)) dX6_sheet_43 (by decide) ?_
              exact hr _ _ _ _ _ dX6_sheet_44 rfl h
            · replace h := h.2 c6
              refine g_bipush C (v := (-14 : Int32)) dX6_sheet_30 (by decide) ?_
              exact hr _ _ _ _ _ dX6_sheet_32 rfl h
          · replace h := h.2 c5
            refine g_iconst C (v := (-1 : Int32)) dX6_sheet_24 (by decide) ?_
            exact hr _ _ _ _ _ dX6_sheet_25 rfl h
set_option maxRecDepth 20000 in
set_option maxHeartbeats 4000000 in
theorem ok_X6_lay {Y : YT} {l0 : Launch} {b : Nat} {p1 : Int32} {p2 : Int32} {p3 : Int32} {μ : Mem} {Q : Int32 → Mem → Prop} (hI : YI Y) (h0 : isX6 Y b) (h : PX6_lay b p1 p2 p3 μ Q) : MI l0 yX6_lay WX6_lay 1 23 Y [.ref (Y.ad b), .int p1, .int p2, .int p3] μ Q := by
  refine mI_of (ty := .int) (cc := cX6_lay) (maxL := 4) (by decide +kernel) rfl hI (Nat.le_of_ble_eq_true rfl) (fun X C hr => ?_)
  replace C : Cx X Y 4 cX6_lay RX6 WX6_lay (rmB 1 23) l0 := C
  refine g_lv (lv2 := [(0, .ref (Y.ad b)), (1, .int p1), (2, .int p2), (3, .int p3)]) [0, 1, 2, 3] ?_ rfl
  unfold PX6_lay at h
  refine g_iload_n C 1 dX6_lay_0 rfl ?_
  refine g_if_lt C 9 dX6_lay_1 (by decide) (fun c1 => ?_) (fun c1 => ?_)
  · replace h := h.1 c1
    refine g_iconst C (v := (-1 : Int32)) dX6_lay_9 (by decide) ?_
    exact hr _ _ _ _ _ dX6_lay_10 rfl h
  · replace h := h.2 c1
    refine g_iload_n C 1 dX6_lay_4 rfl ?_
    refine g_iconst C (v := (4 : Int32)) dX6_lay_5 (by decide) ?_
    refine g_icmp_lt C 11 dX6_lay_6 (by decide) (fun c2 => ?_) (fun c2 => ?_)
    · replace h := h.1 c2
      refine g_aload_n C 0 dX6_lay_11 rfl ?_
      refine gf_RX6_69 C h0 dX6_lay_12 ?_
      refine g_iload_n C 1 dX6_lay_15 rfl ?_
      refine g_callVI C [.int p1] [] (ok_X4_isNothing hI (isX6_sheets h0) h) (cw_RX6_308 _) rfl dc_X4_isNothing ⟨Nat.le_of_ble_eq_true rfl, Nat.le_of_ble_eq_true rfl⟩ (isX4_lt (isX6_sheets h0)) (isX4_sh (isX6_sheets h0)) rfl rfl rfl rfl (Nat.le_of_ble_eq_true rfl) dX6_lay_16 (fun r4 m3 h => ?_)
      refine g_if_eq C 25 dX6_lay_19 (by decide) (fun c5 => ?_) (fun c5 => ?_)
      · replace h := h.1 c5
        refine g_iload_n C 2 dX6_lay_25 rfl ?_
        refine g_if_lt C 42 dX6_lay_26 (by decide) (fun c6 => ?_) (fun c6 => ?_)
        · replace h := h.1 c6
          refine g_bipush C (v := (-12 : Int32)) dX6_lay_42 (by decide) ?_
          exact hr _ _ _ _ _ dX6_lay_44 rfl h
        · replace h := h.2 c6
          refine g_iload_n C 2 dX6_lay_29 rfl ?_
          refine g_aload_n C 0 dX6_lay_30 rfl ?_
          refine gf_RX6_69 C h0 dX6_lay_31 ?_
          refine gf_RX6_311 C (isX6_sheets h0) dX6_lay_34 ?_
          refine g_iload_n C 1 dX6_lay_37 rfl ?_
          refine g_iald C (isX4_cellCount (isX6_sheets h0)).1 (isX4_cellCount (isX6_sheets h0)).2 h.1 dX6_lay_38 ?_
          replace h := h.2
          refine g_icmp_lt C 45 dX6_lay_39 (by decide) (fun c7 => ?_) (fun c7 => ?_)
          · replace h := h.1 c7
            refine g_aload_n C 0 dX6_lay_45 rfl ?_
            refine gf_RX6_69 C h0 dX6_lay_46 ?_
            refine g_iload_n C 1 dX6_lay_49 rfl ?_
            refine g_iload_n C 2 dX6_lay_50 rfl ?_
            refine g_iload_n C 3 dX6_lay_51 rfl ?_
            refine g_callVV C [.int p1, .int p2, .int p3] [] (ok_X4_setCell hI (isX6_sheets h0) h) (cw_RX6_314 _) rfl dc_X4_setCell ⟨Nat.le_of_ble_eq_true rfl, Nat.le_of_ble_eq_true rfl⟩ (isX4_lt (isX6_sheets h0)) (isX4_sh (isX6_sheets h0)) rfl rfl rfl rfl (Nat.le_of_ble_eq_true rfl) dX6_lay_52 (fun m8 h => ?_)
            refine g_iconst C (v := (1 : Int32)) dX6_lay_55 (by decide) ?_
            exact hr _ _ _ _ _ dX6_lay_56 rfl h
          · replace h := h.2 c7
            refine g_bipush C (v := (-12 : Int32)) dX6_lay_42 (by decide) ?_
            exact hr _ _ _ _ _ dX6_lay_44 rfl h
      · replace h := h.2 c5
        refine g_bipush C (v := (-11 : Int32)) dX6_lay_22 (by decide) ?_
        exact hr _ _ _ _ _ dX6_lay_24 rfl h
    · replace h := h.2 c2
      refine g_iconst C (v := (-1 : Int32)) dX6_lay_9 (by decide) ?_
      exact hr _ _ _ _ _ dX6_lay_10 rfl h
set_option maxRecDepth 20000 in
set_option maxHeartbeats 4000000 in
theorem ok_X6_canPutLot {Y : YT} {l0 : Launch} {b : Nat} {p1 : Int32} {p2 : Int32} {μ : Mem} {Q : Int32 → Mem → Prop} (hI : YI Y) (h0 : isX6 Y b) (h : PX6_canPutLot b p1 p2 μ Q) : MI l0 yX6_canPutLot WX6_canPutLot 2 44 Y [.ref (Y.ad b), .int p1, .int p2] μ Q := by
  refine mI_of (ty := .boolean) (cc := cX6_canPutLot) (maxL := 3) (by decide +kernel) rfl hI (Nat.le_of_ble_eq_true rfl) (fun X C hr => ?_)
  replace C : Cx X Y 3 cX6_canPutLot RX6 WX6_canPutLot (rmB 2 44) l0 := C
  refine g_lv (lv2 := [(0, .ref (Y.ad b)), (1, .int p1), (2, .int p2)]) [0, 1, 2] ?_ rfl
  unfold PX6_canPutLot at h
  refine g_aload_n C 0 dX6_canPutLot_0 rfl ?_
  refine g_aload_n C 0 dX6_canPutLot_1 rfl ?_
  refine gf_RX6_69 C h0 dX6_canPutLot_2 ?_
  refine g_iload_n C 1 dX6_canPutLot_5 rfl ?_
  refine g_iload_n C 2 dX6_canPutLot_6 rfl ?_
  refine g_callVI C [.int p1, .int p2] [.ref (Y.ad b)] (ok_X4_cellAt hI (isX6_sheets h0) h) (cw_RX6_333 _) rfl dc_X4_cellAt ⟨Nat.le_of_ble_eq_true rfl, Nat.le_of_ble_eq_true rfl⟩ (isX4_lt (isX6_sheets h0)) (isX4_sh (isX6_sheets h0)) rfl rfl rfl rfl (Nat.le_of_ble_eq_true rfl) dX6_canPutLot_7 (fun r2 m1 h => ?_)
  refine g_aload_n C 0 dX6_canPutLot_10 rfl ?_
  refine gf_RX6_69 C h0 dX6_canPutLot_11 ?_
  refine g_iload_n C 1 dX6_canPutLot_14 rfl ?_
  refine g_iload_n C 2 dX6_canPutLot_15 rfl ?_
  refine g_iconst C (v := (1 : Int32)) dX6_canPutLot_16 (by decide) ?_
  refine g_iadd C dX6_canPutLot_17 ?_
  refine g_callVI C [.int p1, .int (p2 + ((1 : Int32)))] [.int r2, .ref (Y.ad b)] (ok_X4_cellAt hI (isX6_sheets h0) h) (cw_RX6_333 _) rfl dc_X4_cellAt ⟨Nat.le_of_ble_eq_true rfl, Nat.le_of_ble_eq_true rfl⟩ (isX4_lt (isX6_sheets h0)) (isX4_sh (isX6_sheets h0)) rfl rfl rfl rfl (Nat.le_of_ble_eq_true rfl) dX6_canPutLot_18 (fun r4 m3 h => ?_)
  refine g_aload_n C 0 dX6_canPutLot_21 rfl ?_
  refine gf_RX6_69 C h0 dX6_canPutLot_22 ?_
  refine g_iload_n C 1 dX6_canPutLot_25 rfl ?_
  refine g_iload_n C 2 dX6_canPutLot_26 rfl ?_
  refine g_iconst C (v := (2 : Int32)) dX6_canPutLot_27 (by decide) ?_
  refine g_iadd C dX6_canPutLot_28 ?_
  refine g_callVI C [.int p1, .int (p2 + ((2 : Int32)))] [.int r4, .int r2, .ref (Y.ad b)] (ok_X4_cellAt hI (isX6_sheets h0) h) (cw_RX6_333 _) rfl dc_X4_cellAt ⟨Nat.le_of_ble_eq_true rfl, Nat.le_of_ble_eq_true rfl⟩ (isX4_lt (isX6_sheets h0)) (isX4_sh (isX6_sheets h0)) rfl rfl rfl rfl (Nat.le_of_ble_eq_true rfl) dX6_canPutLot_29 (fun r6 m5 h => ?_)
  refine g_callVI C [.int r2, .int r4, .int r6] [] (ok_X6_canPut hI h0 h) (cw_RX6_153 _) rfl dc_X6_canPut ⟨Nat.le_of_ble_eq_true rfl, Nat.le_of_ble_eq_true rfl⟩ (isX6_lt h0) (isX6_sh h0) rfl rfl rfl rfl (Nat.le_of_ble_eq_true rfl) dX6_canPutLot_32 (fun r8 m7 h => ?_)
  exact hr _ _ _ _ _ dX6_canPutLot_35 h.1.1 h.2
set_option maxRecDepth 20000 in
set_option maxHeartbeats 4000000 in
theorem ok_X6_putLot {Y : YT} {l0 : Launch} {b : Nat} {p1 : Int32} {p2 : Int32} {μ : Mem} {Q : Mem → Prop} (hI : YI Y) (h0 : isX6 Y b) (h : PX6_putLot b p1 p2 μ Q) : MV l0 yX6_putLot WX6_putLot 1 22 Y [.ref (Y.ad b), .int p1, .int p2] μ Q := by
  refine mV_of (cc := cX6_putLot) (maxL := 3) (by decide +kernel) rfl hI (Nat.le_of_ble_eq_true rfl) (fun X C hr => ?_)
  replace C : Cx X Y 3 cX6_putLot RX6 WX6_putLot (rmB 1 22) l0 := C
  refine g_lv (lv2 := [(0, .ref (Y.ad b)), (1, .int p1), (2, .int p2)]) [0, 1, 2] ?_ rfl
  unfold PX6_putLot at h
  refine g_aload_n C 0 dX6_putLot_0 rfl ?_
  refine gf_RX6_33 C h0 dX6_putLot_1 ?_
  refine gf_RX6_157 C (isX6_kitchen h0) dX6_putLot_4 ?_
  refine g_aload_n C 0 dX6_putLot_7 rfl ?_
  refine gf_RX6_69 C h0 dX6_putLot_8 ?_
  refine g_iload_n C 1 dX6_putLot_11 rfl ?_
  refine g_iload_n C 2 dX6_putLot_12 rfl ?_
  refine g_callVI C [.int p1, .int p2] [.ref (Y.ad (b + 40 + 1))] (ok_X4_cellAt hI (isX6_sheets h0) h) (cw_RX6_333 _) rfl dc_X4_cellAt ⟨Nat.le_of_ble_eq_true rfl, Nat.le_of_ble_eq_true rfl⟩ (isX4_lt (isX6_sheets h0)) (isX4_sh (isX6_sheets h0)) rfl rfl rfl rfl (Nat.le_of_ble_eq_true rfl) dX6_putLot_13 (fun r2 m1 h => ?_)
  refine g_iconst C (v := (4 : Int32)) dX6_putLot_16 (by decide) ?_
  refine g_imul C dX6_putLot_17 ?_
  refine g_aload_n C 0 dX6_putLot_18 rfl ?_
  refine gf_RX6_69 C h0 dX6_putLot_19 ?_
  refine g_iload_n C 1 dX6_putLot_22 rfl ?_
  refine g_iload_n C 2 dX6_putLot_23 rfl ?_
  refine g_iconst C (v := (1 : Int32)) dX6_putLot_24 (by decide) ?_
  refine g_iadd C dX6_putLot_25 ?_
  refine g_callVI C [.int p1, .int (p2 + ((1 : Int32)))] [.int (r2 * ((4 : Int32))), .ref (Y.ad (b + 40 + 1))] (ok_X4_cellAt hI (isX6_sheets h0) h) (cw_RX6_333 _) rfl dc_X4_cellAt ⟨Nat.le_of_ble_eq_true rfl, Nat.le_of_ble_eq_true rfl⟩ (isX4_lt (isX6_sheets h0)) (isX4_sh (isX6_sheets h0)) rfl rfl rfl rfl (Nat.le_of_ble_eq_true rfl) dX6_putLot_26 (fun r4 m3 h => ?_)
  refine g_iadd C dX6_putLot_29 ?_
  refine g_aload_n C 0 dX6_putLot_30 rfl ?_
  refine gf_RX6_69 C h0 dX6_putLot_31 ?_
  refine g_iload_n C 1 dX6_putLot_34 rfl ?_
  refine g_iload_n C 2 dX6_putLot_35 rfl ?_
  refine g_iconst C (v := (2 : Int32)) dX6_putLot_36 (by decide) ?_
  refine g_iadd C dX6_putLot_37 ?_
  refine g_callVI C [.int p1, .int (p2 + ((2 : Int32)))] [.int ((r2 * ((4 : Int32))) + r4), .ref (Y.ad (b + 40 + 1))] (ok_X4_cellAt hI (isX6_sheets h0) h) (cw_RX6_333 _) rfl dc_X4_cellAt ⟨Nat.le_of_ble_eq_true rfl, Nat.le_of_ble_eq_true rfl⟩ (isX4_lt (isX6_sheets h0)) (isX4_sh (isX6_sheets h0)) rfl rfl rfl rfl (Nat.le_of_ble_eq_true rfl) dX6_putLot_38 (fun r6 m5 h => ?_)
  refine g_iast C (isX0_units (isX6_kitchen h0)).1 (isX0_units (isX6_kitchen h0)).2 h.1 dX6_putLot_41 ?_
  replace h := h.2
  exact hr _ _ _ _ dX6_putLot_42 h
def SX6_read_58 (X : XT) (Y : YT) (b : Nat) (p1 : Int32) (p2 : Int32) (p3 : Int32) (p4 : Int32) : Int32 → Int32 → Int32 → Mem → Prop := fun v5 v6 v7 μ => G X Y 8 58 [(0, .ref (Y.ad b)), (1, .int p1), (2, .int p2), (3, .int p3), (4, .int p4), (5, .int v5), (6, .int v6), (7, .int v7)] [] μ
def SX6_read_129 (X : XT) (Y : YT) (b : Nat) (p1 : Int32) (p2 : Int32) (p3 : Int32) (p4 : Int32) : Int32 → Int32 → Int32 → Mem → Prop := fun v5 v6 v7 μ => G X Y 8 129 [(0, .ref (Y.ad b)), (1, .int p1), (2, .int p2), (3, .int p3), (4, .int p4), (5, .int v5), (6, .int v6), (7, .int v7)] [] μ
set_option maxRecDepth 20000 in
set_option maxHeartbeats 4000000 in
theorem tX6_read_50 {X : XT} {Y : YT} {l0 : Launch} {b : Nat} {p1 : Int32} {p2 : Int32} {p3 : Int32} {p4 : Int32} {Q : Int32 → Mem → Prop} (C : Cx X Y 8 cX6_read RX6 WX6_read (rmB 3 66) l0) (hr : RI X Y cX6_read .int Q) (hI : YI Y) (h0 : isX6 Y b) (w0 : Int32) (μ : Mem) (h : nX6_read_50 b p1 p2 p3 p4 Q (SX6_read_58 X Y b p1 p2 p3 p4) (SX6_read_129 X Y b p1 p2 p3 p4) w0 μ) : G X Y 8 50 [(0, .ref (Y.ad b)), (1, .int p1), (2, .int p2), (3, .int p3), (4, .int p4)] [.int w0] μ := by
  unfold nX6_read_50 at h
  refine g_istore C [(5, .int w0), (0, .ref (Y.ad b)), (1, .int p1), (2, .int p2), (3, .int p3), (4, .int p4)] dX6_read_50 (by decide) rfl ?_
  refine g_iconst C (v := (0 : Int32)) dX6_read_52 (by decide) ?_
  refine g_istore C [(6, .int ((0 : Int32))), (5, .int w0), (0, .ref (Y.ad b)), (1, .int p1), (2, .int p2), (3, .int p3), (4, .int p4)] dX6_read_53 (by decide) rfl ?_
  refine g_iconst C (v := (0 : Int32)) dX6_read_55 (by decide) ?_
  refine g_istore C [(7, .int ((0 : Int32))), (6, .int ((0 : Int32))), (5, .int w0), (0, .ref (Y.ad b)), (1, .int p1), (2, .int p2), (3, .int p3), (4, .int p4)] dX6_read_56 (by decide) rfl ?_
  refine g_lv (lv2 := [(0, .ref (Y.ad b)), (1, .int p1), (2, .int p2), (3, .int p3), (4, .int p4), (5, .int w0), (6, .int ((0 : Int32))), (7, .int ((0 : Int32)))]) [3, 4, 5, 6, 7, 2, 1, 0] ?_ rfl
  exact h
set_option maxRecDepth 20000 in
set_option maxHeartbeats 4000000 in
theorem tX6_read_120 {X : XT} {Y : YT} {l0 : Launch} {b : Nat} {p1 : Int32} {p2 : Int32} {p3 : Int32} {p4 : Int32} {Q : Int32 → Mem → Prop} (C : Cx X Y 8 cX6_read RX6 WX6_read (rmB 3 66) l0) (hr : RI X Y cX6_read .int Q) (hI : YI Y) (h0 : isX6 Y b) (v5 : Int32) (v6 : Int32) (v7 : Int32) (μ : Mem) (h : nX6_read_120 b p1 p2 p3 p4 Q (SX6_read_58 X Y b p1 p2 p3 p4) (SX6_read_129 X Y b p1 p2 p3 p4) v5 v6 v7 μ) : G X Y 8 120 [(0, .ref (Y.ad b)), (1, .int p1), (2, .int p2), (3, .int p3), (4, .int p4), (5, .int v5), (6, .int v6), (7, .int v7)] [] μ := by
  unfold nX6_read_120 at h
  refine g_iinc C (v := v7 + 1) 7 [(7, .int (v7 + 1)), (0, .ref (Y.ad b)), (1, .int p1), (2, .int p2), (3, .int p3), (4, .int p4), (5, .int v5), (6, .int v6)] dX6_read_120 rfl rfl (by decide) rfl ?_
  refine g_goto C 58 dX6_read_123 (by decide) ?_
  refine g_lv (lv2 := [(0, .ref (Y.ad b)), (1, .int p1), (2, .int p2), (3, .int p3), (4, .int p4), (5, .int v5), (6, .int v6), (7, .int (v7 + 1))]) [1, 2, 3, 4, 5, 6, 7, 0] ?_ rfl
  exact h
set_option maxRecDepth 20000 in
set_option maxHeartbeats 4000000 in
theorem tX6_read_126 {X : XT} {Y : YT} {l0 : Launch} {b : Nat} {p1 : Int32} {p2 : Int32} {p3 : Int32} {p4 : Int32} {Q : Int32 → Mem → Prop} (C : Cx X Y 8 cX6_read RX6 WX6_read (rmB 3 66) l0) (hr : RI X Y cX6_read .int Q) (hI : YI Y) (h0 : isX6 Y b) (v5 : Int32) (v6 : Int32) (μ : Mem) (h : nX6_read_126 b p1 p2 p3 p4 Q (SX6_read_58 X Y b p1 p2 p3 p4) (SX6_read_129 X Y b p1 p2 p3 p4) v5 v6 μ) : G X Y 8 126 [(0, .ref (Y.ad b)), (1, .int p1), (2, .int p2), (3, .int p3), (4, .int p4), (5, .int v5), (6, .int v6)] [] μ := by
  unfold nX6_read_126 at h
  refine g_iconst C (v := (0 : Int32)) dX6_read_126 (by decide) ?_
  refine g_istore C [(7, .int ((0 : Int32))), (0, .ref (Y.ad b)), (1, .int p1), (2, .int p2), (3, .int p3), (4, .int p4), (5, .int v5), (6, .int v6)] dX6_read_127 (by decide) rfl ?_
  refine g_lv (lv2 := [(0, .ref (Y.ad b)), (1, .int p1), (2, .int p2), (3, .int p3), (4, .int p4), (5, .int v5), (6, .int v6), (7, .int ((0 : Int32)))]) [1, 2, 3, 4, 5, 6, 7, 0] ?_ rfl
  exact h
set_option maxRecDepth 20000 in
set_option maxHeartbeats 4000000 in
theorem tX6_read_58 {X : XT} {Y : YT} {l0 : Launch} {b : Nat} {p1 : Int32} {p2 : Int32} {p3 : Int32} {p4 : Int32} {Q : Int32 → Mem → Prop} (C : Cx X Y 8 cX6_read RX6 WX6_read (rmB 3 66) l0) (hr : RI X Y cX6_read .int Q) (hI : YI Y) (h0 : isX6 Y b) (v5 : Int32) (v6 : Int32) (v7 : Int32) (μ : Mem) (h : nX6_read_58 b p1 p2 p3 p4 Q (SX6_read_58 X Y b p1 p2 p3 p4) (SX6_read_129 X Y b p1 p2 p3 p4) v5 v6 v7 μ) : G X Y 8 58 [(0, .ref (Y.ad b)), (1, .int p1), (2, .int p2), (3, .int p3), (4, .int p4), (5, .int v5), (6, .int v6), (7, .int v7)] [] μ := by
  unfold nX6_read_58 at h
  refine g_iload C 7 dX6_read_58 rfl ?_
  refine g_iload C 4 dX6_read_60 rfl ?_
  refine g_icmp_ge C 126 dX6_read_62 (by decide) (fun c10 => ?_) (fun c10 => ?_)
  · replace h := h.1 c10
    refine g_lv (lv2 := [(0, .ref (Y.ad b)), (1, .int p1), (2, .int p2), (3, .int p3), (4, .int p4), (5, .int v5), (6, .int v6)]) [0, 1, 2, 3, 4, 5, 6] ?_ rfl
    exact tX6_read_126 C hr hI h0 _ _ _ h
  · replace h := h.2 c10
    refine g_iload C 5 dX6_read_65 rfl ?_
    refine g_if_ne C 126 dX6_read_67 (by decide) (fun c11 => ?_) (fun c11 => ?_)
    · replace h := h.1 c11
      refine g_lv (lv2 := [(0, .ref (Y.ad b)), (1, .int p1), (2, .int p2), (3, .int p3), (4, .int p4), (5, .int v5), (6, .int v6)]) [0, 1, 2, 3, 4, 5, 6] ?_ rfl
      exact tX6_read_126 C hr hI h0 _ _ _ h
    · replace h := h.2 c11
      refine g_aload_n C 0 dX6_read_70 rfl ?_
      refine gf_RX6_69 C h0 dX6_read_71 ?_
      refine g_iload_n C 1 dX6_read_74 rfl ?_
      refine g_iload_n C 3 dX6_read_75 rfl ?_
      refine g_i2l C dX6_read_76 ?_
      refine g_ldc2 C (v := (3 : Int64)) (List.mem_cons_of_mem _ mL_RX6_320) dX6_read_77 ?_
      refine g_iload C 7 dX6_read_80 rfl ?_
      refine g_i2l C dX6_read_82 ?_
      refine g_lmul C dX6_read_83 ?_
      refine g_ladd C dX6_read_84 ?_
      refine g_callVI C [.int p1, .long (p3.toInt64 + (((3 : Int64)) * v7.toInt64))] [] (ok_X4_isLotWhole hI (isX6_sheets h0) h) (cw_RX6_322 _) rfl dc_X4_isLotWhole ⟨Nat.le_of_ble_eq_true rfl, Nat.le_of_ble_eq_true rfl⟩ (isX4_lt (isX6_sheets h0)) (isX4_sh (isX6_sheets h0)) rfl rfl rfl rfl (Nat.le_of_ble_eq_true rfl) dX6_read_85 (fun r13 m12 h => ?_)
      refine g_if_ne C 97 dX6_read_88 (by decide) (fun c14 => ?_) (fun c14 => ?_)
      · replace h := h.1 c14
        refine g_aload_n C 0 dX6_read_97 rfl ?_
        refine g_iload_n C 1 dX6_read_98 rfl ?_
        refine g_iload_n C 3 dX6_read_99 rfl ?_
        refine g_iconst C (v := (3 : Int32)) dX6_read_100 (by decide) ?_
        refine g_iload C 7 dX6_read_101 rfl ?_
        refine g_imul C dX6_read_103 ?_
        refine g_iadd C dX6_read_104 ?_
        refine g_callVI C [.int p1, .int (p3 + (((3 : Int32)) * v7))] [] (ok_X6_canPutLot hI h0 h) (cw_RX6_326 _) rfl dc_X6_canPutLot ⟨Nat.le_of_ble_eq_true rfl, Nat.le_of_ble_eq_true rfl⟩ (isX6_lt h0) (isX6_sh h0) rfl rfl rfl rfl (Nat.le_of_ble_eq_true rfl) dX6_read_105 (fun r16 m15 h => ?_)
        refine g_if_ne C 117 dX6_read_108 (by decide) (fun c17 => ?_) (fun c17 => ?_)
        · replace h := h.1 c17
          refine g_iinc C (v := v6 + 1) 6 [(6, .int (v6 + 1)), (0, .ref (Y.ad b)), (1, .int p1), (2, .int p2), (3, .int p3), (4, .int p4), (5, .int v5), (7, .int v7)] dX6_read_117 rfl rfl (by decide) rfl ?_
          refine g_lv (lv2 := [(0, .ref (Y.ad b)), (1, .int p1), (2, .int p2), (3, .int p3), (4, .int p4), (5, .int v5), (6, .int (v6 + 1)), (7, .int v7)]) [1, 2, 3, 4, 5, 6, 0, 7] ?_ rfl
          exact tX6_read_120 C hr hI h0 _ _ _ _ h
        · replace h := h.2 c17
          refine g_bipush C (v := (-20 : Int32)) dX6_read_111 (by decide) ?_
          refine g_iload C 7 dX6_read_113 rfl ?_
          refine g_isub C dX6_read_115 ?_
          exact hr _ _ _ _ _ dX6_read_116 rfl h
      · replace h := h.2 c14
        refine g_iconst C (v := (2 : Int32)) dX6_read_91 (by decide) ?_
        refine g_istore C [(5, .int ((2 : Int32))), (0, .ref (Y.ad b)), (1, .int p1), (2, .int p2), (3, .int p3), (4, .int p4), (6, .int v6), (7, .int v7)] dX6_read_92 (by decide) rfl ?_
        refine g_goto C 120 dX6_read_94 (by decide) ?_
        refine g_lv (lv2 := [(0, .ref (Y.ad b)), (1, .int p1), (2, .int p2), (3, .int p3), (4, .int p4), (5, .int ((2 : Int32))), (6, .int v6), (7, .int v7)]) [1, 2, 3, 4, 5, 0, 6, 7] ?_ rfl
        exact tX6_read_120 C hr hI h0 _ _ _ _ h
set_option maxRecDepth 20000 in
set_option maxHeartbeats 4000000 in
theorem tX6_read_129 {X : XT} {Y : YT} {l0 : Launch} {b : Nat} {p1 : Int32} {p2 : Int32} {p3 : Int32} {p4 : Int32} {Q : Int32 → Mem → Prop} (C : Cx X Y 8 cX6_read RX6 WX6_read (rmB 3 66) l0) (hr : RI X Y cX6_read .int Q) (hI : YI Y) (h0 : isX6 Y b) (v5 : Int32) (v6 : Int32) (v7 : Int32) (μ : Mem) (h : nX6_read_129 b p1 p2 p3 p4 Q (SX6_read_58 X Y b p1 p2 p3 p4) (SX6_read_129 X Y b p1 p2 p3 p4) v5 v6 v7 μ) : G X Y 8 129 [(0, .ref (Y.ad b)), (1, .int p1), (2, .int p2), (3, .int p3), (4, .int p4), (5, .int v5), (6, .int v6), (7, .int v7)] [] μ := by
  unfold nX6_read_129 at h
  refine g_iload C 7 dX6_read_129 rfl ?_
  refine g_iload C 6 dX6_read_131 rfl ?_
  refine g_icmp_ge C 153 dX6_read_133 (by decide) (fun c18 => ?_) (fun c18 => ?_)
  · replace h := h.1 c18
    refine g_aload_n C 0 dX6_read_153 rfl ?_
    refine g_iload C 5 dX6_read_154 rfl ?_
    refine gp_RX6_73 C h0 dX6_read_156 ?_
    refine g_iload C 6 dX6_read_159 rfl ?_
    exact hr _ _ _ _ _ dX6_read_161 rfl h
  · replace h := h.2 c18
    refine g_aload_n C 0 dX6_read_136 rfl ?_
    refine g_iload_n C 1 dX6_read_137 rfl ?_
    refine g_iload_n C 3 dX6_read_138 rfl ?_
    refine g_iconst C (v := (3 : Int32)) dX6_read_139 (by decide) ?_
    refine g_iload C 7 dX6_read_140 rfl ?_
    refine g_imul C dX6_read_142 ?_
    refine g_iadd C dX6_read_143 ?_
    refine g_callVV C [.int p1, .int (p3 + (((3 : Int32)) * v7))] [] (ok_X6_putLot hI h0 h) (cw_RX6_329 _) rfl dc_X6_putLot ⟨Nat.le_of_ble_eq_true rfl, Nat.le_of_ble_eq_true rfl⟩ (isX6_lt h0) (isX6_sh h0) rfl rfl rfl rfl (Nat.le_of_ble_eq_true rfl) dX6_read_144 (fun m19 h => ?_)
    refine g_iinc C (v := v7 + 1) 7 [(7, .int (v7 + 1)), (0, .ref (Y.ad b)), (1, .int p1), (2, .int p2), (3, .int p3), (4, .int p4), (5, .int v5), (6, .int v6)] dX6_read_147 rfl rfl (by decide) rfl ?_
    refine g_goto C 129 dX6_read_150 (by decide) ?_
    refine g_lv (lv2 := [(0, .ref (Y.ad b)), (1, .int p1), (2, .int p2), (3, .int p3), (4, .int p4), (5, .int v5), (6, .int v6), (7, .int (v7 + 1))]) [1, 2, 3, 4, 5, 6, 7, 0] ?_ rfl
    exact h
set_option maxRecDepth 20000 in
set_option maxHeartbeats 4000000 in
theorem ok_X6_read {Y : YT} {l0 : Launch} {b : Nat} {p1 : Int32} {p2 : Int32} {p3 : Int32} {p4 : Int32} {μ : Mem} {Q : Int32 → Mem → Prop} (hI : YI Y) (h0 : isX6 Y b) (h : PX6_read b p1 p2 p3 p4 μ Q) : MI l0 yX6_read WX6_read 3 66 Y [.ref (Y.ad b), .int p1, .int p2, .int p3, .int p4] μ Q := by
  refine mI_of (ty := .int) (cc := cX6_read) (maxL := 8) (by decide +kernel) rfl hI (Nat.le_of_ble_eq_true rfl) (fun X C hr => ?_)
  replace C : Cx X Y 8 cX6_read RX6 WX6_read (rmB 3 66) l0 := C
  refine g_lv (lv2 := [(0, .ref (Y.ad b)), (1, .int p1), (2, .int p2), (3, .int p3), (4, .int p4)]) [0, 1, 2, 3, 4] ?_ rfl
  unfold PX6_read at h
  replace h := h (SX6_read_58 X Y b p1 p2 p3 p4) (SX6_read_129 X Y b p1 p2 p3 p4) (fun v5 v6 v7 μ z => tX6_read_58 C hr hI h0 v5 v6 v7 μ z) (fun v5 v6 v7 μ z => tX6_read_129 C hr hI h0 v5 v6 v7 μ z)
  refine g_iload_n C 1 dX6_read_0 rfl ?_
  refine g_if_lt C 30 dX6_read_1 (by decide) (fun c1 => ?_) (fun c1 => ?_)
  · replace h := h.1 c1
    refine g_iconst C (v := (-1 : Int32)) dX6_read_30 (by decide) ?_
    exact hr _ _ _ _ _ dX6_read_31 rfl h
  · replace h := h.2 c1
    refine g_iload_n C 1 dX6_read_4 rfl ?_
    refine g_iconst C (v := (4 : Int32)) dX6_read_5 (by decide) ?_
    refine g_icmp_ge C 30 dX6_read_6 (by decide) (fun c2 => ?_) (fun c2 => ?_)
    · replace h := h.1 c2
      refine g_iconst C (v := (-1 : Int32)) dX6_read_30 (by decide) ?_
      exact hr _ _ _ _ _ dX6_read_31 rfl h
    · replace h := h.2 c2
      refine g_iload_n C 2 dX6_read_9 rfl ?_
      refine g_if_lt C 30 dX6_read_10 (by decide) (fun c3 => ?_) (fun c3 => ?_)
      · replace h := h.1 c3
        refine g_iconst C (v := (-1 : Int32)) dX6_read_30 (by decide) ?_
        exact hr _ _ _ _ _ dX6_read_31 rfl h
      · replace h := h.2 c3
        refine g_iload_n C 2 dX6_read_13 rfl ?_
        refine g_iconst C (v := (3 : Int32)) dX6_read_14 (by decide) ?_
        refine g_icmp_ge C 30 dX6_read_15 (by decide) (fun c4 => ?_) (fun c4 => ?_)
        · replace h := h.1 c4
          refine g_iconst C (v := (-1 : Int32)) dX6_read_30 (by decide) ?_
          exact hr _ _ _ _ _ dX6_read_31 rfl h
        · replace h := h.2 c4
          refine g_iload C 4 dX6_read_18 rfl ?_
          refine g_if_lt C 30 dX6_read_20 (by decide) (fun c5 => ?_) (fun c5 => ?_)
          · replace h := h.1 c5
            refine g_iconst C (v := (-1 : Int32)) dX6_read_30 (by decide) ?_
            exact hr _ _ _ _ _ dX6_read_31 rfl h
          · replace h := h.2 c5
            refine g_iload C 4 dX6_read_23 rfl ?_
            refine g_bipush C (v := (12 : Int32)) dX6_read_25 (by decide) ?_
            refine g_icmp_le C 32 dX6_read_27 (by decide) (fun c6 => ?_) (fun c6 => ?_)
            · replace h := h.1 c6
              refine g_iload C 4 dX6_read_32 rfl ?_
              refine g_if_ne C 41 dX6_read_34 (by decide) (fun c7 => ?_) (fun c7 => ?_)
              · replace h := h.1 c7
                refine g_aload_n C 0 dX6_read_41 rfl ?_
                refine gf_RX6_69 C h0 dX6_read_42 ?_
                refine g_iload_n C 1 dX6_read_45 rfl ?_
                refine g_iload_n C 2 dX6_read_46 rfl ?_
                refine g_callVI C [.int p1, .int p2] [] (ok_X4_faultAsOf hI (isX6_sheets h0) h) (cw_RX6_317 _) rfl dc_X4_faultAsOf ⟨Nat.le_of_ble_eq_true rfl, Nat.le_of_ble_eq_true rfl⟩ (isX4_lt (isX6_sheets h0)) (isX4_sh (isX6_sheets h0)) rfl rfl rfl rfl (Nat.le_of_ble_eq_true rfl) dX6_read_47 (fun r9 m8 h => ?_)
                exact tX6_read_50 C hr hI h0 _ _ h
              · replace h := h.2 c7
                refine g_iconst C (v := (0 : Int32)) dX6_read_37 (by decide) ?_
                refine g_goto C 50 dX6_read_38 (by decide) ?_
                exact tX6_read_50 C hr hI h0 _ _ h
            · replace h := h.2 c6
              refine g_iconst C (v := (-1 : Int32)) dX6_read_30 (by decide) ?_
              exact hr _ _ _ _ _ dX6_read_31 rfl h
