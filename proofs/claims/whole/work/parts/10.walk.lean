set_option maxRecDepth 20000 in
set_option maxHeartbeats 4000000 in
theorem ok_X0_resetSums {Y : YT} {l0 : Launch} {b : Nat} {μ : Mem} {Q : Mem → Prop} (hI : YI Y) (h0 : isX0 Y b) (h : PX0_resetSums b μ Q) : MV l0 yX0_resetSums WX0_resetSums 0 0 Y [.ref (Y.ad b)] μ Q := by
  refine mV_of (cc := cX0_resetSums) (maxL := 1) (by decide +kernel) rfl hI (Nat.le_of_ble_eq_true rfl) (fun X C hr => ?_)
  replace C : Cx X Y 1 cX0_resetSums RX0 WX0_resetSums (rmB 0 0) l0 := C
  refine g_lv (lv2 := [(0, .ref (Y.ad b))]) [0] ?_ rfl
  unfold PX0_resetSums at h
  refine g_aload_n C 0 dX0_resetSums_0 rfl ?_
  refine g_iconst C (v := (0 : Int32)) dX0_resetSums_1 (by decide) ?_
  refine gp_RX0_34 C h0 dX0_resetSums_2 ?_
  refine g_aload_n C 0 dX0_resetSums_5 rfl ?_
  refine g_iconst C (v := (0 : Int32)) dX0_resetSums_6 (by decide) ?_
  refine gp_RX0_37 C h0 dX0_resetSums_7 ?_
  refine g_mem (fun m1 em1 => ?_)
  replace h := h m1 em1
  refine g_aload_n C 0 dX0_resetSums_10 rfl ?_
  refine g_iconst C (v := (0 : Int32)) dX0_resetSums_11 (by decide) ?_
  refine gp_RX0_40 C h0 dX0_resetSums_12 ?_
  exact hr _ _ _ _ dX0_resetSums_15 h
def SX0_reset_2 (X : XT) (Y : YT) (b : Nat) : Int32 → Mem → Prop := fun v1 μ => G X Y 2 2 [(0, .ref (Y.ad b)), (1, .int v1)] [] μ
def SX0_reset_23 (X : XT) (Y : YT) (b : Nat) : Int32 → Mem → Prop := fun v1 μ => G X Y 2 23 [(0, .ref (Y.ad b)), (1, .int v1)] [] μ
set_option maxRecDepth 20000 in
set_option maxHeartbeats 4000000 in
theorem tX0_reset_2 {X : XT} {Y : YT} {l0 : Launch} {b : Nat} {Q : Mem → Prop} (C : Cx X Y 2 cX0_reset RX0 WX0_reset (rmB 1 20) l0) (hr : RV X Y cX0_reset Q) (hI : YI Y) (h0 : isX0 Y b) (v1 : Int32) (μ : Mem) (h : nX0_reset_2 b Q (SX0_reset_2 X Y b) (SX0_reset_23 X Y b) v1 μ) : G X Y 2 2 [(0, .ref (Y.ad b)), (1, .int v1)] [] μ := by
  unfold nX0_reset_2 at h
  refine g_iload_n C 1 dX0_reset_2 rfl ?_
  refine g_bipush C (v := (24 : Int32)) dX0_reset_3 (by decide) ?_
  refine g_icmp_ge C 21 dX0_reset_5 (by decide) (fun c1 => ?_) (fun c1 => ?_)
  · replace h := h.1 c1
    refine g_iconst C (v := (0 : Int32)) dX0_reset_21 (by decide) ?_
    refine g_istore_n C [(1, .int ((0 : Int32))), (0, .ref (Y.ad b))] dX0_reset_22 (by decide) rfl ?_
    refine g_lv (lv2 := [(0, .ref (Y.ad b)), (1, .int ((0 : Int32)))]) [1, 0] ?_ rfl
    exact h
  · replace h := h.2 c1
    refine g_aload_n C 0 dX0_reset_8 rfl ?_
    refine gf_RX0_9 C h0 dX0_reset_9 ?_
    refine g_iload_n C 1 dX0_reset_12 rfl ?_
    refine g_iconst C (v := (0 : Int32)) dX0_reset_13 (by decide) ?_
    refine g_iast C (isX0_units h0).1 (isX0_units h0).2 h.1 dX0_reset_14 ?_
    replace h := h.2
    refine g_iinc C (v := v1 + 1) 1 [(1, .int (v1 + 1)), (0, .ref (Y.ad b))] dX0_reset_15 rfl rfl (by decide) rfl ?_
    refine g_goto C 2 dX0_reset_18 (by decide) ?_
    refine g_lv (lv2 := [(0, .ref (Y.ad b)), (1, .int (v1 + 1))]) [1, 0] ?_ rfl
    exact h
set_option maxRecDepth 20000 in
set_option maxHeartbeats 4000000 in
theorem tX0_reset_23 {X : XT} {Y : YT} {l0 : Launch} {b : Nat} {Q : Mem → Prop} (C : Cx X Y 2 cX0_reset RX0 WX0_reset (rmB 1 20) l0) (hr : RV X Y cX0_reset Q) (hI : YI Y) (h0 : isX0 Y b) (v1 : Int32) (μ : Mem) (h : nX0_reset_23 b Q (SX0_reset_2 X Y b) (SX0_reset_23 X Y b) v1 μ) : G X Y 2 23 [(0, .ref (Y.ad b)), (1, .int v1)] [] μ := by
  unfold nX0_reset_23 at h
  refine g_iload_n C 1 dX0_reset_23 rfl ?_
  refine g_bipush C (v := (8 : Int32)) dX0_reset_24 (by decide) ?_
  refine g_icmp_gt C 43 dX0_reset_26 (by decide) (fun c2 => ?_) (fun c2 => ?_)
  · replace h := h.1 c2
    refine g_aload_n C 0 dX0_reset_43 rfl ?_
    refine g_iconst C (v := (0 : Int32)) dX0_reset_44 (by decide) ?_
    refine gp_RX0_24 C h0 dX0_reset_45 ?_
    refine g_aload_n C 0 dX0_reset_48 rfl ?_
    refine g_bipush C (v := (-4 : Int32)) dX0_reset_49 (by decide) ?_
    refine gp_RX0_28 C h0 dX0_reset_51 ?_
    refine g_mem (fun m3 em3 => ?_)
    replace h := h m3 em3
    refine g_aload_n C 0 dX0_reset_54 rfl ?_
    refine g_callVV C [] [] (ok_X0_resetSums hI h0 h) (cw_RX0_31 _) rfl dc_X0_resetSums ⟨Nat.le_of_ble_eq_true rfl, Nat.le_of_ble_eq_true rfl⟩ (isX0_lt h0) (isX0_sh h0) rfl rfl rfl rfl (Nat.le_of_ble_eq_true rfl) dX0_reset_55 (fun m4 h => ?_)
    exact hr _ _ _ _ dX0_reset_58 h
  · replace h := h.2 c2
    refine g_aload_n C 0 dX0_reset_29 rfl ?_
    refine gf_RX0_15 C h0 dX0_reset_30 ?_
    refine g_iload_n C 1 dX0_reset_33 rfl ?_
    refine g_bipush C (v := (-4 : Int32)) dX0_reset_34 (by decide) ?_
    refine g_iast C (isX0_eatenLast h0).1 (isX0_eatenLast h0).2 h.1 dX0_reset_36 ?_
    replace h := h.2
    refine g_iinc C (v := v1 + 1) 1 [(1, .int (v1 + 1)), (0, .ref (Y.ad b))] dX0_reset_37 rfl rfl (by decide) rfl ?_
    refine g_goto C 23 dX0_reset_40 (by decide) ?_
    refine g_lv (lv2 := [(0, .ref (Y.ad b)), (1, .int (v1 + 1))]) [1, 0] ?_ rfl
    exact h
set_option maxRecDepth 20000 in
set_option maxHeartbeats 4000000 in
theorem ok_X0_reset {Y : YT} {l0 : Launch} {b : Nat} {μ : Mem} {Q : Mem → Prop} (hI : YI Y) (h0 : isX0 Y b) (h : PX0_reset b μ Q) : MV l0 yX0_reset WX0_reset 1 20 Y [.ref (Y.ad b)] μ Q := by
  refine mV_of (cc := cX0_reset) (maxL := 2) (by decide +kernel) rfl hI (Nat.le_of_ble_eq_true rfl) (fun X C hr => ?_)
  replace C : Cx X Y 2 cX0_reset RX0 WX0_reset (rmB 1 20) l0 := C
  refine g_lv (lv2 := [(0, .ref (Y.ad b))]) [0] ?_ rfl
  unfold PX0_reset at h
  replace h := h (SX0_reset_2 X Y b) (SX0_reset_23 X Y b) (fun v1 μ z => tX0_reset_2 C hr hI h0 v1 μ z) (fun v1 μ z => tX0_reset_23 C hr hI h0 v1 μ z)
  refine g_iconst C (v := (0 : Int32)) dX0_reset_0 (by decide) ?_
  refine g_istore_n C [(1, .int ((0 : Int32))), (0, .ref (Y.ad b))] dX0_reset_1 (by decide) rfl ?_
  refine g_lv (lv2 := [(0, .ref (Y.ad b)), (1, .int ((0 : Int32)))]) [1, 0] ?_ rfl
  exact h
set_option maxRecDepth 20000 in
set_option maxHeartbeats 4000000 in
theorem ok_X0_copyFrom {Y : YT} {l0 : Launch} {b : Nat} {r1 : Nat} {μ : Mem} {Q : Mem → Prop} (hI : YI Y) (h0 : isX0 Y b) (h1 : isX0 Y r1) (h : PX0_copyFrom b r1 μ Q) : MV l0 yX0_copyFrom WX0_copyFrom 1 18 Y [.ref (Y.ad b), .ref (Y.ad r1)] μ Q := by
  refine mV_of (cc := cX0_copyFrom) (maxL := 2) (by decide +kernel) rfl hI (Nat.le_of_ble_eq_true rfl) (fun X C hr => ?_)
  replace C : Cx X Y 2 cX0_copyFrom RX0 WX0_copyFrom (rmB 1 18) l0 := C
  refine g_lv (lv2 := [(0, .ref (Y.ad b)), (1, .ref (Y.ad r1))]) [0, 1] ?_ rfl
  unfold PX0_copyFrom at h
  refine g_aload_n C 1 dX0_copyFrom_0 rfl ?_
  refine gf_RX0_9 C h1 dX0_copyFrom_1 ?_
  refine g_iconst C (v := (0 : Int32)) dX0_copyFrom_4 (by decide) ?_
  refine g_aload_n C 0 dX0_copyFrom_5 rfl ?_
  refine gf_RX0_9 C h0 dX0_copyFrom_6 ?_
  refine g_iconst C (v := (0 : Int32)) dX0_copyFrom_9 (by decide) ?_
  refine g_bipush C (v := (24 : Int32)) dX0_copyFrom_10 (by decide) ?_
  refine g_copy C (List.mem_cons_of_mem _ mM_RX0_43) (List.mem_cons_of_mem _ mLib_copy_n) (List.mem_cons_of_mem _ mLib_copy_s) (List.mem_cons_of_mem _ mLib_sys) (isX0_units h1).1 (isX0_units h0).1 (isX0_units h1).2 (isX0_units h0).2 (by decide) (by decide) (by decide) (by decide) (by decide) (Nat.le_of_ble_eq_true rfl) (Nat.le_of_ble_eq_true rfl) dX0_copyFrom_12 ?_
  refine g_mem (fun m1 em1 => ?_)
  replace h := h m1 em1
  refine g_aload_n C 1 dX0_copyFrom_15 rfl ?_
  refine gf_RX0_15 C h1 dX0_copyFrom_16 ?_
  refine g_iconst C (v := (0 : Int32)) dX0_copyFrom_19 (by decide) ?_
  refine g_aload_n C 0 dX0_copyFrom_20 rfl ?_
  refine gf_RX0_15 C h0 dX0_copyFrom_21 ?_
  refine g_iconst C (v := (0 : Int32)) dX0_copyFrom_24 (by decide) ?_
  refine g_bipush C (v := (9 : Int32)) dX0_copyFrom_25 (by decide) ?_
  refine g_copy C (List.mem_cons_of_mem _ mM_RX0_43) (List.mem_cons_of_mem _ mLib_copy_n) (List.mem_cons_of_mem _ mLib_copy_s) (List.mem_cons_of_mem _ mLib_sys) (isX0_eatenLast h1).1 (isX0_eatenLast h0).1 (isX0_eatenLast h1).2 (isX0_eatenLast h0).2 (by decide) (by decide) (by decide) (by decide) (by decide) (Nat.le_of_ble_eq_true rfl) (Nat.le_of_ble_eq_true rfl) dX0_copyFrom_27 ?_
  refine g_mem (fun m2 em2 => ?_)
  replace h := h m2 em2
  refine g_aload_n C 0 dX0_copyFrom_30 rfl ?_
  refine g_aload_n C 1 dX0_copyFrom_31 rfl ?_
  refine gf_RX0_24 C h1 dX0_copyFrom_32 ?_
  refine gp_RX0_24 C h0 dX0_copyFrom_35 ?_
  refine g_aload_n C 0 dX0_copyFrom_38 rfl ?_
  refine g_aload_n C 1 dX0_copyFrom_39 rfl ?_
  refine gf_RX0_28 C h1 dX0_copyFrom_40 ?_
  refine gp_RX0_28 C h0 dX0_copyFrom_43 ?_
  refine g_mem (fun m3 em3 => ?_)
  replace h := h m3 em3
  refine g_aload_n C 0 dX0_copyFrom_46 rfl ?_
  refine g_aload_n C 1 dX0_copyFrom_47 rfl ?_
  refine gf_RX0_34 C h1 dX0_copyFrom_48 ?_
  refine gp_RX0_34 C h0 dX0_copyFrom_51 ?_
  refine g_aload_n C 0 dX0_copyFrom_54 rfl ?_
  refine g_aload_n C 1 dX0_copyFrom_55 rfl ?_
  refine gf_RX0_37 C h1 dX0_copyFrom_56 ?_
  refine gp_RX0_37 C h0 dX0_copyFrom_59 ?_
  refine g_mem (fun m4 em4 => ?_)
  replace h := h m4 em4
  refine g_aload_n C 0 dX0_copyFrom_62 rfl ?_
  refine g_aload_n C 1 dX0_copyFrom_63 rfl ?_
  refine gf_RX0_40 C h1 dX0_copyFrom_64 ?_
  refine gp_RX0_40 C h0 dX0_copyFrom_67 ?_
  exact hr _ _ _ _ dX0_copyFrom_70 h
set_option maxRecDepth 20000 in
set_option maxHeartbeats 4000000 in
theorem ok_X0_beginRow {Y : YT} {l0 : Launch} {b : Nat} {r1 : Nat} {μ : Mem} {Q : Mem → Prop} (hI : YI Y) (h0 : isX0 Y b) (h1 : isX0 Y r1) (h : PX0_beginRow b r1 μ Q) : MV l0 yX0_beginRow WX0_beginRow 2 39 Y [.ref (Y.ad b), .ref (Y.ad r1)] μ Q := by
  refine mV_of (cc := cX0_beginRow) (maxL := 2) (by decide +kernel) rfl hI (Nat.le_of_ble_eq_true rfl) (fun X C hr => ?_)
  replace C : Cx X Y 2 cX0_beginRow RX0 WX0_beginRow (rmB 2 39) l0 := C
  refine g_lv (lv2 := [(0, .ref (Y.ad b)), (1, .ref (Y.ad r1))]) [0, 1] ?_ rfl
  unfold PX0_beginRow at h
  refine g_aload_n C 0 dX0_beginRow_0 rfl ?_
  refine g_aload_n C 1 dX0_beginRow_1 rfl ?_
  refine g_callVV C [.ref (Y.ad r1)] [] (ok_X0_copyFrom hI h0 h1 h) (cw_RX0_49 _) rfl dc_X0_copyFrom ⟨Nat.le_of_ble_eq_true rfl, Nat.le_of_ble_eq_true rfl⟩ (isX0_lt h0) (isX0_sh h0) rfl rfl rfl rfl (Nat.le_of_ble_eq_true rfl) dX0_beginRow_2 (fun m1 h => ?_)
  refine g_aload_n C 0 dX0_beginRow_5 rfl ?_
  refine g_callVV C [] [] (ok_X0_resetSums hI h0 h) (cw_RX0_31 _) rfl dc_X0_resetSums ⟨Nat.le_of_ble_eq_true rfl, Nat.le_of_ble_eq_true rfl⟩ (isX0_lt h0) (isX0_sh h0) rfl rfl rfl rfl (Nat.le_of_ble_eq_true rfl) dX0_beginRow_6 (fun m3 h => ?_)
  exact hr _ _ _ _ dX0_beginRow_9 h
def SX0_hasSameLarder_2 (X : XT) (Y : YT) (b : Nat) (r1 : Nat) : Int32 → Mem → Prop := fun v2 μ => G X Y 3 2 [(0, .ref (Y.ad b)), (1, .ref (Y.ad r1)), (2, .int v2)] [] μ
set_option maxRecDepth 20000 in
set_option maxHeartbeats 4000000 in
theorem tX0_hasSameLarder_2 {X : XT} {Y : YT} {l0 : Launch} {b : Nat} {r1 : Nat} {Q : Int32 → Mem → Prop} (C : Cx X Y 3 cX0_hasSameLarder RX0 WX0_hasSameLarder (rmB 0 0) l0) (hr : RI X Y cX0_hasSameLarder .boolean Q) (hI : YI Y) (h0 : isX0 Y b) (h1 : isX0 Y r1) (v2 : Int32) (μ : Mem) (h : nX0_hasSameLarder_2 b r1 Q (SX0_hasSameLarder_2 X Y b r1) v2 μ) : G X Y 3 2 [(0, .ref (Y.ad b)), (1, .ref (Y.ad r1)), (2, .int v2)] [] μ := by
  unfold nX0_hasSameLarder_2 at h
  refine g_iload_n C 2 dX0_hasSameLarder_2 rfl ?_
  refine g_bipush C (v := (24 : Int32)) dX0_hasSameLarder_3 (by decide) ?_
  refine g_icmp_ge C 31 dX0_hasSameLarder_5 (by decide) (fun c1 => ?_) (fun c1 => ?_)
  · replace h := h.1 c1
    refine g_iconst C (v := (1 : Int32)) dX0_hasSameLarder_31 (by decide) ?_
    exact hr _ _ _ _ _ dX0_hasSameLarder_32 rfl h
  · replace h := h.2 c1
    refine g_aload_n C 0 dX0_hasSameLarder_8 rfl ?_
    refine gf_RX0_9 C h0 dX0_hasSameLarder_9 ?_
    refine g_iload_n C 2 dX0_hasSameLarder_12 rfl ?_
    refine g_iald C (isX0_units h0).1 (isX0_units h0).2 h.1 dX0_hasSameLarder_13 ?_
    replace h := h.2
    refine g_aload_n C 1 dX0_hasSameLarder_14 rfl ?_
    refine gf_RX0_9 C h1 dX0_hasSameLarder_15 ?_
    refine g_iload_n C 2 dX0_hasSameLarder_18 rfl ?_
    refine g_iald C (isX0_units h1).1 (isX0_units h1).2 h.1 dX0_hasSameLarder_19 ?_
    replace h := h.2
    refine g_icmp_eq C 25 dX0_hasSameLarder_20 (by decide) (fun c2 => ?_) (fun c2 => ?_)
    · replace h := h.1 c2
      refine g_iinc C (v := v2 + 1) 2 [(2, .int (v2 + 1)), (0, .ref (Y.ad b)), (1, .ref (Y.ad r1))] dX0_hasSameLarder_25 rfl rfl (by decide) rfl ?_
      refine g_goto C 2 dX0_hasSameLarder_28 (by decide) ?_
      refine g_lv (lv2 := [(0, .ref (Y.ad b)), (1, .ref (Y.ad r1)), (2, .int (v2 + 1))]) [1, 2, 0] ?_ rfl
      exact h
    · replace h := h.2 c2
      refine g_iconst C (v := (0 : Int32)) dX0_hasSameLarder_23 (by decide) ?_
      exact hr _ _ _ _ _ dX0_hasSameLarder_24 rfl h
set_option maxRecDepth 20000 in
set_option maxHeartbeats 4000000 in
theorem ok_X0_hasSameLarder {Y : YT} {l0 : Launch} {b : Nat} {r1 : Nat} {μ : Mem} {Q : Int32 → Mem → Prop} (hI : YI Y) (h0 : isX0 Y b) (h1 : isX0 Y r1) (h : PX0_hasSameLarder b r1 μ Q) : MI l0 yX0_hasSameLarder WX0_hasSameLarder 0 0 Y [.ref (Y.ad b), .ref (Y.ad r1)] μ Q := by
  refine mI_of (ty := .boolean) (cc := cX0_hasSameLarder) (maxL := 3) (by decide +kernel) rfl hI (Nat.le_of_ble_eq_true rfl) (fun X C hr => ?_)
  replace C : Cx X Y 3 cX0_hasSameLarder RX0 WX0_hasSameLarder (rmB 0 0) l0 := C
  refine g_lv (lv2 := [(0, .ref (Y.ad b)), (1, .ref (Y.ad r1))]) [0, 1] ?_ rfl
  unfold PX0_hasSameLarder at h
  replace h := h (SX0_hasSameLarder_2 X Y b r1) (fun v2 μ z => tX0_hasSameLarder_2 C hr hI h0 h1 v2 μ z)
  refine g_iconst C (v := (0 : Int32)) dX0_hasSameLarder_0 (by decide) ?_
  refine g_istore_n C [(2, .int ((0 : Int32))), (0, .ref (Y.ad b)), (1, .ref (Y.ad r1))] dX0_hasSameLarder_1 (by decide) rfl ?_
  refine g_lv (lv2 := [(0, .ref (Y.ad b)), (1, .ref (Y.ad r1)), (2, .int ((0 : Int32)))]) [1, 2, 0] ?_ rfl
  exact h
def SX0_unitsInAll_4 (X : XT) (Y : YT) (b : Nat) : Int32 → Int32 → Mem → Prop := fun v1 v2 μ => G X Y 3 4 [(0, .ref (Y.ad b)), (1, .int v1), (2, .int v2)] [] μ
set_option maxRecDepth 20000 in
set_option maxHeartbeats 4000000 in
theorem tX0_unitsInAll_4 {X : XT} {Y : YT} {l0 : Launch} {b : Nat} {Q : Int32 → Mem → Prop} (C : Cx X Y 3 cX0_unitsInAll RX0 WX0_unitsInAll (rmB 0 0) l0) (hr : RI X Y cX0_unitsInAll .int Q) (hI : YI Y) (h0 : isX0 Y b) (v1 : Int32) (v2 : Int32) (μ : Mem) (h : nX0_unitsInAll_4 b Q (SX0_unitsInAll_4 X Y b) v1 v2 μ) : G X Y 3 4 [(0, .ref (Y.ad b)), (1, .int v1), (2, .int v2)] [] μ := by
  unfold nX0_unitsInAll_4 at h
  refine g_iload_n C 2 dX0_unitsInAll_4 rfl ?_
  refine g_bipush C (v := (24 : Int32)) dX0_unitsInAll_5 (by decide) ?_
  refine g_icmp_ge C 25 dX0_unitsInAll_7 (by decide) (fun c1 => ?_) (fun c1 => ?_)
  · replace h := h.1 c1
    refine g_iload_n C 1 dX0_unitsInAll_25 rfl ?_
    exact hr _ _ _ _ _ dX0_unitsInAll_26 rfl h
  · replace h := h.2 c1
    refine g_iload_n C 1 dX0_unitsInAll_10 rfl ?_
    refine g_aload_n C 0 dX0_unitsInAll_11 rfl ?_
    refine gf_RX0_9 C h0 dX0_unitsInAll_12 ?_
    refine g_iload_n C 2 dX0_unitsInAll_15 rfl ?_
    refine g_iald C (isX0_units h0).1 (isX0_units h0).2 h.1 dX0_unitsInAll_16 ?_
    replace h := h.2
    refine g_iadd C dX0_unitsInAll_17 ?_
    refine g_istore_n C [(1, .int (v1 + (μ.1 (b + 1) v2.toNatClampNeg))), (0, .ref (Y.ad b)), (2, .int v2)] dX0_unitsInAll_18 (by decide) rfl ?_
    refine g_iinc C (v := v2 + 1) 2 [(2, .int (v2 + 1)), (1, .int (v1 + (μ.1 (b + 1) v2.toNatClampNeg))), (0, .ref (Y.ad b))] dX0_unitsInAll_19 rfl rfl (by decide) rfl ?_
    refine g_goto C 4 dX0_unitsInAll_22 (by decide) ?_
    refine g_lv (lv2 := [(0, .ref (Y.ad b)), (1, .int (v1 + (μ.1 (b + 1) v2.toNatClampNeg))), (2, .int (v2 + 1))]) [2, 1, 0] ?_ rfl
    exact h
set_option maxRecDepth 20000 in
set_option maxHeartbeats 4000000 in
theorem ok_X0_unitsInAll {Y : YT} {l0 : Launch} {b : Nat} {μ : Mem} {Q : Int32 → Mem → Prop} (hI : YI Y) (h0 : isX0 Y b) (h : PX0_unitsInAll b μ Q) : MI l0 yX0_unitsInAll WX0_unitsInAll 0 0 Y [.ref (Y.ad b)] μ Q := by
  refine mI_of (ty := .int) (cc := cX0_unitsInAll) (maxL := 3) (by decide +kernel) rfl hI (Nat.le_of_ble_eq_true rfl) (fun X C hr => ?_)
  replace C : Cx X Y 3 cX0_unitsInAll RX0 WX0_unitsInAll (rmB 0 0) l0 := C
  refine g_lv (lv2 := [(0, .ref (Y.ad b))]) [0] ?_ rfl
  unfold PX0_unitsInAll at h
  replace h := h (SX0_unitsInAll_4 X Y b) (fun v1 v2 μ z => tX0_unitsInAll_4 C hr hI h0 v1 v2 μ z)
  refine g_iconst C (v := (0 : Int32)) dX0_unitsInAll_0 (by decide) ?_
  refine g_istore_n C [(1, .int ((0 : Int32))), (0, .ref (Y.ad b))] dX0_unitsInAll_1 (by decide) rfl ?_
  refine g_iconst C (v := (0 : Int32)) dX0_unitsInAll_2 (by decide) ?_
  refine g_istore_n C [(2, .int ((0 : Int32))), (1, .int ((0 : Int32))), (0, .ref (Y.ad b))] dX0_unitsInAll_3 (by decide) rfl ?_
  refine g_lv (lv2 := [(0, .ref (Y.ad b)), (1, .int ((0 : Int32))), (2, .int ((0 : Int32)))]) [2, 1, 0] ?_ rfl
  exact h
def SX0_unitsOf_4 (X : XT) (Y : YT) (b : Nat) (p1 : Int32) : Int32 → Int32 → Mem → Prop := fun v2 v3 μ => G X Y 4 4 [(0, .ref (Y.ad b)), (1, .int p1), (2, .int v2), (3, .int v3)] [] μ
set_option maxRecDepth 20000 in
set_option maxHeartbeats 4000000 in
theorem tX0_unitsOf_4 {X : XT} {Y : YT} {l0 : Launch} {b : Nat} {p1 : Int32} {Q : Int32 → Mem → Prop} (C : Cx X Y 4 cX0_unitsOf RX0 WX0_unitsOf (rmB 0 0) l0) (hr : RI X Y cX0_unitsOf .int Q) (hI : YI Y) (h0 : isX0 Y b) (v2 : Int32) (v3 : Int32) (μ : Mem) (h : nX0_unitsOf_4 b p1 Q (SX0_unitsOf_4 X Y b p1) v2 v3 μ) : G X Y 4 4 [(0, .ref (Y.ad b)), (1, .int p1), (2, .int v2), (3, .int v3)] [] μ := by
  unfold nX0_unitsOf_4 at h
  refine g_iload_n C 3 dX0_unitsOf_4 rfl ?_
  refine g_iconst C (v := (4 : Int32)) dX0_unitsOf_5 (by decide) ?_
  refine g_icmp_ge C 28 dX0_unitsOf_6 (by decide) (fun c1 => ?_) (fun c1 => ?_)
  · replace h := h.1 c1
    refine g_iload_n C 2 dX0_unitsOf_28 rfl ?_
    exact hr _ _ _ _ _ dX0_unitsOf_29 rfl h
  · replace h := h.2 c1
    refine g_iload_n C 2 dX0_unitsOf_9 rfl ?_
    refine g_aload_n C 0 dX0_unitsOf_10 rfl ?_
    refine gf_RX0_9 C h0 dX0_unitsOf_11 ?_
    refine g_iload_n C 1 dX0_unitsOf_14 rfl ?_
    refine g_iconst C (v := (4 : Int32)) dX0_unitsOf_15 (by decide) ?_
    refine g_imul C dX0_unitsOf_16 ?_
    refine g_iload_n C 3 dX0_unitsOf_17 rfl ?_
    refine g_iadd C dX0_unitsOf_18 ?_
    refine g_iald C (isX0_units h0).1 (isX0_units h0).2 h.1 dX0_unitsOf_19 ?_
    replace h := h.2
    refine g_iadd C dX0_unitsOf_20 ?_
    refine g_istore_n C [(2, .int (v2 + (μ.1 (b + 1) ((p1 * ((4 : Int32))) + v3).toNatClampNeg))), (0, .ref (Y.ad b)), (1, .int p1), (3, .int v3)] dX0_unitsOf_21 (by decide) rfl ?_
    refine g_iinc C (v := v3 + 1) 3 [(3, .int (v3 + 1)), (2, .int (v2 + (μ.1 (b + 1) ((p1 * ((4 : Int32))) + v3).toNatClampNeg))), (0, .ref (Y.ad b)), (1, .int p1)] dX0_unitsOf_22 rfl rfl (by decide) rfl ?_
    refine g_goto C 4 dX0_unitsOf_25 (by decide) ?_
    refine g_lv (lv2 := [(0, .ref (Y.ad b)), (1, .int p1), (2, .int (v2 + (μ.1 (b + 1) ((p1 * ((4 : Int32))) + v3).toNatClampNeg))), (3, .int (v3 + 1))]) [2, 3, 1, 0] ?_ rfl
    exact h
set_option maxRecDepth 20000 in
set_option maxHeartbeats 4000000 in
theorem ok_X0_unitsOf {Y : YT} {l0 : Launch} {b : Nat} {p1 : Int32} {μ : Mem} {Q : Int32 → Mem → Prop} (hI : YI Y) (h0 : isX0 Y b) (h : PX0_unitsOf b p1 μ Q) : MI l0 yX0_unitsOf WX0_unitsOf 0 0 Y [.ref (Y.ad b), .int p1] μ Q := by
  refine mI_of (ty := .int) (cc := cX0_unitsOf) (maxL := 4) (by decide +kernel) rfl hI (Nat.le_of_ble_eq_true rfl) (fun X C hr => ?_)
  replace C : Cx X Y 4 cX0_unitsOf RX0 WX0_unitsOf (rmB 0 0) l0 := C
  refine g_lv (lv2 := [(0, .ref (Y.ad b)), (1, .int p1)]) [0, 1] ?_ rfl
  unfold PX0_unitsOf at h
  replace h := h (SX0_unitsOf_4 X Y b p1) (fun v2 v3 μ z => tX0_unitsOf_4 C hr hI h0 v2 v3 μ z)
  refine g_iconst C (v := (0 : Int32)) dX0_unitsOf_0 (by decide) ?_
  refine g_istore_n C [(2, .int ((0 : Int32))), (0, .ref (Y.ad b)), (1, .int p1)] dX0_unitsOf_1 (by decide) rfl ?_
  refine g_iconst C (v := (0 : Int32)) dX0_unitsOf_2 (by decide) ?_
  refine g_istore_n C [(3, .int ((0 : Int32))), (2, .int ((0 : Int32))), (0, .ref (Y.ad b)), (1, .int p1)] dX0_unitsOf_3 (by decide) rfl ?_
  refine g_lv (lv2 := [(0, .ref (Y.ad b)), (1, .int p1), (2, .int ((0 : Int32))), (3, .int ((0 : Int32)))]) [2, 3, 1, 0] ?_ rfl
  exact h
set_option maxRecDepth 20000 in
set_option maxHeartbeats 4000000 in
theorem ok_J9_floorMod_7cf53 {Y : YT} {l0 : Launch} {p0 : Int32} {p1 : Int32} {μ : Mem} {Q : Int32 → Mem → Prop} (hI : YI Y) (h : PJ9_floorMod_7cf53 p0 p1 μ Q) : MI l0 yJ9_floorMod_7cf53 WJ9_floorMod_7cf53 0 0 Y [.int p0, .int p1] μ Q := by
  refine mI_of (ty := .int) (cc := cJ9_floorMod_7cf53) (maxL := 3) (by decide +kernel) rfl hI (Nat.le_of_ble_eq_true rfl) (fun X C hr => ?_)
  replace C : Cx X Y 3 cJ9_floorMod_7cf53 RJ9 WJ9_floorMod_7cf53 (rmB 0 0) l0 := C
  refine g_lv (lv2 := [(0, .int p0), (1, .int p1)]) [0, 1] ?_ rfl
  unfold PJ9_floorMod_7cf53 at h
  refine g_iload_n C 0 dJ9_floorMod_7cf53_0 rfl ?_
  refine g_iload_n C 1 dJ9_floorMod_7cf53_1 rfl ?_
  refine g_irem C dJ9_floorMod_7cf53_2 h.1 ?_
  replace h := h.2
  refine g_istore_n C [(2, .int (p0 - p0 / p1 * p1)), (0, .int p0), (1, .int p1)] dJ9_floorMod_7cf53_3 (by decide) rfl ?_
  refine g_iload_n C 1 dJ9_floorMod_7cf53_4 rfl ?_
  refine g_iload_n C 2 dJ9_floorMod_7cf53_5 rfl ?_
  refine g_ixor C dJ9_floorMod_7cf53_6 ?_
  refine g_if_ge C 18 dJ9_floorMod_7cf53_7 (by decide) (fun c1 => ?_) (fun c1 => ?_)
  · replace h := h.1 c1
    refine g_iload_n C 0 dJ9_floorMod_7cf53_18 rfl ?_
    exact hr _ _ _ _ _ dJ9_floorMod_7cf53_19 rfl h
  · replace h := h.2 c1
    refine g_iload_n C 0 dJ9_floorMod_7cf53_10 rfl ?_
    refine g_if_eq C 18 dJ9_floorMod_7cf53_11 (by decide) (fun c2 => ?_) (fun c2 => ?_)
    · replace h := h.1 c2
      refine g_iload_n C 0 dJ9_floorMod_7cf53_18 rfl ?_
      exact hr _ _ _ _ _ dJ9_floorMod_7cf53_19 rfl h
    · replace h := h.2 c2
      refine g_iload_n C 0 dJ9_floorMod_7cf53_14 rfl ?_
      refine g_iload_n C 2 dJ9_floorMod_7cf53_15 rfl ?_
      refine g_iadd C dJ9_floorMod_7cf53_16 ?_
      exact hr _ _ _ _ _ dJ9_floorMod_7cf53_17 rfl h
set_option maxRecDepth 20000 in
set_option maxHeartbeats 4000000 in
theorem ok_X2_isOut {Y : YT} {l0 : Launch} {b : Nat} {p1 : Int32} {μ : Mem} {Q : Int32 → Mem → Prop} (hI : YI Y) (h0 : isX2 Y b) (h : PX2_isOut b p1 μ Q) : MI l0 yX2_isOut WX2_isOut 1 22 Y [.ref (Y.ad b), .int p1] μ Q := by
  refine mI_of (ty := .boolean) (cc := cX2_isOut) (maxL := 2) (by decide +kernel) rfl hI (Nat.le_of_ble_eq_true rfl) (fun X C hr => ?_)
  replace C : Cx X Y 2 cX2_isOut RX2 WX2_isOut (rmB 1 22) l0 := C
  refine g_lv (lv2 := [(0, .ref (Y.ad b)), (1, .int p1)]) [0, 1] ?_ rfl
  unfold PX2_isOut at h
  refine g_aload_n C 0 dX2_isOut_0 rfl ?_
  refine gf_RX2_65 C h0 dX2_isOut_1 ?_
  refine g_iload_n C 1 dX2_isOut_4 rfl ?_
  refine g_bipush C (v := (7 : Int32)) dX2_isOut_5 (by decide) ?_
  refine g_callSI C [.int p1, .int ((7 : Int32))] [.int (μ.1 b 14)] (ok_J9_floorMod_7cf53 hI  h) (cw_RX2_78 _) rfl dc_J9_floorMod_7cf53 ⟨Nat.le_of_ble_eq_true rfl, Nat.le_of_ble_eq_true rfl⟩ rfl (Nat.le_of_ble_eq_true rfl) dX2_isOut_7 (fun r2 m1 h => ?_)
  refine g_ishr C dX2_isOut_10 ?_
  refine g_iconst C (v := (1 : Int32)) dX2_isOut_11 (by decide) ?_
  refine g_iand C dX2_isOut_12 ?_
  refine g_if_eq C 20 dX2_isOut_13 (by decide) (fun c3 => ?_) (fun c3 => ?_)
  · replace h := h.1 c3
    refine g_iconst C (v := (0 : Int32)) dX2_isOut_20 (by decide) ?_
    exact hr _ _ _ _ _ dX2_isOut_21 rfl h
  · replace h := h.2 c3
    refine g_iconst C (v := (1 : Int32)) dX2_isOut_16 (by decide) ?_
    refine g_goto C 21 dX2_isOut_17 (by decide) ?_
    exact hr _ _ _ _ _ dX2_isOut_21 rfl h
set_option maxRecDepth 20000 in
set_option maxHeartbeats 4000000 in
theorem tX2_wanted_39 {X : XT} {Y : YT} {l0 : Launch} {b : Nat} {p1 : Int32} {p2 : Int32} {p3 : Int32} {Q : Int32 → Mem → Prop} (C : Cx X Y 5 cX2_wanted RX2 WX2_wanted (rmB 0 0) l0) (hr : RI X Y cX2_wanted .int Q) (hI : YI Y) (h0 : isX2 Y b) (v4 : Int32) (μ : Mem) (h : nX2_wanted_39 b p1 p2 p3 Q v4 μ) : G X Y 5 39 [(0, .ref (Y.ad b)), (1, .int p1), (2, .int p2), (3, .int p3), (4, .int v4)] [] μ := by
  unfold nX2_wanted_39 at h
  refine g_iload C 4 dX2_wanted_39 rfl ?_
  exact hr _ _ _ _ _ dX2_wanted_41 rfl h
set_option maxRecDepth 20000 in
set_option maxHeartbeats 4000000 in
theorem ok_X2_wanted {Y : YT} {l0 : Launch} {b : Nat} {p1 : Int32} {p2 : Int32} {p3 : Int32} {μ : Mem} {Q : Int32 → Mem → Prop} (hI : YI Y) (h0 : isX2 Y b) (h : PX2_wanted b p1 p2 p3 μ Q) : MI l0 yX2_wanted WX2_wanted 0 0 Y [.ref (Y.ad b), .int p1, .int p2, .int p3] μ Q := by
  refine mI_of (ty := .int) (cc := cX2_wanted) (maxL := 5) (by decide +kernel) rfl hI (Nat.le_of_ble_eq_true rfl) (fun X C hr => ?_)
  replace C : Cx X Y 5 cX2_wanted RX2 WX2_wanted (rmB 0 0) l0 := C
  refine g_lv (lv2 := [(0, .ref (Y.ad b)), (1, .int p1), (2, .int p2), (3, .int p3)]) [0, 1, 2, 3] ?_ rfl
  unfold PX2_wanted at h
  refine g_aload_n C 0 dX2_wanted_0 rfl ?_
  refine gf_RX2_36 C h0 dX2_wanted_1 ?_
  refine g_iload_n C 1 dX2_wanted_4 rfl ?_
  refine g_bipush C (v := (6 : Int32)) dX2_wanted_5 (by decide) ?_
  refine g_imul C dX2_wanted_7 ?_
  refine g_iload_n C 3 dX2_wanted_8 rfl ?_
  refine g_iadd C dX2_wanted_9 ?_
  refine g_iald C (isX2_wants h0).1 (isX2_wants h0).2 h.1 dX2_wanted_10 ?_
  replace h := h.2
  refine g_istore C [(4, .int (μ.1 (b + 9) ((p1 * ((6 : Int32))) + p3).toNatClampNeg)), (0, .ref (Y.ad b)), (1, .int p1), (2, .int p2), (3, .int p3)] dX2_wanted_11 (by decide) rfl ?_
  refine g_iload_n C 3 dX2_wanted_13 rfl ?_
  refine g_if_eq C 39 dX2_wanted_14 (by decide) (fun c1 => ?_) (fun c1 => ?_)
  · replace h := h.1 c1
    refine g_lv (lv2 := [(0, .ref (Y.ad b)), (1, .int p1), (2, .int p2), (3, .int p3), (4, .int (μ.1 (b + 9) ((p1 * ((6 : Int32))) + p3).toNatClampNeg))]) [1, 2, 3, 4, 0] ?_ rfl
    exact tX2_wanted_39 C hr hI h0 _ _ h
  · replace h := h.2 c1
    refine g_iload C 0 dX2_wanted_17 rfl ?_
    refine g_if_le C 39 dX2_wanted_19 (by decide) (fun c2 => ?_) (fun c2 => ?_)
    · replace h := h.1 c2
      refine g_lv (lv2 := [(0, .ref (Y.ad b)), (1, .int p1), (2, .int p2), (3, .int p3), (4, .int (μ.1 (b + 9) ((p1 * ((6 : Int32))) + p3).toNatClampNeg))]) [1, 2, 3, 4, 0] ?_ rfl
      exact tX2_wanted_39 C hr hI h0 _ _ h
    · replace h := h.2 c2
      refine g_aload_n C 1 dX2_wanted_22 rfl ?_
      refine gf_RX2_21 C h0 dX2_wanted_23 ?_
      refine g_iload_n C 2 dX2_wanted_26 rfl ?_
      refine g_iald C (isX2_kind h0).1 (isX2_kind h0).2 h.1 dX2_wanted_27 ?_
      replace h := h.2
      refine g_iconst C (v := (2 : Int32)) dX2_wanted_28 (by decide) ?_
      refine g_icmp_eq C 39 dX2_wanted_29 (by decide) (fun c3 => ?_) (fun c3 => ?_)
      · replace h := h.1 c3
        refine g_lv (lv2 := [(0, .ref (Y.ad b)), (1, .int p1), (2, .int p2), (3, .int p3), (4, .int (μ.1 (b + 9) ((p1 * ((6 : Int32))) + p3).toNatClampNeg))]) [1, 2, 3, 4, 0] ?_ rfl
        exact tX2_wanted_39 C hr hI h0 _ _ h
      · replace h := h.2 c3
        refine g_iload C 0 dX2_wanted_32 rfl ?_
        refine g_iconst C (v := (1 : Int32)) dX2_wanted_34 (by decide) ?_
        refine g_iadd C dX2_wanted_35 ?_
        refine g_goto C 41 dX2_wanted_36 (by decide) ?_
        exact hr _ _ _ _ _ dX2_wanted_41 rfl h
set_option maxRecDepth 20000 in
set_option maxHeartbeats 4000000 in
theorem ok_X2_isInSoup {Y : YT} {l0 : Launch} {b : Nat} {p1 : Int32} {p2 : Int32} {μ : Mem} {Q : Int32 → Mem → Prop} (hI : YI Y) (h0 : isX2 Y b) (h : PX2_isInSoup b p1 p2 μ Q) : MI l0 yX2_isInSoup WX2_isInSoup 0 0 Y [.ref (Y.ad b), .int p1, .int p2] μ Q := by
  refine mI_of (ty := .boolean) (cc := cX2_isInSoup) (maxL := 3) (by decide +kernel) rfl hI (Nat.le_of_ble_eq_true rfl) (fun X C hr => ?_)
  replace C : Cx X Y 3 cX2_isInSoup RX2 WX2_isInSoup (rmB 0 0) l0 := C
  refine g_lv (lv2 := [(0, .ref (Y.ad b)), (1, .int p1), (2, .int p2)]) [0, 1, 2] ?_ rfl
  unfold PX2_isInSoup at h
  refine g_aload_n C 0 dX2_isInSoup_0 rfl ?_
  refine gf_RX2_33 C h0 dX2_isInSoup_1 ?_
  refine g_iload_n C 1 dX2_isInSoup_4 rfl ?_
  refine g_iald C (isX2_soupThings h0).1 (isX2_soupThings h0).2 h.1 dX2_isInSoup_5 ?_
  replace h := h.2
  refine g_iload_n C 2 dX2_isInSoup_6 rfl ?_
  refine g_ishr C dX2_isInSoup_7 ?_
  refine g_iconst C (v := (1 : Int32)) dX2_isInSoup_8 (by decide) ?_
  refine g_iand C dX2_isInSoup_9 ?_
  refine g_if_eq C 17 dX2_isInSoup_10 (by decide) (fun c1 => ?_) (fun c1 => ?_)
  · replace h := h.1 c1
    refine g_iconst C (v := (0 : Int32)) dX2_isInSoup_17 (by decide) ?_
    exact hr _ _ _ _ _ dX2_isInSoup_18 rfl h
  · replace h := h.2 c1
    refine g_iconst C (v := (1 : Int32)) dX2_isInSoup_13 (by decide) ?_
    refine g_goto C 18 dX2_isInSoup_14 (by decide) ?_
    exact hr _ _ _ _ _ dX2_isInSoup_18 rfl h
set_option maxRecDepth 20000 in
set_option maxHeartbeats 4000000 in
theorem ok_X2_soupWanted {Y : YT} {l0 : Launch} {b : Nat} {p1 : Int32} {p2 : Int32} {μ : Mem} {Q : Int32 → Mem → Prop} (hI : YI Y) (h0 : isX2 Y b) (h : PX2_soupWanted b p1 p2 μ Q) : MI l0 yX2_soupWanted WX2_soupWanted 0 0 Y [.ref (Y.ad b), .int p1, .int p2] μ Q := by
  refine mI_of (ty := .int) (cc := cX2_soupWanted) (maxL := 3) (by decide +kernel) rfl hI (Nat.le_of_ble_eq_true rfl) (fun X C hr => ?_)
  replace C : Cx X Y 3 cX2_soupWanted RX2 WX2_soupWanted (rmB 0 0) l0 := C
  refine g_lv (lv2 := [(0, .ref (Y.ad b)), (1, .int p1), (2, .int p2)]) [0, 1, 2] ?_ rfl
  unfold PX2_soupWanted at h
  refine g_iload_n C 2 dX2_soupWanted_0 rfl ?_
  refine g_if_eq C 15 dX2_soupWanted_1 (by decide) (fun c1 => ?_) (fun c1 => ?_)
  · replace h := h.1 c1
    refine g_aload_n C 0 dX2_soupWanted_15 rfl ?_
    refine gf_RX2_30 C h0 dX2_soupWanted_16 ?_
    refine g_iload_n C 1 dX2_soupWanted_19 rfl ?_
    refine g_iald C (isX2_soupUnits h0).1 (isX2_soupUnits h0).2 h.1 dX2_soupWanted_20 ?_
    replace h := h.2
    exact hr _ _ _ _ _ dX2_soupWanted_21 rfl h
  · replace h := h.2 c1
    refine g_aload_n C 0 dX2_soupWanted_4 rfl ?_
    refine gf_RX2_30 C h0 dX2_soupWanted_5 ?_
    refine g_iload_n C 1 dX2_soupWanted_8 rfl ?_
    refine g_iald C (isX2_soupUnits h0).1 (isX2_soupUnits h0).2 h.1 dX2_soupWanted_9 ?_
    replace h := h.2
    refine g_iconst C (v := (1 : Int32)) dX2_soupWanted_10 (by decide) ?_
    refine g_iadd C dX2_soupWanted_11 ?_
    refine g_goto C 21 dX2_soupWanted_12 (by decide) ?_
    exact hr _ _ _ _ _ dX2_soupWanted_21 rfl h
def SX0_lacking_53 (X : XT) (Y : YT) (b : Nat) (r1 : Nat) (p2 : Int32) (p3 : Int32) (p4 : Int32) : Int32 → Int32 → Mem → Prop := fun v5 v6 μ => G X Y 7 53 [(0, .ref (Y.ad b)), (1, .ref (Y.ad r1)), (2, .int p2), (3, .int p3), (4, .int p4), (5, .int v5), (6, .int v6)] [] μ
set_option maxRecDepth 20000 in
set_option maxHeartbeats 4000000 in
theorem tX0_lacking_83 {X : XT} {Y : YT} {l0 : Launch} {b : Nat} {r1 : Nat} {p2 : Int32} {p3 : Int32} {p4 : Int32} {Q : Int32 → Mem → Prop} (C : Cx X Y 7 cX0_lacking RX0 WX0_lacking (rmB 1 24) l0) (hr : RI X Y cX0_lacking .int Q) (hI : YI Y) (h0 : isX0 Y b) (h1 : isX2 Y r1) (v5 : Int32) (v6 : Int32) (μ : Mem) (h : nX0_lacking_83 b r1 p2 p3 p4 Q (SX0_lacking_53 X Y b r1 p2 p3 p4) v5 v6 μ) : G X Y 7 83 [(0, .ref (Y.ad b)), (1, .ref (Y.ad r1)), (2, .int p2), (3, .int p3), (4, .int p4), (5, .int v5), (6, .int v6)] [] μ := by
  unfold nX0_lacking_83 at h
  refine g_iinc C (v := v6 + 1) 6 [(6, .int (v6 + 1)), (0, .ref (Y.ad b)), (1, .ref (Y.ad r1)), (2, .int p2), (3, .int p3), (4, .int p4), (5, .int v5)] dX0_lacking_83 rfl rfl (by decide) rfl ?_
  refine g_goto C 53 dX0_lacking_86 (by decide) ?_
  refine g_lv (lv2 := [(0, .ref (Y.ad b)), (1, .ref (Y.ad r1)), (2, .int p2), (3, .int p3), (4, .int p4), (5, .int v5), (6, .int (v6 + 1))]) [1, 2, 3, 4, 5, 6, 0] ?_ rfl
  exact h
set_option maxRecDepth 20000 in
set_option maxHeartbeats 4000000 in
theorem tX0_lacking_53 {X : XT} {Y : YT} {l0 : Launch} {b : Nat} {r1 : Nat} {p2 : Int32} {p3 : Int32} {p4 : Int32} {Q : Int32 → Mem → Prop} (C : Cx X Y 7 cX0_lacking RX0 WX0_lacking (rmB 1 24) l0) (hr : RI X Y cX0_lacking .int Q) (hI : YI Y) (h0 : isX0 Y b) (h1 : isX2 Y r1) (v5 : Int32) (v6 : Int32) (μ : Mem) (h : nX0_lacking_53 b r1 p2 p3 p4 Q (SX0_lacking_53 X Y b r1 p2 p3 p4) v5 v6 μ) : G X Y 7 53 [(0, .ref (Y.ad b)), (1, .ref (Y.ad r1)), (2, .int p2), (3, .int p3), (4, .int p4), (5, .int v5), (6, .int v6)] [] μ := by
  unfold nX0_lacking_53 at h
  refine g_iload C 6 dX0_lacking_53 rfl ?_
  refine g_aload_n C 1 dX0_lacking_55 rfl ?_
  refine gf_RX0_62 C h1 dX0_lacking_56 ?_
  refine g_icmp_ge C 89 dX0_lacking_59 (by decide) (fun c12 => ?_) (fun c12 => ?_)
  · replace h := h.1 c12
    refine g_iconst C (v := (0 : Int32)) dX0_lacking_89 (by decide) ?_
    refine g_iload C 5 dX0_lacking_90 rfl ?_
    refine g_max C (List.mem_cons_of_mem _ mM_RX0_84) (List.mem_cons_of_mem _ mLib_max_s) (List.mem_cons_of_mem _ mLib_math) (List.mem_cons_of_mem _ mLib_max_c) (Nat.le_of_ble_eq_true rfl) (Nat.le_of_ble_eq_true rfl) dX0_lacking_92 ?_
    refine g_topi (fun x13 ex13 => ?_)
    replace h := h x13 ex13
    exact hr _ _ _ _ _ dX0_lacking_95 rfl h
  · replace h := h.2 c12
    refine g_aload_n C 1 dX0_lacking_62 rfl ?_
    refine g_iload_n C 2 dX0_lacking_63 rfl ?_
    refine g_iload C 6 dX0_lacking_64 rfl ?_
    refine g_callVI C [.int p2, .int v6] [] (ok_X2_isInSoup hI h1 h) (cw_RX0_90 _) rfl dc_X2_isInSoup ⟨Nat.le_of_ble_eq_true rfl, Nat.le_of_ble_eq_true rfl⟩ (isX2_lt h1) (isX2_sh h1) rfl rfl rfl rfl (Nat.le_of_ble_eq_true rfl) dX0_lacking_66 (fun r15 m14 h => ?_)
    refine g_if_eq C 83 dX0_lacking_69 (by decide) (fun c16 => ?_) (fun c16 => ?_)
    · replace h := h.1 c16
      exact tX0_lacking_83 C hr hI h0 h1 _ _ _ h
    · replace h := h.2 c16
      refine g_iload C 5 dX0_lacking_72 rfl ?_
      refine g_aload_n C 0 dX0_lacking_74 rfl ?_
      refine g_iload C 6 dX0_lacking_75 rfl ?_
      refine g_callVI C [.int v6] [.int v5] (ok_X0_unitsOf hI h0 h) (cw_RX0_80 _) rfl dc_X0_unitsOf ⟨Nat.le_of_ble_eq_true rfl, Nat.le_of_ble_eq_true rfl⟩ (isX0_lt h0) (isX0_sh h0) rfl rfl rfl rfl (Nat.le_of_ble_eq_true rfl) dX0_lacking_77 (fun r18 m17 h => ?_)
      refine g_isub C dX0_lacking_80 ?_
      refine g_istore C [(5, .int (v5 - r18)), (0, .ref (Y.ad b)), (1, .ref (Y.ad r1)), (2, .int p2), (3, .int p3), (4, .int p4), (6, .int v6)] dX0_lacking_81 (by decide) rfl ?_
      refine g_lv (lv2 := [(0, .ref (Y.ad b)), (1, .ref (Y.ad r1)), (2, .int p2), (3, .int p3), (4, .int p4), (5, .int (v5 - r18)), (6, .int v6)]) [1, 2, 3, 4, 5, 0, 6] ?_ rfl
      exact tX0_lacking_83 C hr hI h0 h1 _ _ _ h
set_option maxRecDepth 20000 in
set_option maxHeartbeats 4000000 in
theorem ok_X0_lacking {Y : YT} {l0 : Launch} {b : Nat} {r1 : Nat} {p2 : Int32} {p3 : Int32} {p4 : Int32} {μ : Mem} {Q : Int32 → Mem → Prop} (hI : YI Y) (h0 : isX0 Y b) (h1 : isX2 Y r1) (h : PX0_lacking b r1 p2 p3 p4 μ Q) : MI l0 yX0_lacking WX0_lacking 1 24 Y [.ref (Y.ad b), .ref (Y.ad r1), .int p2, .int p3, .int p4] μ Q := by
  refine mI_of (ty := .int) (cc := cX0_lacking) (maxL := 7) (by decide +kernel) rfl hI (Nat.le_of_ble_eq_true rfl) (fun X C hr => ?_)
  replace C : Cx X Y 7 cX0_lacking RX0 WX0_lacking (rmB 1 24) l0 := C
  refine g_lv (lv2 := [(0, .ref (Y.ad b)), (1, .ref (Y.ad r1)), (2, .int p2), (3, .int p3), (4, .int p4)]) [0, 1, 2, 3, 4] ?_ rfl
  unfold PX0_lacking at h
  replace h := h (SX0_lacking_53 X Y b r1 p2 p3 p4) (fun v5 v6 μ z => tX0_lacking_53 C hr hI h0 h1 v5 v6 μ z)
  refine g_aload_n C 1 dX0_lacking_0 rfl ?_
  refine gf_RX0_73 C h1 dX0_lacking_1 ?_
  refine g_iload_n C 2 dX0_lacking_4 rfl ?_
  refine g_iald C (isX2_kind h1).1 (isX2_kind h1).2 h.1 dX0_lacking_5 ?_
  replace h := h.2
  refine g_iconst C (v := (3 : Int32)) dX0_lacking_6 (by decide) ?_
  refine g_icmp_eq C 30 dX0_lacking_7 (by decide) (fun c1 => ?_) (fun c1 => ?_)
  · replace h := h.1 c1
    refine g_aload_n C 1 dX0_lacking_30 rfl ?_
    refine g_iload_n C 2 dX0_lacking_31 rfl ?_
    refine g_iload C 4 dX0_lacking_32 rfl ?_
    refine g_callVI C [.int p2, .int p4] [] (ok_X2_isInSoup hI h1 h) (cw_RX0_90 _) rfl dc_X2_isInSoup ⟨Nat.le_of_ble_eq_true rfl, Nat.le_of_ble_eq_true rfl⟩ (isX2_lt h1) (isX2_sh h1) rfl rfl rfl rfl (Nat.le_of_ble_eq_true rfl) dX0_lacking_34 (fun r3 m2 h => ?_)
    refine g_if_ne C 42 dX0_lacking_37 (by decide) (fun c4 => ?_) (fun c4 => ?_)
    · replace h := h.1 c4
      refine g_aload_n C 1 dX0_lacking_42 rfl ?_
      refine g_iload_n C 2 dX0_lacking_43 rfl ?_
      refine g_iload_n C 3 dX0_lacking_44 rfl ?_
      refine g_callVI C [.int p2, .int p3] [] (ok_X2_soupWanted hI h1 h) (cw_RX0_94 _) rfl dc_X2_soupWanted ⟨Nat.le_of_ble_eq_true rfl, Nat.le_of_ble_eq_true rfl⟩ (isX2_lt h1) (isX2_sh h1) rfl rfl rfl rfl (Nat.le_of_ble_eq_true rfl) dX0_lacking_45 (fun r6 m5 h => ?_)
      refine g_istore C [(5, .int r6), (0, .ref (Y.ad b)), (1, .ref (Y.ad r1)), (2, .int p2), (3, .int p3), (4, .int p4)] dX0_lacking_48 (by decide) rfl ?_
      refine g_iconst C (v := (0 : Int32)) dX0_lacking_50 (by decide) ?_
      refine g_istore C [(6, .int ((0 : Int32))), (5, .int r6), (0, .ref (Y.ad b)), (1, .ref (Y.ad r1)), (2, .int p2), (3, .int p3), (4, .int p4)] dX0_lacking_51 (by decide) rfl ?_
      refine g_lv (lv2 := [(0, .ref (Y.ad b)), (1, .ref (Y.ad r1)), (2, .int p2), (3, .int p3), (4, .int p4), (5, .int r6), (6, .int ((0 : Int32)))]) [2, 3, 4, 5, 6, 1, 0] ?_ rfl
      exact h
    · replace h := h.2 c4
      refine g_iconst C (v := (0 : Int32)) dX0_lacking_40 (by decide) ?_
      exact hr _ _ _ _ _ dX0_lacking_41 rfl h
  · replace h := h.2 c1
    refine g_iconst C (v := (0 : Int32)) dX0_lacking_10 (by decide) ?_
    refine g_aload_n C 1 dX0_lacking_11 rfl ?_
    refine g_iload_n C 2 dX0_lacking_12 rfl ?_
    refine g_iload_n C 3 dX0_lacking_13 rfl ?_
    refine g_iload C 4 dX0_lacking_14 rfl ?_
    refine g_callVI C [.int p2, .int p3, .int p4] [.int ((0 : Int32))] (ok_X2_wanted hI h1 h) (cw_RX0_76 _) rfl dc_X2_wanted ⟨Nat.le_of_ble_eq_true rfl, Nat.le_of_ble_eq_true rfl⟩ (isX2_lt h1) (isX2_sh h1) rfl rfl rfl rfl (Nat.le_of_ble_eq_true rfl) dX0_lacking_16 (fun r8 m7 h => ?_)
    refine g_aload_n C 0 dX0_lacking_19 rfl ?_
    refine g_iload C 4 dX0_lacking_20 rfl ?_
    refine g_callVI C [.int p4] [.int r8, .int ((0 : Int32))] (ok_X0_unitsOf hI h0 h) (cw_RX0_80 _) rfl dc_X0_unitsOf ⟨Nat.le_of_ble_eq_true rfl, Nat.le_of_ble_eq_true rfl⟩ (isX0_lt h0) (isX0_sh h0) rfl rfl rfl rfl (Nat.le_of_ble_eq_true rfl) dX0_lacking_22 (fun r10 m9 h => ?_)
    refine g_isub C dX0_lacking_25 ?_
    refine g_max C (List.mem_cons_of_mem _ mM_RX0_84) (List.mem_cons_of_mem _ mLib_max_s) (List.mem_cons_of_mem _ mLib_math) (List.mem_cons_of_mem _ mLib_max_c) (Nat.le_of_ble_eq_true rfl) (Nat.le_of_ble_eq_true rfl) dX0_lacking_26 ?_
    refine g_topi (fun x11 ex11 => ?_)
    replace h := h x11 ex11
    exact hr _ _ _ _ _ dX0_lacking_29 rfl h
set_option maxRecDepth 20000 in
set_option maxHeartbeats 4000000 in
theorem tX2_isBought_56 {X : XT} {Y : YT} {l0 : Launch} {b : Nat} {p1 : Int32} {p2 : Int32} {p3 : Int32} {Q : Int32 → Mem → Prop} (C : Cx X Y 5 cX2_isBought RX2 WX2_isBought (rmB 1 22) l0) (hr : RI X Y cX2_isBought .boolean Q) (hI : YI Y) (h0 : isX2 Y b) (μ : Mem) (h : nX2_isBought_56 b p1 p2 p3 Q  μ) : G X Y 5 56 [(0, .ref (Y.ad b)), (1, .int p1), (2, .int p2), (3, .int p3)] [] μ := by
  unfold nX2_isBought_56 at h
  refine g_iconst C (v := (1 : Int32)) dX2_isBought_56 (by decide) ?_
  refine g_goto C 61 dX2_isBought_57 (by decide) ?_
  exact hr _ _ _ _ _ dX2_isBought_61 rfl h
set_option maxRecDepth 20000 in
set_option maxHeartbeats 4000000 in
theorem tX2_isBought_60 {X : XT} {Y : YT} {l0 : Launch} {b : Nat} {p1 : Int32} {p2 : Int32} {p3 : Int32} {Q : Int32 → Mem → Prop} (C : Cx X Y 5 cX2_isBought RX2 WX2_isBought (rmB 1 22) l0) (hr : RI X Y cX2_isBought .boolean Q) (hI : YI Y) (h0 : isX2 Y b) (μ : Mem) (h : nX2_isBought_60 b p1 p2 p3 Q  μ) : G X Y 5 60 [(0, .ref (Y.ad b)), (1, .int p1), (2, .int p2), (3, .int p3)] [] μ := by
  unfold nX2_isBought_60 at h
  refine g_iconst C (v := (0 : Int32)) dX2_isBought_60 (by decide) ?_
  exact hr _ _ _ _ _ dX2_isBought_61 rfl h
set_option maxRecDepth 20000 in
set_option maxHeartbeats 4000000 in
theorem tX2_isBought_21 {X : XT} {Y : YT} {l0 : Launch} {b : Nat} {p1 : Int32} {p2 : Int32} {p3 : Int32} {Q : Int32 → Mem → Prop} (C : Cx X Y 5 cX2_isBought RX2 WX2_isBought (rmB 1 22) l0) (hr : RI X Y cX2_isBought .boolean Q) (hI : YI Y) (h0 : isX2 Y b) (w0 : Int32) (μ : Mem) (h : nX2_isBought_21 b p1 p2 p3 Q w0 μ) : G X Y 5 21 [(0, .ref (Y.ad b)), (1, .int p1), (2, .int p2), (3, .int p3)] [.int w0] μ := by
  unfold nX2_isBought_21 at h
  refine g_istore C [(4, .int w0), (0, .ref (Y.ad b)), (1, .int p1), (2, .int p2), (3, .int p3)] dX2_isBought_21 (by decide) rfl ?_
  refine g_iload C 0 dX2_isBought_23 rfl ?_
  refine g_if_eq C 60 dX2_isBought_25 (by decide) (fun c4 => ?_) (fun c4 => ?_)
  · replace h := h.1 c4
    refine g_lv (lv2 := [(0, .ref (Y.ad b)), (1, .int p1), (2, .int p2), (3, .int p3)]) [1, 2, 3, 4] ?_ rfl
    exact tX2_isBought_60 C hr hI h0 _ h
  · replace h := h.2 c4
    refine g_aload_n C 1 dX2_isBought_28 rfl ?_
    refine gf_RX2_18 C h0 dX2_isBought_29 ?_
    refine g_iload_n C 3 dX2_isBought_32 rfl ?_
    refine g_iald C (isX2_price h0).1 (isX2_price h0).2 h.1 dX2_isBought_33 ?_
    replace h := h.2
    refine g_if_le C 60 dX2_isBought_34 (by decide) (fun c5 => ?_) (fun c5 => ?_)
    · replace h := h.1 c5
      refine g_lv (lv2 := [(0, .ref (Y.ad b)), (1, .int p1), (2, .int p2), (3, .int p3)]) [1, 2, 3, 4] ?_ rfl
      exact tX2_isBought_60 C hr hI h0 _ h
    · replace h := h.2 c5
      refine g_aload_n C 1 dX2_isBought_37 rfl ?_
      refine gf_RX2_21 C h0 dX2_isBought_38 ?_
      refine g_iload_n C 2 dX2_isBought_41 rfl ?_
      refine g_iald C (isX2_kind h0).1 (isX2_kind h0).2 h.1 dX2_isBought_42 ?_
      replace h := h.2
      refine g_if_eq C 56 dX2_isBought_43 (by decide) (fun c6 => ?_) (fun c6 => ?_)
      · replace h := h.1 c6
        refine g_lv (lv2 := [(0, .ref (Y.ad b)), (1, .int p1), (2, .int p2), (3, .int p3)]) [1, 2, 3, 4] ?_ rfl
        exact tX2_isBought_56 C hr hI h0 _ h
      · replace h := h.2 c6
        refine g_aload_n C 1 dX2_isBought_46 rfl ?_
        refine gf_RX2_21 C h0 dX2_isBought_47 ?_
        refine g_iload_n C 2 dX2_isBought_50 rfl ?_
        refine g_iald C (isX2_kind h0).1 (isX2_kind h0).2 h.1 dX2_isBought_51 ?_
        replace h := h.2
        refine g_iconst C (v := (2 : Int32)) dX2_isBought_52 (by decide) ?_
        refine g_icmp_ne C 60 dX2_isBought_53 (by decide) (fun c7 => ?_) (fun c7 => ?_)
        · replace h := h.1 c7
          refine g_lv (lv2 := [(0, .ref (Y.ad b)), (1, .int p1), (2, .int p2), (3, .int p3)]) [1, 2, 3, 4] ?_ rfl
          exact tX2_isBought_60 C hr hI h0 _ h
        · replace h := h.2 c7
          refine g_lv (lv2 := [(0, .ref (Y.ad b)), (1, .int p1), (2, .int p2), (3, .int p3)]) [1, 2, 3, 4] ?_ rfl
          exact tX2_isBought_56 C hr hI h0 _ h
set_option maxRecDepth 20000 in
set_option maxHeartbeats 4000000 in
theorem ok_X2_isBought {Y : YT} {l0 : Launch} {b : Nat} {p1 : Int32} {p2 : Int32} {p3 : Int32} {μ : Mem} {Q : Int32 → Mem → Prop} (hI : YI Y) (h0 : isX2 Y b) (h : PX2_isBought b p1 p2 p3 μ Q) : MI l0 yX2_isBought WX2_isBought 1 22 Y [.ref (Y.ad b), .int p1, .int p2, .int p3] μ Q := by
  refine mI_of (ty := .boolean) (cc := cX2_isBought) (maxL := 5) (by decide +kernel) rfl hI (Nat.le_of_ble_eq_true rfl) (fun X C hr => ?_)
  replace C : Cx X Y 5 cX2_isBought RX2 WX2_isBought (rmB 1 22) l0 := C
  refine g_lv (lv2 := [(0, .ref (Y.ad b)), (1, .int p1), (2, .int p2), (3, .int p3)]) [0, 1, 2, 3] ?_ rfl
  unfold PX2_isBought at h
  refine g_aload_n C 0 dX2_isBought_0 rfl ?_
  refine gf_RX2_62 C h0 dX2_isBought_1 ?_
  refine g_iload_n C 3 dX2_isBought_4 rfl ?_
  refine g_bipush C (v := (7 : Int32)) dX2_isBought_5 (by decide) ?_
  refine g_callSI C [.int p3, .int ((7 : Int32))] [.int (μ.1 b 13)] (ok_J9_floorMod_7cf53 hI  h) (cw_RX2_78 _) rfl dc_J9_floorMod_7cf53 ⟨Nat.le_of_ble_eq_true rfl, Nat.le_of_ble_eq_true rfl⟩ rfl (Nat.le_of_ble_eq_true rfl) dX2_isBought_7 (fun r2 m1 h => ?_)
  refine g_ishr C dX2_isBought_10 ?_
  refine g_iconst C (v := (1 : Int32)) dX2_isBought_11 (by decide) ?_
  refine g_iand C dX2_isBought_12 ?_
  refine g_if_eq C 20 dX2_isBought_13 (by decide) (fun c3 => ?_) (fun c3 => ?_)
  · replace h := h.1 c3
    refine g_iconst C (v := (0 : Int32)) dX2_isBought_20 (by decide) ?_
    exact tX2_isBought_21 C hr hI h0 _ _ h
  · replace h := h.2 c3
    refine g_iconst C (v := (1 : Int32)) dX2_isBought_16 (by decide) ?_
    refine g_goto C 21 dX2_isBought_17 (by decide) ?_
    exact tX2_isBought_21 C hr hI h0 _ _ h
def SX0_whyNot_47 (X : XT) (Y : YT) (b : Nat) (r1 : Nat) (p2 : Int32) (p3 : Int32) : Int32 → Mem → Prop := fun v4 μ => G X Y 5 47 [(0, .ref (Y.ad b)), (1, .ref (Y.ad r1)), (2, .int p2), (3, .int p3), (4, .int v4)] [] μ
set_option maxRecDepth 20000 in
set_option maxHeartbeats 4000000 in
theorem tX0_whyNot_44 {X : XT} {Y : YT} {l0 : Launch} {b : Nat} {r1 : Nat} {p2 : Int32} {p3 : Int32} {Q : Int32 → Mem → Prop} (C : Cx X Y 5 cX0_whyNot RX0 WX0_whyNot (rmB 2 50) l0) (hr : RI X Y cX0_whyNot .int Q) (hI : YI Y) (h0 : isX0 Y b) (h1 : isX2 Y r1) (μ : Mem) (h : nX0_whyNot_44 b r1 p2 p3 Q (SX0_whyNot_47 X Y b r1 p2 p3) μ) : G X Y 5 44 [(0, .ref (Y.ad b)), (1, .ref (Y.ad r1)), (2, .int p2), (3, .int p3)] [] μ := by
  unfold nX0_whyNot_44 at h
  refine g_iconst C (v := (0 : Int32)) dX0_whyNot_44 (by decide) ?_
  refine g_istore C [(4, .int ((0 : Int32))), (0, .ref (Y.ad b)), (1, .ref (Y.ad r1)), (2, .int p2), (3, .int p3)] dX0_whyNot_45 (by decide) rfl ?_
  refine g_lv (lv2 := [(0, .ref (Y.ad b)), (1, .ref (Y.ad r1)), (2, .int p2), (3, .int p3), (4, .int ((0 : Int32)))]) [1, 2, 3, 4, 0] ?_ rfl
  exact h
set_option maxRecDepth 20000 in
set_option maxHeartbeats 4000000 in
theorem tX0_whyNot_84 {X : XT} {Y : YT} {l0 : Launch} {b : Nat} {r1 : Nat} {p2 : Int32} {p3 : Int32} {Q : Int32 → Mem → Prop} (C : Cx X Y 5 cX0_whyNot RX0 WX0_whyNot (rmB 2 50) l0) (hr : RI X Y cX0_whyNot .int Q) (hI : YI Y) (h0 : isX0 Y b) (h1 : isX2 Y r1) (v4 : Int32) (μ : Mem) (h : nX0_whyNot_84 b r1 p2 p3 Q (SX0_whyNot_47 X Y b r1 p2 p3) v4 μ) : G X Y 5 84 [(0, .ref (Y.ad b)), (1, .ref (Y.ad r1)), (2, .int p2), (3, .int p3), (4, .int v4)] [] μ := by
  unfold nX0_whyNot_84 at h
  refine g_iinc C (v := v4 + 1) 4 [(4, .int (v4 + 1)), (0, .ref (Y.ad b)), (1, .ref (Y.ad r1)), (2, .int p2), (3, .int p3)] dX0_whyNot_84 rfl rfl (by decide) rfl ?_
  refine g_goto C 47 dX0_whyNot_87 (by decide) ?_
  refine g_lv (lv2 := [(0, .ref (Y.ad b)), (1, .ref (Y.ad r1)), (2, .int p2), (3, .int p3), (4, .int (v4 + 1))]) [1, 2, 3, 4, 0] ?_ rfl
  exact h
set_option maxRecDepth 20000 in
set_option maxHeartbeats 4000000 in
theorem tX0_whyNot_47 {X : XT} {Y : YT} {l0 : Launch} {b : Nat} {r1 : Nat} {p2 : Int32} {p3 : Int32} {Q : Int32 → Mem → Prop} (C : Cx X Y 5 cX0_whyNot RX0 WX0_whyNot (rmB 2 50) l0) (hr : RI X Y cX0_whyNot .int Q) (hI : YI Y) (h0 : isX0 Y b) (h1 : isX2 Y r1) (v4 : Int32) (μ : Mem) (h : nX0_whyNot_47 b r1 p2 p3 Q (SX0_whyNot_47 X Y b r1 p2 p3) v4 μ) : G X Y 5 47 [(0, .ref (Y.ad b)), (1, .ref (Y.ad r1)), (2, .int p2), (3, .int p3), (4, .int v4)] [] μ := by
  unfold nX0_whyNot_47 at h
  refine g_iload C 4 dX0_whyNot_47 rfl ?_
  refine g_aload_n C 1 dX0_whyNot_49 rfl ?_
  refine gf_RX0_62 C h1 dX0_whyNot_50 ?_
  refine g_icmp_ge C 90 dX0_whyNot_53 (by decide) (fun c6 => ?_) (fun c6 => ?_)
  · replace h := h.1 c6
    refine g_iconst C (v := (0 : Int32)) dX0_whyNot_90 (by decide) ?_
    exact hr _ _ _ _ _ dX0_whyNot_91 rfl h
  · replace h := h.2 c6
    refine g_aload_n C 0 dX0_whyNot_56 rfl ?_
    refine g_aload_n C 1 dX0_whyNot_57 rfl ?_
    refine g_iload_n C 2 dX0_whyNot_58 rfl ?_
    refine g_iload_n C 3 dX0_whyNot_59 rfl ?_
    refine g_iload C 4 dX0_whyNot_60 rfl ?_
    refine g_callVI C [.ref (Y.ad r1), .int p2, .int p3, .int v4] [] (ok_X0_lacking hI h0 h1 h) (cw_RX0_65 _) rfl dc_X0_lacking ⟨Nat.le_of_ble_eq_true rfl, Nat.le_of_ble_eq_true rfl⟩ (isX0_lt h0) (isX0_sh h0) rfl rfl rfl rfl (Nat.le_of_ble_eq_true rfl) dX0_whyNot_62 (fun r8 m7 h => ?_)
    refine g_if_le C 84 dX0_whyNot_65 (by decide) (fun c9 => ?_) (fun c9 => ?_)
    · replace h := h.1 c9
      exact tX0_whyNot_84 C hr hI h0 h1 _ _ h
    · replace h := h.2 c9
      refine g_aload_n C 1 dX0_whyNot_68 rfl ?_
      refine g_iload_n C 2 dX0_whyNot_69 rfl ?_
      refine g_iload C 4 dX0_whyNot_70 rfl ?_
      refine g_aload_n C 0 dX0_whyNot_72 rfl ?_
      refine gf_RX0_24 C h0 dX0_whyNot_73 ?_
      refine g_callVI C [.int p2, .int v4, .int (m7.1 b 2)] [] (ok_X2_isBought hI h1 h) (cw_RX0_69 _) rfl dc_X2_isBought ⟨Nat.le_of_ble_eq_true rfl, Nat.le_of_ble_eq_true rfl⟩ (isX2_lt h1) (isX2_sh h1) rfl rfl rfl rfl (Nat.le_of_ble_eq_true rfl) dX0_whyNot_76 (fun r11 m10 h => ?_)
      refine g_if_ne C 84 dX0_whyNot_79 (by decide) (fun c12 => ?_) (fun c12 => ?_)
      · replace h := h.1 c12
        exact tX0_whyNot_84 C hr hI h0 h1 _ _ h
      · replace h := h.2 c12
        refine g_iconst C (v := (3 : Int32)) dX0_whyNot_82 (by decide) ?_
        exact hr _ _ _ _ _ dX0_whyNot_83 rfl h
set_option maxRecDepth 20000 in
set_option maxHeartbeats 4000000 in
theorem ok_X0_whyNot {Y : YT} {l0 : Launch} {b : Nat} {r1 : Nat} {p2 : Int32} {p3 : Int32} {μ : Mem} {Q : Int32 → Mem → Prop} (hI : YI Y) (h0 : isX0 Y b) (h1 : isX2 Y r1) (h : PX0_whyNot b r1 p2 p3 μ Q) : MI l0 yX0_whyNot WX0_whyNot 2 50 Y [.ref (Y.ad b), .ref (Y.ad r1), .int p2, .int p3] μ Q := by
  refine mI_of (ty := .int) (cc := cX0_whyNot) (maxL := 5) (by decide +kernel) rfl hI (Nat.le_of_ble_eq_true rfl) (fun X C hr => ?_)
  replace C : Cx X Y 5 cX0_whyNot RX0 WX0_whyNot (rmB 2 50) l0 := C
  refine g_lv (lv2 := [(0, .ref (Y.ad b)), (1, .ref (Y.ad r1)), (2, .int p2), (3, .int p3)]) [0, 1, 2, 3] ?_ rfl
  unfold PX0_whyNot at h
  replace h := h (SX0_whyNot_47 X Y b r1 p2 p3) (fun v4 μ z => tX0_whyNot_47 C hr hI h0 h1 v4 μ z)
  refine g_aload_n C 1 dX0_whyNot_0 rfl ?_
  refine g_aload_n C 0 dX0_whyNot_1 rfl ?_
  refine gf_RX0_24 C h0 dX0_whyNot_2 ?_
  refine g_callVI C [.int (μ.1 b 2)] [] (ok_X2_isOut hI h1 h) (cw_RX0_53 _) rfl dc_X2_isOut ⟨Nat.le_of_ble_eq_true rfl, Nat.le_of_ble_eq_true rfl⟩ (isX2_lt h1) (isX2_sh h1) rfl rfl rfl rfl (Nat.le_of_ble_eq_true rfl) dX0_whyNot_5 (fun r2 m1 h => ?_)
  refine g_if_eq C 13 dX0_whyNot_8 (by decide) (fun c3 => ?_) (fun c3 => ?_)
  · replace h := h.1 c3
    refine g_aload_n C 0 dX0_whyNot_13 rfl ?_
    refine gf_RX0_15 C h0 dX0_whyNot_14 ?_
    refine g_iload_n C 2 dX0_whyNot_17 rfl ?_
    refine g_iald C (isX0_eatenLast h0).1 (isX0_eatenLast h0).2 h.1 dX0_whyNot_18 ?_
    replace h := h.2
    refine g_bipush C (v := (-4 : Int32)) dX0_whyNot_19 (by decide) ?_
    refine g_icmp_eq C 44 dX0_whyNot_21 (by decide) (fun c4 => ?_) (fun c4 => ?_)
    · replace h := h.1 c4
      exact tX0_whyNot_44 C hr hI h0 h1 _ h
    · replace h := h.2 c4
      refine g_aload_n C 0 dX0_whyNot_24 rfl ?_
      refine gf_RX0_24 C h0 dX0_whyNot_25 ?_
      refine g_aload_n C 0 dX0_whyNot_28 rfl ?_
      refine gf_RX0_15 C h0 dX0_whyNot_29 ?_
      refine g_iload_n C 2 dX0_whyNot_32 rfl ?_
      refine g_iald C (isX0_eatenLast h0).1 (isX0_eatenLast h0).2 h.1 dX0_whyNot_33 ?_
      replace h := h.2
      refine g_isub C dX0_whyNot_34 ?_
      refine g_aload_n C 1 dX0_whyNot_35 rfl ?_
      refine gf_RX0_59 C h1 dX0_whyNot_36 ?_
      refine g_icmp_ge C 44 dX0_whyNot_39 (by decide) (fun c5 => ?_) (fun c5 => ?_)
      · replace h := h.1 c5
        exact tX0_whyNot_44 C hr hI h0 h1 _ h
      · replace h := h.2 c5
        refine g_iconst C (v := (2 : Int32)) dX0_whyNot_42 (by decide) ?_
        exact hr _ _ _ _ _ dX0_whyNot_43 rfl h
  · replace h := h.2 c3
    refine g_iconst C (v := (1 : Int32)) dX0_whyNot_11 (by decide) ?_
    exact hr _ _ _ _ _ dX0_whyNot_12 rfl h
set_option maxRecDepth 20000 in
set_option maxHeartbeats 4000000 in
theorem ok_X0_packs {Y : YT} {l0 : Launch} {b : Nat} {r1 : Nat} {p2 : Int32} {p3 : Int32} {p4 : Int32} {μ : Mem} {Q : Int32 → Mem → Prop} (hI : YI Y) (h0 : isX0 Y b) (h1 : isX2 Y r1) (h : PX0_packs b r1 p2 p3 p4 μ Q) : MI l0 yX0_packs WX0_packs 2 50 Y [.ref (Y.ad b), .ref (Y.ad r1), .int p2, .int p3, .int p4] μ Q := by
  refine mI_of (ty := .int) (cc := cX0_packs) (maxL := 5) (by decide +kernel) rfl hI (Nat.le_of_ble_eq_true rfl) (fun X C hr => ?_)
  replace C : Cx X Y 5 cX0_packs RX0 WX0_packs (rmB 2 50) l0 := C
  refine g_lv (lv2 := [(0, .ref (Y.ad b)), (1, .ref (Y.ad r1)), (2, .int p2), (3, .int p3), (4, .int p4)]) [0, 1, 2, 3, 4] ?_ rfl
  unfold PX0_packs at h
  refine g_aload_n C 1 dX0_packs_0 rfl ?_
  refine g_iload_n C 2 dX0_packs_1 rfl ?_
  refine g_iload C 4 dX0_packs_2 rfl ?_
  refine g_aload_n C 0 dX0_packs_4 rfl ?_
  refine gf_RX0_24 C h0 dX0_packs_5 ?_
  refine g_callVI C [.int p2, .int p4, .int (μ.1 b 2)] [] (ok_X2_isBought hI h1 h) (cw_RX0_69 _) rfl dc_X2_isBought ⟨Nat.le_of_ble_eq_true rfl, Nat.le_of_ble_eq_true rfl⟩ (isX2_lt h1) (isX2_sh h1) rfl rfl rfl rfl (Nat.le_of_ble_eq_true rfl) dX0_packs_8 (fun r2 m1 h => ?_)
  refine g_if_eq C 25 dX0_packs_11 (by decide) (fun c3 => ?_) (fun c3 => ?_)
  · replace h := h.1 c3
    refine g_iconst C (v := (0 : Int32)) dX0_packs_25 (by decide) ?_
    exact hr _ _ _ _ _ dX0_packs_26 rfl h
  · replace h := h.2 c3
    refine g_aload_n C 1 dX0_packs_14 rfl ?_
    refine gf_RX0_98 C h1 dX0_packs_15 ?_
    refine g_iload C 4 dX0_packs_18 rfl ?_
    refine g_iald C (isX2_pack h1).1 (isX2_pack h1).2 h.1 dX0_packs_20 ?_
    replace h := h.2
    refine g_iconst C (v := (1 : Int32)) dX0_packs_21 (by decide) ?_
    refine g_icmp_ge C 27 dX0_packs_22 (by decide) (fun c4 => ?_) (fun c4 => ?_)
    · replace h := h.1 c4
      refine g_aload_n C 0 dX0_packs_27 rfl ?_
      refine g_aload_n C 1 dX0_packs_28 rfl ?_
      refine g_iload_n C 2 dX0_packs_29 rfl ?_
      refine g_iload_n C 3 dX0_packs_30 rfl ?_
      refine g_iload C 4 dX0_packs_31 rfl ?_
      refine g_callVI C [.ref (Y.ad r1), .int p2, .int p3, .int p4] [] (ok_X0_lacking hI h0 h1 h) (cw_RX0_65 _) rfl dc_X0_lacking ⟨Nat.le_of_ble_eq_true rfl, Nat.le_of_ble_eq_true rfl⟩ (isX0_lt h0) (isX0_sh h0) rfl rfl rfl rfl (Nat.le_of_ble_eq_true rfl) dX0_packs_33 (fun r6 m5 h => ?_)
      refine g_aload_n C 1 dX0_packs_36 rfl ?_
      refine gf_RX0_98 C h1 dX0_packs_37 ?_
      refine g_iload C 4 dX0_packs_40 rfl ?_
      refine g_iald C (isX2_pack h1).1 (isX2_pack h1).2 h.1 dX0_packs_42 ?_
      replace h := h.2
      refine g_iadd C dX0_packs_43 ?_
      refine g_iconst C (v := (1 : Int32)) dX0_packs_44 (by decide) ?_
      refine g_isub C dX0_packs_45 ?_
      refine g_aload_n C 1 dX0_packs_46 rfl ?_
      refine gf_RX0_98 C h1 dX0_packs_47 ?_
      refine g_iload C 4 dX0_packs_50 rfl ?_
      refine g_iald C (isX2_pack h1).1 (isX2_pack h1).2 h.1 dX0_packs_52 ?_
      replace h := h.2
      refine g_idiv C dX0_packs_53 h.1 ?_
      replace h := h.2
      exact hr _ _ _ _ _ dX0_packs_54 rfl h
    · replace h := h.2 c4
      refine g_iconst C (v := (0 : Int32)) dX0_packs_25 (by decide) ?_
      exact hr _ _ _ _ _ dX0_packs_26 rfl h
def SX0_findTakenBySoup_11 (X : XT) (Y : YT) (b : Nat) (r1 : Nat) (p2 : Int32) (p3 : Int32) : Int32 → Int32 → Mem → Prop := fun v4 v5 μ => G X Y 8 11 [(0, .ref (Y.ad b)), (1, .ref (Y.ad r1)), (2, .int p2), (3, .int p3), (4, .int v4), (5, .int v5)] [] μ
def SX0_findTakenBySoup_19 (X : XT) (Y : YT) (b : Nat) (r1 : Nat) (p2 : Int32) (p3 : Int32) : Int32 → Int32 → Int32 → Mem → Prop := fun v4 v5 v6 μ => G X Y 8 19 [(0, .ref (Y.ad b)), (1, .ref (Y.ad r1)), (2, .int p2), (3, .int p3), (4, .int v4), (5, .int v5), (6, .int v6)] [] μ
set_option maxRecDepth 20000 in
set_option maxHeartbeats 4000000 in
theorem tX0_findTakenBySoup_11 {X : XT} {Y : YT} {l0 : Launch} {b : Nat} {r1 : Nat} {p2 : Int32} {p3 : Int32} {Q : Mem → Prop} (C : Cx X Y 8 cX0_findTakenBySoup RX0 WX0_findTakenBySoup (rmB 1 22) l0) (hr : RV X Y cX0_findTakenBySoup Q) (hI : YI Y) (h0 : isX0 Y b) (h1 : isX2 Y r1) (v4 : Int32) (v5 : Int32) (μ : Mem) (h : nX0_findTakenBySoup_11 b r1 p2 p3 Q (SX0_findTakenBySoup_11 X Y b r1 p2 p3) (SX0_findTakenBySoup_19 X Y b r1 p2 p3) v4 v5 μ) : G X Y 8 11 [(0, .ref (Y.ad b)), (1, .ref (Y.ad r1)), (2, .int p2), (3, .int p3), (4, .int v4), (5, .int v5)] [] μ := by
  unfold nX0_findTakenBySoup_11 at h
  refine g_iload C 5 dX0_findTakenBySoup_11 rfl ?_
  refine g_if_lt C 92 dX0_findTakenBySoup_13 (by decide) (fun c3 => ?_) (fun c3 => ?_)
  · replace h := h.1 c3
    exact hr _ _ _ _ dX0_findTakenBySoup_92 h
  · replace h := h.2 c3
    refine g_iconst C (v := (0 : Int32)) dX0_findTakenBySoup_16 (by decide) ?_
    refine g_istore C [(6, .int ((0 : Int32))), (0, .ref (Y.ad b)), (1, .ref (Y.ad r1)), (2, .int p2), (3, .int p3), (4, .int v4), (5, .int v5)] dX0_findTakenBySoup_17 (by decide) rfl ?_
    refine g_lv (lv2 := [(0, .ref (Y.ad b)), (1, .ref (Y.ad r1)), (2, .int p2), (3, .int p3), (4, .int v4), (5, .int v5), (6, .int ((0 : Int32)))]) [1, 2, 3, 4, 5, 6, 0] ?_ rfl
    exact h
set_option maxRecDepth 20000 in
set_option maxHeartbeats 4000000 in
theorem tX0_findTakenBySoup_59 {X : XT} {Y : YT} {l0 : Launch} {b : Nat} {r1 : Nat} {p2 : Int32} {p3 : Int32} {Q : Mem → Prop} (C : Cx X Y 8 cX0_findTakenBySoup RX0 WX0_findTakenBySoup (rmB 1 22) l0) (hr : RV X Y cX0_findTakenBySoup Q) (hI : YI Y) (h0 : isX0 Y b) (h1 : isX2 Y r1) (v4 : Int32) (v5 : Int32) (v6 : Int32) (w0 : Int32) (μ : Mem) (h : nX0_findTakenBySoup_59 b r1 p2 p3 Q (SX0_findTakenBySoup_11 X Y b r1 p2 p3) (SX0_findTakenBySoup_19 X Y b r1 p2 p3) v4 v5 v6 w0 μ) : G X Y 8 59 [(0, .ref (Y.ad b)), (1, .ref (Y.ad r1)), (2, .int p2), (3, .int p3), (4, .int v4), (5, .int v5), (6, .int v6)] [.int w0] μ := by
  unfold nX0_findTakenBySoup_59 at h
  refine g_istore C [(7, .int w0), (0, .ref (Y.ad b)), (1, .ref (Y.ad r1)), (2, .int p2), (3, .int p3), (4, .int v4), (5, .int v5), (6, .int v6)] dX0_findTakenBySoup_59 (by decide) rfl ?_
  refine g_aload_n C 1 dX0_findTakenBySoup_61 rfl ?_
  refine gf_RX0_18 C h0 dX0_findTakenBySoup_62 ?_
  refine g_iload C 7 dX0_findTakenBySoup_65 rfl ?_
  refine g_dup2 C dX0_findTakenBySoup_67 rfl rfl ?_
  refine g_iald C (isX0_taken h0).1 (isX0_taken h0).2 h.1 dX0_findTakenBySoup_68 ?_
  replace h := h.2
  refine g_iload C 0 dX0_findTakenBySoup_69 rfl ?_
  refine g_iadd C dX0_findTakenBySoup_71 ?_
  refine g_iast C (isX0_taken h0).1 (isX0_taken h0).2 h.1 dX0_findTakenBySoup_72 ?_
  replace h := h.2
  refine g_iload C 5 dX0_findTakenBySoup_73 rfl ?_
  refine g_iload C 0 dX0_findTakenBySoup_75 rfl ?_
  refine g_isub C dX0_findTakenBySoup_77 ?_
  refine g_istore C [(4, .int (v4 - w0)), (7, .int w0), (0, .ref (Y.ad b)), (1, .ref (Y.ad r1)), (2, .int p2), (3, .int p3), (5, .int v5), (6, .int v6)] dX0_findTakenBySoup_78 (by decide) rfl ?_
  refine g_iinc C (v := v6 + 1) 7 [(6, .int (v6 + 1)), (4, .int (v4 - w0)), (7, .int w0), (0, .ref (Y.ad b)), (1, .ref (Y.ad r1)), (2, .int p2), (3, .int p3), (5, .int v5)] dX0_findTakenBySoup_80 rfl rfl (by decide) rfl ?_
  refine g_goto C 19 dX0_findTakenBySoup_83 (by decide) ?_
  refine g_lv (lv2 := [(0, .ref (Y.ad b)), (1, .ref (Y.ad r1)), (2, .int p2), (3, .int p3), (4, .int (v4 - w0)), (5, .int v5), (6, .int (v6 + 1))]) [3, 4, 5, 6, 1, 7, 0] ?_ rfl
  exact h
set_option maxRecDepth 20000 in
set_option maxHeartbeats 4000000 in
theorem tX0_findTakenBySoup_19 {X : XT} {Y : YT} {l0 : Launch} {b : Nat} {r1 : Nat} {p2 : Int32} {p3 : Int32} {Q : Mem → Prop} (C : Cx X Y 8 cX0_findTakenBySoup RX0 WX0_findTakenBySoup (rmB 1 22) l0) (hr : RV X Y cX0_findTakenBySoup Q) (hI : YI Y) (h0 : isX0 Y b) (h1 : isX2 Y r1) (v4 : Int32) (v5 : Int32) (v6 : Int32) (μ : Mem) (h : nX0_findTakenBySoup_19 b r1 p2 p3 Q (SX0_findTakenBySoup_11 X Y b r1 p2 p3) (SX0_findTakenBySoup_19 X Y b r1 p2 p3) v4 v5 v6 μ) : G X Y 8 19 [(0, .ref (Y.ad b)), (1, .ref (Y.ad r1)), (2, .int p2), (3, .int p3), (4, .int v4), (5, .int v5), (6, .int v6)] [] μ := by
  unfold nX0_findTakenBySoup_19 at h
  refine g_iload C 6 dX0_findTakenBySoup_19 rfl ?_
  refine g_aload_n C 1 dX0_findTakenBySoup_21 rfl ?_
  refine gf_RX0_62 C h1 dX0_findTakenBySoup_22 ?_
  refine g_icmp_ge C 86 dX0_findTakenBySoup_25 (by decide) (fun c4 => ?_) (fun c4 => ?_)
  · replace h := h.1 c4
    refine g_iinc C (v := v5 + (-1)) 5 [(5, .int (v5 + (-1))), (0, .ref (Y.ad b)), (1, .ref (Y.ad r1)), (2, .int p2), (3, .int p3), (4, .int v4), (6, .int v6)] dX0_findTakenBySoup_86 rfl rfl (by decide) rfl ?_
    refine g_goto C 11 dX0_findTakenBySoup_89 (by decide) ?_
    refine g_lv (lv2 := [(0, .ref (Y.ad b)), (1, .ref (Y.ad r1)), (2, .int p2), (3, .int p3), (4, .int v4), (5, .int (v5 + (-1)))]) [1, 2, 3, 4, 5, 0] ?_ rfl
    exact h
  · replace h := h.2 c4
    refine g_aload_n C 1 dX0_findTakenBySoup_28 rfl ?_
    refine g_iload_n C 2 dX0_findTakenBySoup_29 rfl ?_
    refine g_iload C 6 dX0_findTakenBySoup_30 rfl ?_
    refine g_callVI C [.int p2, .int v6] [] (ok_X2_isInSoup hI h1 h) (cw_RX0_90 _) rfl dc_X2_isInSoup ⟨Nat.le_of_ble_eq_true rfl, Nat.le_of_ble_eq_true rfl⟩ (isX2_lt h1) (isX2_sh h1) rfl rfl rfl rfl (Nat.le_of_ble_eq_true rfl) dX0_findTakenBySoup_32 (fun r6 m5 h => ?_)
    refine g_if_eq C 58 dX0_findTakenBySoup_35 (by decide) (fun c7 => ?_) (fun c7 => ?_)
    · replace h := h.1 c7
      refine g_iconst C (v := (0 : Int32)) dX0_findTakenBySoup_58 (by decide) ?_
      exact tX0_findTakenBySoup_59 C hr hI h0 h1 _ _ _ _ _ h
    · replace h := h.2 c7
      refine g_iload C 4 dX0_findTakenBySoup_38 rfl ?_
      refine g_aload_n C 0 dX0_findTakenBySoup_40 rfl ?_
      refine gf_RX0_9 C h0 dX0_findTakenBySoup_41 ?_
      refine g_iload C 6 dX0_findTakenBySoup_44 rfl ?_
      refine g_iconst C (v := (4 : Int32)) dX0_findTakenBySoup_46 (by decide) ?_
      refine g_imul C dX0_findTakenBySoup_47 ?_
      refine g_iload C 5 dX0_findTakenBySoup_48 rfl ?_
      refine g_iadd C dX0_findTakenBySoup_50 ?_
      refine g_iald C (isX0_units h0).1 (isX0_units h0).2 h.1 dX0_findTakenBySoup_51 ?_
      replace h := h.2
      refine g_min C (List.mem_cons_of_mem _ mM_RX0_108) (List.mem_cons_of_mem _ mLib_min_s) (List.mem_cons_of_mem _ mLib_math) (List.mem_cons_of_mem _ mLib_min_c) (Nat.le_of_ble_eq_true rfl) (Nat.le_of_ble_eq_true rfl) dX0_findTakenBySoup_52 ?_
      refine g_topi (fun x8 ex8 => ?_)
      replace h := h x8 ex8
      refine g_goto C 59 dX0_findTakenBySoup_55 (by decide) ?_
      exact tX0_findTakenBySoup_59 C hr hI h0 h1 _ _ _ _ _ h
set_option maxRecDepth 20000 in
set_option maxHeartbeats 4000000 in
theorem ok_X0_findTakenBySoup {Y : YT} {l0 : Launch} {b : Nat} {r1 : Nat} {p2 : Int32} {p3 : Int32} {μ : Mem} {Q : Mem → Prop} (hI : YI Y) (h0 : isX0 Y b) (h1 : isX2 Y r1) (h : PX0_findTakenBySoup b r1 p2 p3 μ Q) : MV l0 yX0_findTakenBySoup WX0_findTakenBySoup 1 22 Y [.ref (Y.ad b), .ref (Y.ad r1), .int p2, .int p3] μ Q := by
  refine mV_of (cc := cX0_findTakenBySoup) (maxL := 8) (by decide +kernel) rfl hI (Nat.le_of_ble_eq_true rfl) (fun X C hr => ?_)
  replace C : Cx X Y 8 cX0_findTakenBySoup RX0 WX0_findTakenBySoup (rmB 1 22) l0 := C
  refine g_lv (lv2 := [(0, .ref (Y.ad b)), (1, .ref (Y.ad r1)), (2, .int p2), (3, .int p3)]) [0, 1, 2, 3] ?_ rfl
  unfold PX0_findTakenBySoup at h
  replace h := h (SX0_findTakenBySoup_11 X Y b r1 p2 p3) (SX0_findTakenBySoup_19 X Y b r1 p2 p3) (fun v4 v5 μ z => tX0_findTakenBySoup_11 C hr hI h0 h1 v4 v5 μ z) (fun v4 v5 v6 μ z => tX0_findTakenBySoup_19 C hr hI h0 h1 v4 v5 v6 μ z)
  refine g_aload_n C 1 dX0_findTakenBySoup_0 rfl ?_
  refine g_iload_n C 2 dX0_findTakenBySoup_1 rfl ?_
  refine g_iload_n C 3 dX0_findTakenBySoup_2 rfl ?_
  refine g_callVI C [.int p2, .int p3] [] (ok_X2_soupWanted hI h1 h) (cw_RX0_94 _) rfl dc_X2_soupWanted ⟨Nat.le_of_ble_eq_true rfl, Nat.le_of_ble_eq_true rfl⟩ (isX2_lt h1) (isX2_sh h1) rfl rfl rfl rfl (Nat.le_of_ble_eq_true rfl) dX0_findTakenBySoup_3 (fun r2 m1 h => ?_)
  refine g_istore C [(4, .int r2), (0, .ref (Y.ad b)), (1, .ref (Y.ad r1)), (2, .int p2), (3, .int p3)] dX0_findTakenBySoup_6 (by decide) rfl ?_
  refine g_iconst C (v := (3 : Int32)) dX0_findTakenBySoup_8 (by decide) ?_
  refine g_istore C [(5, .int ((3 : Int32))), (4, .int r2), (0, .ref (Y.ad b)), (1, .ref (Y.ad r1)), (2, .int p2), (3, .int p3)] dX0_findTakenBySoup_9 (by decide) rfl ?_
  refine g_lv (lv2 := [(0, .ref (Y.ad b)), (1, .ref (Y.ad r1)), (2, .int p2), (3, .int p3), (4, .int r2), (5, .int ((3 : Int32)))]) [2, 3, 4, 5, 1, 0] ?_ rfl
  exact h
def SX0_findTaken_3 (X : XT) (Y : YT) (b : Nat) (r1 : Nat) (p2 : Int32) (p3 : Int32) : Int32 → Mem → Prop := fun v4 μ => G X Y 5 3 [(0, .ref (Y.ad b)), (1, .ref (Y.ad r1)), (2, .int p2), (3, .int p3), (4, .int v4)] [] μ
def SX0_findTaken_47 (X : XT) (Y : YT) (b : Nat) (r1 : Nat) (p2 : Int32) (p3 : Int32) : Int32 → Mem → Prop := fun v4 μ => G X Y 5 47 [(0, .ref (Y.ad b)), (1, .ref (Y.ad r1)), (2, .int p2), (3, .int p3), (4, .int v4)] [] μ
set_option maxRecDepth 20000 in
set_option maxHeartbeats 4000000 in
theorem tX0_findTaken_3 {X : XT} {Y : YT} {l0 : Launch} {b : Nat} {r1 : Nat} {p2 : Int32} {p3 : Int32} {Q : Mem → Prop} (C : Cx X Y 5 cX0_findTaken RX0 WX0_findTaken (rmB 2 49) l0) (hr : RV X Y cX0_findTaken Q) (hI : YI Y) (h0 : isX0 Y b) (h1 : isX2 Y r1) (v4 : Int32) (μ : Mem) (h : nX0_findTaken_3 b r1 p2 p3 Q (SX0_findTaken_3 X Y b r1 p2 p3) (SX0_findTaken_47 X Y b r1 p2 p3) v4 μ) : G X Y 5 3 [(0, .ref (Y.ad b)), (1, .ref (Y.ad r1)), (2, .int p2), (3, .int p3), (4, .int v4)] [] μ := by
  unfold nX0_findTaken_3 at h
  refine g_iload C 4 dX0_findTaken_3 rfl ?_
  refine g_aload_n C 1 dX0_findTaken_5 rfl ?_
  refine gf_RX0_62 C h1 dX0_findTaken_6 ?_
  refine g_icmp_ge C 26 dX0_findTaken_9 (by decide) (fun c1 => ?_) (fun c1 => ?_)
  · replace h := h.1 c1
    refine g_aload_n C 1 dX0_findTaken_26 rfl ?_
    refine gf_RX0_73 C h1 dX0_findTaken_27 ?_
    refine g_iload_n C 2 dX0_findTaken_30 rfl ?_
    refine g_iald C (isX2_kind h1).1 (isX2_kind h1).2 h.1 dX0_findTaken_31 ?_
    replace h := h.2
    refine g_iconst C (v := (3 : Int32)) dX0_findTaken_32 (by decide) ?_
    refine g_icmp_ne C 44 dX0_findTaken_33 (by decide) (fun c2 => ?_) (fun c2 => ?_)
    · replace h := h.1 c2
      refine g_iconst C (v := (0 : Int32)) dX0_findTaken_44 (by decide) ?_
      refine g_istore C [(4, .int ((0 : Int32))), (0, .ref (Y.ad b)), (1, .ref (Y.ad r1)), (2, .int p2), (3, .int p3)] dX0_findTaken_45 (by decide) rfl ?_
      refine g_lv (lv2 := [(0, .ref (Y.ad b)), (1, .ref (Y.ad r1)), (2, .int p2), (3, .int p3), (4, .int ((0 : Int32)))]) [1, 2, 3, 4, 0] ?_ rfl
      exact h
    · replace h := h.2 c2
      refine g_aload_n C 0 dX0_findTaken_36 rfl ?_
      refine g_aload_n C 1 dX0_findTaken_37 rfl ?_
      refine g_iload_n C 2 dX0_findTaken_38 rfl ?_
      refine g_iload_n C 3 dX0_findTaken_39 rfl ?_
      refine g_callVV C [.ref (Y.ad r1), .int p2, .int p3] [] (ok_X0_findTakenBySoup hI h0 h1 h) (cw_RX0_105 _) rfl dc_X0_findTakenBySoup ⟨Nat.le_of_ble_eq_true rfl, Nat.le_of_ble_eq_true rfl⟩ (isX0_lt h0) (isX0_sh h0) rfl rfl rfl rfl (Nat.le_of_ble_eq_true rfl) dX0_findTaken_40 (fun m3 h => ?_)
      exact hr _ _ _ _ dX0_findTaken_43 h
  · replace h := h.2 c1
    refine g_aload_n C 0 dX0_findTaken_12 rfl ?_
    refine gf_RX0_18 C h0 dX0_findTaken_13 ?_
    refine g_iload C 4 dX0_findTaken_16 rfl ?_
    refine g_iconst C (v := (0 : Int32)) dX0_findTaken_18 (by decide) ?_
    refine g_iast C (isX0_taken h0).1 (isX0_taken h0).2 h.1 dX0_findTaken_19 ?_
    replace h := h.2
    refine g_iinc C (v := v4 + 1) 4 [(4, .int (v4 + 1)), (0, .ref (Y.ad b)), (1, .ref (Y.ad r1)), (2, .int p2), (3, .int p3)] dX0_findTaken_20 rfl rfl (by decide) rfl ?_
    refine g_goto C 3 dX0_findTaken_23 (by decide) ?_
    refine g_lv (lv2 := [(0, .ref (Y.ad b)), (1, .ref (Y.ad r1)), (2, .int p2), (3, .int p3), (4, .int (v4 + 1))]) [1, 2, 3, 4, 0] ?_ rfl
    exact h
set_option maxRecDepth 20000 in
set_option maxHeartbeats 4000000 in
theorem tX0_findTaken_47 {X : XT} {Y : YT} {l0 : Launch} {b : Nat} {r1 : Nat} {p2 : Int32} {p3 : Int32} {Q : Mem → Prop} (C : Cx X Y 5 cX0_findTaken RX0 WX0_findTaken (rmB 2 49) l0) (hr : RV X Y cX0_findTaken Q) (hI : YI Y) (h0 : isX0 Y b) (h1 : isX2 Y r1) (v4 : Int32) (μ : Mem) (h : nX0_findTaken_47 b r1 p2 p3 Q (SX0_findTaken_3 X Y b r1 p2 p3) (SX0_findTaken_47 X Y b r1 p2 p3) v4 μ) : G X Y 5 47 [(0, .ref (Y.ad b)), (1, .ref (Y.ad r1)), (2, .int p2), (3, .int p3), (4, .int v4)] [] μ := by
  unfold nX0_findTaken_47 at h
  refine g_iload C 4 dX0_findTaken_47 rfl ?_
  refine g_aload_n C 1 dX0_findTaken_49 rfl ?_
  refine gf_RX0_62 C h1 dX0_findTaken_50 ?_
  refine g_icmp_ge C 86 dX0_findTaken_53 (by decide) (fun c5 => ?_) (fun c5 => ?_)
  · replace h := h.1 c5
    exact hr _ _ _ _ dX0_findTaken_86 h
  · replace h := h.2 c5
    refine g_aload_n C 0 dX0_findTaken_56 rfl ?_
    refine gf_RX0_18 C h0 dX0_findTaken_57 ?_
    refine g_iload C 4 dX0_findTaken_60 rfl ?_
    refine g_aload_n C 1 dX0_findTaken_62 rfl ?_
    refine g_iload_n C 2 dX0_findTaken_63 rfl ?_
    refine g_iload_n C 3 dX0_findTaken_64 rfl ?_
    refine g_iload C 4 dX0_findTaken_65 rfl ?_
    refine g_callVI C [.int p2, .int p3, .int v4] [.int v4, .ref (Y.ad (b + 3))] (ok_X2_wanted hI h1 h) (cw_RX0_76 _) rfl dc_X2_wanted ⟨Nat.le_of_ble_eq_true rfl, Nat.le_of_ble_eq_true rfl⟩ (isX2_lt h1) (isX2_sh h1) rfl rfl rfl rfl (Nat.le_of_ble_eq_true rfl) dX0_findTaken_67 (fun r7 m6 h => ?_)
    refine g_aload_n C 0 dX0_findTaken_70 rfl ?_
    refine g_iload C 4 dX0_findTaken_71 rfl ?_
    refine g_callVI C [.int v4] [.int r7, .int v4, .ref (Y.ad (b + 3))] (ok_X0_unitsOf hI h0 h) (cw_RX0_80 _) rfl dc_X0_unitsOf ⟨Nat.le_of_ble_eq_true rfl, Nat.le_of_ble_eq_true rfl⟩ (isX0_lt h0) (isX0_sh h0) rfl rfl rfl rfl (Nat.le_of_ble_eq_true rfl) dX0_findTaken_73 (fun r9 m8 h => ?_)
    refine g_min C (List.mem_cons_of_mem _ mM_RX0_108) (List.mem_cons_of_mem _ mLib_min_s) (List.mem_cons_of_mem _ mLib_math) (List.mem_cons_of_mem _ mLib_min_c) (Nat.le_of_ble_eq_true rfl) (Nat.le_of_ble_eq_true rfl) dX0_findTaken_76 ?_
    refine g_topi (fun x10 ex10 => ?_)
    replace h := h x10 ex10
    refine g_iast C (isX0_taken h0).1 (isX0_taken h0).2 h.1 dX0_findTaken_79 ?_
    replace h := h.2
    refine g_iinc C (v := v4 + 1) 4 [(4, .int (v4 + 1)), (0, .ref (Y.ad b)), (1, .ref (Y.ad r1)), (2, .int p2), (3, .int p3)] dX0_findTaken_80 rfl rfl (by decide) rfl ?_
    refine g_goto C 47 dX0_findTaken_83 (by decide) ?_
    refine g_lv (lv2 := [(0, .ref (Y.ad b)), (1, .ref (Y.ad r1)), (2, .int p2), (3, .int p3), (4, .int (v4 + 1))]) [1, 2, 3, 4, 0] ?_ rfl
    exact h
set_option maxRecDepth 20000 in
set_option maxHeartbeats 4000000 in
theorem ok_X0_findTaken {Y : YT} {l0 : Launch} {b : Nat} {r1 : Nat} {p2 : Int32} {p3 : Int32} {μ : Mem} {Q : Mem → Prop} (hI : YI Y) (h0 : isX0 Y b) (h1 : isX2 Y r1) (h : PX0_findTaken b r1 p2 p3 μ Q) : MV l0 yX0_findTaken WX0_findTaken 2 49 Y [.ref (Y.ad b), .ref (Y.ad r1), .int p2, .int p3] μ Q := by
  refine mV_of (cc := cX0_findTaken) (maxL := 5) (by decide +kernel) rfl hI (Nat.le_of_ble_eq_true rfl) (fun X C hr => ?_)
  replace C : Cx X Y 5 cX0_findTaken RX0 WX0_findTaken (rmB 2 49) l0 := C
  refine g_lv (lv2 := [(0, .ref (Y.ad b)), (1, .ref (Y.ad r1)), (2, .int p2), (3, .int p3)]) [0, 1, 2, 3] ?_ rfl
  unfold PX0_findTaken at h
  replace h := h (SX0_findTaken_3 X Y b r1 p2 p3) (SX0_findTaken_47 X Y b r1 p2 p3) (fun v4 μ z => tX0_findTaken_3 C hr hI h0 h1 v4 μ z) (fun v4 μ z => tX0_findTaken_47 C hr hI h0 h1 v4 μ z)
  refine g_iconst C (v := (0 : Int32)) dX0_findTaken_0 (by decide) ?_
  refine g_istore C [(4, .int ((0 : Int32))), (0, .ref (Y.ad b)), (1, .ref (Y.ad r1)), (2, .int p2), (3, .int p3)] dX0_findTaken_1 (by decide) rfl ?_
  refine g_lv (lv2 := [(0, .ref (Y.ad b)), (1, .ref (Y.ad r1)), (2, .int p2), (3, .int p3), (4, .int ((0 : Int32)))]) [1, 2, 3, 4, 0] ?_ rfl
  exact h
set_option maxRecDepth 20000 in
set_option maxHeartbeats 4000000 in
theorem ok_X0_taking {Y : YT} {l0 : Launch} {b : Nat} {r1 : Nat} {p2 : Int32} {p3 : Int32} {p4 : Int32} {μ : Mem} {Q : Int32 → Mem → Prop} (hI : YI Y) (h0 : isX0 Y b) (h1 : isX2 Y r1) (h : PX0_taking b r1 p2 p3 p4 μ Q) : MI l0 yX0_taking WX0_taking 3 73 Y [.ref (Y.ad b), .ref (Y.ad r1), .int p2, .int p3, .int p4] μ Q := by
  refine mI_of (ty := .int) (cc := cX0_taking) (maxL := 5) (by decide +kernel) rfl hI (Nat.le_of_ble_eq_true rfl) (fun X C hr => ?_)
  replace C : Cx X Y 5 cX0_taking RX0 WX0_taking (rmB 3 73) l0 := C
  refine g_lv (lv2 := [(0, .ref (Y.ad b)), (1, .ref (Y.ad r1)), (2, .int p2), (3, .int p3), (4, .int p4)]) [0, 1, 2, 3, 4] ?_ rfl
  unfold PX0_taking at h
  refine g_aload_n C 0 dX0_taking_0 rfl ?_
  refine g_aload_n C 1 dX0_taking_1 rfl ?_
  refine g_iload_n C 2 dX0_taking_2 rfl ?_
  refine g_iload_n C 3 dX0_taking_3 rfl ?_
  refine g_callVV C [.ref (Y.ad r1), .int p2, .int p3] [] (ok_X0_findTaken hI h0 h1 h) (cw_RX0_101 _) rfl dc_X0_findTaken ⟨Nat.le_of_ble_eq_true rfl, Nat.le_of_ble_eq_true rfl⟩ (isX0_lt h0) (isX0_sh h0) rfl rfl rfl rfl (Nat.le_of_ble_eq_true rfl) dX0_taking_4 (fun m1 h => ?_)
  refine g_aload_n C 0 dX0_taking_7 rfl ?_
  refine gf_RX0_18 C h0 dX0_taking_8 ?_
  refine g_iload C 4 dX0_taking_11 rfl ?_
  refine g_iald C (isX0_taken h0).1 (isX0_taken h0).2 h.1 dX0_taking_13 ?_
  replace h := h.2
  exact hr _ _ _ _ _ dX0_taking_14 rfl h
def SX0_takeOldest_5 (X : XT) (Y : YT) (b : Nat) (p1 : Int32) (p2 : Int32) : Int32 → Int32 → Mem → Prop := fun v3 v4 μ => G X Y 6 5 [(0, .ref (Y.ad b)), (1, .int p1), (2, .int p2), (3, .int v3), (4, .int v4)] [] μ
set_option maxRecDepth 20000 in
set_option maxHeartbeats 4000000 in
theorem tX0_takeOldest_5 {X : XT} {Y : YT} {l0 : Launch} {b : Nat} {p1 : Int32} {p2 : Int32} {Q : Mem → Prop} (C : Cx X Y 6 cX0_takeOldest RX0 WX0_takeOldest (rmB 1 13) l0) (hr : RV X Y cX0_takeOldest Q) (hI : YI Y) (h0 : isX0 Y b) (v3 : Int32) (v4 : Int32) (μ : Mem) (h : nX0_takeOldest_5 b p1 p2 Q (SX0_takeOldest_5 X Y b p1 p2) v3 v4 μ) : G X Y 6 5 [(0, .ref (Y.ad b)), (1, .int p1), (2, .int p2), (3, .int v3), (4, .int v4)] [] μ := by
  unfold nX0_takeOldest_5 at h
  refine g_iload C 4 dX0_takeOldest_5 rfl ?_
  refine g_if_lt C 58 dX0_takeOldest_7 (by decide) (fun c1 => ?_) (fun c1 => ?_)
  · replace h := h.1 c1
    exact hr _ _ _ _ dX0_takeOldest_58 h
  · replace h := h.2 c1
    refine g_iload_n C 3 dX0_takeOldest_10 rfl ?_
    refine g_if_le C 58 dX0_takeOldest_11 (by decide) (fun c2 => ?_) (fun c2 => ?_)
    · replace h := h.1 c2
      exact hr _ _ _ _ dX0_takeOldest_58 h
    · replace h := h.2 c2
      refine g_iload_n C 3 dX0_takeOldest_14 rfl ?_
      refine g_aload_n C 0 dX0_takeOldest_15 rfl ?_
      refine gf_RX0_9 C h0 dX0_takeOldest_16 ?_
      refine g_iload_n C 1 dX0_takeOldest_19 rfl ?_
      refine g_iconst C (v := (4 : Int32)) dX0_takeOldest_20 (by decide) ?_
      refine g_imul C dX0_takeOldest_21 ?_
      refine g_iload C 4 dX0_takeOldest_22 rfl ?_
      refine g_iadd C dX0_takeOldest_24 ?_
      refine g_iald C (isX0_units h0).1 (isX0_units h0).2 h.1 dX0_takeOldest_25 ?_
      replace h := h.2
      refine g_min C (List.mem_cons_of_mem _ mM_RX0_108) (List.mem_cons_of_mem _ mLib_min_s) (List.mem_cons_of_mem _ mLib_math) (List.mem_cons_of_mem _ mLib_min_c) (Nat.le_of_ble_eq_true rfl) (Nat.le_of_ble_eq_true rfl) dX0_takeOldest_26 ?_
      refine g_topi (fun x3 ex3 => ?_)
      replace h := h x3 ex3
      refine g_istore C [(5, .int x3), (0, .ref (Y.ad b)), (1, .int p1), (2, .int p2), (3, .int v3), (4, .int v4)] dX0_takeOldest_29 (by decide) rfl ?_
      refine g_aload_n C 1 dX0_takeOldest_31 rfl ?_
      refine gf_RX0_9 C h0 dX0_takeOldest_32 ?_
      refine g_iload_n C 2 dX0_takeOldest_35 rfl ?_
      refine g_iconst C (v := (4 : Int32)) dX0_takeOldest_36 (by decide) ?_
      refine g_imul C dX0_takeOldest_37 ?_
      refine g_iload C 5 dX0_takeOldest_38 rfl ?_
      refine g_iadd C dX0_takeOldest_40 ?_
      refine g_dup2 C dX0_takeOldest_41 rfl rfl ?_
      refine g_iald C (isX0_units h0).1 (isX0_units h0).2 h.1 dX0_takeOldest_42 ?_
      replace h := h.2
      refine g_iload C 0 dX0_takeOldest_43 rfl ?_
      refine g_isub C dX0_takeOldest_45 ?_
      refine g_iast C (isX0_units h0).1 (isX0_units h0).2 h.1 dX0_takeOldest_46 ?_
      replace h := h.2
      refine g_mem (fun m4 em4 => ?_)
      replace h := h m4 em4
      refine g_iload_n C 4 dX0_takeOldest_47 rfl ?_
      refine g_iload C 0 dX0_takeOldest_48 rfl ?_
      refine g_isub C dX0_takeOldest_50 ?_
      refine g_istore_n C [(3, .int (v3 - x3)), (5, .int x3), (0, .ref (Y.ad b)), (1, .int p1), (2, .int p2), (4, .int v4)] dX0_takeOldest_51 (by decide) rfl ?_
      refine g_iinc C (v := v4 + (-1)) 5 [(4, .int (v4 + (-1))), (3, .int (v3 - x3)), (5, .int x3), (0, .ref (Y.ad b)), (1, .int p1), (2, .int p2)] dX0_takeOldest_52 rfl rfl (by decide) rfl ?_
      refine g_goto C 5 dX0_takeOldest_55 (by decide) ?_
      refine g_lv (lv2 := [(0, .ref (Y.ad b)), (1, .int p1), (2, .int p2), (3, .int (v3 - x3)), (4, .int (v4 + (-1)))]) [3, 4, 5, 1, 0] ?_ rfl
      exact h
set_option maxRecDepth 20000 in
set_option maxHeartbeats 4000000 in
theorem ok_X0_takeOldest {Y : YT} {l0 : Launch} {b : Nat} {p1 : Int32} {p2 : Int32} {μ : Mem} {Q : Mem → Prop} (hI : YI Y) (h0 : isX0 Y b) (h : PX0_takeOldest b p1 p2 μ Q) : MV l0 yX0_takeOldest WX0_takeOldest 1 13 Y [.ref (Y.ad b), .int p1, .int p2] μ Q := by
  refine mV_of (cc := cX0_takeOldest) (maxL := 6) (by decide +kernel) rfl hI (Nat.le_of_ble_eq_true rfl) (fun X C hr => ?_)
  replace C : Cx X Y 6 cX0_takeOldest RX0 WX0_takeOldest (rmB 1 13) l0 := C
  refine g_lv (lv2 := [(0, .ref (Y.ad b)), (1, .int p1), (2, .int p2)]) [0, 1, 2] ?_ rfl
  unfold PX0_takeOldest at h
  replace h := h (SX0_takeOldest_5 X Y b p1 p2) (fun v3 v4 μ z => tX0_takeOldest_5 C hr hI h0 v3 v4 μ z)
  refine g_iload_n C 2 dX0_takeOldest_0 rfl ?_
  refine g_istore_n C [(3, .int p2), (0, .ref (Y.ad b)), (1, .int p1), (2, .int p2)] dX0_takeOldest_1 (by decide) rfl ?_
  refine g_iconst C (v := (3 : Int32)) dX0_takeOldest_2 (by decide) ?_
  refine g_istore C [(4, .int ((3 : Int32))), (3, .int p2), (0, .ref (Y.ad b)), (1, .int p1), (2, .int p2)] dX0_takeOldest_3 (by decide) rfl ?_
  refine g_lv (lv2 := [(0, .ref (Y.ad b)), (1, .int p1), (2, .int p2), (3, .int p2), (4, .int ((3 : Int32)))]) [2, 3, 4, 1, 0] ?_ rfl
  exact h
def SX0_serve_13 (X : XT) (Y : YT) (b : Nat) (r1 : Nat) (p2 : Int32) (p3 : Int32) : Int32 → Int32 → Mem → Prop := fun v4 v5 μ => G X Y 8 13 [(0, .ref (Y.ad b)), (1, .ref (Y.ad r1)), (2, .int p2), (3, .int p3), (4, .int v4), (5, .int v5)] [] μ
set_option maxRecDepth 20000 in
set_option maxHeartbeats 4000000 in
theorem tX0_serve_62 {X : XT} {Y : YT} {l0 : Launch} {b : Nat} {r1 : Nat} {p2 : Int32} {p3 : Int32} {Q : Int32 → Mem → Prop} (C : Cx X Y 8 cX0_serve RX0 WX0_serve (rmB 3 74) l0) (hr : RI X Y cX0_serve .int Q) (hI : YI Y) (h0 : isX0 Y b) (h1 : isX2 Y r1) (v4 : Int32) (v5 : Int32) (v6 : Int32) (w0 : Int32) (μ : Mem) (h : nX0_serve_62 b r1 p2 p3 Q (SX0_serve_13 X Y b r1 p2 p3) v4 v5 v6 w0 μ) : G X Y 8 62 [(0, .ref (Y.ad b)), (1, .ref (Y.ad r1)), (2, .int p2), (3, .int p3), (4, .int v4), (5, .int v5), (6, .int v6)] [.int w0] μ := by
  unfold nX0_serve_62 at h
  refine g_istore C [(7, .int w0), (0, .ref (Y.ad b)), (1, .ref (Y.ad r1)), (2, .int p2), (3, .int p3), (4, .int v4), (5, .int v5), (6, .int v6)] dX0_serve_62 (by decide) rfl ?_
  refine g_aload_n C 1 dX0_serve_64 rfl ?_
  refine g_iload C 6 dX0_serve_65 rfl ?_
  refine g_aload_n C 1 dX0_serve_67 rfl ?_
  refine gf_RX0_18 C h0 dX0_serve_68 ?_
  refine g_iload C 6 dX0_serve_71 rfl ?_
  refine g_iald C (isX0_taken h0).1 (isX0_taken h0).2 h.1 dX0_serve_73 ?_
  replace h := h.2
  refine g_callVV C [.int v5, .int (μ.1 (b + 3) v5.toNatClampNeg)] [] (ok_X0_takeOldest hI h0 h) (cw_RX0_114 _) rfl dc_X0_takeOldest ⟨Nat.le_of_ble_eq_true rfl, Nat.le_of_ble_eq_true rfl⟩ (isX0_lt h0) (isX0_sh h0) rfl rfl rfl rfl (Nat.le_of_ble_eq_true rfl) dX0_serve_74 (fun m11 h => ?_)
  refine g_aload_n C 1 dX0_serve_77 rfl ?_
  refine gf_RX0_9 C h0 dX0_serve_78 ?_
  refine g_iload C 6 dX0_serve_81 rfl ?_
  refine g_iconst C (v := (4 : Int32)) dX0_serve_83 (by decide) ?_
  refine g_imul C dX0_serve_84 ?_
  refine g_dup2 C dX0_serve_85 rfl rfl ?_
  refine g_iald C (isX0_units h0).1 (isX0_units h0).2 h.1 dX0_serve_86 ?_
  replace h := h.2
  refine g_iload C 0 dX0_serve_87 rfl ?_
  refine g_aload_n C 2 dX0_serve_89 rfl ?_
  refine gf_RX0_118 C h1 dX0_serve_90 ?_
  refine g_iload_n C 3 dX0_serve_93 rfl ?_
  refine g_bipush C (v := (6 : Int32)) dX0_serve_94 (by decide) ?_
  refine g_imul C dX0_serve_96 ?_
  refine g_iload C 6 dX0_serve_97 rfl ?_
  refine g_iadd C dX0_serve_99 ?_
  refine g_iald C (isX2_leaves h1).1 (isX2_leaves h1).2 h.1 dX0_serve_100 ?_
  replace h := h.2
  refine g_iadd C dX0_serve_101 ?_
  refine g_iadd C dX0_serve_102 ?_
  refine g_iast C (isX0_units h0).1 (isX0_units h0).2 h.1 dX0_serve_103 ?_
  replace h := h.2
  refine g_mem (fun m13 em13 => ?_)
  replace h := h m13 em13
  refine g_iload C 5 dX0_serve_104 rfl ?_
  refine g_iload C 7 dX0_serve_106 rfl ?_
  refine g_aload_n C 2 dX0_serve_108 rfl ?_
  refine gf_RX0_121 C h1 dX0_serve_109 ?_
  refine g_iload C 6 dX0_serve_112 rfl ?_
  refine g_iald C (isX2_price h1).1 (isX2_price h1).2 h.1 dX0_serve_114 ?_
  replace h := h.2
  refine g_imul C dX0_serve_115 ?_
  refine g_iadd C dX0_serve_116 ?_
  refine g_istore C [(4, .int (v4 + (v6 * (m13.1 (r1 + 3) v5.toNatClampNeg)))), (7, .int w0), (0, .ref (Y.ad b)), (1, .ref (Y.ad r1)), (2, .int p2), (3, .int p3), (5, .int v5), (6, .int v6)] dX0_serve_117 (by decide) rfl ?_
  refine g_iinc C (v := v5 + 1) 6 [(5, .int (v5 + 1)), (4, .int (v4 + (v6 * (m13.1 (r1 + 3) v5.toNatClampNeg)))), (7, .int w0), (0, .ref (Y.ad b)), (1, .ref (Y.ad r1)), (2, .int p2), (3, .int p3), (6, .int v6)] dX0_serve_119 rfl rfl (by decide) rfl ?_
  refine g_goto C 13 dX0_serve_122 (by decide) ?_
  refine g_lv (lv2 := [(0, .ref (Y.ad b)), (1, .ref (Y.ad r1)), (2, .int p2), (3, .int p3), (4, .int (v4 + (v6 * (m13.1 (r1 + 3) v5.toNatClampNeg)))), (5, .int (v5 + 1))]) [3, 4, 5, 6, 1, 0] ?_ rfl
  exact h
set_option maxRecDepth 20000 in
set_option maxHeartbeats 4000000 in
theorem tX0_serve_13 {X : XT} {Y : YT} {l0 : Launch} {b : Nat} {r1 : Nat} {p2 : Int32} {p3 : Int32} {Q : Int32 → Mem → Prop} (C : Cx X Y 8 cX0_serve RX0 WX0_serve (rmB 3 74) l0) (hr : RI X Y cX0_serve .int Q) (hI : YI Y) (h0 : isX0 Y b) (h1 : isX2 Y r1) (v4 : Int32) (v5 : Int32) (μ : Mem) (h : nX0_serve_13 b r1 p2 p3 Q (SX0_serve_13 X Y b r1 p2 p3) v4 v5 μ) : G X Y 8 13 [(0, .ref (Y.ad b)), (1, .ref (Y.ad r1)), (2, .int p2), (3, .int p3), (4, .int v4), (5, .int v5)] [] μ := by
  unfold nX0_serve_13 at h
  refine g_iload C 5 dX0_serve_13 rfl ?_
  refine g_aload_n C 1 dX0_serve_15 rfl ?_
  refine gf_RX0_62 C h1 dX0_serve_16 ?_
  refine g_icmp_ge C 125 dX0_serve_19 (by decide) (fun c3 => ?_) (fun c3 => ?_)
  · replace h := h.1 c3
    refine g_aload_n C 0 dX0_serve_125 rfl ?_
    refine gf_RX0_15 C h0 dX0_serve_126 ?_
    refine g_iload_n C 2 dX0_serve_129 rfl ?_
    refine g_aload_n C 0 dX0_serve_130 rfl ?_
    refine gf_RX0_24 C h0 dX0_serve_131 ?_
    refine g_iast C (isX0_eatenLast h0).1 (isX0_eatenLast h0).2 h.1 dX0_serve_134 ?_
    replace h := h.2
    refine g_aload_n C 0 dX0_serve_135 rfl ?_
    refine g_iload_n C 2 dX0_serve_136 rfl ?_
    refine gp_RX0_28 C h0 dX0_serve_137 ?_
    refine g_mem (fun m4 em4 => ?_)
    replace h := h m4 em4
    refine g_aload_n C 0 dX0_serve_140 rfl ?_
    refine g_dup C dX0_serve_141 rfl ?_
    refine gf_RX0_34 C h0 dX0_serve_142 ?_
    refine g_iload C 4 dX0_serve_145 rfl ?_
    refine g_iadd C dX0_serve_147 ?_
    refine gp_RX0_34 C h0 dX0_serve_148 ?_
    refine g_aload_n C 0 dX0_serve_151 rfl ?_
    refine g_dup C dX0_serve_152 rfl ?_
    refine gf_RX0_40 C h0 dX0_serve_153 ?_
    refine g_aload_n C 1 dX0_serve_156 rfl ?_
    refine gf_RX0_124 C h1 dX0_serve_157 ?_
    refine g_iload_n C 2 dX0_serve_160 rfl ?_
    refine g_iald C (isX2_likes h1).1 (isX2_likes h1).2 h.1 dX0_serve_161 ?_
    replace h := h.2
    refine g_iadd C dX0_serve_162 ?_
    refine gp_RX0_40 C h0 dX0_serve_163 ?_
    refine g_mem (fun m5 em5 => ?_)
    replace h := h m5 em5
    refine g_iload C 4 dX0_serve_166 rfl ?_
    exact hr _ _ _ _ _ dX0_serve_168 rfl h
  · replace h := h.2 c3
    refine g_aload_n C 0 dX0_serve_22 rfl ?_
    refine g_aload_n C 1 dX0_serve_23 rfl ?_
    refine g_iload_n C 2 dX0_serve_24 rfl ?_
    refine g_iload_n C 3 dX0_serve_25 rfl ?_
    refine g_iload C 5 dX0_serve_26 rfl ?_
    refine g_callVI C [.ref (Y.ad r1), .int p2, .int p3, .int v5] [] (ok_X0_packs hI h0 h1 h) (cw_RX0_111 _) rfl dc_X0_packs ⟨Nat.le_of_ble_eq_true rfl, Nat.le_of_ble_eq_true rfl⟩ (isX0_lt h0) (isX0_sh h0) rfl rfl rfl rfl (Nat.le_of_ble_eq_true rfl) dX0_serve_28 (fun r7 m6 h => ?_)
    refine g_istore C [(6, .int r7), (0, .ref (Y.ad b)), (1, .ref (Y.ad r1)), (2, .int p2), (3, .int p3), (4, .int v4), (5, .int v5)] dX0_serve_31 (by decide) rfl ?_
    refine g_iload C 0 dX0_serve_33 rfl ?_
    refine g_if_ne C 42 dX0_serve_35 (by decide) (fun c8 => ?_) (fun c8 => ?_)
    · replace h := h.1 c8
      refine g_iload C 0 dX0_serve_42 rfl ?_
      refine g_aload_n C 2 dX0_serve_44 rfl ?_
      refine gf_RX0_98 C h1 dX0_serve_45 ?_
      refine g_iload C 6 dX0_serve_48 rfl ?_
      refine g_iald C (isX2_pack h1).1 (isX2_pack h1).2 h.1 dX0_serve_50 ?_
      replace h := h.2
      refine g_imul C dX0_serve_51 ?_
      refine g_aload_n C 1 dX0_serve_52 rfl ?_
      refine g_aload_n C 2 dX0_serve_53 rfl ?_
      refine g_iload_n C 3 dX0_serve_54 rfl ?_
      refine g_iload_n C 4 dX0_serve_55 rfl ?_
      refine g_iload C 6 dX0_serve_56 rfl ?_
      refine g_callVI C [.ref (Y.ad r1), .int p2, .int p3, .int v5] [.int (r7 * (m6.1 (r1 + 2) v5.toNatClampNeg))] (ok_X0_lacking hI h0 h1 h) (cw_RX0_65 _) rfl dc_X0_lacking ⟨Nat.le_of_ble_eq_true rfl, Nat.le_of_ble_eq_true rfl⟩ (isX0_lt h0) (isX0_sh h0) rfl rfl rfl rfl (Nat.le_of_ble_eq_true rfl) dX0_serve_58 (fun r10 m9 h => ?_)
      refine g_isub C dX0_serve_61 ?_
      refine g_lv (lv2 := [(0, .ref (Y.ad b)), (1, .ref (Y.ad r1)), (2, .int p2), (3, .int p3), (4, .int v4), (5, .int v5), (6, .int r7)]) [1, 2, 3, 4, 5, 6, 0] ?_ rfl
      exact tX0_serve_62 C hr hI h0 h1 _ _ _ _ _ h
    · replace h := h.2 c8
      refine g_iconst C (v := (0 : Int32)) dX0_serve_38 (by decide) ?_
      refine g_goto C 62 dX0_serve_39 (by decide) ?_
      refine g_lv (lv2 := [(0, .ref (Y.ad b)), (1, .ref (Y.ad r1)), (2, .int p2), (3, .int p3), (4, .int v4), (5, .int v5), (6, .int r7)]) [1, 2, 3, 4, 5, 6, 0] ?_ rfl
      exact tX0_serve_62 C hr hI h0 h1 _ _ _ _ _ h
set_option maxRecDepth 20000 in
set_option maxHeartbeats 4000000 in
theorem ok_X0_serve {Y : YT} {l0 : Launch} {b : Nat} {r1 : Nat} {p2 : Int32} {p3 : Int32} {μ : Mem} {Q : Int32 → Mem → Prop} (hI : YI Y) (h0 : isX0 Y b) (h1 : isX2 Y r1) (h : PX0_serve b r1 p2 p3 μ Q) : MI l0 yX0_serve WX0_serve 3 74 Y [.ref (Y.ad b), .ref (Y.ad r1), .int p2, .int p3] μ Q := by
  refine mI_of (ty := .int) (cc := cX0_serve) (maxL := 8) (by decide +kernel) rfl hI (Nat.le_of_ble_eq_true rfl) (fun X C hr => ?_)
  replace C : Cx X Y 8 cX0_serve RX0 WX0_serve (rmB 3 74) l0 := C
  refine g_lv (lv2 := [(0, .ref (Y.ad b)), (1, .ref (Y.ad r1)), (2, .int p2), (3, .int p3)]) [0, 1, 2, 3] ?_ rfl
  unfold PX0_serve at h
  replace h := h (SX0_serve_13 X Y b r1 p2 p3) (fun v4 v5 μ z => tX0_serve_13 C hr hI h0 h1 v4 v5 μ z)
  refine g_iconst C (v := (0 : Int32)) dX0_serve_0 (by decide) ?_
  refine g_istore C [(4, .int ((0 : Int32))), (0, .ref (Y.ad b)), (1, .ref (Y.ad r1)), (2, .int p2), (3, .int p3)] dX0_serve_1 (by decide) rfl ?_
  refine g_aload_n C 1 dX0_serve_3 rfl ?_
  refine g_aload_n C 2 dX0_serve_4 rfl ?_
  refine g_iload_n C 3 dX0_serve_5 rfl ?_
  refine g_iload_n C 4 dX0_serve_6 rfl ?_
  refine g_callVV C [.ref (Y.ad r1), .int p2, .int p3] [] (ok_X0_findTaken hI h0 h1 h) (cw_RX0_101 _) rfl dc_X0_findTaken ⟨Nat.le_of_ble_eq_true rfl, Nat.le_of_ble_eq_true rfl⟩ (isX0_lt h0) (isX0_sh h0) rfl rfl rfl rfl (Nat.le_of_ble_eq_true rfl) dX0_serve_7 (fun m1 h => ?_)
  refine g_iconst C (v := (0 : Int32)) dX0_serve_10 (by decide) ?_
  refine g_istore C [(5, .int ((0 : Int32))), (4, .int ((0 : Int32))), (0, .ref (Y.ad b)), (1, .ref (Y.ad r1)), (2, .int p2), (3, .int p3)] dX0_serve_11 (by decide) rfl ?_
  refine g_lv (lv2 := [(0, .ref (Y.ad b)), (1, .ref (Y.ad r1)), (2, .int p2), (3, .int p3), (4, .int ((0 : Int32))), (5, .int ((0 : Int32)))]) [2, 3, 4, 5, 1, 0] ?_ rfl
  exact h
def SX0_passNight_4 (X : XT) (Y : YT) (b : Nat) (r1 : Nat) : Int32 → Int32 → Mem → Prop := fun v2 v3 μ => G X Y 6 4 [(0, .ref (Y.ad b)), (1, .ref (Y.ad r1)), (2, .int v2), (3, .int v3)] [] μ
def SX0_passNight_15 (X : XT) (Y : YT) (b : Nat) (r1 : Nat) : Int32 → Int32 → Int32 → Mem → Prop := fun v2 v3 v4 μ => G X Y 6 15 [(0, .ref (Y.ad b)), (1, .ref (Y.ad r1)), (2, .int v2), (3, .int v3), (4, .int v4)] [] μ
set_option maxRecDepth 20000 in
set_option maxHeartbeats 4000000 in
theorem tX0_passNight_4 {X : XT} {Y : YT} {l0 : Launch} {b : Nat} {r1 : Nat} {Q : Int32 → Mem → Prop} (C : Cx X Y 6 cX0_passNight RX0 WX0_passNight (rmB 0 0) l0) (hr : RI X Y cX0_passNight .int Q) (hI : YI Y) (h0 : isX0 Y b) (h1 : isX2 Y r1) (v2 : Int32) (v3 : Int32) (μ : Mem) (h : nX0_passNight_4 b r1 Q (SX0_passNight_4 X Y b r1) (SX0_passNight_15 X Y b r1) v2 v3 μ) : G X Y 6 4 [(0, .ref (Y.ad b)), (1, .ref (Y.ad r1)), (2, .int v2), (3, .int v3)] [] μ := by
  unfold nX0_passNight_4 at h
  refine g_iload_n C 3 dX0_passNight_4 rfl ?_
  refine g_aload_n C 1 dX0_passNight_5 rfl ?_
  refine gf_RX0_62 C h1 dX0_passNight_6 ?_
  refine g_icmp_ge C 93 dX0_passNight_9 (by decide) (fun c1 => ?_) (fun c1 => ?_)
  · replace h := h.1 c1
    refine g_aload_n C 0 dX0_passNight_93 rfl ?_
    refine g_dup C dX0_passNight_94 rfl ?_
    refine gf_RX0_37 C h0 dX0_passNight_95 ?_
    refine g_iload_n C 2 dX0_passNight_98 rfl ?_
    refine g_iadd C dX0_passNight_99 ?_
    refine gp_RX0_37 C h0 dX0_passNight_100 ?_
    refine g_aload_n C 0 dX0_passNight_103 rfl ?_
    refine g_dup C dX0_passNight_104 rfl ?_
    refine gf_RX0_24 C h0 dX0_passNight_105 ?_
    refine g_iconst C (v := (1 : Int32)) dX0_passNight_108 (by decide) ?_
    refine g_iadd C dX0_passNight_109 ?_
    refine gp_RX0_24 C h0 dX0_passNight_110 ?_
    refine g_mem (fun m2 em2 => ?_)
    replace h := h m2 em2
    refine g_aload_n C 0 dX0_passNight_113 rfl ?_
    refine g_bipush C (v := (-4 : Int32)) dX0_passNight_114 (by decide) ?_
    refine gp_RX0_28 C h0 dX0_passNight_116 ?_
    refine g_iload_n C 2 dX0_passNight_119 rfl ?_
    exact hr _ _ _ _ _ dX0_passNight_120 rfl h
  · replace h := h.2 c1
    refine g_iconst C (v := (3 : Int32)) dX0_passNight_12 (by decide) ?_
    refine g_istore C [(4, .int ((3 : Int32))), (0, .ref (Y.ad b)), (1, .ref (Y.ad r1)), (2, .int v2), (3, .int v3)] dX0_passNight_13 (by decide) rfl ?_
    refine g_lv (lv2 := [(0, .ref (Y.ad b)), (1, .ref (Y.ad r1)), (2, .int v2), (3, .int v3), (4, .int ((3 : Int32)))]) [1, 2, 3, 4, 0] ?_ rfl
    exact h
set_option maxRecDepth 20000 in
set_option maxHeartbeats 4000000 in
theorem tX0_passNight_81 {X : XT} {Y : YT} {l0 : Launch} {b : Nat} {r1 : Nat} {Q : Int32 → Mem → Prop} (C : Cx X Y 6 cX0_passNight RX0 WX0_passNight (rmB 0 0) l0) (hr : RI X Y cX0_passNight .int Q) (hI : YI Y) (h0 : isX0 Y b) (h1 : isX2 Y r1) (v2 : Int32) (v3 : Int32) (v4 : Int32) (μ : Mem) (h : nX0_passNight_81 b r1 Q (SX0_passNight_4 X Y b r1) (SX0_passNight_15 X Y b r1) v2 v3 v4 μ) : G X Y 6 81 [(0, .ref (Y.ad b)), (1, .ref (Y.ad r1)), (2, .int v2), (3, .int v3), (4, .int v4)] [] μ := by
  unfold nX0_passNight_81 at h
  refine g_iinc C (v := v4 + (-1)) 4 [(4, .int (v4 + (-1))), (0, .ref (Y.ad b)), (1, .ref (Y.ad r1)), (2, .int v2), (3, .int v3)] dX0_passNight_81 rfl rfl (by decide) rfl ?_
  refine g_goto C 15 dX0_passNight_84 (by decide) ?_
  refine g_lv (lv2 := [(0, .ref (Y.ad b)), (1, .ref (Y.ad r1)), (2, .int v2), (3, .int v3), (4, .int (v4 + (-1)))]) [1, 2, 3, 4, 0] ?_ rfl
  exact h
set_option maxRecDepth 20000 in
set_option maxHeartbeats 4000000 in
theorem tX0_passNight_15 {X : XT} {Y : YT} {l0 : Launch} {b : Nat} {r1 : Nat} {Q : Int32 → Mem → Prop} (C : Cx X Y 6 cX0_passNight RX0 WX0_passNight (rmB 0 0) l0) (hr : RI X Y cX0_passNight .int Q) (hI : YI Y) (h0 : isX0 Y b) (h1 : isX2 Y r1) (v2 : Int32) (v3 : Int32) (v4 : Int32) (μ : Mem) (h : nX0_passNight_15 b r1 Q (SX0_passNight_4 X Y b r1) (SX0_passNight_15 X Y b r1) v2 v3 v4 μ) : G X Y 6 15 [(0, .ref (Y.ad b)), (1, .ref (Y.ad r1)), (2, .int v2), (3, .int v3), (4, .int v4)] [] μ := by
  unfold nX0_passNight_15 at h
  refine g_iload C 4 dX0_passNight_15 rfl ?_
  refine g_if_lt C 87 dX0_passNight_17 (by decide) (fun c3 => ?_) (fun c3 => ?_)
  · replace h := h.1 c3
    refine g_iinc C (v := v3 + 1) 3 [(3, .int (v3 + 1)), (0, .ref (Y.ad b)), (1, .ref (Y.ad r1)), (2, .int v2), (4, .int v4)] dX0_passNight_87 rfl rfl (by decide) rfl ?_
    refine g_goto C 4 dX0_passNight_90 (by decide) ?_
    refine g_lv (lv2 := [(0, .ref (Y.ad b)), (1, .ref (Y.ad r1)), (2, .int v2), (3, .int (v3 + 1))]) [1, 2, 3, 0] ?_ rfl
    exact h
  · replace h := h.2 c3
    refine g_aload_n C 0 dX0_passNight_20 rfl ?_
    refine gf_RX0_9 C h0 dX0_passNight_21 ?_
    refine g_iload_n C 3 dX0_passNight_24 rfl ?_
    refine g_iconst C (v := (4 : Int32)) dX0_passNight_25 (by decide) ?_
    refine g_imul C dX0_passNight_26 ?_
    refine g_iload C 4 dX0_passNight_27 rfl ?_
    refine g_iadd C dX0_passNight_29 ?_
    refine g_iald C (isX0_units h0).1 (isX0_units h0).2 h.1 dX0_passNight_30 ?_
    replace h := h.2
    refine g_istore C [(5, .int (μ.1 (b + 1) ((v3 * ((4 : Int32))) + v4).toNatClampNeg)), (0, .ref (Y.ad b)), (1, .ref (Y.ad r1)), (2, .int v2), (3, .int v3), (4, .int v4)] dX0_passNight_31 (by decide) rfl ?_
    refine g_aload_n C 1 dX0_passNight_33 rfl ?_
    refine gf_RX0_9 C h0 dX0_passNight_34 ?_
    refine g_iload_n C 4 dX0_passNight_37 rfl ?_
    refine g_iconst C (v := (4 : Int32)) dX0_passNight_38 (by decide) ?_
    refine g_imul C dX0_passNight_39 ?_
    refine g_iload C 5 dX0_passNight_40 rfl ?_
    refine g_iadd C dX0_passNight_42 ?_
    refine g_iconst C (v := (0 : Int32)) dX0_passNight_43 (by decide) ?_
    refine g_iast C (isX0_units h0).1 (isX0_units h0).2 h.1 dX0_passNight_44 ?_
    replace h := h.2
    refine g_iload C 5 dX0_passNight_45 rfl ?_
    refine g_iconst C (v := (1 : Int32)) dX0_passNight_47 (by decide) ?_
    refine g_iadd C dX0_passNight_48 ?_
    refine g_aload_n C 2 dX0_passNight_49 rfl ?_
    refine gf_RX0_127 C h1 dX0_passNight_50 ?_
    refine g_iload_n C 4 dX0_passNight_53 rfl ?_
    refine g_iald C (isX2_keeps h1).1 (isX2_keeps h1).2 h.1 dX0_passNight_54 ?_
    replace h := h.2
    refine g_icmp_ge C 76 dX0_passNight_55 (by decide) (fun c4 => ?_) (fun c4 => ?_)
    · replace h := h.1 c4
      refine g_iload_n C 3 dX0_passNight_76 rfl ?_
      refine g_iload C 0 dX0_passNight_77 rfl ?_
      refine g_iadd C dX0_passNight_79 ?_
      refine g_istore_n C [(2, .int (v2 + (μ.1 (b + 1) ((v3 * ((4 : Int32))) + v4).toNatClampNeg))), (5, .int (μ.1 (b + 1) ((v3 * ((4 : Int32))) + v4).toNatClampNeg)), (0, .ref (Y.ad b)), (1, .ref (Y.ad r1)), (3, .int v3), (4, .int v4)] dX0_passNight_80 (by decide) rfl ?_
      refine g_lv (lv2 := [(0, .ref (Y.ad b)), (1, .ref (Y.ad r1)), (2, .int (v2 + (μ.1 (b + 1) ((v3 * ((4 : Int32))) + v4).toNatClampNeg))), (3, .int v3), (4, .int v4)]) [2, 3, 0, 4, 5] ?_ rfl
      exact tX0_passNight_81 C hr hI h0 h1 _ _ _ _ h
    · replace h := h.2 c4
      refine g_aload_n C 1 dX0_passNight_58 rfl ?_
      refine gf_RX0_9 C h0 dX0_passNight_59 ?_
      refine g_iload_n C 4 dX0_passNight_62 rfl ?_
      refine g_iconst C (v := (4 : Int32)) dX0_passNight_63 (by decide) ?_
      refine g_imul C dX0_passNight_64 ?_
      refine g_iload C 5 dX0_passNight_65 rfl ?_
      refine g_iadd C dX0_passNight_67 ?_
      refine g_iconst C (v := (1 : Int32)) dX0_passNight_68 (by decide) ?_
      refine g_iadd C dX0_passNight_69 ?_
      refine g_iload C 0 dX0_passNight_70 rfl ?_
      refine g_iast C (isX0_units h0).1 (isX0_units h0).2 h.1 dX0_passNight_72 ?_
      replace h := h.2
      refine g_mem (fun m5 em5 => ?_)
      replace h := h m5 em5
      refine g_goto C 81 dX0_passNight_73 (by decide) ?_
      refine g_lv (lv2 := [(0, .ref (Y.ad b)), (1, .ref (Y.ad r1)), (2, .int v2), (3, .int v3), (4, .int v4)]) [1, 2, 3, 4, 5] ?_ rfl
      exact tX0_passNight_81 C hr hI h0 h1 _ _ _ _ h
set_option maxRecDepth 20000 in
set_option maxHeartbeats 4000000 in
theorem ok_X0_passNight {Y : YT} {l0 : Launch} {b : Nat} {r1 : Nat} {μ : Mem} {Q : Int32 → Mem → Prop} (hI : YI Y) (h0 : isX0 Y b) (h1 : isX2 Y r1) (h : PX0_passNight b r1 μ Q) : MI l0 yX0_passNight WX0_passNight 0 0 Y [.ref (Y.ad b), .ref (Y.ad r1)] μ Q := by
  refine mI_of (ty := .int) (cc := cX0_passNight) (maxL := 6) (by decide +kernel) rfl hI (Nat.le_of_ble_eq_true rfl) (fun X C hr => ?_)
  replace C : Cx X Y 6 cX0_passNight RX0 WX0_passNight (rmB 0 0) l0 := C
  refine g_lv (lv2 := [(0, .ref (Y.ad b)), (1, .ref (Y.ad r1))]) [0, 1] ?_ rfl
  unfold PX0_passNight at h
  replace h := h (SX0_passNight_4 X Y b r1) (SX0_passNight_15 X Y b r1) (fun v2 v3 μ z => tX0_passNight_4 C hr hI h0 h1 v2 v3 μ z) (fun v2 v3 v4 μ z => tX0_passNight_15 C hr hI h0 h1 v2 v3 v4 μ z)
  refine g_iconst C (v := (0 : Int32)) dX0_passNight_0 (by decide) ?_
  refine g_istore_n C [(2, .int ((0 : Int32))), (0, .ref (Y.ad b)), (1, .ref (Y.ad r1))] dX0_passNight_1 (by decide) rfl ?_
  refine g_iconst C (v := (0 : Int32)) dX0_passNight_2 (by decide) ?_
  refine g_istore_n C [(3, .int ((0 : Int32))), (2, .int ((0 : Int32))), (0, .ref (Y.ad b)), (1, .ref (Y.ad r1))] dX0_passNight_3 (by decide) rfl ?_
  refine g_lv (lv2 := [(0, .ref (Y.ad b)), (1, .ref (Y.ad r1)), (2, .int ((0 : Int32))), (3, .int ((0 : Int32)))]) [2, 3, 1, 0] ?_ rfl
  exact h
def SX2_resetSupper_37 (X : XT) (Y : YT) (b : Nat) (p1 : Int32) : Int32 → Mem → Prop := fun v2 μ => G X Y 3 37 [(0, .ref (Y.ad b)), (1, .int p1), (2, .int v2)] [] μ
set_option maxRecDepth 20000 in
set_option maxHeartbeats 4000000 in
theorem tX2_resetSupper_37 {X : XT} {Y : YT} {l0 : Launch} {b : Nat} {p1 : Int32} {Q : Mem → Prop} (C : Cx X Y 3 cX2_resetSupper RX2 WX2_resetSupper (rmB 0 0) l0) (hr : RV X Y cX2_resetSupper Q) (hI : YI Y) (h0 : isX2 Y b) (v2 : Int32) (μ : Mem) (h : nX2_resetSupper_37 b p1 Q (SX2_resetSupper_37 X Y b p1) v2 μ) : G X Y 3 37 [(0, .ref (Y.ad b)), (1, .int p1), (2, .int v2)] [] μ := by
  unfold nX2_resetSupper_37 at h
  refine g_iload_n C 2 dX2_resetSupper_37 rfl ?_
  refine g_bipush C (v := (6 : Int32)) dX2_resetSupper_38 (by decide) ?_
  refine g_icmp_ge C 73 dX2_resetSupper_40 (by decide) (fun c3 => ?_) (fun c3 => ?_)
  · replace h := h.1 c3
    exact hr _ _ _ _ dX2_resetSupper_73 h
  · replace h := h.2 c3
    refine g_aload_n C 0 dX2_resetSupper_43 rfl ?_
    refine gf_RX2_36 C h0 dX2_resetSupper_44 ?_
    refine g_iload_n C 1 dX2_resetSupper_47 rfl ?_
    refine g_bipush C (v := (6 : Int32)) dX2_resetSupper_48 (by decide) ?_
    refine g_imul C dX2_resetSupper_50 ?_
    refine g_iload_n C 2 dX2_resetSupper_51 rfl ?_
    refine g_iadd C dX2_resetSupper_52 ?_
    refine g_iconst C (v := (0 : Int32)) dX2_resetSupper_53 (by decide) ?_
    refine g_iast C (isX2_wants h0).1 (isX2_wants h0).2 h.1 dX2_resetSupper_54 ?_
    replace h := h.2
    refine g_aload_n C 0 dX2_resetSupper_55 rfl ?_
    refine gf_RX2_39 C h0 dX2_resetSupper_56 ?_
    refine g_iload_n C 1 dX2_resetSupper_59 rfl ?_
    refine g_bipush C (v := (6 : Int32)) dX2_resetSupper_60 (by decide) ?_
    refine g_imul C dX2_resetSupper_62 ?_
    refine g_iload_n C 2 dX2_resetSupper_63 rfl ?_
    refine g_iadd C dX2_resetSupper_64 ?_
    refine g_iconst C (v := (0 : Int32)) dX2_resetSupper_65 (by decide) ?_
    refine g_iast C (isX2_leaves h0).1 (isX2_leaves h0).2 h.1 dX2_resetSupper_66 ?_
    replace h := h.2
    refine g_mem (fun m4 em4 => ?_)
    replace h := h m4 em4
    refine g_iinc C (v := v2 + 1) 2 [(2, .int (v2 + 1)), (0, .ref (Y.ad b)), (1, .int p1)] dX2_resetSupper_67 rfl rfl (by decide) rfl ?_
    refine g_goto C 37 dX2_resetSupper_70 (by decide) ?_
    refine g_lv (lv2 := [(0, .ref (Y.ad b)), (1, .int p1), (2, .int (v2 + 1))]) [1, 2, 0] ?_ rfl
    exact h
set_option maxRecDepth 20000 in
set_option maxHeartbeats 4000000 in
theorem ok_X2_resetSupper {Y : YT} {l0 : Launch} {b : Nat} {p1 : Int32} {μ : Mem} {Q : Mem → Prop} (hI : YI Y) (h0 : isX2 Y b) (h : PX2_resetSupper b p1 μ Q) : MV l0 yX2_resetSupper WX2_resetSupper 0 0 Y [.ref (Y.ad b), .int p1] μ Q := by
  refine mV_of (cc := cX2_resetSupper) (maxL := 3) (by decide +kernel) rfl hI (Nat.le_of_ble_eq_true rfl) (fun X C hr => ?_)
  replace C : Cx X Y 3 cX2_resetSupper RX2 WX2_resetSupper (rmB 0 0) l0 := C
  refine g_lv (lv2 := [(0, .ref (Y.ad b)), (1, .int p1)]) [0, 1] ?_ rfl
  unfold PX2_resetSupper at h
  replace h := h (SX2_resetSupper_37 X Y b p1) (fun v2 μ z => tX2_resetSupper_37 C hr hI h0 v2 μ z)
  refine g_aload_n C 0 dX2_resetSupper_0 rfl ?_
  refine gf_RX2_21 C h0 dX2_resetSupper_1 ?_
  refine g_iload_n C 1 dX2_resetSupper_4 rfl ?_
  refine g_iconst C (v := (0 : Int32)) dX2_resetSupper_5 (by decide) ?_
  refine g_iast C (isX2_kind h0).1 (isX2_kind h0).2 h.1 dX2_resetSupper_6 ?_
  replace h := h.2
  refine g_aload_n C 0 dX2_resetSupper_7 rfl ?_
  refine gf_RX2_24 C h0 dX2_resetSupper_8 ?_
  refine g_iload_n C 1 dX2_resetSupper_11 rfl ?_
  refine g_iconst C (v := (0 : Int32)) dX2_resetSupper_12 (by decide) ?_
  refine g_iast C (isX2_likes h0).1 (isX2_likes h0).2 h.1 dX2_resetSupper_13 ?_
  replace h := h.2
  refine g_mem (fun m1 em1 => ?_)
  replace h := h m1 em1
  refine g_aload_n C 0 dX2_resetSupper_14 rfl ?_
  refine gf_RX2_27 C h0 dX2_resetSupper_15 ?_
  refine g_iload_n C 1 dX2_resetSupper_18 rfl ?_
  refine g_iconst C (v := (0 : Int32)) dX2_resetSupper_19 (by decide) ?_
  refine g_iast C (isX2_wont h0).1 (isX2_wont h0).2 h.1 dX2_resetSupper_20 ?_
  replace h := h.2
  refine g_aload_n C 0 dX2_resetSupper_21 rfl ?_
  refine gf_RX2_30 C h0 dX2_resetSupper_22 ?_
  refine g_iload_n C 1 dX2_resetSupper_25 rfl ?_
  refine g_iconst C (v := (0 : Int32)) dX2_resetSupper_26 (by decide) ?_
  refine g_iast C (isX2_soupUnits h0).1 (isX2_soupUnits h0).2 h.1 dX2_resetSupper_27 ?_
  replace h := h.2
  refine g_mem (fun m2 em2 => ?_)
  replace h := h m2 em2
  refine g_aload_n C 0 dX2_resetSupper_28 rfl ?_
  refine gf_RX2_33 C h0 dX2_resetSupper_29 ?_
  refine g_iload_n C 1 dX2_resetSupper_32 rfl ?_
  refine g_iconst C (v := (0 : Int32)) dX2_resetSupper_33 (by decide) ?_
  refine g_iast C (isX2_soupThings h0).1 (isX2_soupThings h0).2 h.1 dX2_resetSupper_34 ?_
  replace h := h.2
  refine g_iconst C (v := (0 : Int32)) dX2_resetSupper_35 (by decide) ?_
  refine g_istore_n C [(2, .int ((0 : Int32))), (0, .ref (Y.ad b)), (1, .int p1)] dX2_resetSupper_36 (by decide) rfl ?_
  refine g_lv (lv2 := [(0, .ref (Y.ad b)), (1, .int p1), (2, .int ((0 : Int32)))]) [1, 2, 0] ?_ rfl
  exact h
def SX2_reset_12 (X : XT) (Y : YT) (b : Nat) : Int32 → Mem → Prop := fun v1 μ => G X Y 2 12 [(0, .ref (Y.ad b)), (1, .int v1)] [] μ
def SX2_reset_47 (X : XT) (Y : YT) (b : Nat) : Int32 → Mem → Prop := fun v1 μ => G X Y 2 47 [(0, .ref (Y.ad b)), (1, .int v1)] [] μ
set_option maxRecDepth 20000 in
set_option maxHeartbeats 4000000 in
theorem tX2_reset_12 {X : XT} {Y : YT} {l0 : Launch} {b : Nat} {Q : Mem → Prop} (C : Cx X Y 2 cX2_reset RX2 WX2_reset (rmB 1 22) l0) (hr : RV X Y cX2_reset Q) (hI : YI Y) (h0 : isX2 Y b) (v1 : Int32) (μ : Mem) (h : nX2_reset_12 b Q (SX2_reset_12 X Y b) (SX2_reset_47 X Y b) v1 μ) : G X Y 2 12 [(0, .ref (Y.ad b)), (1, .int v1)] [] μ := by
  unfold nX2_reset_12 at h
  refine g_iload_n C 1 dX2_reset_12 rfl ?_
  refine g_bipush C (v := (8 : Int32)) dX2_reset_13 (by decide) ?_
  refine g_icmp_gt C 29 dX2_reset_15 (by decide) (fun c2 => ?_) (fun c2 => ?_)
  · replace h := h.1 c2
    refine g_aload_n C 0 dX2_reset_29 rfl ?_
    refine g_iconst C (v := (0 : Int32)) dX2_reset_30 (by decide) ?_
    refine gp_RX2_59 C h0 dX2_reset_31 ?_
    refine g_aload_n C 0 dX2_reset_34 rfl ?_
    refine g_bipush C (v := (127 : Int32)) dX2_reset_35 (by decide) ?_
    refine gp_RX2_62 C h0 dX2_reset_37 ?_
    refine g_mem (fun m3 em3 => ?_)
    replace h := h m3 em3
    refine g_aload_n C 0 dX2_reset_40 rfl ?_
    refine g_iconst C (v := (0 : Int32)) dX2_reset_41 (by decide) ?_
    refine gp_RX2_65 C h0 dX2_reset_42 ?_
    refine g_iconst C (v := (0 : Int32)) dX2_reset_45 (by decide) ?_
    refine g_istore_n C [(1, .int ((0 : Int32))), (0, .ref (Y.ad b))] dX2_reset_46 (by decide) rfl ?_
    refine g_lv (lv2 := [(0, .ref (Y.ad b)), (1, .int ((0 : Int32)))]) [1, 0] ?_ rfl
    exact h
  · replace h := h.2 c2
    refine g_aload_n C 0 dX2_reset_18 rfl ?_
    refine g_iload_n C 1 dX2_reset_19 rfl ?_
    refine g_callVV C [.int v1] [] (ok_X2_resetSupper hI h0 h) (cw_RX2_55 _) rfl dc_X2_resetSupper ⟨Nat.le_of_ble_eq_true rfl, Nat.le_of_ble_eq_true rfl⟩ (isX2_lt h0) (isX2_sh h0) rfl rfl rfl rfl (Nat.le_of_ble_eq_true rfl) dX2_reset_20 (fun m4 h => ?_)
    refine g_iinc C (v := v1 + 1) 1 [(1, .int (v1 + 1)), (0, .ref (Y.ad b))] dX2_reset_23 rfl rfl (by decide) rfl ?_
    refine g_goto C 12 dX2_reset_26 (by decide) ?_
    refine g_lv (lv2 := [(0, .ref (Y.ad b)), (1, .int (v1 + 1))]) [1, 0] ?_ rfl
    exact h
set_option maxRecDepth 20000 in
set_option maxHeartbeats 4000000 in
theorem tX2_reset_47 {X : XT} {Y : YT} {l0 : Launch} {b : Nat} {Q : Mem → Prop} (C : Cx X Y 2 cX2_reset RX2 WX2_reset (rmB 1 22) l0) (hr : RV X Y cX2_reset Q) (hI : YI Y) (h0 : isX2 Y b) (v1 : Int32) (μ : Mem) (h : nX2_reset_47 b Q (SX2_reset_12 X Y b) (SX2_reset_47 X Y b) v1 μ) : G X Y 2 47 [(0, .ref (Y.ad b)), (1, .int v1)] [] μ := by
  unfold nX2_reset_47 at h
  refine g_iload_n C 1 dX2_reset_47 rfl ?_
  refine g_bipush C (v := (7 : Int32)) dX2_reset_48 (by decide) ?_
  refine g_icmp_ge C 66 dX2_reset_50 (by decide) (fun c6 => ?_) (fun c6 => ?_)
  · replace h := h.1 c6
    exact hr _ _ _ _ dX2_reset_66 h
  · replace h := h.2 c6
    refine g_aload_n C 0 dX2_reset_53 rfl ?_
    refine gf_RX2_42 C h0 dX2_reset_54 ?_
    refine g_iload_n C 1 dX2_reset_57 rfl ?_
    refine g_iconst C (v := (0 : Int32)) dX2_reset_58 (by decide) ?_
    refine g_iast C (isX2_chances h0).1 (isX2_chances h0).2 h.1 dX2_reset_59 ?_
    replace h := h.2
    refine g_iinc C (v := v1 + 1) 1 [(1, .int (v1 + 1)), (0, .ref (Y.ad b))] dX2_reset_60 rfl rfl (by decide) rfl ?_
    refine g_goto C 47 dX2_reset_63 (by decide) ?_
    refine g_lv (lv2 := [(0, .ref (Y.ad b)), (1, .int (v1 + 1))]) [1, 0] ?_ rfl
    exact h
set_option maxRecDepth 20000 in
set_option maxHeartbeats 4000000 in
theorem ok_X2_reset {Y : YT} {l0 : Launch} {b : Nat} {μ : Mem} {Q : Mem → Prop} (hI : YI Y) (h0 : isX2 Y b) (h : PX2_reset b μ Q) : MV l0 yX2_reset WX2_reset 1 22 Y [.ref (Y.ad b)] μ Q := by
  refine mV_of (cc := cX2_reset) (maxL := 2) (by decide +kernel) rfl hI (Nat.le_of_ble_eq_true rfl) (fun X C hr => ?_)
  replace C : Cx X Y 2 cX2_reset RX2 WX2_reset (rmB 1 22) l0 := C
  refine g_lv (lv2 := [(0, .ref (Y.ad b))]) [0] ?_ rfl
  unfold PX2_reset at h
  replace h := h (SX2_reset_12 X Y b) (SX2_reset_47 X Y b) (fun v1 μ z => tX2_reset_12 C hr hI h0 v1 μ z) (fun v1 μ z => tX2_reset_47 C hr hI h0 v1 μ z)
  refine g_aload_n C 0 dX2_reset_0 rfl ?_
  refine g_iconst C (v := (0 : Int32)) dX2_reset_1 (by decide) ?_
  refine gp_RX2_48 C h0 dX2_reset_2 ?_
  refine g_aload_n C 0 dX2_reset_5 rfl ?_
  refine g_iconst C (v := (0 : Int32)) dX2_reset_6 (by decide) ?_
  refine gp_RX2_52 C h0 dX2_reset_7 ?_
  refine g_mem (fun m1 em1 => ?_)
  replace h := h m1 em1
  refine g_iconst C (v := (0 : Int32)) dX2_reset_10 (by decide) ?_
  refine g_istore_n C [(1, .int ((0 : Int32))), (0, .ref (Y.ad b))] dX2_reset_11 (by decide) rfl ?_
  refine g_lv (lv2 := [(0, .ref (Y.ad b)), (1, .int ((0 : Int32)))]) [1, 0] ?_ rfl
  exact h
def SX1_begin_22 (X : XT) (Y : YT) (b : Nat) : Int32 → Mem → Prop := fun v1 μ => G X Y 2 22 [(0, .ref (Y.ad b)), (1, .int v1)] [] μ
set_option maxRecDepth 20000 in
set_option maxHeartbeats 4000000 in
theorem tX1_begin_22 {X : XT} {Y : YT} {l0 : Launch} {b : Nat} {Q : Mem → Prop} (C : Cx X Y 2 cX1_begin RX1 WX1_begin (rmB 2 43) l0) (hr : RV X Y cX1_begin Q) (hI : YI Y) (h0 : isX1 Y b) (v1 : Int32) (μ : Mem) (h : nX1_begin_22 b Q (SX1_begin_22 X Y b) v1 μ) : G X Y 2 22 [(0, .ref (Y.ad b)), (1, .int v1)] [] μ := by
  unfold nX1_begin_22 at h
  refine g_iload_n C 1 dX1_begin_22 rfl ?_
  refine g_bipush C (v := (6 : Int32)) dX1_begin_23 (by decide) ?_
  refine g_icmp_ge C 41 dX1_begin_25 (by decide) (fun c3 => ?_) (fun c3 => ?_)
  · replace h := h.1 c3
    refine g_aload_n C 0 dX1_begin_41 rfl ?_
    refine gf_RX1_18 C h0 dX1_begin_42 ?_
    refine g_callVV C [] [] (ok_X2_reset hI (isX1_told h0) h) (cw_RX1_56 _) rfl dc_X2_reset ⟨Nat.le_of_ble_eq_true rfl, Nat.le_of_ble_eq_true rfl⟩ (isX2_lt (isX1_told h0)) (isX2_sh (isX1_told h0)) rfl rfl rfl rfl (Nat.le_of_ble_eq_true rfl) dX1_begin_45 (fun m4 h => ?_)
    exact hr _ _ _ _ dX1_begin_48 h
  · replace h := h.2 c3
    refine g_aload_n C 0 dX1_begin_28 rfl ?_
    refine gf_RX1_22 C h0 dX1_begin_29 ?_
    refine g_iload_n C 1 dX1_begin_32 rfl ?_
    refine g_iconst C (v := (-1 : Int32)) dX1_begin_33 (by decide) ?_
    refine g_iast C (isX1_firstUse h0).1 (isX1_firstUse h0).2 h.1 dX1_begin_34 ?_
    replace h := h.2
    refine g_iinc C (v := v1 + 1) 1 [(1, .int (v1 + 1)), (0, .ref (Y.ad b))] dX1_begin_35 rfl rfl (by decide) rfl ?_
    refine g_goto C 22 dX1_begin_38 (by decide) ?_
    refine g_lv (lv2 := [(0, .ref (Y.ad b)), (1, .int (v1 + 1))]) [1, 0] ?_ rfl
    exact h
set_option maxRecDepth 20000 in
set_option maxHeartbeats 4000000 in
theorem ok_X1_begin {Y : YT} {l0 : Launch} {b : Nat} {μ : Mem} {Q : Mem → Prop} (hI : YI Y) (h0 : isX1 Y b) (h : PX1_begin b μ Q) : MV l0 yX1_begin WX1_begin 2 43 Y [.ref (Y.ad b)] μ Q := by
  refine mV_of (cc := cX1_begin) (maxL := 2) (by decide +kernel) rfl hI (Nat.le_of_ble_eq_true rfl) (fun X C hr => ?_)
  replace C : Cx X Y 2 cX1_begin RX1 WX1_begin (rmB 2 43) l0 := C
  refine g_lv (lv2 := [(0, .ref (Y.ad b))]) [0] ?_ rfl
  unfold PX1_begin at h
  replace h := h (SX1_begin_22 X Y b) (fun v1 μ z => tX1_begin_22 C hr hI h0 v1 μ z)
  refine g_aload_n C 0 dX1_begin_0 rfl ?_
  refine g_iconst C (v := (0 : Int32)) dX1_begin_1 (by decide) ?_
  refine gp_RX1_46 C h0 dX1_begin_2 ?_
  refine g_aload_n C 0 dX1_begin_5 rfl ?_
  refine g_iconst C (v := (0 : Int32)) dX1_begin_6 (by decide) ?_
  refine gp_RX1_40 C h0 dX1_begin_7 ?_
  refine g_mem (fun m1 em1 => ?_)
  replace h := h m1 em1
  refine g_aload_n C 0 dX1_begin_10 rfl ?_
  refine g_iconst C (v := (0 : Int32)) dX1_begin_11 (by decide) ?_
  refine gp_RX1_49 C h0 nz0 dX1_begin_12 ?_
  refine g_aload_n C 0 dX1_begin_15 rfl ?_
  refine g_iconst C (v := (0 : Int32)) dX1_begin_16 (by decide) ?_
  refine gp_RX1_53 C h0 nz0 dX1_begin_17 ?_
  refine g_mem (fun m2 em2 => ?_)
  replace h := h m2 em2
  refine g_iconst C (v := (0 : Int32)) dX1_begin_20 (by decide) ?_
  refine g_istore_n C [(1, .int ((0 : Int32))), (0, .ref (Y.ad b))] dX1_begin_21 (by decide) rfl ?_
  refine g_lv (lv2 := [(0, .ref (Y.ad b)), (1, .int ((0 : Int32)))]) [1, 0] ?_ rfl
  exact h
set_option maxRecDepth 20000 in
set_option maxHeartbeats 4000000 in
theorem tX1_isLetter_16 {X : XT} {Y : YT} {l0 : Launch} {p0 : Int32} {Q : Int32 → Mem → Prop} (C : Cx X Y 1 cX1_isLetter RX1 WX1_isLetter (rmB 0 0) l0) (hr : RI X Y cX1_isLetter .boolean Q) (hI : YI Y)  (μ : Mem) (h : nX1_isLetter_16 p0 Q  μ) : G X Y 1 16 [(0, .int p0)] [] μ := by
  unfold nX1_isLetter_16 at h
  refine g_iconst C (v := (0 : Int32)) dX1_isLetter_16 (by decide) ?_
  exact hr _ _ _ _ _ dX1_isLetter_17 rfl h
set_option maxRecDepth 20000 in
set_option maxHeartbeats 4000000 in
theorem ok_X1_isLetter {Y : YT} {l0 : Launch} {p0 : Int32} {μ : Mem} {Q : Int32 → Mem → Prop} (hI : YI Y) (h : PX1_isLetter p0 μ Q) : MI l0 yX1_isLetter WX1_isLetter 0 0 Y [.int p0] μ Q := by
  refine mI_of (ty := .boolean) (cc := cX1_isLetter) (maxL := 1) (by decide +kernel) rfl hI (Nat.le_of_ble_eq_true rfl) (fun X C hr => ?_)
  replace C : Cx X Y 1 cX1_isLetter RX1 WX1_isLetter (rmB 0 0) l0 := C
  refine g_lv (lv2 := [(0, .int p0)]) [0] ?_ rfl
  unfold PX1_isLetter at h
  refine g_iload_n C 0 dX1_isLetter_0 rfl ?_
  refine g_bipush C (v := (97 : Int32)) dX1_isLetter_1 (by decide) ?_
  refine g_icmp_lt C 16 dX1_isLetter_3 (by decide) (fun c1 => ?_) (fun c1 => ?_)
  · replace h := h.1 c1
    exact tX1_isLetter_16 C hr hI  _ h
  · replace h := h.2 c1
    refine g_iload_n C 0 dX1_isLetter_6 rfl ?_
    refine g_bipush C (v := (122 : Int32)) dX1_isLetter_7 (by decide) ?_
    refine g_icmp_gt C 16 dX1_isLetter_9 (by decide) (fun c2 => ?_) (fun c2 => ?_)
    · replace h := h.1 c2
      exact tX1_isLetter_16 C hr hI  _ h
    · replace h := h.2 c2
      refine g_iconst C (v := (1 : Int32)) dX1_isLetter_12 (by decide) ?_
      refine g_goto C 17 dX1_isLetter_13 (by decide) ?_
      exact hr _ _ _ _ _ dX1_isLetter_17 rfl h
set_option maxRecDepth 20000 in
set_option maxHeartbeats 4000000 in
theorem tX1_isFigure_16 {X : XT} {Y : YT} {l0 : Launch} {p0 : Int32} {Q : Int32 → Mem → Prop} (C : Cx X Y 1 cX1_isFigure RX1 WX1_isFigure (rmB 0 0) l0) (hr : RI X Y cX1_isFigure .boolean Q) (hI : YI Y)  (μ : Mem) (h : nX1_isFigure_16 p0 Q  μ) : G X Y 1 16 [(0, .int p0)] [] μ := by
  unfold nX1_isFigure_16 at h
  refine g_iconst C (v := (0 : Int32)) dX1_isFigure_16 (by decide) ?_
  exact hr _ _ _ _ _ dX1_isFigure_17 rfl h
set_option maxRecDepth 20000 in
set_option maxHeartbeats 4000000 in
theorem ok_X1_isFigure {Y : YT} {l0 : Launch} {p0 : Int32} {μ : Mem} {Q : Int32 → Mem → Prop} (hI : YI Y) (h : PX1_isFigure p0 μ Q) : MI l0 yX1_isFigure WX1_isFigure 0 0 Y [.int p0] μ Q := by
  refine mI_of (ty := .boolean) (cc := cX1_isFigure) (maxL := 1) (by decide +kernel) rfl hI (Nat.le_of_ble_eq_true rfl) (fun X C hr => ?_)
  replace C : Cx X Y 1 cX1_isFigure RX1 WX1_isFigure (rmB 0 0) l0 := C
  refine g_lv (lv2 := [(0, .int p0)]) [0] ?_ rfl
  unfold PX1_isFigure at h
  refine g_iload_n C 0 dX1_isFigure_0 rfl ?_
  refine g_bipush C (v := (48 : Int32)) dX1_isFigure_1 (by decide) ?_
  refine g_icmp_lt C 16 dX1_isFigure_3 (by decide) (fun c1 => ?_) (fun c1 => ?_)
  · replace h := h.1 c1
    exact tX1_isFigure_16 C hr hI  _ h
  · replace h := h.2 c1
    refine g_iload_n C 0 dX1_isFigure_6 rfl ?_
    refine g_bipush C (v := (57 : Int32)) dX1_isFigure_7 (by decide) ?_
    refine g_icmp_gt C 16 dX1_isFigure_9 (by decide) (fun c2 => ?_) (fun c2 => ?_)
    · replace h := h.1 c2
      exact tX1_isFigure_16 C hr hI  _ h
    · replace h := h.2 c2
      refine g_iconst C (v := (1 : Int32)) dX1_isFigure_12 (by decide) ?_
      refine g_goto C 17 dX1_isFigure_13 (by decide) ?_
      exact hr _ _ _ _ _ dX1_isFigure_17 rfl h
set_option maxRecDepth 20000 in
set_option maxHeartbeats 4000000 in
theorem ok_X1_refuse {Y : YT} {l0 : Launch} {b : Nat} {p1 : Int32} {p2 : Int32} {μ : Mem} {Q : Int32 → Mem → Prop} (hI : YI Y) (h0 : isX1 Y b) (h : PX1_refuse b p1 p2 μ Q) : MI l0 yX1_refuse WX1_refuse 0 0 Y [.ref (Y.ad b), .int p1, .int p2] μ Q := by
  refine mI_of (ty := .boolean) (cc := cX1_refuse) (maxL := 3) (by decide +kernel) rfl hI (Nat.le_of_ble_eq_true rfl) (fun X C hr => ?_)
  replace C : Cx X Y 3 cX1_refuse RX1 WX1_refuse (rmB 0 0) l0 := C
  refine g_lv (lv2 := [(0, .ref (Y.ad b)), (1, .int p1), (2, .int p2)]) [0, 1, 2] ?_ rfl
  unfold PX1_refuse at h
  refine g_aload_n C 0 dX1_refuse_0 rfl ?_
  refine g_iload_n C 1 dX1_refuse_1 rfl ?_
  refine gp_RX1_40 C h0 dX1_refuse_2 ?_
  refine g_aload_n C 0 dX1_refuse_5 rfl ?_
  refine g_iload_n C 2 dX1_refuse_6 rfl ?_
  refine gp_RX1_59 C h0 dX1_refuse_7 ?_
  refine g_mem (fun m1 em1 => ?_)
  replace h := h m1 em1
  refine g_iconst C (v := (0 : Int32)) dX1_refuse_10 (by decide) ?_
  exact hr _ _ _ _ _ dX1_refuse_11 rfl h
def SX1_readToken_0 (X : XT) (Y : YT) (b : Nat) : Mem → Prop := fun  μ => G X Y 2 0 [(0, .ref (Y.ad b))] [] μ
def SX1_readToken_122 (X : XT) (Y : YT) (b : Nat) : Mem → Prop := fun  μ => G X Y 2 122 [(0, .ref (Y.ad b))] [] μ
def SX1_readToken_166 (X : XT) (Y : YT) (b : Nat) : Mem → Prop := fun  μ => G X Y 2 166 [(0, .ref (Y.ad b))] [] μ
set_option maxRecDepth 20000 in
set_option maxHeartbeats 4000000 in
theorem tX1_readToken_285 {X : XT} {Y : YT} {l0 : Launch} {b : Nat} {Q : Int32 → Mem → Prop} (C : Cx X Y 2 cX1_readToken RX1 WX1_readToken (rmB 1 22) l0) (hr : RI X Y cX1_readToken .boolean Q) (hI : YI Y) (h0 : isX1 Y b) (μ : Mem) (h : nX1_readToken_285 b Q (SX1_readToken_0 X Y b) (SX1_readToken_122 X Y b) (SX1_readToken_166 X Y b) μ) : G X Y 2 285 [(0, .ref (Y.ad b))] [] μ := by
  unfold nX1_readToken_285 at h
  refine g_iconst C (v := (1 : Int32)) dX1_readToken_285 (by decide) ?_
  refine g_goto C 290 dX1_readToken_286 (by decide) ?_
  exact hr _ _ _ _ _ dX1_readToken_290 rfl h
set_option maxRecDepth 20000 in
set_option maxHeartbeats 4000000 in
theorem tX1_readToken_268 {X : XT} {Y : YT} {l0 : Launch} {b : Nat} {Q : Int32 → Mem → Prop} (C : Cx X Y 2 cX1_readToken RX1 WX1_readToken (rmB 1 22) l0) (hr : RI X Y cX1_readToken .boolean Q) (hI : YI Y) (h0 : isX1 Y b) (w0 : Int32) (μ : Mem) (h : nX1_readToken_268 b Q (SX1_readToken_0 X Y b) (SX1_readToken_122 X Y b) (SX1_readToken_166 X Y b) w0 μ) : G X Y 2 268 [(0, .ref (Y.ad b))] [.int w0] μ := by
  unfold nX1_readToken_268 at h
  refine g_istore_n C [(1, .int w0), (0, .ref (Y.ad b))] dX1_readToken_268 (by decide) rfl ?_
  refine g_iload_n C 0 dX1_readToken_269 rfl ?_
  refine g_if_ne C 285 dX1_readToken_270 (by decide) (fun c13 => ?_) (fun c13 => ?_)
  · replace h := h.1 c13
    refine g_lv (lv2 := [(0, .ref (Y.ad b))]) [1] ?_ rfl
    exact tX1_readToken_285 C hr hI h0 _ h
  · replace h := h.2 c13
    refine g_aload_n C 1 dX1_readToken_273 rfl ?_
    refine g_iconst C (v := (1 : Int32)) dX1_readToken_274 (by decide) ?_
    refine g_aload_n C 1 dX1_readToken_275 rfl ?_
    refine gf_RX1_72 C h0 dX1_readToken_276 ?_
    refine g_callVI C [.int ((1 : Int32)), .int (μ.1 b 7)] [] (ok_X1_refuse hI h0 h) (cw_RX1_65 _) rfl dc_X1_refuse ⟨Nat.le_of_ble_eq_true rfl, Nat.le_of_ble_eq_true rfl⟩ (isX1_lt h0) (isX1_sh h0) rfl rfl rfl rfl (Nat.le_of_ble_eq_true rfl) dX1_readToken_279 (fun r15 m14 h => ?_)
    refine g_if_eq C 289 dX1_readToken_282 (by decide) (fun c16 => ?_) (fun c16 => ?_)
    · replace h := h.1 c16
      refine g_iconst C (v := (0 : Int32)) dX1_readToken_289 (by decide) ?_
      exact hr _ _ _ _ _ dX1_readToken_290 rfl h
    · replace h := h.2 c16
      refine g_lv (lv2 := [(0, .ref (Y.ad b))]) [1] ?_ rfl
      exact tX1_readToken_285 C hr hI h0 _ h
set_option maxRecDepth 20000 in
set_option maxHeartbeats 4000000 in
theorem tX1_readToken_263 {X : XT} {Y : YT} {l0 : Launch} {b : Nat} {Q : Int32 → Mem → Prop} (C : Cx X Y 2 cX1_readToken RX1 WX1_readToken (rmB 1 22) l0) (hr : RI X Y cX1_readToken .boolean Q) (hI : YI Y) (h0 : isX1 Y b) (μ : Mem) (h : nX1_readToken_263 b Q (SX1_readToken_0 X Y b) (SX1_readToken_122 X Y b) (SX1_readToken_166 X Y b) μ) : G X Y 2 263 [(0, .ref (Y.ad b))] [] μ := by
  unfold nX1_readToken_263 at h
  refine g_iconst C (v := (1 : Int32)) dX1_readToken_263 (by decide) ?_
  refine g_goto C 268 dX1_readToken_264 (by decide) ?_
  exact tX1_readToken_268 C hr hI h0 _ _ h
set_option maxRecDepth 20000 in
set_option maxHeartbeats 4000000 in
theorem tX1_readToken_229 {X : XT} {Y : YT} {l0 : Launch} {b : Nat} {Q : Int32 → Mem → Prop} (C : Cx X Y 2 cX1_readToken RX1 WX1_readToken (rmB 1 22) l0) (hr : RI X Y cX1_readToken .boolean Q) (hI : YI Y) (h0 : isX1 Y b) (μ : Mem) (h : nX1_readToken_229 b Q (SX1_readToken_0 X Y b) (SX1_readToken_122 X Y b) (SX1_readToken_166 X Y b) μ) : G X Y 2 229 [(0, .ref (Y.ad b))] [] μ := by
  unfold nX1_readToken_229 at h
  refine g_aload_n C 0 dX1_readToken_229 rfl ?_
  refine gf_RX1_33 C h0 dX1_readToken_230 ?_
  refine g_iconst C (v := (2 : Int32)) dX1_readToken_233 (by decide) ?_
  refine g_icmp_ne C 263 dX1_readToken_234 (by decide) (fun c10 => ?_) (fun c10 => ?_)
  · replace h := h.1 c10
    exact tX1_readToken_263 C hr hI h0 _ h
  · replace h := h.2 c10
    refine g_aload_n C 0 dX1_readToken_237 rfl ?_
    refine gf_RX1_46 C h0 dX1_readToken_238 ?_
    refine g_aload_n C 0 dX1_readToken_241 rfl ?_
    refine gf_RX1_72 C h0 dX1_readToken_242 ?_
    refine g_isub C dX1_readToken_245 ?_
    refine g_iconst C (v := (1 : Int32)) dX1_readToken_246 (by decide) ?_
    refine g_icmp_eq C 263 dX1_readToken_247 (by decide) (fun c11 => ?_) (fun c11 => ?_)
    · replace h := h.1 c11
      exact tX1_readToken_263 C hr hI h0 _ h
    · replace h := h.2 c11
      refine g_aload_n C 0 dX1_readToken_250 rfl ?_
      refine gf_RX1_46 C h0 dX1_readToken_251 ?_
      refine g_aload_n C 0 dX1_readToken_254 rfl ?_
      refine gf_RX1_72 C h0 dX1_readToken_255 ?_
      refine g_isub C dX1_readToken_258 ?_
      refine g_iconst C (v := (2 : Int32)) dX1_readToken_259 (by decide) ?_
      refine g_icmp_ne C 267 dX1_readToken_260 (by decide) (fun c12 => ?_) (fun c12 => ?_)
      · replace h := h.1 c12
        refine g_iconst C (v := (0 : Int32)) dX1_readToken_267 (by decide) ?_
        exact tX1_readToken_268 C hr hI h0 _ _ h
      · replace h := h.2 c12
        exact tX1_readToken_263 C hr hI h0 _ h
set_option maxRecDepth 20000 in
set_option maxHeartbeats 4000000 in
theorem tX1_readToken_38 {X : XT} {Y : YT} {l0 : Launch} {b : Nat} {Q : Int32 → Mem → Prop} (C : Cx X Y 2 cX1_readToken RX1 WX1_readToken (rmB 1 22) l0) (hr : RI X Y cX1_readToken .boolean Q) (hI : YI Y) (h0 : isX1 Y b) (μ : Mem) (h : nX1_readToken_38 b Q (SX1_readToken_0 X Y b) (SX1_readToken_122 X Y b) (SX1_readToken_166 X Y b) μ) : G X Y 2 38 [(0, .ref (Y.ad b))] [] μ := by
  unfold nX1_readToken_38 at h
  refine g_aload_n C 0 dX1_readToken_38 rfl ?_
  refine g_aload_n C 0 dX1_readToken_39 rfl ?_
  refine gf_RX1_46 C h0 dX1_readToken_40 ?_
  refine gp_RX1_72 C h0 dX1_readToken_43 ?_
  refine g_aload_n C 0 dX1_readToken_46 rfl ?_
  refine g_iconst C (v := (0 : Int32)) dX1_readToken_47 (by decide) ?_
  refine gp_RX1_75 C h0 dX1_readToken_48 ?_
  refine g_mem (fun m3 em3 => ?_)
  replace h := h m3 em3
  refine g_aload_n C 0 dX1_readToken_51 rfl ?_
  refine gf_RX1_46 C h0 dX1_readToken_52 ?_
  refine g_aload_n C 0 dX1_readToken_55 rfl ?_
  refine gf_RX1_69 C h0 dX1_readToken_56 ?_
  refine g_icmp_lt C 70 dX1_readToken_59 (by decide) (fun c4 => ?_) (fun c4 => ?_)
  · replace h := h.1 c4
    refine g_aload_n C 0 dX1_readToken_70 rfl ?_
    refine gf_RX1_9 C h0 dX1_readToken_71 ?_
    refine g_aload_n C 0 dX1_readToken_74 rfl ?_
    refine gf_RX1_46 C h0 dX1_readToken_75 ?_
    refine g_bald C (isX1_tape h0).1 (isX1_tape h0).2 h.1 dX1_readToken_78 ?_
    replace h := h.2
    refine g_bipush C (v := (59 : Int32)) dX1_readToken_79 (by decide) ?_
    refine g_icmp_ne C 102 dX1_readToken_81 (by decide) (fun c5 => ?_) (fun c5 => ?_)
    · replace h := h.1 c5
      refine g_aload_n C 0 dX1_readToken_102 rfl ?_
      refine gf_RX1_9 C h0 dX1_readToken_103 ?_
      refine g_aload_n C 0 dX1_readToken_106 rfl ?_
      refine gf_RX1_46 C h0 dX1_readToken_107 ?_
      refine g_bald C (isX1_tape h0).1 (isX1_tape h0).2 h.1 dX1_readToken_110 ?_
      replace h := h.2
      refine g_callSI C [.int (m3.1 (b + 1) (m3.1 b 5).toNatClampNeg)] [] (ok_X1_isLetter hI  h) (cw_RX1_78 _) rfl dc_X1_isLetter ⟨Nat.le_of_ble_eq_true rfl, Nat.le_of_ble_eq_true rfl⟩ rfl (Nat.le_of_ble_eq_true rfl) dX1_readToken_111 (fun r7 m6 h => ?_)
      refine g_if_eq C 161 dX1_readToken_114 (by decide) (fun c8 => ?_) (fun c8 => ?_)
      · replace h := h.1 c8
        refine g_aload_n C 0 dX1_readToken_161 rfl ?_
        refine g_iconst C (v := (2 : Int32)) dX1_readToken_162 (by decide) ?_
        refine gp_RX1_33 C h0 dX1_readToken_163 ?_
        exact h
      · replace h := h.2 c8
        refine g_aload_n C 0 dX1_readToken_117 rfl ?_
        refine g_iconst C (v := (1 : Int32)) dX1_readToken_118 (by decide) ?_
        refine gp_RX1_33 C h0 dX1_readToken_119 ?_
        exact h
    · replace h := h.2 c5
      refine g_aload_n C 0 dX1_readToken_84 rfl ?_
      refine g_iconst C (v := (3 : Int32)) dX1_readToken_85 (by decide) ?_
      refine gp_RX1_33 C h0 dX1_readToken_86 ?_
      refine g_aload_n C 0 dX1_readToken_89 rfl ?_
      refine g_dup C dX1_readToken_90 rfl ?_
      refine gf_RX1_46 C h0 dX1_readToken_91 ?_
      refine g_iconst C (v := (1 : Int32)) dX1_readToken_94 (by decide) ?_
      refine g_iadd C dX1_readToken_95 ?_
      refine gp_RX1_46 C h0 dX1_readToken_96 ?_
      refine g_mem (fun m9 em9 => ?_)
      replace h := h m9 em9
      refine g_goto C 229 dX1_readToken_99 (by decide) ?_
      exact tX1_readToken_229 C hr hI h0 _ h
  · replace h := h.2 c4
    refine g_aload_n C 0 dX1_readToken_62 rfl ?_
    refine g_iconst C (v := (0 : Int32)) dX1_readToken_63 (by decide) ?_
    refine gp_RX1_33 C h0 dX1_readToken_64 ?_
    refine g_goto C 229 dX1_readToken_67 (by decide) ?_
    exact tX1_readToken_229 C hr hI h0 _ h
set_option maxRecDepth 20000 in
set_option maxHeartbeats 4000000 in
theorem tX1_readToken_0 {X : XT} {Y : YT} {l0 : Launch} {b : Nat} {Q : Int32 → Mem → Prop} (C : Cx X Y 2 cX1_readToken RX1 WX1_readToken (rmB 1 22) l0) (hr : RI X Y cX1_readToken .boolean Q) (hI : YI Y) (h0 : isX1 Y b) (μ : Mem) (h : nX1_readToken_0 b Q (SX1_readToken_0 X Y b) (SX1_readToken_122 X Y b) (SX1_readToken_166 X Y b) μ) : G X Y 2 0 [(0, .ref (Y.ad b))] [] μ := by
  unfold nX1_readToken_0 at h
  refine g_aload_n C 0 dX1_readToken_0 rfl ?_
  refine gf_RX1_46 C h0 dX1_readToken_1 ?_
  refine g_aload_n C 0 dX1_readToken_4 rfl ?_
  refine gf_RX1_69 C h0 dX1_readToken_5 ?_
  refine g_icmp_ge C 38 dX1_readToken_8 (by decide) (fun c1 => ?_) (fun c1 => ?_)
  · replace h := h.1 c1
    exact tX1_readToken_38 C hr hI h0 _ h
  · replace h := h.2 c1
    refine g_aload_n C 0 dX1_readToken_11 rfl ?_
    refine gf_RX1_9 C h0 dX1_readToken_12 ?_
    refine g_aload_n C 0 dX1_readToken_15 rfl ?_
    refine gf_RX1_46 C h0 dX1_readToken_16 ?_
    refine g_bald C (isX1_tape h0).1 (isX1_tape h0).2 h.1 dX1_readToken_19 ?_
    replace h := h.2
    refine g_bipush C (v := (32 : Int32)) dX1_readToken_20 (by decide) ?_
    refine g_icmp_ne C 38 dX1_readToken_22 (by decide) (fun c2 => ?_) (fun c2 => ?_)
    · replace h := h.1 c2
      exact tX1_readToken_38 C hr hI h0 _ h
    · replace h := h.2 c2
      refine g_aload_n C 0 dX1_readToken_25 rfl ?_
      refine g_dup C dX1_readToken_26 rfl ?_
      refine gf_RX1_46 C h0 dX1_readToken_27 ?_
      refine g_iconst C (v := (1 : Int32)) dX1_readToken_30 (by decide) ?_
      refine g_iadd C dX1_readToken_31 ?_
      refine gp_RX1_46 C h0 dX1_readToken_32 ?_
      refine g_goto C 0 dX1_readToken_35 (by decide) ?_
      exact h
set_option maxRecDepth 20000 in
set_option maxHeartbeats 4000000 in
theorem tX1_readToken_122 {X : XT} {Y : YT} {l0 : Launch} {b : Nat} {Q : Int32 → Mem → Prop} (C : Cx X Y 2 cX1_readToken RX1 WX1_readToken (rmB 1 22) l0) (hr : RI X Y cX1_readToken .boolean Q) (hI : YI Y) (h0 : isX1 Y b) (μ : Mem) (h : nX1_readToken_122 b Q (SX1_readToken_0 X Y b) (SX1_readToken_122 X Y b) (SX1_readToken_166 X Y b) μ) : G X Y 2 122 [(0, .ref (Y.ad b))] [] μ := by
  unfold nX1_readToken_122 at h
  refine g_aload_n C 0 dX1_readToken_122 rfl ?_
  refine gf_RX1_46 C h0 dX1_readToken_123 ?_
  refine g_aload_n C 0 dX1_readToken_126 rfl ?_
  refine gf_RX1_69 C h0 dX1_readToken_127 ?_
  refine g_icmp_ge C 229 dX1_readToken_130 (by decide) (fun c17 => ?_) (fun c17 => ?_)
  · replace h := h.1 c17
    exact tX1_readToken_229 C hr hI h0 _ h
  · replace h := h.2 c17
    refine g_aload_n C 0 dX1_readToken_133 rfl ?_
    refine gf_RX1_9 C h0 dX1_readToken_134 ?_
    refine g_aload_n C 0 dX1_readToken_137 rfl ?_
    refine gf_RX1_46 C h0 dX1_readToken_138 ?_
    refine g_bald C (isX1_tape h0).1 (isX1_tape h0).2 h.1 dX1_readToken_141 ?_
    replace h := h.2
    refine g_callSI C [.int (μ.1 (b + 1) (μ.1 b 5).toNatClampNeg)] [] (ok_X1_isLetter hI  h) (cw_RX1_78 _) rfl dc_X1_isLetter ⟨Nat.le_of_ble_eq_true rfl, Nat.le_of_ble_eq_true rfl⟩ rfl (Nat.le_of_ble_eq_true rfl) dX1_readToken_142 (fun r19 m18 h => ?_)
    refine g_if_eq C 229 dX1_readToken_145 (by decide) (fun c20 => ?_) (fun c20 => ?_)
    · replace h := h.1 c20
      exact tX1_readToken_229 C hr hI h0 _ h
    · replace h := h.2 c20
      refine g_aload_n C 0 dX1_readToken_148 rfl ?_
      refine g_dup C dX1_readToken_149 rfl ?_
      refine gf_RX1_46 C h0 dX1_readToken_150 ?_
      refine g_iconst C (v := (1 : Int32)) dX1_readToken_153 (by decide) ?_
      refine g_iadd C dX1_readToken_154 ?_
      refine gp_RX1_46 C h0 dX1_readToken_155 ?_
      refine g_goto C 122 dX1_readToken_158 (by decide) ?_
      exact h
set_option maxRecDepth 20000 in
set_option maxHeartbeats 4000000 in
theorem tX1_readToken_166 {X : XT} {Y : YT} {l0 : Launch} {b : Nat} {Q : Int32 → Mem → Prop} (C : Cx X Y 2 cX1_readToken RX1 WX1_readToken (rmB 1 22) l0) (hr : RI X Y cX1_readToken .boolean Q) (hI : YI Y) (h0 : isX1 Y b) (μ : Mem) (h : nX1_readToken_166 b Q (SX1_readToken_0 X Y b) (SX1_readToken_122 X Y b) (SX1_readToken_166 X Y b) μ) : G X Y 2 166 [(0, .ref (Y.ad b))] [] μ := by
  unfold nX1_readToken_166 at h
  refine g_aload_n C 0 dX1_readToken_166 rfl ?_
  refine gf_RX1_46 C h0 dX1_readToken_167 ?_
  refine g_aload_n C 0 dX1_readToken_170 rfl ?_
  refine gf_RX1_69 C h0 dX1_readToken_171 ?_
  refine g_icmp_ge C 229 dX1_readToken_174 (by decide) (fun c21 => ?_) (fun c21 => ?_)
  · replace h := h.1 c21
    exact tX1_readToken_229 C hr hI h0 _ h
  · replace h := h.2 c21
    refine g_aload_n C 0 dX1_readToken_177 rfl ?_
    refine gf_RX1_9 C h0 dX1_readToken_178 ?_
    refine g_aload_n C 0 dX1_readToken_181 rfl ?_
    refine gf_RX1_46 C h0 dX1_readToken_182 ?_
    refine g_bald C (isX1_tape h0).1 (isX1_tape h0).2 h.1 dX1_readToken_185 ?_
    replace h := h.2
    refine g_callSI C [.int (μ.1 (b + 1) (μ.1 b 5).toNatClampNeg)] [] (ok_X1_isFigure hI  h) (cw_RX1_82 _) rfl dc_X1_isFigure ⟨Nat.le_of_ble_eq_true rfl, Nat.le_of_ble_eq_true rfl⟩ rfl (Nat.le_of_ble_eq_true rfl) dX1_readToken_186 (fun r23 m22 h => ?_)
    refine g_if_eq C 229 dX1_readToken_189 (by decide) (fun c24 => ?_) (fun c24 => ?_)
    · replace h := h.1 c24
      exact tX1_readToken_229 C hr hI h0 _ h
    · replace h := h.2 c24
      refine g_aload_n C 0 dX1_readToken_192 rfl ?_
      refine g_aload_n C 0 dX1_readToken_193 rfl ?_
      refine gf_RX1_75 C h0 dX1_readToken_194 ?_
      refine g_bipush C (v := (10 : Int32)) dX1_readToken_197 (by decide) ?_
      refine g_imul C dX1_readToken_199 ?_
      refine g_aload_n C 0 dX1_readToken_200 rfl ?_
      refine gf_RX1_9 C h0 dX1_readToken_201 ?_
      refine g_aload_n C 0 dX1_readToken_204 rfl ?_
      refine gf_RX1_46 C h0 dX1_readToken_205 ?_
      refine g_bald C (isX1_tape h0).1 (isX1_tape h0).2 h.1 dX1_readToken_208 ?_
      replace h := h.2
      refine g_iadd C dX1_readToken_209 ?_
      refine g_bipush C (v := (48 : Int32)) dX1_readToken_210 (by decide) ?_
      refine g_isub C dX1_readToken_212 ?_
      refine gp_RX1_75 C h0 dX1_readToken_213 ?_
      refine g_mem (fun m25 em25 => ?_)
      replace h := h m25 em25
      refine g_aload_n C 0 dX1_readToken_216 rfl ?_
      refine g_dup C dX1_readToken_217 rfl ?_
      refine gf_RX1_46 C h0 dX1_readToken_218 ?_
      refine g_iconst C (v := (1 : Int32)) dX1_readToken_221 (by decide) ?_
      refine g_iadd C dX1_readToken_222 ?_
      refine gp_RX1_46 C h0 dX1_readToken_223 ?_
      refine g_goto C 166 dX1_readToken_226 (by decide) ?_
      exact h
set_option maxRecDepth 20000 in
set_option maxHeartbeats 4000000 in
theorem ok_X1_readToken {Y : YT} {l0 : Launch} {b : Nat} {μ : Mem} {Q : Int32 → Mem → Prop} (hI : YI Y) (h0 : isX1 Y b) (h : PX1_readToken b μ Q) : MI l0 yX1_readToken WX1_readToken 1 22 Y [.ref (Y.ad b)] μ Q := by
  refine mI_of (ty := .boolean) (cc := cX1_readToken) (maxL := 2) (by decide +kernel) rfl hI (Nat.le_of_ble_eq_true rfl) (fun X C hr => ?_)
  replace C : Cx X Y 2 cX1_readToken RX1 WX1_readToken (rmB 1 22) l0 := C
  refine g_lv (lv2 := [(0, .ref (Y.ad b))]) [0] ?_ rfl
  unfold PX1_readToken at h
  replace h := h (SX1_readToken_0 X Y b) (SX1_readToken_122 X Y b) (SX1_readToken_166 X Y b) (fun  μ z => tX1_readToken_0 C hr hI h0  μ z) (fun  μ z => tX1_readToken_122 C hr hI h0  μ z) (fun  μ z => tX1_readToken_166 C hr hI h0  μ z)
  exact h
