set_option maxRecDepth 20000 in
set_option maxHeartbeats 4000000 in
theorem ok_X7_beginRows {Y : YT} {l0 : Launch} {b : Nat} {μ : Mem} {Q : Mem → Prop} (hI : YI Y) (h0 : isX7 Y b) (h : PX7_beginRows b μ Q) : MV l0 yX7_beginRows WX7_beginRows 2 44 Y [.ref (Y.ad b)] μ Q := by
  refine mV_of (cc := cX7_beginRows) (maxL := 1) (by decide +kernel) rfl hI (Nat.le_of_ble_eq_true rfl) (fun X C hr => ?_)
  replace C : Cx X Y 1 cX7_beginRows RX7 WX7_beginRows (rmB 2 44) l0 := C
  refine g_lv (lv2 := [(0, .ref (Y.ad b))]) [0] ?_ rfl
  unfold PX7_beginRows at h
  refine g_aload_n C 0 dX7_beginRows_0 rfl ?_
  refine g_iconst C (v := (0 : Int32)) dX7_beginRows_1 (by decide) ?_
  refine g_callVV C [.int ((0 : Int32))] [] (ok_X7_begins hI h0 h) (cw_RX7_329 _) rfl dc_X7_begins ⟨Nat.le_of_ble_eq_true rfl, Nat.le_of_ble_eq_true rfl⟩ (isX7_lt h0) (isX7_sh h0) rfl rfl rfl rfl (Nat.le_of_ble_eq_true rfl) dX7_beginRows_2 (fun m1 h => ?_)
  refine g_aload_n C 0 dX7_beginRows_5 rfl ?_
  refine g_iconst C (v := (0 : Int32)) dX7_beginRows_6 (by decide) ?_
  refine gp_RX7_359 C h0 dX7_beginRows_7 ?_
  refine g_aload_n C 0 dX7_beginRows_10 rfl ?_
  refine gf_RX7_65 C h0 dX7_beginRows_11 ?_
  refine g_iconst C (v := (0 : Int32)) dX7_beginRows_14 (by decide) ?_
  refine g_iconst C (v := (-1 : Int32)) dX7_beginRows_15 (by decide) ?_
  refine g_iast C (isX7_pick h0).1 (isX7_pick h0).2 h.1 dX7_beginRows_16 ?_
  replace h := h.2
  refine g_mem (fun m3 em3 => ?_)
  replace h := h m3 em3
  exact hr _ _ _ _ dX7_beginRows_17 h
def SX7_nextRow_18 (X : XT) (Y : YT) (b : Nat) (p1 : Int32) : Mem → Prop := fun  μ => G X Y 2 18 [(0, .ref (Y.ad b)), (1, .int p1)] [] μ
set_option maxRecDepth 20000 in
set_option maxHeartbeats 4000000 in
theorem tX7_nextRow_88 {X : XT} {Y : YT} {l0 : Launch} {b : Nat} {p1 : Int32} {Q : Int32 → Mem → Prop} (C : Cx X Y 2 cX7_nextRow RX7 WX7_nextRow (rmB 6 149) l0) (hr : RI X Y cX7_nextRow .boolean Q) (hI : YI Y) (h0 : isX7 Y b) (μ : Mem) (h : nX7_nextRow_88 b p1 Q (SX7_nextRow_18 X Y b p1) μ) : G X Y 2 88 [(0, .ref (Y.ad b)), (1, .int p1)] [] μ := by
  unfold nX7_nextRow_88 at h
  refine g_aload_n C 0 dX7_nextRow_88 rfl ?_
  refine gf_RX7_359 C h0 dX7_nextRow_89 ?_
  refine g_iload_n C 1 dX7_nextRow_92 rfl ?_
  refine g_icmp_ne C 100 dX7_nextRow_93 (by decide) (fun c9 => ?_) (fun c9 => ?_)
  · replace h := h.1 c9
    refine g_iconst C (v := (0 : Int32)) dX7_nextRow_100 (by decide) ?_
    exact hr _ _ _ _ _ dX7_nextRow_101 rfl h
  · replace h := h.2 c9
    refine g_iconst C (v := (1 : Int32)) dX7_nextRow_96 (by decide) ?_
    refine g_goto C 101 dX7_nextRow_97 (by decide) ?_
    exact hr _ _ _ _ _ dX7_nextRow_101 rfl h
set_option maxRecDepth 20000 in
set_option maxHeartbeats 4000000 in
theorem tX7_nextRow_18 {X : XT} {Y : YT} {l0 : Launch} {b : Nat} {p1 : Int32} {Q : Int32 → Mem → Prop} (C : Cx X Y 2 cX7_nextRow RX7 WX7_nextRow (rmB 6 149) l0) (hr : RI X Y cX7_nextRow .boolean Q) (hI : YI Y) (h0 : isX7 Y b) (μ : Mem) (h : nX7_nextRow_18 b p1 Q (SX7_nextRow_18 X Y b p1) μ) : G X Y 2 18 [(0, .ref (Y.ad b)), (1, .int p1)] [] μ := by
  unfold nX7_nextRow_18 at h
  refine g_aload_n C 0 dX7_nextRow_18 rfl ?_
  refine gf_RX7_359 C h0 dX7_nextRow_19 ?_
  refine g_if_lt C 88 dX7_nextRow_22 (by decide) (fun c2 => ?_) (fun c2 => ?_)
  · replace h := h.1 c2
    exact tX7_nextRow_88 C hr hI h0 _ h
  · replace h := h.2 c2
    refine g_aload_n C 0 dX7_nextRow_25 rfl ?_
    refine gf_RX7_359 C h0 dX7_nextRow_26 ?_
    refine g_iload_n C 1 dX7_nextRow_29 rfl ?_
    refine g_icmp_ge C 88 dX7_nextRow_30 (by decide) (fun c3 => ?_) (fun c3 => ?_)
    · replace h := h.1 c3
      exact tX7_nextRow_88 C hr hI h0 _ h
    · replace h := h.2 c3
      refine g_aload_n C 0 dX7_nextRow_33 rfl ?_
      refine g_aload_n C 0 dX7_nextRow_34 rfl ?_
      refine gf_RX7_359 C h0 dX7_nextRow_35 ?_
      refine g_callVI C [.int (μ.1 b 41)] [] (ok_X7_picks hI h0 h) (cw_RX7_362 _) rfl dc_X7_picks ⟨Nat.le_of_ble_eq_true rfl, Nat.le_of_ble_eq_true rfl⟩ (isX7_lt h0) (isX7_sh h0) rfl rfl rfl rfl (Nat.le_of_ble_eq_true rfl) dX7_nextRow_38 (fun r5 m4 h => ?_)
      refine g_if_eq C 75 dX7_nextRow_41 (by decide) (fun c6 => ?_) (fun c6 => ?_)
      · replace h := h.1 c6
        refine g_aload_n C 0 dX7_nextRow_75 rfl ?_
        refine g_dup C dX7_nextRow_76 rfl ?_
        refine gf_RX7_359 C h0 dX7_nextRow_77 ?_
        refine g_iconst C (v := (1 : Int32)) dX7_nextRow_80 (by decide) ?_
        refine g_isub C dX7_nextRow_81 ?_
        refine gp_RX7_359 C h0 dX7_nextRow_82 ?_
        refine g_goto C 18 dX7_nextRow_85 (by decide) ?_
        exact h
      · replace h := h.2 c6
        refine g_aload_n C 0 dX7_nextRow_44 rfl ?_
        refine g_dup C dX7_nextRow_45 rfl ?_
        refine gf_RX7_359 C h0 dX7_nextRow_46 ?_
        refine g_iconst C (v := (1 : Int32)) dX7_nextRow_49 (by decide) ?_
        refine g_iadd C dX7_nextRow_50 ?_
        refine gp_RX7_359 C h0 dX7_nextRow_51 ?_
        refine g_aload_n C 0 dX7_nextRow_54 rfl ?_
        refine gf_RX7_359 C h0 dX7_nextRow_55 ?_
        refine g_iload_n C 1 dX7_nextRow_58 rfl ?_
        refine g_icmp_ge C 18 dX7_nextRow_59 (by decide) (fun c7 => ?_) (fun c7 => ?_)
        · replace h := h.1 c7
          exact h
        · replace h := h.2 c7
          refine g_aload_n C 0 dX7_nextRow_62 rfl ?_
          refine gf_RX7_65 C h0 dX7_nextRow_63 ?_
          refine g_aload_n C 0 dX7_nextRow_66 rfl ?_
          refine gf_RX7_359 C h0 dX7_nextRow_67 ?_
          refine g_iconst C (v := (-1 : Int32)) dX7_nextRow_70 (by decide) ?_
          refine g_iast C (isX7_pick h0).1 (isX7_pick h0).2 h.1 dX7_nextRow_71 ?_
          replace h := h.2
          refine g_mem (fun m8 em8 => ?_)
          replace h := h m8 em8
          refine g_goto C 18 dX7_nextRow_72 (by decide) ?_
          exact h
set_option maxRecDepth 20000 in
set_option maxHeartbeats 4000000 in
theorem ok_X7_nextRow {Y : YT} {l0 : Launch} {b : Nat} {p1 : Int32} {μ : Mem} {Q : Int32 → Mem → Prop} (hI : YI Y) (h0 : isX7 Y b) (h : PX7_nextRow b p1 μ Q) : MI l0 yX7_nextRow WX7_nextRow 6 149 Y [.ref (Y.ad b), .int p1] μ Q := by
  refine mI_of (ty := .boolean) (cc := cX7_nextRow) (maxL := 2) (by decide +kernel) rfl hI (Nat.le_of_ble_eq_true rfl) (fun X C hr => ?_)
  replace C : Cx X Y 2 cX7_nextRow RX7 WX7_nextRow (rmB 6 149) l0 := C
  refine g_lv (lv2 := [(0, .ref (Y.ad b)), (1, .int p1)]) [0, 1] ?_ rfl
  unfold PX7_nextRow at h
  replace h := h (SX7_nextRow_18 X Y b p1) (fun  μ z => tX7_nextRow_18 C hr hI h0  μ z)
  refine g_aload_n C 0 dX7_nextRow_0 rfl ?_
  refine gf_RX7_359 C h0 dX7_nextRow_1 ?_
  refine g_iload_n C 1 dX7_nextRow_4 rfl ?_
  refine g_icmp_ne C 18 dX7_nextRow_5 (by decide) (fun c1 => ?_) (fun c1 => ?_)
  · replace h := h.1 c1
    exact h
  · replace h := h.2 c1
    refine g_aload_n C 0 dX7_nextRow_8 rfl ?_
    refine g_dup C dX7_nextRow_9 rfl ?_
    refine gf_RX7_359 C h0 dX7_nextRow_10 ?_
    refine g_iconst C (v := (1 : Int32)) dX7_nextRow_13 (by decide) ?_
    refine g_isub C dX7_nextRow_14 ?_
    refine gp_RX7_359 C h0 dX7_nextRow_15 ?_
    exact h
set_option maxRecDepth 20000 in
set_option maxHeartbeats 4000000 in
theorem ok_X7_areDays {Y : YT} {l0 : Launch} {p0 : Int32} {p1 : Int32} {μ : Mem} {Q : Int32 → Mem → Prop} (hI : YI Y) (h : PX7_areDays p0 p1 μ Q) : MI l0 yX7_areDays WX7_areDays 1 25 Y [.int p0, .int p1] μ Q := by
  refine mI_of (ty := .boolean) (cc := cX7_areDays) (maxL := 2) (by decide +kernel) rfl hI (Nat.le_of_ble_eq_true rfl) (fun X C hr => ?_)
  replace C : Cx X Y 2 cX7_areDays RX7 WX7_areDays (rmB 1 25) l0 := C
  refine g_lv (lv2 := [(0, .int p0), (1, .int p1)]) [0, 1] ?_ rfl
  unfold PX7_areDays at h
  refine g_iload_n C 0 dX7_areDays_0 rfl ?_
  refine g_i2l C dX7_areDays_1 ?_
  refine g_lconst C (v := (1 : Int64)) dX7_areDays_2 (by decide) ?_
  refine g_iload_n C 1 dX7_areDays_3 rfl ?_
  refine g_i2l C dX7_areDays_4 ?_
  refine g_callSI C [.long p0.toInt64, .long ((1 : Int64)), .long p1.toInt64] [] (ok_X7_in hI  h) (cw_RX7_134 _) rfl dc_X7_in ⟨Nat.le_of_ble_eq_true rfl, Nat.le_of_ble_eq_true rfl⟩ rfl (Nat.le_of_ble_eq_true rfl) dX7_areDays_5 (fun r2 m1 h => ?_)
  exact hr _ _ _ _ _ dX7_areDays_8 h.1.1 h.2
set_option maxRecDepth 20000 in
set_option maxHeartbeats 4000000 in
theorem ok_X7_compares {Y : YT} {l0 : Launch} {b : Nat} {p1 : Int32} {μ : Mem} {Q : Int32 → Mem → Prop} (hI : YI Y) (h0 : isX7 Y b) (h : PX7_compares b p1 μ Q) : MI l0 yX7_compares WX7_compares 0 0 Y [.ref (Y.ad b), .int p1] μ Q := by
  refine mI_of (ty := .int) (cc := cX7_compares) (maxL := 2) (by decide +kernel) rfl hI (Nat.le_of_ble_eq_true rfl) (fun X C hr => ?_)
  replace C : Cx X Y 2 cX7_compares RX7 WX7_compares (rmB 0 0) l0 := C
  refine g_lv (lv2 := [(0, .ref (Y.ad b)), (1, .int p1)]) [0, 1] ?_ rfl
  unfold PX7_compares at h
  refine g_aload_n C 0 dX7_compares_0 rfl ?_
  refine gf_RX7_49 C h0 dX7_compares_1 ?_
  refine g_iload_n C 1 dX7_compares_4 rfl ?_
  refine g_bipush C (v := (34 : Int32)) dX7_compares_5 (by decide) ?_
  refine g_iadd C dX7_compares_7 ?_
  refine g_iald C (isX7_st h0).1 (isX7_st h0).2 h.1 dX7_compares_8 ?_
  replace h := h.2
  refine g_aload_n C 0 dX7_compares_9 rfl ?_
  refine gf_RX7_365 C h0 dX7_compares_10 ?_
  refine g_icmp_eq C 33 dX7_compares_13 (by decide) (fun c1 => ?_) (fun c1 => ?_)
  · replace h := h.1 c1
    refine g_aload_n C 0 dX7_compares_33 rfl ?_
    refine gf_RX7_49 C h0 dX7_compares_34 ?_
    refine g_iload_n C 1 dX7_compares_37 rfl ?_
    refine g_bipush C (v := (33 : Int32)) dX7_compares_38 (by decide) ?_
    refine g_iadd C dX7_compares_40 ?_
    refine g_iald C (isX7_st h0).1 (isX7_st h0).2 h.1 dX7_compares_41 ?_
    replace h := h.2
    refine g_aload_n C 0 dX7_compares_42 rfl ?_
    refine gf_RX7_368 C h0 dX7_compares_43 ?_
    refine g_icmp_eq C 66 dX7_compares_46 (by decide) (fun c2 => ?_) (fun c2 => ?_)
    · replace h := h.1 c2
      refine g_aload_n C 0 dX7_compares_66 rfl ?_
      refine gf_RX7_371 C h0 dX7_compares_67 ?_
      refine g_aload_n C 0 dX7_compares_70 rfl ?_
      refine gf_RX7_49 C h0 dX7_compares_71 ?_
      refine g_iload_n C 1 dX7_compares_74 rfl ?_
      refine g_bipush C (v := (35 : Int32)) dX7_compares_75 (by decide) ?_
      refine g_iadd C dX7_compares_77 ?_
      refine g_iald C (isX7_st h0).1 (isX7_st h0).2 h.1 dX7_compares_78 ?_
      replace h := h.2
      refine g_isub C dX7_compares_79 ?_
      exact hr _ _ _ _ _ dX7_compares_80 rfl h
    · replace h := h.2 c2
      refine g_aload_n C 0 dX7_compares_49 rfl ?_
      refine gf_RX7_49 C h0 dX7_compares_50 ?_
      refine g_iload_n C 1 dX7_compares_53 rfl ?_
      refine g_bipush C (v := (33 : Int32)) dX7_compares_54 (by decide) ?_
      refine g_iadd C dX7_compares_56 ?_
      refine g_iald C (isX7_st h0).1 (isX7_st h0).2 h.1 dX7_compares_57 ?_
      replace h := h.2
      refine g_aload_n C 0 dX7_compares_58 rfl ?_
      refine gf_RX7_368 C h0 dX7_compares_59 ?_
      refine g_isub C dX7_compares_62 ?_
      refine g_goto C 80 dX7_compares_63 (by decide) ?_
      exact hr _ _ _ _ _ dX7_compares_80 rfl h
  · replace h := h.2 c1
    refine g_aload_n C 0 dX7_compares_16 rfl ?_
    refine gf_RX7_49 C h0 dX7_compares_17 ?_
    refine g_iload_n C 1 dX7_compares_20 rfl ?_
    refine g_bipush C (v := (34 : Int32)) dX7_compares_21 (by decide) ?_
    refine g_iadd C dX7_compares_23 ?_
    refine g_iald C (isX7_st h0).1 (isX7_st h0).2 h.1 dX7_compares_24 ?_
    replace h := h.2
    refine g_aload_n C 0 dX7_compares_25 rfl ?_
    refine gf_RX7_365 C h0 dX7_compares_26 ?_
    refine g_isub C dX7_compares_29 ?_
    refine g_goto C 80 dX7_compares_30 (by decide) ?_
    exact hr _ _ _ _ _ dX7_compares_80 rfl h
def SX7_leastFed_4 (X : XT) (Y : YT) (b : Nat) (p1 : Int32) : Int32 → Int32 → Mem → Prop := fun v2 v3 μ => G X Y 4 4 [(0, .ref (Y.ad b)), (1, .int p1), (2, .int v2), (3, .int v3)] [] μ
set_option maxRecDepth 20000 in
set_option maxHeartbeats 4000000 in
theorem tX7_leastFed_29 {X : XT} {Y : YT} {l0 : Launch} {b : Nat} {p1 : Int32} {Q : Int32 → Mem → Prop} (C : Cx X Y 4 cX7_leastFed RX7 WX7_leastFed (rmB 1 24) l0) (hr : RI X Y cX7_leastFed .int Q) (hI : YI Y) (h0 : isX7 Y b) (v3 : Int32) (w0 : Int32) (μ : Mem) (h : nX7_leastFed_29 b p1 Q (SX7_leastFed_4 X Y b p1) v3 w0 μ) : G X Y 4 29 [(0, .ref (Y.ad b)), (1, .int p1), (3, .int v3)] [.int w0] μ := by
  unfold nX7_leastFed_29 at h
  refine g_istore_n C [(2, .int w0), (0, .ref (Y.ad b)), (1, .int p1), (3, .int v3)] dX7_leastFed_29 (by decide) rfl ?_
  refine g_iinc C (v := v3 + 1) 3 [(3, .int (v3 + 1)), (2, .int w0), (0, .ref (Y.ad b)), (1, .int p1)] dX7_leastFed_30 rfl rfl (by decide) rfl ?_
  refine g_goto C 4 dX7_leastFed_33 (by decide) ?_
  refine g_lv (lv2 := [(0, .ref (Y.ad b)), (1, .int p1), (2, .int w0), (3, .int (v3 + 1))]) [2, 3, 1, 0] ?_ rfl
  exact h
set_option maxRecDepth 20000 in
set_option maxHeartbeats 4000000 in
theorem tX7_leastFed_4 {X : XT} {Y : YT} {l0 : Launch} {b : Nat} {p1 : Int32} {Q : Int32 → Mem → Prop} (C : Cx X Y 4 cX7_leastFed RX7 WX7_leastFed (rmB 1 24) l0) (hr : RI X Y cX7_leastFed .int Q) (hI : YI Y) (h0 : isX7 Y b) (v2 : Int32) (v3 : Int32) (μ : Mem) (h : nX7_leastFed_4 b p1 Q (SX7_leastFed_4 X Y b p1) v2 v3 μ) : G X Y 4 4 [(0, .ref (Y.ad b)), (1, .int p1), (2, .int v2), (3, .int v3)] [] μ := by
  unfold nX7_leastFed_4 at h
  refine g_iload_n C 3 dX7_leastFed_4 rfl ?_
  refine g_iconst C (v := (4 : Int32)) dX7_leastFed_5 (by decide) ?_
  refine g_icmp_ge C 36 dX7_leastFed_6 (by decide) (fun c1 => ?_) (fun c1 => ?_)
  · replace h := h.1 c1
    refine g_iload_n C 2 dX7_leastFed_36 rfl ?_
    exact hr _ _ _ _ _ dX7_leastFed_37 rfl h
  · replace h := h.2 c1
    refine g_aload_n C 0 dX7_leastFed_9 rfl ?_
    refine g_iload_n C 3 dX7_leastFed_10 rfl ?_
    refine g_iload_n C 1 dX7_leastFed_11 rfl ?_
    refine g_callVI C [.int v3, .int p1] [] (ok_X7_fedOf hI h0 h) (cw_RX7_349 _) rfl dc_X7_fedOf ⟨Nat.le_of_ble_eq_true rfl, Nat.le_of_ble_eq_true rfl⟩ (isX7_lt h0) (isX7_sh h0) rfl rfl rfl rfl (Nat.le_of_ble_eq_true rfl) dX7_leastFed_12 (fun r3 m2 h => ?_)
    refine g_iload_n C 2 dX7_leastFed_15 rfl ?_
    refine g_icmp_ge C 28 dX7_leastFed_16 (by decide) (fun c4 => ?_) (fun c4 => ?_)
    · replace h := h.1 c4
      refine g_iload_n C 2 dX7_leastFed_28 rfl ?_
      refine g_lv (lv2 := [(0, .ref (Y.ad b)), (1, .int p1), (3, .int v3)]) [0, 1, 3] ?_ rfl
      exact tX7_leastFed_29 C hr hI h0 _ _ _ h
    · replace h := h.2 c4
      refine g_aload_n C 0 dX7_leastFed_19 rfl ?_
      refine g_iload_n C 3 dX7_leastFed_20 rfl ?_
      refine g_iload_n C 1 dX7_leastFed_21 rfl ?_
      refine g_callVI C [.int v3, .int p1] [] (ok_X7_fedOf hI h0 h) (cw_RX7_349 _) rfl dc_X7_fedOf ⟨Nat.le_of_ble_eq_true rfl, Nat.le_of_ble_eq_true rfl⟩ (isX7_lt h0) (isX7_sh h0) rfl rfl rfl rfl (Nat.le_of_ble_eq_true rfl) dX7_leastFed_22 (fun r6 m5 h => ?_)
      refine g_goto C 29 dX7_leastFed_25 (by decide) ?_
      refine g_lv (lv2 := [(0, .ref (Y.ad b)), (1, .int p1), (3, .int v3)]) [0, 1, 3] ?_ rfl
      exact tX7_leastFed_29 C hr hI h0 _ _ _ h
set_option maxRecDepth 20000 in
set_option maxHeartbeats 4000000 in
theorem ok_X7_leastFed {Y : YT} {l0 : Launch} {b : Nat} {p1 : Int32} {μ : Mem} {Q : Int32 → Mem → Prop} (hI : YI Y) (h0 : isX7 Y b) (h : PX7_leastFed b p1 μ Q) : MI l0 yX7_leastFed WX7_leastFed 1 24 Y [.ref (Y.ad b), .int p1] μ Q := by
  refine mI_of (ty := .int) (cc := cX7_leastFed) (maxL := 4) (by decide +kernel) rfl hI (Nat.le_of_ble_eq_true rfl) (fun X C hr => ?_)
  replace C : Cx X Y 4 cX7_leastFed RX7 WX7_leastFed (rmB 1 24) l0 := C
  refine g_lv (lv2 := [(0, .ref (Y.ad b)), (1, .int p1)]) [0, 1] ?_ rfl
  unfold PX7_leastFed at h
  replace h := h (SX7_leastFed_4 X Y b p1) (fun v2 v3 μ z => tX7_leastFed_4 C hr hI h0 v2 v3 μ z)
  refine g_iload_n C 1 dX7_leastFed_0 rfl ?_
  refine g_istore_n C [(2, .int p1), (0, .ref (Y.ad b)), (1, .int p1)] dX7_leastFed_1 (by decide) rfl ?_
  refine g_iconst C (v := (0 : Int32)) dX7_leastFed_2 (by decide) ?_
  refine g_istore_n C [(3, .int ((0 : Int32))), (2, .int p1), (0, .ref (Y.ad b)), (1, .int p1)] dX7_leastFed_3 (by decide) rfl ?_
  refine g_lv (lv2 := [(0, .ref (Y.ad b)), (1, .int p1), (2, .int p1), (3, .int ((0 : Int32)))]) [2, 3, 1, 0] ?_ rfl
  exact h
def SX7_findBest_19 (X : XT) (Y : YT) (b : Nat) (p1 : Int32) (p2 : Int32) : Int32 → Mem → Prop := fun v3 μ => G X Y 7 19 [(0, .ref (Y.ad b)), (1, .int p1), (2, .int p2), (3, .int v3)] [] μ
def SX7_findBest_176 (X : XT) (Y : YT) (b : Nat) (p1 : Int32) (p2 : Int32) : Int32 → Int32 → Mem → Prop := fun v3 v6 μ => G X Y 7 176 [(0, .ref (Y.ad b)), (1, .int p1), (2, .int p2), (3, .int v3), (6, .int v6)] [] μ
set_option maxRecDepth 20000 in
set_option maxHeartbeats 4000000 in
theorem tX7_findBest_202 {X : XT} {Y : YT} {l0 : Launch} {b : Nat} {p1 : Int32} {p2 : Int32} {Q : Mem → Prop} (C : Cx X Y 7 cX7_findBest RX7 WX7_findBest (rmB 7 170) l0) (hr : RV X Y cX7_findBest Q) (hI : YI Y) (h0 : isX7 Y b) (v3 : Int32) (μ : Mem) (h : nX7_findBest_202 b p1 p2 Q (SX7_findBest_19 X Y b p1 p2) (SX7_findBest_176 X Y b p1 p2) v3 μ) : G X Y 7 202 [(0, .ref (Y.ad b)), (1, .int p1), (2, .int p2), (3, .int v3)] [] μ := by
  unfold nX7_findBest_202 at h
  refine g_goto C 19 dX7_findBest_202 (by decide) ?_
  exact h
set_option maxRecDepth 20000 in
set_option maxHeartbeats 4000000 in
theorem tX7_findBest_120 {X : XT} {Y : YT} {l0 : Launch} {b : Nat} {p1 : Int32} {p2 : Int32} {Q : Mem → Prop} (C : Cx X Y 7 cX7_findBest RX7 WX7_findBest (rmB 7 170) l0) (hr : RV X Y cX7_findBest Q) (hI : YI Y) (h0 : isX7 Y b) (v3 : Int32) (v4 : Int32) (v5 : Int32) (w0 : Int32) (μ : Mem) (h : nX7_findBest_120 b p1 p2 Q (SX7_findBest_19 X Y b p1 p2) (SX7_findBest_176 X Y b p1 p2) v3 v4 v5 w0 μ) : G X Y 7 120 [(0, .ref (Y.ad b)), (1, .int p1), (2, .int p2), (3, .int v3), (4, .int v4), (5, .int v5)] [.int w0, .ref (Y.ad b)] μ := by
  unfold nX7_findBest_120 at h
  refine gp_RX7_377 C h0 dX7_findBest_120 ?_
  refine g_iload C 5 dX7_findBest_123 rfl ?_
  refine g_if_ge C 202 dX7_findBest_125 (by decide) (fun c17 => ?_) (fun c17 => ?_)
  · replace h := h.1 c17
    refine g_lv (lv2 := [(0, .ref (Y.ad b)), (1, .int p1), (2, .int p2), (3, .int v3)]) [0, 1, 2, 3] ?_ rfl
    exact tX7_findBest_202 C hr hI h0 _ _ h
  · replace h := h.2 c17
    refine g_aload_n C 0 dX7_findBest_128 rfl ?_
    refine g_iload C 4 dX7_findBest_129 rfl ?_
    refine gp_RX7_389 C h0 dX7_findBest_131 ?_
    refine g_mem (fun m18 em18 => ?_)
    replace h := h m18 em18
    refine g_aload_n C 0 dX7_findBest_134 rfl ?_
    refine g_aload_n C 0 dX7_findBest_135 rfl ?_
    refine gf_RX7_49 C h0 dX7_findBest_136 ?_
    refine g_iload_n C 3 dX7_findBest_139 rfl ?_
    refine g_bipush C (v := (34 : Int32)) dX7_findBest_140 (by decide) ?_
    refine g_iadd C dX7_findBest_142 ?_
    refine g_iald C (isX7_st h0).1 (isX7_st h0).2 h.1 dX7_findBest_143 ?_
    replace h := h.2
    refine gp_RX7_365 C h0 dX7_findBest_144 ?_
    refine g_aload_n C 0 dX7_findBest_147 rfl ?_
    refine g_aload_n C 0 dX7_findBest_148 rfl ?_
    refine gf_RX7_49 C h0 dX7_findBest_149 ?_
    refine g_iload_n C 3 dX7_findBest_152 rfl ?_
    refine g_bipush C (v := (33 : Int32)) dX7_findBest_153 (by decide) ?_
    refine g_iadd C dX7_findBest_155 ?_
    refine g_iald C (isX7_st h0).1 (isX7_st h0).2 h.1 dX7_findBest_156 ?_
    replace h := h.2
    refine gp_RX7_368 C h0 dX7_findBest_157 ?_
    refine g_mem (fun m19 em19 => ?_)
    replace h := h m19 em19
    refine g_aload_n C 0 dX7_findBest_160 rfl ?_
    refine g_aload_n C 0 dX7_findBest_161 rfl ?_
    refine gf_RX7_49 C h0 dX7_findBest_162 ?_
    refine g_iload_n C 3 dX7_findBest_165 rfl ?_
    refine g_bipush C (v := (35 : Int32)) dX7_findBest_166 (by decide) ?_
    refine g_iadd C dX7_findBest_168 ?_
    refine g_iald C (isX7_st h0).1 (isX7_st h0).2 h.1 dX7_findBest_169 ?_
    replace h := h.2
    refine gp_RX7_371 C h0 dX7_findBest_170 ?_
    refine g_iconst C (v := (0 : Int32)) dX7_findBest_173 (by decide) ?_
    refine g_istore C [(6, .int ((0 : Int32))), (0, .ref (Y.ad b)), (1, .int p1), (2, .int p2), (3, .int v3), (4, .int v4), (5, .int v5)] dX7_findBest_174 (by decide) rfl ?_
    refine g_lv (lv2 := [(0, .ref (Y.ad b)), (1, .int p1), (2, .int p2), (3, .int v3), (6, .int ((0 : Int32)))]) [1, 2, 3, 4, 0] ?_ rfl
    exact h
set_option maxRecDepth 20000 in
set_option maxHeartbeats 4000000 in
theorem tX7_findBest_80 {X : XT} {Y : YT} {l0 : Launch} {b : Nat} {p1 : Int32} {p2 : Int32} {Q : Mem → Prop} (C : Cx X Y 7 cX7_findBest RX7 WX7_findBest (rmB 7 170) l0) (hr : RV X Y cX7_findBest Q) (hI : YI Y) (h0 : isX7 Y b) (v3 : Int32) (v4 : Int32) (w0 : Int32) (μ : Mem) (h : nX7_findBest_80 b p1 p2 Q (SX7_findBest_19 X Y b p1 p2) (SX7_findBest_176 X Y b p1 p2) v3 v4 w0 μ) : G X Y 7 80 [(0, .ref (Y.ad b)), (1, .int p1), (2, .int p2), (3, .int v3), (4, .int v4)] [.int w0] μ := by
  unfold nX7_findBest_80 at h
  refine g_istore C [(5, .int w0), (0, .ref (Y.ad b)), (1, .int p1), (2, .int p2), (3, .int v3), (4, .int v4)] dX7_findBest_80 (by decide) rfl ?_
  refine g_aload_n C 1 dX7_findBest_82 rfl ?_
  refine g_dup C dX7_findBest_83 rfl ?_
  refine gf_RX7_374 C h0 dX7_findBest_84 ?_
  refine g_iconst C (v := (1 : Int32)) dX7_findBest_87 (by decide) ?_
  refine g_iadd C dX7_findBest_88 ?_
  refine gp_RX7_374 C h0 dX7_findBest_89 ?_
  refine g_aload_n C 1 dX7_findBest_92 rfl ?_
  refine g_iload C 0 dX7_findBest_93 rfl ?_
  refine g_if_ge C 102 dX7_findBest_95 (by decide) (fun c15 => ?_) (fun c15 => ?_)
  · replace h := h.1 c15
    refine g_iload C 0 dX7_findBest_102 rfl ?_
    refine g_if_ne C 116 dX7_findBest_104 (by decide) (fun c16 => ?_) (fun c16 => ?_)
    · replace h := h.1 c16
      refine g_aload_n C 1 dX7_findBest_116 rfl ?_
      refine gf_RX7_377 C h0 dX7_findBest_117 ?_
      refine g_lv (lv2 := [(0, .ref (Y.ad b)), (1, .int p1), (2, .int p2), (3, .int v3), (4, .int v4), (5, .int w0)]) [1, 2, 3, 4, 5, 0] ?_ rfl
      exact tX7_findBest_120 C hr hI h0 _ _ _ _ _ h
    · replace h := h.2 c16
      refine g_aload_n C 1 dX7_findBest_107 rfl ?_
      refine gf_RX7_377 C h0 dX7_findBest_108 ?_
      refine g_iconst C (v := (1 : Int32)) dX7_findBest_111 (by decide) ?_
      refine g_iadd C dX7_findBest_112 ?_
      refine g_goto C 120 dX7_findBest_113 (by decide) ?_
      refine g_lv (lv2 := [(0, .ref (Y.ad b)), (1, .int p1), (2, .int p2), (3, .int v3), (4, .int v4), (5, .int w0)]) [1, 2, 3, 4, 5, 0] ?_ rfl
      exact tX7_findBest_120 C hr hI h0 _ _ _ _ _ h
  · replace h := h.2 c15
    refine g_iconst C (v := (1 : Int32)) dX7_findBest_98 (by decide) ?_
    refine g_goto C 120 dX7_findBest_99 (by decide) ?_
    refine g_lv (lv2 := [(0, .ref (Y.ad b)), (1, .int p1), (2, .int p2), (3, .int v3), (4, .int v4), (5, .int w0)]) [1, 2, 3, 4, 5, 0] ?_ rfl
    exact tX7_findBest_120 C hr hI h0 _ _ _ _ _ h
set_option maxRecDepth 20000 in
set_option maxHeartbeats 4000000 in
theorem tX7_findBest_58 {X : XT} {Y : YT} {l0 : Launch} {b : Nat} {p1 : Int32} {p2 : Int32} {Q : Mem → Prop} (C : Cx X Y 7 cX7_findBest RX7 WX7_findBest (rmB 7 170) l0) (hr : RV X Y cX7_findBest Q) (hI : YI Y) (h0 : isX7 Y b) (v3 : Int32) (v4 : Int32) (μ : Mem) (h : nX7_findBest_58 b p1 p2 Q (SX7_findBest_19 X Y b p1 p2) (SX7_findBest_176 X Y b p1 p2) v3 v4 μ) : G X Y 7 58 [(0, .ref (Y.ad b)), (1, .int p1), (2, .int p2), (3, .int v3), (4, .int v4)] [] μ := by
  unfold nX7_findBest_58 at h
  refine g_iconst C (v := (-1 : Int32)) dX7_findBest_58 (by decide) ?_
  refine g_goto C 80 dX7_findBest_59 (by decide) ?_
  exact tX7_findBest_80 C hr hI h0 _ _ _ _ h
set_option maxRecDepth 20000 in
set_option maxHeartbeats 4000000 in
theorem tX7_findBest_40 {X : XT} {Y : YT} {l0 : Launch} {b : Nat} {p1 : Int32} {p2 : Int32} {Q : Mem → Prop} (C : Cx X Y 7 cX7_findBest RX7 WX7_findBest (rmB 7 170) l0) (hr : RV X Y cX7_findBest Q) (hI : YI Y) (h0 : isX7 Y b) (v3 : Int32) (w0 : Int32) (μ : Mem) (h : nX7_findBest_40 b p1 p2 Q (SX7_findBest_19 X Y b p1 p2) (SX7_findBest_176 X Y b p1 p2) v3 w0 μ) : G X Y 7 40 [(0, .ref (Y.ad b)), (1, .int p1), (2, .int p2), (3, .int v3)] [.int w0] μ := by
  unfold nX7_findBest_40 at h
  refine g_istore C [(4, .int w0), (0, .ref (Y.ad b)), (1, .int p1), (2, .int p2), (3, .int v3)] dX7_findBest_40 (by decide) rfl ?_
  refine g_aload_n C 1 dX7_findBest_42 rfl ?_
  refine gf_RX7_374 C h0 dX7_findBest_43 ?_
  refine g_if_eq C 58 dX7_findBest_46 (by decide) (fun c10 => ?_) (fun c10 => ?_)
  · replace h := h.1 c10
    refine g_lv (lv2 := [(0, .ref (Y.ad b)), (1, .int p1), (2, .int p2), (3, .int v3), (4, .int w0)]) [1, 2, 3, 4, 0] ?_ rfl
    exact tX7_findBest_58 C hr hI h0 _ _ _ h
  · replace h := h.2 c10
    refine g_iload C 0 dX7_findBest_49 rfl ?_
    refine g_aload_n C 1 dX7_findBest_51 rfl ?_
    refine gf_RX7_389 C h0 dX7_findBest_52 ?_
    refine g_icmp_le C 62 dX7_findBest_55 (by decide) (fun c11 => ?_) (fun c11 => ?_)
    · replace h := h.1 c11
      refine g_iload C 0 dX7_findBest_62 rfl ?_
      refine g_aload_n C 1 dX7_findBest_64 rfl ?_
      refine gf_RX7_389 C h0 dX7_findBest_65 ?_
      refine g_icmp_ge C 75 dX7_findBest_68 (by decide) (fun c12 => ?_) (fun c12 => ?_)
      · replace h := h.1 c12
        refine g_aload_n C 1 dX7_findBest_75 rfl ?_
        refine g_iload_n C 4 dX7_findBest_76 rfl ?_
        refine g_callVI C [.int v3] [] (ok_X7_compares hI h0 h) (cw_RX7_392 _) rfl dc_X7_compares ⟨Nat.le_of_ble_eq_true rfl, Nat.le_of_ble_eq_true rfl⟩ (isX7_lt h0) (isX7_sh h0) rfl rfl rfl rfl (Nat.le_of_ble_eq_true rfl) dX7_findBest_77 (fun r14 m13 h => ?_)
        refine g_lv (lv2 := [(0, .ref (Y.ad b)), (1, .int p1), (2, .int p2), (3, .int v3), (4, .int w0)]) [1, 2, 3, 4, 0] ?_ rfl
        exact tX7_findBest_80 C hr hI h0 _ _ _ _ h
      · replace h := h.2 c12
        refine g_iconst C (v := (1 : Int32)) dX7_findBest_71 (by decide) ?_
        refine g_goto C 80 dX7_findBest_72 (by decide) ?_
        refine g_lv (lv2 := [(0, .ref (Y.ad b)), (1, .int p1), (2, .int p2), (3, .int v3), (4, .int w0)]) [1, 2, 3, 4, 0] ?_ rfl
        exact tX7_findBest_80 C hr hI h0 _ _ _ _ h
    · replace h := h.2 c11
      refine g_lv (lv2 := [(0, .ref (Y.ad b)), (1, .int p1), (2, .int p2), (3, .int v3), (4, .int w0)]) [1, 2, 3, 4, 0] ?_ rfl
      exact tX7_findBest_58 C hr hI h0 _ _ _ h
set_option maxRecDepth 20000 in
set_option maxHeartbeats 4000000 in
theorem tX7_findBest_19 {X : XT} {Y : YT} {l0 : Launch} {b : Nat} {p1 : Int32} {p2 : Int32} {Q : Mem → Prop} (C : Cx X Y 7 cX7_findBest RX7 WX7_findBest (rmB 7 170) l0) (hr : RV X Y cX7_findBest Q) (hI : YI Y) (h0 : isX7 Y b) (v3 : Int32) (μ : Mem) (h : nX7_findBest_19 b p1 p2 Q (SX7_findBest_19 X Y b p1 p2) (SX7_findBest_176 X Y b p1 p2) v3 μ) : G X Y 7 19 [(0, .ref (Y.ad b)), (1, .int p1), (2, .int p2), (3, .int v3)] [] μ := by
  unfold nX7_findBest_19 at h
  refine g_aload_n C 0 dX7_findBest_19 rfl ?_
  refine g_iload_n C 1 dX7_findBest_20 rfl ?_
  refine g_callVI C [.int p1] [] (ok_X7_nextRow hI h0 h) (cw_RX7_383 _) rfl dc_X7_nextRow ⟨Nat.le_of_ble_eq_true rfl, Nat.le_of_ble_eq_true rfl⟩ (isX7_lt h0) (isX7_sh h0) rfl rfl rfl rfl (Nat.le_of_ble_eq_true rfl) dX7_findBest_21 (fun r5 m4 h => ?_)
  refine g_if_eq C 205 dX7_findBest_24 (by decide) (fun c6 => ?_) (fun c6 => ?_)
  · replace h := h.1 c6
    exact hr _ _ _ _ dX7_findBest_205 h
  · replace h := h.2 c6
    refine g_iload_n C 2 dX7_findBest_27 rfl ?_
    refine g_if_eq C 39 dX7_findBest_28 (by decide) (fun c7 => ?_) (fun c7 => ?_)
    · replace h := h.1 c7
      refine g_iconst C (v := (0 : Int32)) dX7_findBest_39 (by decide) ?_
      exact tX7_findBest_40 C hr hI h0 _ _ _ h
    · replace h := h.2 c7
      refine g_aload_n C 0 dX7_findBest_31 rfl ?_
      refine g_iload_n C 1 dX7_findBest_32 rfl ?_
      refine g_callVI C [.int p1] [] (ok_X7_leastFed hI h0 h) (cw_RX7_386 _) rfl dc_X7_leastFed ⟨Nat.le_of_ble_eq_true rfl, Nat.le_of_ble_eq_true rfl⟩ (isX7_lt h0) (isX7_sh h0) rfl rfl rfl rfl (Nat.le_of_ble_eq_true rfl) dX7_findBest_33 (fun r9 m8 h => ?_)
      refine g_goto C 40 dX7_findBest_36 (by decide) ?_
      exact tX7_findBest_40 C hr hI h0 _ _ _ h
set_option maxRecDepth 20000 in
set_option maxHeartbeats 4000000 in
theorem tX7_findBest_176 {X : XT} {Y : YT} {l0 : Launch} {b : Nat} {p1 : Int32} {p2 : Int32} {Q : Mem → Prop} (C : Cx X Y 7 cX7_findBest RX7 WX7_findBest (rmB 7 170) l0) (hr : RV X Y cX7_findBest Q) (hI : YI Y) (h0 : isX7 Y b) (v3 : Int32) (v6 : Int32) (μ : Mem) (h : nX7_findBest_176 b p1 p2 Q (SX7_findBest_19 X Y b p1 p2) (SX7_findBest_176 X Y b p1 p2) v3 v6 μ) : G X Y 7 176 [(0, .ref (Y.ad b)), (1, .int p1), (2, .int p2), (3, .int v3), (6, .int v6)] [] μ := by
  unfold nX7_findBest_176 at h
  refine g_iload C 4 dX7_findBest_176 rfl ?_
  refine g_iload_n C 1 dX7_findBest_178 rfl ?_
  refine g_icmp_ge C 202 dX7_findBest_179 (by decide) (fun c20 => ?_) (fun c20 => ?_)
  · replace h := h.1 c20
    refine g_lv (lv2 := [(0, .ref (Y.ad b)), (1, .int p1), (2, .int p2), (3, .int v3)]) [0, 1, 2, 3] ?_ rfl
    exact tX7_findBest_202 C hr hI h0 _ _ h
  · replace h := h.2 c20
    refine g_aload_n C 0 dX7_findBest_182 rfl ?_
    refine gf_RX7_68 C h0 dX7_findBest_183 ?_
    refine g_iload C 4 dX7_findBest_186 rfl ?_
    refine g_aload_n C 0 dX7_findBest_188 rfl ?_
    refine gf_RX7_65 C h0 dX7_findBest_189 ?_
    refine g_iload C 4 dX7_findBest_192 rfl ?_
    refine g_iald C (isX7_pick h0).1 (isX7_pick h0).2 h.1 dX7_findBest_194 ?_
    replace h := h.2
    refine g_iast C (isX7_bestPick h0).1 (isX7_bestPick h0).2 h.1 dX7_findBest_195 ?_
    replace h := h.2
    refine g_iinc C (v := v6 + 1) 4 [(6, .int (v6 + 1)), (0, .ref (Y.ad b)), (1, .int p1), (2, .int p2), (3, .int v3)] dX7_findBest_196 rfl rfl (by decide) rfl ?_
    refine g_goto C 176 dX7_findBest_199 (by decide) ?_
    refine g_lv (lv2 := [(0, .ref (Y.ad b)), (1, .int p1), (2, .int p2), (3, .int v3), (6, .int (v6 + 1))]) [1, 2, 3, 4, 0] ?_ rfl
    exact h
set_option maxRecDepth 20000 in
set_option maxHeartbeats 4000000 in
theorem ok_X7_findBest {Y : YT} {l0 : Launch} {b : Nat} {p1 : Int32} {p2 : Int32} {μ : Mem} {Q : Mem → Prop} (hI : YI Y) (h0 : isX7 Y b) (h : PX7_findBest b p1 p2 μ Q) : MV l0 yX7_findBest WX7_findBest 7 170 Y [.ref (Y.ad b), .int p1, .int p2] μ Q := by
  refine mV_of (cc := cX7_findBest) (maxL := 7) (by decide +kernel) rfl hI (Nat.le_of_ble_eq_true rfl) (fun X C hr => ?_)
  replace C : Cx X Y 7 cX7_findBest RX7 WX7_findBest (rmB 7 170) l0 := C
  refine g_lv (lv2 := [(0, .ref (Y.ad b)), (1, .int p1), (2, .int p2)]) [0, 1, 2] ?_ rfl
  unfold PX7_findBest at h
  replace h := h (SX7_findBest_19 X Y b p1 p2) (SX7_findBest_176 X Y b p1 p2) (fun v3 μ z => tX7_findBest_19 C hr hI h0 v3 μ z) (fun v3 v6 μ z => tX7_findBest_176 C hr hI h0 v3 v6 μ z)
  refine g_bipush C (v := (40 : Int32)) dX7_findBest_0 (by decide) ?_
  refine g_iload_n C 1 dX7_findBest_2 rfl ?_
  refine g_imul C dX7_findBest_3 ?_
  refine g_istore_n C [(3, .int (((40 : Int32)) * p1)), (0, .ref (Y.ad b)), (1, .int p1), (2, .int p2)] dX7_findBest_4 (by decide) rfl ?_
  refine g_aload_n C 1 dX7_findBest_5 rfl ?_
  refine g_iconst C (v := (0 : Int32)) dX7_findBest_6 (by decide) ?_
  refine gp_RX7_374 C h0 dX7_findBest_7 ?_
  refine g_aload_n C 1 dX7_findBest_10 rfl ?_
  refine g_iconst C (v := (0 : Int32)) dX7_findBest_11 (by decide) ?_
  refine gp_RX7_377 C h0 dX7_findBest_12 ?_
  refine g_mem (fun m1 em1 => ?_)
  replace h := h m1 em1
  refine g_aload_n C 1 dX7_findBest_15 rfl ?_
  refine g_callVV C [] [] (ok_X7_beginRows hI h0 h) (cw_RX7_380 _) rfl dc_X7_beginRows ⟨Nat.le_of_ble_eq_true rfl, Nat.le_of_ble_eq_true rfl⟩ (isX7_lt h0) (isX7_sh h0) rfl rfl rfl rfl (Nat.le_of_ble_eq_true rfl) dX7_findBest_16 (fun m2 h => ?_)
  refine g_lv (lv2 := [(0, .ref (Y.ad b)), (1, .int p1), (2, .int p2), (3, .int (((40 : Int32)) * p1))]) [1, 2, 3, 0] ?_ rfl
  exact h
set_option maxRecDepth 20000 in
set_option maxHeartbeats 4000000 in
theorem tX7_best_38 {X : XT} {Y : YT} {l0 : Launch} {b : Nat} {p1 : Int32} {p2 : Int32} {Q : Int32 → Mem → Prop} (C : Cx X Y 3 cX7_best RX7 WX7_best (rmB 8 196) l0) (hr : RI X Y cX7_best .int Q) (hI : YI Y) (h0 : isX7 Y b) (μ : Mem) (h : nX7_best_38 b p1 p2 Q  μ) : G X Y 3 38 [(0, .ref (Y.ad b)), (1, .int p1), (2, .int p2)] [] μ := by
  unfold nX7_best_38 at h
  refine g_aload_n C 0 dX7_best_38 rfl ?_
  refine g_iload_n C 1 dX7_best_39 rfl ?_
  refine g_iconst C (v := (0 : Int32)) dX7_best_40 (by decide) ?_
  refine g_callVV C [.int p1, .int ((0 : Int32))] [] (ok_X7_findBest hI h0 h) (cw_RX7_398 _) rfl dc_X7_findBest ⟨Nat.le_of_ble_eq_true rfl, Nat.le_of_ble_eq_true rfl⟩ (isX7_lt h0) (isX7_sh h0) rfl rfl rfl rfl (Nat.le_of_ble_eq_true rfl) dX7_best_41 (fun m10 h => ?_)
  refine g_iload_n C 2 dX7_best_44 rfl ?_
  refine g_iconst C (v := (4 : Int32)) dX7_best_45 (by decide) ?_
  refine g_icmp_ne C 54 dX7_best_46 (by decide) (fun c12 => ?_) (fun c12 => ?_)
  · replace h := h.1 c12
    refine g_aload_n C 0 dX7_best_54 rfl ?_
    refine gf_RX7_374 C h0 dX7_best_55 ?_
    refine g_if_ne C 64 dX7_best_58 (by decide) (fun c13 => ?_) (fun c13 => ?_)
    · replace h := h.1 c13
      refine g_iload_n C 2 dX7_best_64 rfl ?_
      refine g_if_ne C 75 dX7_best_65 (by decide) (fun c14 => ?_) (fun c14 => ?_)
      · replace h := h.1 c14
        refine g_iload_n C 2 dX7_best_75 rfl ?_
        refine g_iconst C (v := (1 : Int32)) dX7_best_76 (by decide) ?_
        refine g_icmp_ne C 87 dX7_best_77 (by decide) (fun c15 => ?_) (fun c15 => ?_)
        · replace h := h.1 c15
          refine g_iload_n C 2 dX7_best_87 rfl ?_
          refine g_iconst C (v := (2 : Int32)) dX7_best_88 (by decide) ?_
          refine g_icmp_ne C 99 dX7_best_89 (by decide) (fun c16 => ?_) (fun c16 => ?_)
          · replace h := h.1 c16
            refine g_iload_n C 2 dX7_best_99 rfl ?_
            refine g_iconst C (v := (3 : Int32)) dX7_best_100 (by decide) ?_
            refine g_icmp_ne C 111 dX7_best_101 (by decide) (fun c17 => ?_) (fun c17 => ?_)
            · replace h := h.1 c17
              refine g_aload_n C 0 dX7_best_111 rfl ?_
              refine gf_RX7_68 C h0 dX7_best_112 ?_
              refine g_iload_n C 2 dX7_best_115 rfl ?_
              refine g_bipush C (v := (10 : Int32)) dX7_best_116 (by decide) ?_
              refine g_isub C dX7_best_118 ?_
              refine g_iald C (isX7_bestPick h0).1 (isX7_bestPick h0).2 h.1 dX7_best_119 ?_
              replace h := h.2
              exact hr _ _ _ _ _ dX7_best_120 rfl h
            · replace h := h.2 c17
              refine g_aload_n C 0 dX7_best_104 rfl ?_
              refine gf_RX7_377 C h0 dX7_best_105 ?_
              refine g_goto C 120 dX7_best_108 (by decide) ?_
              exact hr _ _ _ _ _ dX7_best_120 rfl h
          · replace h := h.2 c16
            refine g_aload_n C 0 dX7_best_92 rfl ?_
            refine gf_RX7_371 C h0 dX7_best_93 ?_
            refine g_goto C 120 dX7_best_96 (by decide) ?_
            exact hr _ _ _ _ _ dX7_best_120 rfl h
        · replace h := h.2 c15
          refine g_aload_n C 0 dX7_best_80 rfl ?_
          refine gf_RX7_368 C h0 dX7_best_81 ?_
          refine g_goto C 120 dX7_best_84 (by decide) ?_
          exact hr _ _ _ _ _ dX7_best_120 rfl h
      · replace h := h.2 c14
        refine g_aload_n C 0 dX7_best_68 rfl ?_
        refine gf_RX7_365 C h0 dX7_best_69 ?_
        refine g_goto C 120 dX7_best_72 (by decide) ?_
        exact hr _ _ _ _ _ dX7_best_120 rfl h
    · replace h := h.2 c13
      refine g_bipush C (v := (-4 : Int32)) dX7_best_61 (by decide) ?_
      exact hr _ _ _ _ _ dX7_best_63 rfl h
  · replace h := h.2 c12
    refine g_aload_n C 0 dX7_best_49 rfl ?_
    refine gf_RX7_374 C h0 dX7_best_50 ?_
    exact hr _ _ _ _ _ dX7_best_53 rfl h
set_option maxRecDepth 20000 in
set_option maxHeartbeats 4000000 in
theorem ok_X7_best {Y : YT} {l0 : Launch} {b : Nat} {p1 : Int32} {p2 : Int32} {μ : Mem} {Q : Int32 → Mem → Prop} (hI : YI Y) (h0 : isX7 Y b) (h : PX7_best b p1 p2 μ Q) : MI l0 yX7_best WX7_best 8 196 Y [.ref (Y.ad b), .int p1, .int p2] μ Q := by
  refine mI_of (ty := .int) (cc := cX7_best) (maxL := 3) (by decide +kernel) rfl hI (Nat.le_of_ble_eq_true rfl) (fun X C hr => ?_)
  replace C : Cx X Y 3 cX7_best RX7 WX7_best (rmB 8 196) l0 := C
  refine g_lv (lv2 := [(0, .ref (Y.ad b)), (1, .int p1), (2, .int p2)]) [0, 1, 2] ?_ rfl
  unfold PX7_best at h
  refine g_iload_n C 1 dX7_best_0 rfl ?_
  refine g_iconst C (v := (5 : Int32)) dX7_best_1 (by decide) ?_
  refine g_callSI C [.int p1, .int ((5 : Int32))] [] (ok_X7_areDays hI  h) (cw_RX7_395 _) rfl dc_X7_areDays ⟨Nat.le_of_ble_eq_true rfl, Nat.le_of_ble_eq_true rfl⟩ rfl (Nat.le_of_ble_eq_true rfl) dX7_best_2 (fun r2 m1 h => ?_)
  refine g_if_eq C 36 dX7_best_5 (by decide) (fun c3 => ?_) (fun c3 => ?_)
  · replace h := h.1 c3
    refine g_iconst C (v := (-1 : Int32)) dX7_best_36 (by decide) ?_
    exact hr _ _ _ _ _ dX7_best_37 rfl h
  · replace h := h.2 c3
    refine g_iload_n C 2 dX7_best_8 rfl ?_
    refine g_i2l C dX7_best_9 ?_
    refine g_lconst C (v := (0 : Int64)) dX7_best_10 (by decide) ?_
    refine g_ldc2 C (v := (4 : Int64)) (List.mem_cons_of_mem _ mL_RX7_263) dX7_best_11 ?_
    refine g_callSI C [.long p2.toInt64, .long ((0 : Int64)), .long ((4 : Int64))] [] (ok_X7_in hI  h) (cw_RX7_134 _) rfl dc_X7_in ⟨Nat.le_of_ble_eq_true rfl, Nat.le_of_ble_eq_true rfl⟩ rfl (Nat.le_of_ble_eq_true rfl) dX7_best_14 (fun r5 m4 h => ?_)
    refine g_if_ne C 38 dX7_best_17 (by decide) (fun c6 => ?_) (fun c6 => ?_)
    · replace h := h.1 c6
      exact tX7_best_38 C hr hI h0 _ h
    · replace h := h.2 c6
      refine g_iload_n C 2 dX7_best_20 rfl ?_
      refine g_i2l C dX7_best_21 ?_
      refine g_ldc2 C (v := (10 : Int64)) (List.mem_cons_of_mem _ mL_RX7_227) dX7_best_22 ?_
      refine g_bipush C (v := (9 : Int32)) dX7_best_25 (by decide) ?_
      refine g_iload_n C 1 dX7_best_27 rfl ?_
      refine g_iadd C dX7_best_28 ?_
      refine g_i2l C dX7_best_29 ?_
      refine g_callSI C [.long p2.toInt64, .long ((10 : Int64)), .long ((((9 : Int32)) + p1).toInt64)] [] (ok_X7_in hI  h) (cw_RX7_134 _) rfl dc_X7_in ⟨Nat.le_of_ble_eq_true rfl, Nat.le_of_ble_eq_true rfl⟩ rfl (Nat.le_of_ble_eq_true rfl) dX7_best_30 (fun r8 m7 h => ?_)
      refine g_if_ne C 38 dX7_best_33 (by decide) (fun c9 => ?_) (fun c9 => ?_)
      · replace h := h.1 c9
        exact tX7_best_38 C hr hI h0 _ h
      · replace h := h.2 c9
        refine g_iconst C (v := (-1 : Int32)) dX7_best_36 (by decide) ?_
        exact hr _ _ _ _ _ dX7_best_37 rfl h
set_option maxRecDepth 20000 in
set_option maxHeartbeats 4000000 in
theorem tX7_fairest_30 {X : XT} {Y : YT} {l0 : Launch} {b : Nat} {p1 : Int32} {p2 : Int32} {Q : Int32 → Mem → Prop} (C : Cx X Y 3 cX7_fairest RX7 WX7_fairest (rmB 8 196) l0) (hr : RI X Y cX7_fairest .int Q) (hI : YI Y) (h0 : isX7 Y b) (μ : Mem) (h : nX7_fairest_30 b p1 p2 Q  μ) : G X Y 3 30 [(0, .ref (Y.ad b)), (1, .int p1), (2, .int p2)] [] μ := by
  unfold nX7_fairest_30 at h
  refine g_aload_n C 0 dX7_fairest_30 rfl ?_
  refine g_iload_n C 1 dX7_fairest_31 rfl ?_
  refine g_iconst C (v := (1 : Int32)) dX7_fairest_32 (by decide) ?_
  refine g_callVV C [.int p1, .int ((1 : Int32))] [] (ok_X7_findBest hI h0 h) (cw_RX7_398 _) rfl dc_X7_findBest ⟨Nat.le_of_ble_eq_true rfl, Nat.le_of_ble_eq_true rfl⟩ (isX7_lt h0) (isX7_sh h0) rfl rfl rfl rfl (Nat.le_of_ble_eq_true rfl) dX7_fairest_33 (fun m8 h => ?_)
  refine g_aload_n C 0 dX7_fairest_36 rfl ?_
  refine gf_RX7_374 C h0 dX7_fairest_37 ?_
  refine g_if_ne C 48 dX7_fairest_40 (by decide) (fun c10 => ?_) (fun c10 => ?_)
  · replace h := h.1 c10
    refine g_iload_n C 2 dX7_fairest_48 rfl ?_
    refine g_if_ne C 59 dX7_fairest_49 (by decide) (fun c11 => ?_) (fun c11 => ?_)
    · replace h := h.1 c11
      refine g_aload_n C 0 dX7_fairest_59 rfl ?_
      refine gf_RX7_68 C h0 dX7_fairest_60 ?_
      refine g_iload_n C 2 dX7_fairest_63 rfl ?_
      refine g_bipush C (v := (10 : Int32)) dX7_fairest_64 (by decide) ?_
      refine g_isub C dX7_fairest_66 ?_
      refine g_iald C (isX7_bestPick h0).1 (isX7_bestPick h0).2 h.1 dX7_fairest_67 ?_
      replace h := h.2
      exact hr _ _ _ _ _ dX7_fairest_68 rfl h
    · replace h := h.2 c11
      refine g_aload_n C 0 dX7_fairest_52 rfl ?_
      refine gf_RX7_389 C h0 dX7_fairest_53 ?_
      refine g_goto C 68 dX7_fairest_56 (by decide) ?_
      exact hr _ _ _ _ _ dX7_fairest_68 rfl h
  · replace h := h.2 c10
    refine g_bipush C (v := (-4 : Int32)) dX7_fairest_43 (by decide) ?_
    refine g_goto C 68 dX7_fairest_45 (by decide) ?_
    exact hr _ _ _ _ _ dX7_fairest_68 rfl h
set_option maxRecDepth 20000 in
set_option maxHeartbeats 4000000 in
theorem ok_X7_fairest {Y : YT} {l0 : Launch} {b : Nat} {p1 : Int32} {p2 : Int32} {μ : Mem} {Q : Int32 → Mem → Prop} (hI : YI Y) (h0 : isX7 Y b) (h : PX7_fairest b p1 p2 μ Q) : MI l0 yX7_fairest WX7_fairest 8 196 Y [.ref (Y.ad b), .int p1, .int p2] μ Q := by
  refine mI_of (ty := .int) (cc := cX7_fairest) (maxL := 3) (by decide +kernel) rfl hI (Nat.le_of_ble_eq_true rfl) (fun X C hr => ?_)
  replace C : Cx X Y 3 cX7_fairest RX7 WX7_fairest (rmB 8 196) l0 := C
  refine g_lv (lv2 := [(0, .ref (Y.ad b)), (1, .int p1), (2, .int p2)]) [0, 1, 2] ?_ rfl
  unfold PX7_fairest at h
  refine g_iload_n C 1 dX7_fairest_0 rfl ?_
  refine g_iconst C (v := (5 : Int32)) dX7_fairest_1 (by decide) ?_
  refine g_callSI C [.int p1, .int ((5 : Int32))] [] (ok_X7_areDays hI  h) (cw_RX7_395 _) rfl dc_X7_areDays ⟨Nat.le_of_ble_eq_true rfl, Nat.le_of_ble_eq_true rfl⟩ rfl (Nat.le_of_ble_eq_true rfl) dX7_fairest_2 (fun r2 m1 h => ?_)
  refine g_if_eq C 28 dX7_fairest_5 (by decide) (fun c3 => ?_) (fun c3 => ?_)
  · replace h := h.1 c3
    refine g_iconst C (v := (-1 : Int32)) dX7_fairest_28 (by decide) ?_
    exact hr _ _ _ _ _ dX7_fairest_29 rfl h
  · replace h := h.2 c3
    refine g_iload_n C 2 dX7_fairest_8 rfl ?_
    refine g_if_eq C 30 dX7_fairest_9 (by decide) (fun c4 => ?_) (fun c4 => ?_)
    · replace h := h.1 c4
      exact tX7_fairest_30 C hr hI h0 _ h
    · replace h := h.2 c4
      refine g_iload_n C 2 dX7_fairest_12 rfl ?_
      refine g_i2l C dX7_fairest_13 ?_
      refine g_ldc2 C (v := (10 : Int64)) (List.mem_cons_of_mem _ mL_RX7_227) dX7_fairest_14 ?_
      refine g_bipush C (v := (9 : Int32)) dX7_fairest_17 (by decide) ?_
      refine g_iload_n C 1 dX7_fairest_19 rfl ?_
      refine g_iadd C dX7_fairest_20 ?_
      refine g_i2l C dX7_fairest_21 ?_
      refine g_callSI C [.long p2.toInt64, .long ((10 : Int64)), .long ((((9 : Int32)) + p1).toInt64)] [] (ok_X7_in hI  h) (cw_RX7_134 _) rfl dc_X7_in ⟨Nat.le_of_ble_eq_true rfl, Nat.le_of_ble_eq_true rfl⟩ rfl (Nat.le_of_ble_eq_true rfl) dX7_fairest_22 (fun r6 m5 h => ?_)
      refine g_if_ne C 30 dX7_fairest_25 (by decide) (fun c7 => ?_) (fun c7 => ?_)
      · replace h := h.1 c7
        exact tX7_fairest_30 C hr hI h0 _ h
      · replace h := h.2 c7
        refine g_iconst C (v := (-1 : Int32)) dX7_fairest_28 (by decide) ?_
        exact hr _ _ _ _ _ dX7_fairest_29 rfl h
def SX7_surest_44 (X : XT) (Y : YT) (b : Nat) (p1 : Int32) (p2 : Int32) : Int32 → Int32 → Mem → Prop := fun v3 v4 μ => G X Y 7 44 [(0, .ref (Y.ad b)), (1, .int p1), (2, .int p2), (3, .int v3), (4, .int v4)] [] μ
def SX7_surest_84 (X : XT) (Y : YT) (b : Nat) (p1 : Int32) (p2 : Int32) : Int32 → Int32 → Mem → Prop := fun v3 v4 μ => G X Y 7 84 [(0, .ref (Y.ad b)), (1, .int p1), (2, .int p2), (3, .int v3), (4, .int v4)] [] μ
def SX7_surest_95 (X : XT) (Y : YT) (b : Nat) (p1 : Int32) (p2 : Int32) : Int32 → Int32 → Int32 → Mem → Prop := fun v3 v4 v5 μ => G X Y 7 95 [(0, .ref (Y.ad b)), (1, .int p1), (2, .int p2), (3, .int v3), (4, .int v4), (5, .int v5)] [] μ
def SX7_surest_141 (X : XT) (Y : YT) (b : Nat) (p1 : Int32) (p2 : Int32) : Int32 → Int32 → Int32 → Mem → Prop := fun v3 v4 v6 μ => G X Y 7 141 [(0, .ref (Y.ad b)), (1, .int p1), (2, .int p2), (3, .int v3), (4, .int v4), (6, .int v6)] [] μ
def SX7_surest_178 (X : XT) (Y : YT) (b : Nat) (p1 : Int32) (p2 : Int32) : Int32 → Int32 → Mem → Prop := fun v4 v5 μ => G X Y 7 178 [(0, .ref (Y.ad b)), (1, .int p1), (2, .int p2), (4, .int v4), (5, .int v5)] [] μ
set_option maxRecDepth 20000 in
set_option maxHeartbeats 4000000 in
theorem tX7_surest_36 {X : XT} {Y : YT} {l0 : Launch} {b : Nat} {p1 : Int32} {p2 : Int32} {Q : Int32 → Mem → Prop} (C : Cx X Y 7 cX7_surest RX7 WX7_surest (rmB 7 172) l0) (hr : RI X Y cX7_surest .int Q) (hI : YI Y) (h0 : isX7 Y b) (μ : Mem) (h : nX7_surest_36 b p1 p2 Q (SX7_surest_44 X Y b p1 p2) (SX7_surest_84 X Y b p1 p2) (SX7_surest_95 X Y b p1 p2) (SX7_surest_141 X Y b p1 p2) (SX7_surest_178 X Y b p1 p2) μ) : G X Y 7 36 [(0, .ref (Y.ad b)), (1, .int p1), (2, .int p2)] [] μ := by
  unfold nX7_surest_36 at h
  refine g_aload_n C 0 dX7_surest_36 rfl ?_
  refine gf_RX7_138 C h0 dX7_surest_37 ?_
  refine g_istore_n C [(3, .int (μ.1 b 37)), (0, .ref (Y.ad b)), (1, .int p1), (2, .int p2)] dX7_surest_40 (by decide) rfl ?_
  refine g_iconst C (v := (0 : Int32)) dX7_surest_41 (by decide) ?_
  refine g_istore C [(4, .int ((0 : Int32))), (3, .int (μ.1 b 37)), (0, .ref (Y.ad b)), (1, .int p1), (2, .int p2)] dX7_surest_42 (by decide) rfl ?_
  refine g_lv (lv2 := [(0, .ref (Y.ad b)), (1, .int p1), (2, .int p2), (3, .int (μ.1 b 37)), (4, .int ((0 : Int32)))]) [2, 3, 4, 1, 0] ?_ rfl
  exact h
set_option maxRecDepth 20000 in
set_option maxHeartbeats 4000000 in
theorem tX7_surest_44 {X : XT} {Y : YT} {l0 : Launch} {b : Nat} {p1 : Int32} {p2 : Int32} {Q : Int32 → Mem → Prop} (C : Cx X Y 7 cX7_surest RX7 WX7_surest (rmB 7 172) l0) (hr : RI X Y cX7_surest .int Q) (hI : YI Y) (h0 : isX7 Y b) (v3 : Int32) (v4 : Int32) (μ : Mem) (h : nX7_surest_44 b p1 p2 Q (SX7_surest_44 X Y b p1 p2) (SX7_surest_84 X Y b p1 p2) (SX7_surest_95 X Y b p1 p2) (SX7_surest_141 X Y b p1 p2) (SX7_surest_178 X Y b p1 p2) v3 v4 μ) : G X Y 7 44 [(0, .ref (Y.ad b)), (1, .int p1), (2, .int p2), (3, .int v3), (4, .int v4)] [] μ := by
  unfold nX7_surest_44 at h
  refine g_iload C 4 dX7_surest_44 rfl ?_
  refine g_bipush C (v := (7 : Int32)) dX7_surest_46 (by decide) ?_
  refine g_icmp_ge C 71 dX7_surest_48 (by decide) (fun c10 => ?_) (fun c10 => ?_)
  · replace h := h.1 c10
    refine g_bipush C (v := (-4 : Int32)) dX7_surest_71 (by decide) ?_
    refine g_istore C [(4, .int ((-4 : Int32))), (0, .ref (Y.ad b)), (1, .int p1), (2, .int p2), (3, .int v3)] dX7_surest_73 (by decide) rfl ?_
    refine g_aload_n C 1 dX7_surest_75 rfl ?_
    refine g_iload_n C 2 dX7_surest_76 rfl ?_
    refine gp_RX7_138 C h0 dX7_surest_77 ?_
    refine g_aload_n C 1 dX7_surest_80 rfl ?_
    refine g_callVV C [] [] (ok_X7_beginRows hI h0 h) (cw_RX7_380 _) rfl dc_X7_beginRows ⟨Nat.le_of_ble_eq_true rfl, Nat.le_of_ble_eq_true rfl⟩ (isX7_lt h0) (isX7_sh h0) rfl rfl rfl rfl (Nat.le_of_ble_eq_true rfl) dX7_surest_81 (fun m11 h => ?_)
    refine g_lv (lv2 := [(0, .ref (Y.ad b)), (1, .int p1), (2, .int p2), (3, .int v3), (4, .int ((-4 : Int32)))]) [1, 2, 3, 4, 0] ?_ rfl
    exact h
  · replace h := h.2 c10
    refine g_aload_n C 0 dX7_surest_51 rfl ?_
    refine gf_RX7_71 C h0 dX7_surest_52 ?_
    refine g_iload C 4 dX7_surest_55 rfl ?_
    refine g_aload_n C 0 dX7_surest_57 rfl ?_
    refine gf_RX7_62 C h0 dX7_surest_58 ?_
    refine g_iload C 4 dX7_surest_61 rfl ?_
    refine g_iald C (isX7_row h0).1 (isX7_row h0).2 h.1 dX7_surest_63 ?_
    replace h := h.2
    refine g_iast C (isX7_keptRow h0).1 (isX7_keptRow h0).2 h.1 dX7_surest_64 ?_
    replace h := h.2
    refine g_iinc C (v := v4 + 1) 4 [(4, .int (v4 + 1)), (0, .ref (Y.ad b)), (1, .int p1), (2, .int p2), (3, .int v3)] dX7_surest_65 rfl rfl (by decide) rfl ?_
    refine g_goto C 44 dX7_surest_68 (by decide) ?_
    refine g_lv (lv2 := [(0, .ref (Y.ad b)), (1, .int p1), (2, .int p2), (3, .int v3), (4, .int (v4 + 1))]) [1, 2, 3, 4, 0] ?_ rfl
    exact h
set_option maxRecDepth 20000 in
set_option maxHeartbeats 4000000 in
theorem tX7_surest_84 {X : XT} {Y : YT} {l0 : Launch} {b : Nat} {p1 : Int32} {p2 : Int32} {Q : Int32 → Mem → Prop} (C : Cx X Y 7 cX7_surest RX7 WX7_surest (rmB 7 172) l0) (hr : RI X Y cX7_surest .int Q) (hI : YI Y) (h0 : isX7 Y b) (v3 : Int32) (v4 : Int32) (μ : Mem) (h : nX7_surest_84 b p1 p2 Q (SX7_surest_44 X Y b p1 p2) (SX7_surest_84 X Y b p1 p2) (SX7_surest_95 X Y b p1 p2) (SX7_surest_141 X Y b p1 p2) (SX7_surest_178 X Y b p1 p2) v3 v4 μ) : G X Y 7 84 [(0, .ref (Y.ad b)), (1, .int p1), (2, .int p2), (3, .int v3), (4, .int v4)] [] μ := by
  unfold nX7_surest_84 at h
  refine g_aload_n C 0 dX7_surest_84 rfl ?_
  refine g_iload_n C 1 dX7_surest_85 rfl ?_
  refine g_callVI C [.int p1] [] (ok_X7_nextRow hI h0 h) (cw_RX7_383 _) rfl dc_X7_nextRow ⟨Nat.le_of_ble_eq_true rfl, Nat.le_of_ble_eq_true rfl⟩ (isX7_lt h0) (isX7_sh h0) rfl rfl rfl rfl (Nat.le_of_ble_eq_true rfl) dX7_surest_86 (fun r14 m13 h => ?_)
  refine g_if_eq C 170 dX7_surest_89 (by decide) (fun c15 => ?_) (fun c15 => ?_)
  · replace h := h.1 c15
    refine g_aload_n C 0 dX7_surest_170 rfl ?_
    refine g_iload_n C 3 dX7_surest_171 rfl ?_
    refine gp_RX7_138 C h0 dX7_surest_172 ?_
    refine g_iconst C (v := (0 : Int32)) dX7_surest_175 (by decide) ?_
    refine g_istore C [(5, .int ((0 : Int32))), (0, .ref (Y.ad b)), (1, .int p1), (2, .int p2), (3, .int v3), (4, .int v4)] dX7_surest_176 (by decide) rfl ?_
    refine g_lv (lv2 := [(0, .ref (Y.ad b)), (1, .int p1), (2, .int p2), (4, .int v4), (5, .int ((0 : Int32)))]) [1, 2, 3, 5, 0] ?_ rfl
    exact h
  · replace h := h.2 c15
    refine g_iconst C (v := (0 : Int32)) dX7_surest_92 (by decide) ?_
    refine g_istore C [(5, .int ((0 : Int32))), (0, .ref (Y.ad b)), (1, .int p1), (2, .int p2), (3, .int v3), (4, .int v4)] dX7_surest_93 (by decide) rfl ?_
    refine g_lv (lv2 := [(0, .ref (Y.ad b)), (1, .int p1), (2, .int p2), (3, .int v3), (4, .int v4), (5, .int ((0 : Int32)))]) [1, 2, 3, 4, 5, 0] ?_ rfl
    exact h
set_option maxRecDepth 20000 in
set_option maxHeartbeats 4000000 in
theorem tX7_surest_167 {X : XT} {Y : YT} {l0 : Launch} {b : Nat} {p1 : Int32} {p2 : Int32} {Q : Int32 → Mem → Prop} (C : Cx X Y 7 cX7_surest RX7 WX7_surest (rmB 7 172) l0) (hr : RI X Y cX7_surest .int Q) (hI : YI Y) (h0 : isX7 Y b) (v3 : Int32) (v4 : Int32) (μ : Mem) (h : nX7_surest_167 b p1 p2 Q (SX7_surest_44 X Y b p1 p2) (SX7_surest_84 X Y b p1 p2) (SX7_surest_95 X Y b p1 p2) (SX7_surest_141 X Y b p1 p2) (SX7_surest_178 X Y b p1 p2) v3 v4 μ) : G X Y 7 167 [(0, .ref (Y.ad b)), (1, .int p1), (2, .int p2), (3, .int v3), (4, .int v4)] [] μ := by
  unfold nX7_surest_167 at h
  refine g_goto C 84 dX7_surest_167 (by decide) ?_
  exact h
set_option maxRecDepth 20000 in
set_option maxHeartbeats 4000000 in
theorem tX7_surest_95 {X : XT} {Y : YT} {l0 : Launch} {b : Nat} {p1 : Int32} {p2 : Int32} {Q : Int32 → Mem → Prop} (C : Cx X Y 7 cX7_surest RX7 WX7_surest (rmB 7 172) l0) (hr : RI X Y cX7_surest .int Q) (hI : YI Y) (h0 : isX7 Y b) (v3 : Int32) (v4 : Int32) (v5 : Int32) (μ : Mem) (h : nX7_surest_95 b p1 p2 Q (SX7_surest_44 X Y b p1 p2) (SX7_surest_84 X Y b p1 p2) (SX7_surest_95 X Y b p1 p2) (SX7_surest_141 X Y b p1 p2) (SX7_surest_178 X Y b p1 p2) v3 v4 v5 μ) : G X Y 7 95 [(0, .ref (Y.ad b)), (1, .int p1), (2, .int p2), (3, .int v3), (4, .int v4), (5, .int v5)] [] μ := by
  unfold nX7_surest_95 at h
  refine g_iload C 5 dX7_surest_95 rfl ?_
  refine g_iload_n C 1 dX7_surest_97 rfl ?_
  refine g_icmp_ge C 121 dX7_surest_98 (by decide) (fun c16 => ?_) (fun c16 => ?_)
  · replace h := h.1 c16
    refine g_aload_n C 0 dX7_surest_121 rfl ?_
    refine g_callVI C [] [] (ok_X7_bearsNow hI h0 h) (cw_RX7_352 _) rfl dc_X7_bearsNow ⟨Nat.le_of_ble_eq_true rfl, Nat.le_of_ble_eq_true rfl⟩ (isX7_lt h0) (isX7_sh h0) rfl rfl rfl rfl (Nat.le_of_ble_eq_true rfl) dX7_surest_122 (fun r18 m17 h => ?_)
    refine g_istore C [(5, .int r18), (0, .ref (Y.ad b)), (1, .int p1), (2, .int p2), (3, .int v3), (4, .int v4)] dX7_surest_125 (by decide) rfl ?_
    refine g_iload C 0 dX7_surest_127 rfl ?_
    refine g_iload C 5 dX7_surest_129 rfl ?_
    refine g_icmp_le C 167 dX7_surest_131 (by decide) (fun c19 => ?_) (fun c19 => ?_)
    · replace h := h.1 c19
      refine g_lv (lv2 := [(0, .ref (Y.ad b)), (1, .int p1), (2, .int p2), (3, .int v3), (4, .int v4)]) [1, 2, 3, 4, 5] ?_ rfl
      exact tX7_surest_167 C hr hI h0 _ _ _ h
    · replace h := h.2 c19
      refine g_iload C 0 dX7_surest_134 rfl ?_
      refine g_istore C [(4, .int r18), (5, .int r18), (0, .ref (Y.ad b)), (1, .int p1), (2, .int p2), (3, .int v3)] dX7_surest_136 (by decide) rfl ?_
      refine g_iconst C (v := (0 : Int32)) dX7_surest_138 (by decide) ?_
      refine g_istore C [(6, .int ((0 : Int32))), (4, .int r18), (5, .int r18), (0, .ref (Y.ad b)), (1, .int p1), (2, .int p2), (3, .int v3)] dX7_surest_139 (by decide) rfl ?_
      refine g_lv (lv2 := [(0, .ref (Y.ad b)), (1, .int p1), (2, .int p2), (3, .int v3), (4, .int r18), (6, .int ((0 : Int32)))]) [3, 4, 5, 6, 1, 0] ?_ rfl
      exact h
  · replace h := h.2 c16
    refine g_aload_n C 0 dX7_surest_101 rfl ?_
    refine gf_RX7_62 C h0 dX7_surest_102 ?_
    refine g_iload C 5 dX7_surest_105 rfl ?_
    refine g_aload_n C 0 dX7_surest_107 rfl ?_
    refine gf_RX7_65 C h0 dX7_surest_108 ?_
    refine g_iload C 5 dX7_surest_111 rfl ?_
    refine g_iald C (isX7_pick h0).1 (isX7_pick h0).2 h.1 dX7_surest_113 ?_
    replace h := h.2
    refine g_iast C (isX7_row h0).1 (isX7_row h0).2 h.1 dX7_surest_114 ?_
    replace h := h.2
    refine g_iinc C (v := v5 + 1) 5 [(5, .int (v5 + 1)), (0, .ref (Y.ad b)), (1, .int p1), (2, .int p2), (3, .int v3), (4, .int v4)] dX7_surest_115 rfl rfl (by decide) rfl ?_
    refine g_goto C 95 dX7_surest_118 (by decide) ?_
    refine g_lv (lv2 := [(0, .ref (Y.ad b)), (1, .int p1), (2, .int p2), (3, .int v3), (4, .int v4), (5, .int (v5 + 1))]) [1, 2, 3, 4, 5, 0] ?_ rfl
    exact h
set_option maxRecDepth 20000 in
set_option maxHeartbeats 4000000 in
theorem tX7_surest_141 {X : XT} {Y : YT} {l0 : Launch} {b : Nat} {p1 : Int32} {p2 : Int32} {Q : Int32 → Mem → Prop} (C : Cx X Y 7 cX7_surest RX7 WX7_surest (rmB 7 172) l0) (hr : RI X Y cX7_surest .int Q) (hI : YI Y) (h0 : isX7 Y b) (v3 : Int32) (v4 : Int32) (v6 : Int32) (μ : Mem) (h : nX7_surest_141 b p1 p2 Q (SX7_surest_44 X Y b p1 p2) (SX7_surest_84 X Y b p1 p2) (SX7_surest_95 X Y b p1 p2) (SX7_surest_141 X Y b p1 p2) (SX7_surest_178 X Y b p1 p2) v3 v4 v6 μ) : G X Y 7 141 [(0, .ref (Y.ad b)), (1, .int p1), (2, .int p2), (3, .int v3), (4, .int v4), (6, .int v6)] [] μ := by
  unfold nX7_surest_141 at h
  refine g_iload C 5 dX7_surest_141 rfl ?_
  refine g_iload_n C 1 dX7_surest_143 rfl ?_
  refine g_icmp_ge C 167 dX7_surest_144 (by decide) (fun c20 => ?_) (fun c20 => ?_)
  · replace h := h.1 c20
    refine g_lv (lv2 := [(0, .ref (Y.ad b)), (1, .int p1), (2, .int p2), (3, .int v3), (4, .int v4)]) [0, 1, 2, 3, 4] ?_ rfl
    exact tX7_surest_167 C hr hI h0 _ _ _ h
  · replace h := h.2 c20
    refine g_aload_n C 0 dX7_surest_147 rfl ?_
    refine gf_RX7_68 C h0 dX7_surest_148 ?_
    refine g_iload C 5 dX7_surest_151 rfl ?_
    refine g_aload_n C 0 dX7_surest_153 rfl ?_
    refine gf_RX7_65 C h0 dX7_surest_154 ?_
    refine g_iload C 5 dX7_surest_157 rfl ?_
    refine g_iald C (isX7_pick h0).1 (isX7_pick h0).2 h.1 dX7_surest_159 ?_
    replace h := h.2
    refine g_iast C (isX7_bestPick h0).1 (isX7_bestPick h0).2 h.1 dX7_surest_160 ?_
    replace h := h.2
    refine g_iinc C (v := v6 + 1) 5 [(6, .int (v6 + 1)), (0, .ref (Y.ad b)), (1, .int p1), (2, .int p2), (3, .int v3), (4, .int v4)] dX7_surest_161 rfl rfl (by decide) rfl ?_
    refine g_goto C 141 dX7_surest_164 (by decide) ?_
    refine g_lv (lv2 := [(0, .ref (Y.ad b)), (1, .int p1), (2, .int p2), (3, .int v3), (4, .int v4), (6, .int (v6 + 1))]) [1, 2, 3, 4, 5, 0] ?_ rfl
    exact h
set_option maxRecDepth 20000 in
set_option maxHeartbeats 4000000 in
theorem tX7_surest_178 {X : XT} {Y : YT} {l0 : Launch} {b : Nat} {p1 : Int32} {p2 : Int32} {Q : Int32 → Mem → Prop} (C : Cx X Y 7 cX7_surest RX7 WX7_surest (rmB 7 172) l0) (hr : RI X Y cX7_surest .int Q) (hI : YI Y) (h0 : isX7 Y b) (v4 : Int32) (v5 : Int32) (μ : Mem) (h : nX7_surest_178 b p1 p2 Q (SX7_surest_44 X Y b p1 p2) (SX7_surest_84 X Y b p1 p2) (SX7_surest_95 X Y b p1 p2) (SX7_surest_141 X Y b p1 p2) (SX7_surest_178 X Y b p1 p2) v4 v5 μ) : G X Y 7 178 [(0, .ref (Y.ad b)), (1, .int p1), (2, .int p2), (4, .int v4), (5, .int v5)] [] μ := by
  unfold nX7_surest_178 at h
  refine g_iload C 4 dX7_surest_178 rfl ?_
  refine g_bipush C (v := (7 : Int32)) dX7_surest_180 (by decide) ?_
  refine g_icmp_ge C 205 dX7_surest_182 (by decide) (fun c21 => ?_) (fun c21 => ?_)
  · replace h := h.1 c21
    refine g_iload C 3 dX7_surest_205 rfl ?_
    refine g_bipush C (v := (-4 : Int32)) dX7_surest_207 (by decide) ?_
    refine g_icmp_ne C 217 dX7_surest_209 (by decide) (fun c22 => ?_) (fun c22 => ?_)
    · replace h := h.1 c22
      refine g_iload_n C 2 dX7_surest_217 rfl ?_
      refine g_iconst C (v := (2 : Int32)) dX7_surest_218 (by decide) ?_
      refine g_icmp_ge C 236 dX7_surest_219 (by decide) (fun c23 => ?_) (fun c23 => ?_)
      · replace h := h.1 c23
        refine g_aload_n C 0 dX7_surest_236 rfl ?_
        refine gf_RX7_68 C h0 dX7_surest_237 ?_
        refine g_iload_n C 2 dX7_surest_240 rfl ?_
        refine g_bipush C (v := (10 : Int32)) dX7_surest_241 (by decide) ?_
        refine g_isub C dX7_surest_243 ?_
        refine g_iald C (isX7_bestPick h0).1 (isX7_bestPick h0).2 h.1 dX7_surest_244 ?_
        replace h := h.2
        exact hr _ _ _ _ _ dX7_surest_245 rfl h
      · replace h := h.2 c23
        refine g_iload C 3 dX7_surest_222 rfl ?_
        refine g_iconst C (v := (1 : Int32)) dX7_surest_224 (by decide) ?_
        refine g_iconst C (v := (2 : Int32)) dX7_surest_225 (by decide) ?_
        refine g_iload_n C 1 dX7_surest_226 rfl ?_
        refine g_imul C dX7_surest_227 ?_
        refine g_ishl C dX7_surest_228 ?_
        refine g_iload_n C 2 dX7_surest_229 rfl ?_
        refine g_callSI C [.int v4, .int (((1 : Int32)) <<< ((((2 : Int32)) * p1) &&& 31)), .int p2] [] (ok_X7_told hI  h) (cw_RX7_355 _) rfl dc_X7_told ⟨Nat.le_of_ble_eq_true rfl, Nat.le_of_ble_eq_true rfl⟩ rfl (Nat.le_of_ble_eq_true rfl) dX7_surest_230 (fun r25 m24 h => ?_)
        refine g_goto C 245 dX7_surest_233 (by decide) ?_
        exact hr _ _ _ _ _ dX7_surest_245 rfl h
    · replace h := h.2 c22
      refine g_bipush C (v := (-4 : Int32)) dX7_surest_212 (by decide) ?_
      refine g_goto C 245 dX7_surest_214 (by decide) ?_
      exact hr _ _ _ _ _ dX7_surest_245 rfl h
  · replace h := h.2 c21
    refine g_aload_n C 0 dX7_surest_185 rfl ?_
    refine gf_RX7_62 C h0 dX7_surest_186 ?_
    refine g_iload C 4 dX7_surest_189 rfl ?_
    refine g_aload_n C 0 dX7_surest_191 rfl ?_
    refine gf_RX7_71 C h0 dX7_surest_192 ?_
    refine g_iload C 4 dX7_surest_195 rfl ?_
    refine g_iald C (isX7_keptRow h0).1 (isX7_keptRow h0).2 h.1 dX7_surest_197 ?_
    replace h := h.2
    refine g_iast C (isX7_row h0).1 (isX7_row h0).2 h.1 dX7_surest_198 ?_
    replace h := h.2
    refine g_iinc C (v := v5 + 1) 4 [(5, .int (v5 + 1)), (0, .ref (Y.ad b)), (1, .int p1), (2, .int p2), (4, .int v4)] dX7_surest_199 rfl rfl (by decide) rfl ?_
    refine g_goto C 178 dX7_surest_202 (by decide) ?_
    refine g_lv (lv2 := [(0, .ref (Y.ad b)), (1, .int p1), (2, .int p2), (4, .int v4), (5, .int (v5 + 1))]) [1, 2, 3, 4, 0] ?_ rfl
    exact h
set_option maxRecDepth 20000 in
set_option maxHeartbeats 4000000 in
theorem ok_X7_surest {Y : YT} {l0 : Launch} {b : Nat} {p1 : Int32} {p2 : Int32} {μ : Mem} {Q : Int32 → Mem → Prop} (hI : YI Y) (h0 : isX7 Y b) (h : PX7_surest b p1 p2 μ Q) : MI l0 yX7_surest WX7_surest 7 172 Y [.ref (Y.ad b), .int p1, .int p2] μ Q := by
  refine mI_of (ty := .int) (cc := cX7_surest) (maxL := 7) (by decide +kernel) rfl hI (Nat.le_of_ble_eq_true rfl) (fun X C hr => ?_)
  replace C : Cx X Y 7 cX7_surest RX7 WX7_surest (rmB 7 172) l0 := C
  refine g_lv (lv2 := [(0, .ref (Y.ad b)), (1, .int p1), (2, .int p2)]) [0, 1, 2] ?_ rfl
  unfold PX7_surest at h
  replace h := h (SX7_surest_44 X Y b p1 p2) (SX7_surest_84 X Y b p1 p2) (SX7_surest_95 X Y b p1 p2) (SX7_surest_141 X Y b p1 p2) (SX7_surest_178 X Y b p1 p2) (fun v3 v4 μ z => tX7_surest_44 C hr hI h0 v3 v4 μ z) (fun v3 v4 μ z => tX7_surest_84 C hr hI h0 v3 v4 μ z) (fun v3 v4 v5 μ z => tX7_surest_95 C hr hI h0 v3 v4 v5 μ z) (fun v3 v4 v6 μ z => tX7_surest_141 C hr hI h0 v3 v4 v6 μ z) (fun v4 v5 μ z => tX7_surest_178 C hr hI h0 v4 v5 μ z)
  refine g_iload_n C 1 dX7_surest_0 rfl ?_
  refine g_iconst C (v := (3 : Int32)) dX7_surest_1 (by decide) ?_
  refine g_callSI C [.int p1, .int ((3 : Int32))] [] (ok_X7_areDays hI  h) (cw_RX7_395 _) rfl dc_X7_areDays ⟨Nat.le_of_ble_eq_true rfl, Nat.le_of_ble_eq_true rfl⟩ rfl (Nat.le_of_ble_eq_true rfl) dX7_surest_2 (fun r2 m1 h => ?_)
  refine g_if_eq C 34 dX7_surest_5 (by decide) (fun c3 => ?_) (fun c3 => ?_)
  · replace h := h.1 c3
    refine g_iconst C (v := (-1 : Int32)) dX7_surest_34 (by decide) ?_
    exact hr _ _ _ _ _ dX7_surest_35 rfl h
  · replace h := h.2 c3
    refine g_iload_n C 2 dX7_surest_8 rfl ?_
    refine g_i2l C dX7_surest_9 ?_
    refine g_lconst C (v := (0 : Int64)) dX7_surest_10 (by decide) ?_
    refine g_lconst C (v := (1 : Int64)) dX7_surest_11 (by decide) ?_
    refine g_callSI C [.long p2.toInt64, .long ((0 : Int64)), .long ((1 : Int64))] [] (ok_X7_in hI  h) (cw_RX7_134 _) rfl dc_X7_in ⟨Nat.le_of_ble_eq_true rfl, Nat.le_of_ble_eq_true rfl⟩ rfl (Nat.le_of_ble_eq_true rfl) dX7_surest_12 (fun r5 m4 h => ?_)
    refine g_if_ne C 36 dX7_surest_15 (by decide) (fun c6 => ?_) (fun c6 => ?_)
    · replace h := h.1 c6
      exact tX7_surest_36 C hr hI h0 _ h
    · replace h := h.2 c6
      refine g_iload_n C 2 dX7_surest_18 rfl ?_
      refine g_i2l C dX7_surest_19 ?_
      refine g_ldc2 C (v := (10 : Int64)) (List.mem_cons_of_mem _ mL_RX7_227) dX7_surest_20 ?_
      refine g_bipush C (v := (9 : Int32)) dX7_surest_23 (by decide) ?_
      refine g_iload_n C 1 dX7_surest_25 rfl ?_
      refine g_iadd C dX7_surest_26 ?_
      refine g_i2l C dX7_surest_27 ?_
      refine g_callSI C [.long p2.toInt64, .long ((10 : Int64)), .long ((((9 : Int32)) + p1).toInt64)] [] (ok_X7_in hI  h) (cw_RX7_134 _) rfl dc_X7_in ⟨Nat.le_of_ble_eq_true rfl, Nat.le_of_ble_eq_true rfl⟩ rfl (Nat.le_of_ble_eq_true rfl) dX7_surest_28 (fun r8 m7 h => ?_)
      refine g_if_ne C 36 dX7_surest_31 (by decide) (fun c9 => ?_) (fun c9 => ?_)
      · replace h := h.1 c9
        exact tX7_surest_36 C hr hI h0 _ h
      · replace h := h.2 c9
        refine g_iconst C (v := (-1 : Int32)) dX7_surest_34 (by decide) ?_
        exact hr _ _ _ _ _ dX7_surest_35 rfl h
def SX7_findClosing_14 (X : XT) (Y : YT) (b : Nat) (p1 : Int32) : Mem → Prop := fun  μ => G X Y 3 14 [(0, .ref (Y.ad b)), (1, .int p1)] [] μ
def SX7_findClosing_36 (X : XT) (Y : YT) (b : Nat) (p1 : Int32) : Int32 → Mem → Prop := fun v2 μ => G X Y 3 36 [(0, .ref (Y.ad b)), (1, .int p1), (2, .int v2)] [] μ
set_option maxRecDepth 20000 in
set_option maxHeartbeats 4000000 in
theorem tX7_findClosing_14 {X : XT} {Y : YT} {l0 : Launch} {b : Nat} {p1 : Int32} {Q : Mem → Prop} (C : Cx X Y 3 cX7_findClosing RX7 WX7_findClosing (rmB 7 170) l0) (hr : RV X Y cX7_findClosing Q) (hI : YI Y) (h0 : isX7 Y b) (μ : Mem) (h : nX7_findClosing_14 b p1 Q (SX7_findClosing_14 X Y b p1) (SX7_findClosing_36 X Y b p1) μ) : G X Y 3 14 [(0, .ref (Y.ad b)), (1, .int p1)] [] μ := by
  unfold nX7_findClosing_14 at h
  refine g_aload_n C 0 dX7_findClosing_14 rfl ?_
  refine g_iload_n C 1 dX7_findClosing_15 rfl ?_
  refine g_callVI C [.int p1] [] (ok_X7_nextRow hI h0 h) (cw_RX7_383 _) rfl dc_X7_nextRow ⟨Nat.le_of_ble_eq_true rfl, Nat.le_of_ble_eq_true rfl⟩ (isX7_lt h0) (isX7_sh h0) rfl rfl rfl rfl (Nat.le_of_ble_eq_true rfl) dX7_findClosing_16 (fun r5 m4 h => ?_)
  refine g_if_eq C 120 dX7_findClosing_19 (by decide) (fun c6 => ?_) (fun c6 => ?_)
  · replace h := h.1 c6
    exact hr _ _ _ _ dX7_findClosing_120 h
  · replace h := h.2 c6
    refine g_aload_n C 0 dX7_findClosing_22 rfl ?_
    refine g_bipush C (v := (40 : Int32)) dX7_findClosing_23 (by decide) ?_
    refine g_iload_n C 1 dX7_findClosing_25 rfl ?_
    refine g_imul C dX7_findClosing_26 ?_
    refine g_iload_n C 1 dX7_findClosing_27 rfl ?_
    refine g_callVI C [.int (((40 : Int32)) * p1), .int p1] [] (ok_X7_isClosed hI h0 h) (cw_RX7_338 _) rfl dc_X7_isClosed ⟨Nat.le_of_ble_eq_true rfl, Nat.le_of_ble_eq_true rfl⟩ (isX7_lt h0) (isX7_sh h0) rfl rfl rfl rfl (Nat.le_of_ble_eq_true rfl) dX7_findClosing_28 (fun r8 m7 h => ?_)
    refine g_if_eq C 14 dX7_findClosing_31 (by decide) (fun c9 => ?_) (fun c9 => ?_)
    · replace h := h.1 c9
      exact h
    · replace h := h.2 c9
      refine g_iconst C (v := (0 : Int32)) dX7_findClosing_34 (by decide) ?_
      refine g_istore_n C [(2, .int ((0 : Int32))), (0, .ref (Y.ad b)), (1, .int p1)] dX7_findClosing_35 (by decide) rfl ?_
      refine g_lv (lv2 := [(0, .ref (Y.ad b)), (1, .int p1), (2, .int ((0 : Int32)))]) [1, 2, 0] ?_ rfl
      exact h
set_option maxRecDepth 20000 in
set_option maxHeartbeats 4000000 in
theorem tX7_findClosing_97 {X : XT} {Y : YT} {l0 : Launch} {b : Nat} {p1 : Int32} {Q : Mem → Prop} (C : Cx X Y 3 cX7_findClosing RX7 WX7_findClosing (rmB 7 170) l0) (hr : RV X Y cX7_findClosing Q) (hI : YI Y) (h0 : isX7 Y b) (v2 : Int32) (w0 : Int32) (w1 : Int32) (μ : Mem) (h : nX7_findClosing_97 b p1 Q (SX7_findClosing_14 X Y b p1) (SX7_findClosing_36 X Y b p1) v2 w0 w1 μ) : G X Y 3 97 [(0, .ref (Y.ad b)), (1, .int p1), (2, .int v2)] [.int w0, .int w1, .ref (Y.ad b)] μ := by
  unfold nX7_findClosing_97 at h
  refine g_ior C dX7_findClosing_97 ?_
  refine gp_RX7_405 C h0 dX7_findClosing_98 ?_
  refine g_iinc C (v := v2 + 1) 2 [(2, .int (v2 + 1)), (0, .ref (Y.ad b)), (1, .int p1)] dX7_findClosing_101 rfl rfl (by decide) rfl ?_
  refine g_goto C 36 dX7_findClosing_104 (by decide) ?_
  refine g_lv (lv2 := [(0, .ref (Y.ad b)), (1, .int p1), (2, .int (v2 + 1))]) [1, 2, 0] ?_ rfl
  exact h
set_option maxRecDepth 20000 in
set_option maxHeartbeats 4000000 in
theorem tX7_findClosing_68 {X : XT} {Y : YT} {l0 : Launch} {b : Nat} {p1 : Int32} {Q : Mem → Prop} (C : Cx X Y 3 cX7_findClosing RX7 WX7_findClosing (rmB 7 170) l0) (hr : RV X Y cX7_findClosing Q) (hI : YI Y) (h0 : isX7 Y b) (v2 : Int32) (w0 : Int32) (w1 : Int32) (μ : Mem) (h : nX7_findClosing_68 b p1 Q (SX7_findClosing_14 X Y b p1) (SX7_findClosing_36 X Y b p1) v2 w0 w1 μ) : G X Y 3 68 [(0, .ref (Y.ad b)), (1, .int p1), (2, .int v2)] [.int w0, .int w1, .ref (Y.ad (b + 20))] μ := by
  unfold nX7_findClosing_68 at h
  refine g_iast C (isX7_bestPick h0).1 (isX7_bestPick h0).2 h.1 dX7_findClosing_68 ?_
  replace h := h.2
  refine g_aload_n C 0 dX7_findClosing_69 rfl ?_
  refine g_dup C dX7_findClosing_70 rfl ?_
  refine gf_RX7_405 C h0 dX7_findClosing_71 ?_
  refine g_aload_n C 0 dX7_findClosing_74 rfl ?_
  refine gf_RX7_65 C h0 dX7_findClosing_75 ?_
  refine g_iload_n C 2 dX7_findClosing_78 rfl ?_
  refine g_iald C (isX7_pick h0).1 (isX7_pick h0).2 h.1 dX7_findClosing_79 ?_
  replace h := h.2
  refine g_bipush C (v := (-4 : Int32)) dX7_findClosing_80 (by decide) ?_
  refine g_icmp_ne C 89 dX7_findClosing_82 (by decide) (fun c12 => ?_) (fun c12 => ?_)
  · replace h := h.1 c12
    refine g_iconst C (v := (1 : Int32)) dX7_findClosing_89 (by decide) ?_
    refine g_aload_n C 0 dX7_findClosing_90 rfl ?_
    refine gf_RX7_65 C h0 dX7_findClosing_91 ?_
    refine g_iload_n C 2 dX7_findClosing_94 rfl ?_
    refine g_iald C (isX7_pick h0).1 (isX7_pick h0).2 h.1 dX7_findClosing_95 ?_
    replace h := h.2
    refine g_ishl C dX7_findClosing_96 ?_
    exact tX7_findClosing_97 C hr hI h0 _ _ _ _ h
  · replace h := h.2 c12
    refine g_iconst C (v := (0 : Int32)) dX7_findClosing_85 (by decide) ?_
    refine g_goto C 97 dX7_findClosing_86 (by decide) ?_
    exact tX7_findClosing_97 C hr hI h0 _ _ _ _ h
set_option maxRecDepth 20000 in
set_option maxHeartbeats 4000000 in
theorem tX7_findClosing_36 {X : XT} {Y : YT} {l0 : Launch} {b : Nat} {p1 : Int32} {Q : Mem → Prop} (C : Cx X Y 3 cX7_findClosing RX7 WX7_findClosing (rmB 7 170) l0) (hr : RV X Y cX7_findClosing Q) (hI : YI Y) (h0 : isX7 Y b) (v2 : Int32) (μ : Mem) (h : nX7_findClosing_36 b p1 Q (SX7_findClosing_14 X Y b p1) (SX7_findClosing_36 X Y b p1) v2 μ) : G X Y 3 36 [(0, .ref (Y.ad b)), (1, .int p1), (2, .int v2)] [] μ := by
  unfold nX7_findClosing_36 at h
  refine g_iload_n C 2 dX7_findClosing_36 rfl ?_
  refine g_iload_n C 1 dX7_findClosing_37 rfl ?_
  refine g_icmp_ge C 107 dX7_findClosing_38 (by decide) (fun c10 => ?_) (fun c10 => ?_)
  · replace h := h.1 c10
    refine g_aload_n C 0 dX7_findClosing_107 rfl ?_
    refine g_dup C dX7_findClosing_108 rfl ?_
    refine gf_RX7_402 C h0 dX7_findClosing_109 ?_
    refine g_iconst C (v := (1 : Int32)) dX7_findClosing_112 (by decide) ?_
    refine g_iadd C dX7_findClosing_113 ?_
    refine gp_RX7_402 C h0 dX7_findClosing_114 ?_
    refine g_goto C 14 dX7_findClosing_117 (by decide) ?_
    refine g_lv (lv2 := [(0, .ref (Y.ad b)), (1, .int p1)]) [0, 1] ?_ rfl
    exact h
  · replace h := h.2 c10
    refine g_aload_n C 0 dX7_findClosing_41 rfl ?_
    refine gf_RX7_68 C h0 dX7_findClosing_42 ?_
    refine g_iload_n C 2 dX7_findClosing_45 rfl ?_
    refine g_aload_n C 0 dX7_findClosing_46 rfl ?_
    refine gf_RX7_402 C h0 dX7_findClosing_47 ?_
    refine g_if_ne C 62 dX7_findClosing_50 (by decide) (fun c11 => ?_) (fun c11 => ?_)
    · replace h := h.1 c11
      refine g_aload_n C 0 dX7_findClosing_62 rfl ?_
      refine gf_RX7_68 C h0 dX7_findClosing_63 ?_
      refine g_iload_n C 2 dX7_findClosing_66 rfl ?_
      refine g_iald C (isX7_bestPick h0).1 (isX7_bestPick h0).2 h.1 dX7_findClosing_67 ?_
      replace h := h.2
      exact tX7_findClosing_68 C hr hI h0 _ _ _ _ h
    · replace h := h.2 c11
      refine g_aload_n C 0 dX7_findClosing_53 rfl ?_
      refine gf_RX7_65 C h0 dX7_findClosing_54 ?_
      refine g_iload_n C 2 dX7_findClosing_57 rfl ?_
      refine g_iald C (isX7_pick h0).1 (isX7_pick h0).2 h.1 dX7_findClosing_58 ?_
      replace h := h.2
      refine g_goto C 68 dX7_findClosing_59 (by decide) ?_
      exact tX7_findClosing_68 C hr hI h0 _ _ _ _ h
set_option maxRecDepth 20000 in
set_option maxHeartbeats 4000000 in
theorem ok_X7_findClosing {Y : YT} {l0 : Launch} {b : Nat} {p1 : Int32} {μ : Mem} {Q : Mem → Prop} (hI : YI Y) (h0 : isX7 Y b) (h : PX7_findClosing b p1 μ Q) : MV l0 yX7_findClosing WX7_findClosing 7 170 Y [.ref (Y.ad b), .int p1] μ Q := by
  refine mV_of (cc := cX7_findClosing) (maxL := 3) (by decide +kernel) rfl hI (Nat.le_of_ble_eq_true rfl) (fun X C hr => ?_)
  replace C : Cx X Y 3 cX7_findClosing RX7 WX7_findClosing (rmB 7 170) l0 := C
  refine g_lv (lv2 := [(0, .ref (Y.ad b)), (1, .int p1)]) [0, 1] ?_ rfl
  unfold PX7_findClosing at h
  replace h := h (SX7_findClosing_14 X Y b p1) (SX7_findClosing_36 X Y b p1) (fun  μ z => tX7_findClosing_14 C hr hI h0  μ z) (fun v2 μ z => tX7_findClosing_36 C hr hI h0 v2 μ z)
  refine g_aload_n C 0 dX7_findClosing_0 rfl ?_
  refine g_iconst C (v := (0 : Int32)) dX7_findClosing_1 (by decide) ?_
  refine gp_RX7_402 C h0 dX7_findClosing_2 ?_
  refine g_aload_n C 0 dX7_findClosing_5 rfl ?_
  refine g_iconst C (v := (0 : Int32)) dX7_findClosing_6 (by decide) ?_
  refine gp_RX7_405 C h0 dX7_findClosing_7 ?_
  refine g_mem (fun m1 em1 => ?_)
  replace h := h m1 em1
  refine g_aload_n C 0 dX7_findClosing_10 rfl ?_
  refine g_callVV C [] [] (ok_X7_beginRows hI h0 h) (cw_RX7_380 _) rfl dc_X7_beginRows ⟨Nat.le_of_ble_eq_true rfl, Nat.le_of_ble_eq_true rfl⟩ (isX7_lt h0) (isX7_sh h0) rfl rfl rfl rfl (Nat.le_of_ble_eq_true rfl) dX7_findClosing_11 (fun m2 h => ?_)
  exact h
set_option maxRecDepth 20000 in
set_option maxHeartbeats 4000000 in
theorem tX7_closes_38 {X : XT} {Y : YT} {l0 : Launch} {b : Nat} {p1 : Int32} {p2 : Int32} {Q : Int32 → Mem → Prop} (C : Cx X Y 4 cX7_closes RX7 WX7_closes (rmB 8 192) l0) (hr : RI X Y cX7_closes .int Q) (hI : YI Y) (h0 : isX7 Y b) (μ : Mem) (h : nX7_closes_38 b p1 p2 Q  μ) : G X Y 4 38 [(0, .ref (Y.ad b)), (1, .int p1), (2, .int p2)] [] μ := by
  unfold nX7_closes_38 at h
  refine g_aload_n C 0 dX7_closes_38 rfl ?_
  refine g_iload_n C 1 dX7_closes_39 rfl ?_
  refine g_callVV C [.int p1] [] (ok_X7_findClosing hI h0 h) (cw_RX7_408 _) rfl dc_X7_findClosing ⟨Nat.le_of_ble_eq_true rfl, Nat.le_of_ble_eq_true rfl⟩ (isX7_lt h0) (isX7_sh h0) rfl rfl rfl rfl (Nat.le_of_ble_eq_true rfl) dX7_closes_40 (fun m10 h => ?_)
  refine g_iconst C (v := (1 : Int32)) dX7_closes_43 (by decide) ?_
  refine g_aload_n C 0 dX7_closes_44 rfl ?_
  refine gf_RX7_118 C h0 dX7_closes_45 ?_
  refine g_ishl C dX7_closes_48 ?_
  refine g_iconst C (v := (1 : Int32)) dX7_closes_49 (by decide) ?_
  refine g_isub C dX7_closes_50 ?_
  refine g_istore_n C [(3, .int ((((1 : Int32)) <<< ((m10.1 b 2) &&& 31)) - ((1 : Int32)))), (0, .ref (Y.ad b)), (1, .int p1), (2, .int p2)] dX7_closes_51 (by decide) rfl ?_
  refine g_iload_n C 3 dX7_closes_52 rfl ?_
  refine g_if_ne C 63 dX7_closes_53 (by decide) (fun c12 => ?_) (fun c12 => ?_)
  · replace h := h.1 c12
    refine g_iload_n C 3 dX7_closes_63 rfl ?_
    refine g_iconst C (v := (1 : Int32)) dX7_closes_64 (by decide) ?_
    refine g_icmp_ne C 75 dX7_closes_65 (by decide) (fun c13 => ?_) (fun c13 => ?_)
    · replace h := h.1 c13
      refine g_iload_n C 3 dX7_closes_75 rfl ?_
      refine g_iconst C (v := (2 : Int32)) dX7_closes_76 (by decide) ?_
      refine g_icmp_ne C 91 dX7_closes_77 (by decide) (fun c14 => ?_) (fun c14 => ?_)
      · replace h := h.1 c14
        refine g_aload_n C 1 dX7_closes_91 rfl ?_
        refine gf_RX7_402 C h0 dX7_closes_92 ?_
        refine g_if_ne C 103 dX7_closes_95 (by decide) (fun c15 => ?_) (fun c15 => ?_)
        · replace h := h.1 c15
          refine g_aload_n C 1 dX7_closes_103 rfl ?_
          refine gf_RX7_68 C h0 dX7_closes_104 ?_
          refine g_iload_n C 3 dX7_closes_107 rfl ?_
          refine g_bipush C (v := (10 : Int32)) dX7_closes_108 (by decide) ?_
          refine g_isub C dX7_closes_110 ?_
          refine g_iald C (isX7_bestPick h0).1 (isX7_bestPick h0).2 h.1 dX7_closes_111 ?_
          replace h := h.2
          exact hr _ _ _ _ _ dX7_closes_112 rfl h
        · replace h := h.2 c15
          refine g_bipush C (v := (-4 : Int32)) dX7_closes_98 (by decide) ?_
          refine g_goto C 112 dX7_closes_100 (by decide) ?_
          exact hr _ _ _ _ _ dX7_closes_112 rfl h
      · replace h := h.2 c14
        refine g_iload_n C 0 dX7_closes_80 rfl ?_
        refine g_aload_n C 1 dX7_closes_81 rfl ?_
        refine gf_RX7_405 C h0 dX7_closes_82 ?_
        refine g_iconst C (v := (-1 : Int32)) dX7_closes_85 (by decide) ?_
        refine g_ixor C dX7_closes_86 ?_
        refine g_iand C dX7_closes_87 ?_
        refine g_goto C 112 dX7_closes_88 (by decide) ?_
        exact hr _ _ _ _ _ dX7_closes_112 rfl h
    · replace h := h.2 c13
      refine g_aload_n C 1 dX7_closes_68 rfl ?_
      refine gf_RX7_405 C h0 dX7_closes_69 ?_
      refine g_goto C 112 dX7_closes_72 (by decide) ?_
      exact hr _ _ _ _ _ dX7_closes_112 rfl h
  · replace h := h.2 c12
    refine g_aload_n C 1 dX7_closes_56 rfl ?_
    refine gf_RX7_402 C h0 dX7_closes_57 ?_
    refine g_goto C 112 dX7_closes_60 (by decide) ?_
    exact hr _ _ _ _ _ dX7_closes_112 rfl h
set_option maxRecDepth 20000 in
set_option maxHeartbeats 4000000 in
theorem ok_X7_closes {Y : YT} {l0 : Launch} {b : Nat} {p1 : Int32} {p2 : Int32} {μ : Mem} {Q : Int32 → Mem → Prop} (hI : YI Y) (h0 : isX7 Y b) (h : PX7_closes b p1 p2 μ Q) : MI l0 yX7_closes WX7_closes 8 192 Y [.ref (Y.ad b), .int p1, .int p2] μ Q := by
  refine mI_of (ty := .int) (cc := cX7_closes) (maxL := 4) (by decide +kernel) rfl hI (Nat.le_of_ble_eq_true rfl) (fun X C hr => ?_)
  replace C : Cx X Y 4 cX7_closes RX7 WX7_closes (rmB 8 192) l0 := C
  refine g_lv (lv2 := [(0, .ref (Y.ad b)), (1, .int p1), (2, .int p2)]) [0, 1, 2] ?_ rfl
  unfold PX7_closes at h
  refine g_iload_n C 1 dX7_closes_0 rfl ?_
  refine g_iconst C (v := (5 : Int32)) dX7_closes_1 (by decide) ?_
  refine g_callSI C [.int p1, .int ((5 : Int32))] [] (ok_X7_areDays hI  h) (cw_RX7_395 _) rfl dc_X7_areDays ⟨Nat.le_of_ble_eq_true rfl, Nat.le_of_ble_eq_true rfl⟩ rfl (Nat.le_of_ble_eq_true rfl) dX7_closes_2 (fun r2 m1 h => ?_)
  refine g_if_eq C 36 dX7_closes_5 (by decide) (fun c3 => ?_) (fun c3 => ?_)
  · replace h := h.1 c3
    refine g_iconst C (v := (-1 : Int32)) dX7_closes_36 (by decide) ?_
    exact hr _ _ _ _ _ dX7_closes_37 rfl h
  · replace h := h.2 c3
    refine g_iload_n C 2 dX7_closes_8 rfl ?_
    refine g_i2l C dX7_closes_9 ?_
    refine g_lconst C (v := (0 : Int64)) dX7_closes_10 (by decide) ?_
    refine g_ldc2 C (v := (2 : Int64)) (List.mem_cons_of_mem _ mL_RX7_254) dX7_closes_11 ?_
    refine g_callSI C [.long p2.toInt64, .long ((0 : Int64)), .long ((2 : Int64))] [] (ok_X7_in hI  h) (cw_RX7_134 _) rfl dc_X7_in ⟨Nat.le_of_ble_eq_true rfl, Nat.le_of_ble_eq_true rfl⟩ rfl (Nat.le_of_ble_eq_true rfl) dX7_closes_14 (fun r5 m4 h => ?_)
    refine g_if_ne C 38 dX7_closes_17 (by decide) (fun c6 => ?_) (fun c6 => ?_)
    · replace h := h.1 c6
      exact tX7_closes_38 C hr hI h0 _ h
    · replace h := h.2 c6
      refine g_iload_n C 2 dX7_closes_20 rfl ?_
      refine g_i2l C dX7_closes_21 ?_
      refine g_ldc2 C (v := (10 : Int64)) (List.mem_cons_of_mem _ mL_RX7_227) dX7_closes_22 ?_
      refine g_bipush C (v := (9 : Int32)) dX7_closes_25 (by decide) ?_
      refine g_iload_n C 1 dX7_closes_27 rfl ?_
      refine g_iadd C dX7_closes_28 ?_
      refine g_i2l C dX7_closes_29 ?_
      refine g_callSI C [.long p2.toInt64, .long ((10 : Int64)), .long ((((9 : Int32)) + p1).toInt64)] [] (ok_X7_in hI  h) (cw_RX7_134 _) rfl dc_X7_in ⟨Nat.le_of_ble_eq_true rfl, Nat.le_of_ble_eq_true rfl⟩ rfl (Nat.le_of_ble_eq_true rfl) dX7_closes_30 (fun r8 m7 h => ?_)
      refine g_if_ne C 38 dX7_closes_33 (by decide) (fun c9 => ?_) (fun c9 => ?_)
      · replace h := h.1 c9
        exact tX7_closes_38 C hr hI h0 _ h
      · replace h := h.2 c9
        refine g_iconst C (v := (-1 : Int32)) dX7_closes_36 (by decide) ?_
        exact hr _ _ _ _ _ dX7_closes_37 rfl h
def SX7_shortest_2 (X : XT) (Y : YT) (b : Nat) : Int32 → Mem → Prop := fun v1 μ => G X Y 2 2 [(0, .ref (Y.ad b)), (1, .int v1)] [] μ
set_option maxRecDepth 20000 in
set_option maxHeartbeats 4000000 in
theorem tX7_shortest_2 {X : XT} {Y : YT} {l0 : Launch} {b : Nat} {Q : Int32 → Mem → Prop} (C : Cx X Y 2 cX7_shortest RX7 WX7_shortest (rmB 8 192) l0) (hr : RI X Y cX7_shortest .int Q) (hI : YI Y) (h0 : isX7 Y b) (v1 : Int32) (μ : Mem) (h : nX7_shortest_2 b Q (SX7_shortest_2 X Y b) v1 μ) : G X Y 2 2 [(0, .ref (Y.ad b)), (1, .int v1)] [] μ := by
  unfold nX7_shortest_2 at h
  refine g_iload_n C 1 dX7_shortest_2 rfl ?_
  refine g_bipush C (v := (6 : Int32)) dX7_shortest_3 (by decide) ?_
  refine g_icmp_ge C 28 dX7_shortest_5 (by decide) (fun c1 => ?_) (fun c1 => ?_)
  · replace h := h.1 c1
    refine g_bipush C (v := (-4 : Int32)) dX7_shortest_28 (by decide) ?_
    exact hr _ _ _ _ _ dX7_shortest_30 rfl h
  · replace h := h.2 c1
    refine g_aload_n C 0 dX7_shortest_8 rfl ?_
    refine g_iload_n C 1 dX7_shortest_9 rfl ?_
    refine g_callVV C [.int v1] [] (ok_X7_findClosing hI h0 h) (cw_RX7_408 _) rfl dc_X7_findClosing ⟨Nat.le_of_ble_eq_true rfl, Nat.le_of_ble_eq_true rfl⟩ (isX7_lt h0) (isX7_sh h0) rfl rfl rfl rfl (Nat.le_of_ble_eq_true rfl) dX7_shortest_10 (fun m2 h => ?_)
    refine g_aload_n C 0 dX7_shortest_13 rfl ?_
    refine gf_RX7_402 C h0 dX7_shortest_14 ?_
    refine g_if_le C 22 dX7_shortest_17 (by decide) (fun c4 => ?_) (fun c4 => ?_)
    · replace h := h.1 c4
      refine g_iinc C (v := v1 + 1) 1 [(1, .int (v1 + 1)), (0, .ref (Y.ad b))] dX7_shortest_22 rfl rfl (by decide) rfl ?_
      refine g_goto C 2 dX7_shortest_25 (by decide) ?_
      refine g_lv (lv2 := [(0, .ref (Y.ad b)), (1, .int (v1 + 1))]) [1, 0] ?_ rfl
      exact h
    · replace h := h.2 c4
      refine g_iload_n C 1 dX7_shortest_20 rfl ?_
      exact hr _ _ _ _ _ dX7_shortest_21 rfl h
set_option maxRecDepth 20000 in
set_option maxHeartbeats 4000000 in
theorem ok_X7_shortest {Y : YT} {l0 : Launch} {b : Nat} {μ : Mem} {Q : Int32 → Mem → Prop} (hI : YI Y) (h0 : isX7 Y b) (h : PX7_shortest b μ Q) : MI l0 yX7_shortest WX7_shortest 8 192 Y [.ref (Y.ad b)] μ Q := by
  refine mI_of (ty := .int) (cc := cX7_shortest) (maxL := 2) (by decide +kernel) rfl hI (Nat.le_of_ble_eq_true rfl) (fun X C hr => ?_)
  replace C : Cx X Y 2 cX7_shortest RX7 WX7_shortest (rmB 8 192) l0 := C
  refine g_lv (lv2 := [(0, .ref (Y.ad b))]) [0] ?_ rfl
  unfold PX7_shortest at h
  replace h := h (SX7_shortest_2 X Y b) (fun v1 μ z => tX7_shortest_2 C hr hI h0 v1 μ z)
  refine g_iconst C (v := (1 : Int32)) dX7_shortest_0 (by decide) ?_
  refine g_istore_n C [(1, .int ((1 : Int32))), (0, .ref (Y.ad b))] dX7_shortest_1 (by decide) rfl ?_
  refine g_lv (lv2 := [(0, .ref (Y.ad b)), (1, .int ((1 : Int32)))]) [1, 0] ?_ rfl
  exact h
def SX7_closingWith_8 (X : XT) (Y : YT) (b : Nat) (p1 : Int32) (p2 : Int32) : Int32 → Int32 → Mem → Prop := fun v3 v4 μ => G X Y 5 8 [(0, .ref (Y.ad b)), (1, .int p1), (2, .int p2), (3, .int v3), (4, .int v4)] [] μ
def SX7_closingWith_56 (X : XT) (Y : YT) (b : Nat) (p1 : Int32) (p2 : Int32) : Int32 → Int32 → Mem → Prop := fun v3 v4 μ => G X Y 5 56 [(0, .ref (Y.ad b)), (1, .int p1), (2, .int p2), (3, .int v3), (4, .int v4)] [] μ
set_option maxRecDepth 20000 in
set_option maxHeartbeats 4000000 in
theorem tX7_closingWith_46 {X : XT} {Y : YT} {l0 : Launch} {b : Nat} {p1 : Int32} {p2 : Int32} {Q : Int32 → Mem → Prop} (C : Cx X Y 5 cX7_closingWith RX7 WX7_closingWith (rmB 8 192) l0) (hr : RI X Y cX7_closingWith .int Q) (hI : YI Y) (h0 : isX7 Y b) (v3 : Int32) (v4 : Int32) (w0 : Int32) (w1 : Int32) (μ : Mem) (h : nX7_closingWith_46 b p1 p2 Q (SX7_closingWith_8 X Y b p1 p2) (SX7_closingWith_56 X Y b p1 p2) v3 v4 w0 w1 μ) : G X Y 5 46 [(0, .ref (Y.ad b)), (1, .int p1), (2, .int p2), (3, .int v3), (4, .int v4)] [.int w0, .int w1, .ref (Y.ad (b + 2))] μ := by
  unfold nX7_closingWith_46 at h
  refine g_iast C (isX7_supper h0).1 (isX7_supper h0).2 h.1 dX7_closingWith_46 ?_
  replace h := h.2
  refine g_iinc C (v := v4 + 1) 4 [(4, .int (v4 + 1)), (0, .ref (Y.ad b)), (1, .int p1), (2, .int p2), (3, .int v3)] dX7_closingWith_47 rfl rfl (by decide) rfl ?_
  refine g_goto C 8 dX7_closingWith_50 (by decide) ?_
  refine g_lv (lv2 := [(0, .ref (Y.ad b)), (1, .int p1), (2, .int p2), (3, .int v3), (4, .int (v4 + 1))]) [1, 2, 3, 4, 0] ?_ rfl
  exact h
set_option maxRecDepth 20000 in
set_option maxHeartbeats 4000000 in
theorem tX7_closingWith_8 {X : XT} {Y : YT} {l0 : Launch} {b : Nat} {p1 : Int32} {p2 : Int32} {Q : Int32 → Mem → Prop} (C : Cx X Y 5 cX7_closingWith RX7 WX7_closingWith (rmB 8 192) l0) (hr : RI X Y cX7_closingWith .int Q) (hI : YI Y) (h0 : isX7 Y b) (v3 : Int32) (v4 : Int32) (μ : Mem) (h : nX7_closingWith_8 b p1 p2 Q (SX7_closingWith_8 X Y b p1 p2) (SX7_closingWith_56 X Y b p1 p2) v3 v4 μ) : G X Y 5 8 [(0, .ref (Y.ad b)), (1, .int p1), (2, .int p2), (3, .int v3), (4, .int v4)] [] μ := by
  unfold nX7_closingWith_8 at h
  refine g_iload C 4 dX7_closingWith_8 rfl ?_
  refine g_iconst C (v := (5 : Int32)) dX7_closingWith_10 (by decide) ?_
  refine g_icmp_ge C 53 dX7_closingWith_11 (by decide) (fun c1 => ?_) (fun c1 => ?_)
  · replace h := h.1 c1
    refine g_iconst C (v := (0 : Int32)) dX7_closingWith_53 (by decide) ?_
    refine g_istore C [(4, .int ((0 : Int32))), (0, .ref (Y.ad b)), (1, .int p1), (2, .int p2), (3, .int v3)] dX7_closingWith_54 (by decide) rfl ?_
    refine g_lv (lv2 := [(0, .ref (Y.ad b)), (1, .int p1), (2, .int p2), (3, .int v3), (4, .int ((0 : Int32)))]) [1, 2, 3, 4, 0] ?_ rfl
    exact h
  · replace h := h.2 c1
    refine g_aload_n C 0 dX7_closingWith_14 rfl ?_
    refine gf_RX7_13 C h0 dX7_closingWith_15 ?_
    refine g_iconst C (v := (5 : Int32)) dX7_closingWith_18 (by decide) ?_
    refine g_iload_n C 3 dX7_closingWith_19 rfl ?_
    refine g_imul C dX7_closingWith_20 ?_
    refine g_iload C 4 dX7_closingWith_21 rfl ?_
    refine g_iadd C dX7_closingWith_23 ?_
    refine g_iload C 4 dX7_closingWith_24 rfl ?_
    refine g_if_ne C 33 dX7_closingWith_26 (by decide) (fun c2 => ?_) (fun c2 => ?_)
    · replace h := h.1 c2
      refine g_iload C 4 dX7_closingWith_33 rfl ?_
      refine g_iconst C (v := (4 : Int32)) dX7_closingWith_35 (by decide) ?_
      refine g_icmp_ne C 45 dX7_closingWith_36 (by decide) (fun c3 => ?_) (fun c3 => ?_)
      · replace h := h.1 c3
        refine g_iconst C (v := (0 : Int32)) dX7_closingWith_45 (by decide) ?_
        exact tX7_closingWith_46 C hr hI h0 _ _ _ _ _ h
      · replace h := h.2 c3
        refine g_iconst C (v := (1 : Int32)) dX7_closingWith_39 (by decide) ?_
        refine g_iload_n C 1 dX7_closingWith_40 rfl ?_
        refine g_ishl C dX7_closingWith_41 ?_
        refine g_goto C 46 dX7_closingWith_42 (by decide) ?_
        exact tX7_closingWith_46 C hr hI h0 _ _ _ _ _ h
    · replace h := h.2 c2
      refine g_iconst C (v := (1 : Int32)) dX7_closingWith_29 (by decide) ?_
      refine g_goto C 46 dX7_closingWith_30 (by decide) ?_
      exact tX7_closingWith_46 C hr hI h0 _ _ _ _ _ h
set_option maxRecDepth 20000 in
set_option maxHeartbeats 4000000 in
theorem tX7_closingWith_85 {X : XT} {Y : YT} {l0 : Launch} {b : Nat} {p1 : Int32} {p2 : Int32} {Q : Int32 → Mem → Prop} (C : Cx X Y 5 cX7_closingWith RX7 WX7_closingWith (rmB 8 192) l0) (hr : RI X Y cX7_closingWith .int Q) (hI : YI Y) (h0 : isX7 Y b) (v3 : Int32) (v4 : Int32) (w0 : Int32) (w1 : Int32) (μ : Mem) (h : nX7_closingWith_85 b p1 p2 Q (SX7_closingWith_8 X Y b p1 p2) (SX7_closingWith_56 X Y b p1 p2) v3 v4 w0 w1 μ) : G X Y 5 85 [(0, .ref (Y.ad b)), (1, .int p1), (2, .int p2), (3, .int v3), (4, .int v4)] [.int w0, .int w1, .ref (Y.ad (b + 3))] μ := by
  unfold nX7_closingWith_85 at h
  refine g_iast C (isX7_wants h0).1 (isX7_wants h0).2 h.1 dX7_closingWith_85 ?_
  replace h := h.2
  refine g_aload_n C 0 dX7_closingWith_86 rfl ?_
  refine gf_RX7_19 C h0 dX7_closingWith_87 ?_
  refine g_bipush C (v := (6 : Int32)) dX7_closingWith_90 (by decide) ?_
  refine g_iload_n C 3 dX7_closingWith_92 rfl ?_
  refine g_imul C dX7_closingWith_93 ?_
  refine g_iload C 4 dX7_closingWith_94 rfl ?_
  refine g_iadd C dX7_closingWith_96 ?_
  refine g_iconst C (v := (0 : Int32)) dX7_closingWith_97 (by decide) ?_
  refine g_iast C (isX7_leaves h0).1 (isX7_leaves h0).2 h.1 dX7_closingWith_98 ?_
  replace h := h.2
  refine g_mem (fun m9 em9 => ?_)
  replace h := h m9 em9
  refine g_iinc C (v := v4 + 1) 4 [(4, .int (v4 + 1)), (0, .ref (Y.ad b)), (1, .int p1), (2, .int p2), (3, .int v3)] dX7_closingWith_99 rfl rfl (by decide) rfl ?_
  refine g_goto C 56 dX7_closingWith_102 (by decide) ?_
  refine g_lv (lv2 := [(0, .ref (Y.ad b)), (1, .int p1), (2, .int p2), (3, .int v3), (4, .int (v4 + 1))]) [1, 2, 3, 4, 0] ?_ rfl
  exact h
set_option maxRecDepth 20000 in
set_option maxHeartbeats 4000000 in
theorem tX7_closingWith_56 {X : XT} {Y : YT} {l0 : Launch} {b : Nat} {p1 : Int32} {p2 : Int32} {Q : Int32 → Mem → Prop} (C : Cx X Y 5 cX7_closingWith RX7 WX7_closingWith (rmB 8 192) l0) (hr : RI X Y cX7_closingWith .int Q) (hI : YI Y) (h0 : isX7 Y b) (v3 : Int32) (v4 : Int32) (μ : Mem) (h : nX7_closingWith_56 b p1 p2 Q (SX7_closingWith_8 X Y b p1 p2) (SX7_closingWith_56 X Y b p1 p2) v3 v4 μ) : G X Y 5 56 [(0, .ref (Y.ad b)), (1, .int p1), (2, .int p2), (3, .int v3), (4, .int v4)] [] μ := by
  unfold nX7_closingWith_56 at h
  refine g_iload C 4 dX7_closingWith_56 rfl ?_
  refine g_bipush C (v := (6 : Int32)) dX7_closingWith_58 (by decide) ?_
  refine g_icmp_ge C 105 dX7_closingWith_60 (by decide) (fun c4 => ?_) (fun c4 => ?_)
  · replace h := h.1 c4
    refine g_aload_n C 0 dX7_closingWith_105 rfl ?_
    refine gf_RX7_49 C h0 dX7_closingWith_106 ?_
    refine g_sipush C (v := (304 : Int32)) dX7_closingWith_109 (by decide) ?_
    refine g_iload_n C 3 dX7_closingWith_112 rfl ?_
    refine g_iadd C dX7_closingWith_113 ?_
    refine g_bipush C (v := (-4 : Int32)) dX7_closingWith_114 (by decide) ?_
    refine g_iast C (isX7_st h0).1 (isX7_st h0).2 h.1 dX7_closingWith_116 ?_
    replace h := h.2
    refine g_aload_n C 0 dX7_closingWith_117 rfl ?_
    refine g_dup C dX7_closingWith_118 rfl ?_
    refine gf_RX7_118 C h0 dX7_closingWith_119 ?_
    refine g_iconst C (v := (1 : Int32)) dX7_closingWith_122 (by decide) ?_
    refine g_iadd C dX7_closingWith_123 ?_
    refine gp_RX7_118 C h0 dX7_closingWith_124 ?_
    refine g_mem (fun m5 em5 => ?_)
    replace h := h m5 em5
    refine g_aload_n C 0 dX7_closingWith_127 rfl ?_
    refine g_iload_n C 2 dX7_closingWith_128 rfl ?_
    refine g_callVV C [.int p2] [] (ok_X7_findClosing hI h0 h) (cw_RX7_408 _) rfl dc_X7_findClosing ⟨Nat.le_of_ble_eq_true rfl, Nat.le_of_ble_eq_true rfl⟩ (isX7_lt h0) (isX7_sh h0) rfl rfl rfl rfl (Nat.le_of_ble_eq_true rfl) dX7_closingWith_129 (fun m6 h => ?_)
    refine g_aload_n C 0 dX7_closingWith_132 rfl ?_
    refine g_dup C dX7_closingWith_133 rfl ?_
    refine gf_RX7_118 C h0 dX7_closingWith_134 ?_
    refine g_iconst C (v := (1 : Int32)) dX7_closingWith_137 (by decide) ?_
    refine g_isub C dX7_closingWith_138 ?_
    refine gp_RX7_118 C h0 dX7_closingWith_139 ?_
    refine g_aload_n C 0 dX7_closingWith_142 rfl ?_
    refine gf_RX7_402 C h0 dX7_closingWith_143 ?_
    exact hr _ _ _ _ _ dX7_closingWith_146 rfl h
  · replace h := h.2 c4
    refine g_aload_n C 0 dX7_closingWith_63 rfl ?_
    refine gf_RX7_16 C h0 dX7_closingWith_64 ?_
    refine g_bipush C (v := (6 : Int32)) dX7_closingWith_67 (by decide) ?_
    refine g_iload_n C 3 dX7_closingWith_69 rfl ?_
    refine g_imul C dX7_closingWith_70 ?_
    refine g_iload C 4 dX7_closingWith_71 rfl ?_
    refine g_iadd C dX7_closingWith_73 ?_
    refine g_iload C 4 dX7_closingWith_74 rfl ?_
    refine g_iload_n C 1 dX7_closingWith_76 rfl ?_
    refine g_icmp_ne C 84 dX7_closingWith_77 (by decide) (fun c8 => ?_) (fun c8 => ?_)
    · replace h := h.1 c8
      refine g_iconst C (v := (0 : Int32)) dX7_closingWith_84 (by decide) ?_
      exact tX7_closingWith_85 C hr hI h0 _ _ _ _ _ h
    · replace h := h.2 c8
      refine g_iconst C (v := (1 : Int32)) dX7_closingWith_80 (by decide) ?_
      refine g_goto C 85 dX7_closingWith_81 (by decide) ?_
      exact tX7_closingWith_85 C hr hI h0 _ _ _ _ _ h
set_option maxRecDepth 20000 in
set_option maxHeartbeats 4000000 in
theorem ok_X7_closingWith {Y : YT} {l0 : Launch} {b : Nat} {p1 : Int32} {p2 : Int32} {μ : Mem} {Q : Int32 → Mem → Prop} (hI : YI Y) (h0 : isX7 Y b) (h : PX7_closingWith b p1 p2 μ Q) : MI l0 yX7_closingWith WX7_closingWith 8 192 Y [.ref (Y.ad b), .int p1, .int p2] μ Q := by
  refine mI_of (ty := .int) (cc := cX7_closingWith) (maxL := 5) (by decide +kernel) rfl hI (Nat.le_of_ble_eq_true rfl) (fun X C hr => ?_)
  replace C : Cx X Y 5 cX7_closingWith RX7 WX7_closingWith (rmB 8 192) l0 := C
  refine g_lv (lv2 := [(0, .ref (Y.ad b)), (1, .int p1), (2, .int p2)]) [0, 1, 2] ?_ rfl
  unfold PX7_closingWith at h
  replace h := h (SX7_closingWith_8 X Y b p1 p2) (SX7_closingWith_56 X Y b p1 p2) (fun v3 v4 μ z => tX7_closingWith_8 C hr hI h0 v3 v4 μ z) (fun v3 v4 μ z => tX7_closingWith_56 C hr hI h0 v3 v4 μ z)
  refine g_aload_n C 0 dX7_closingWith_0 rfl ?_
  refine gf_RX7_118 C h0 dX7_closingWith_1 ?_
  refine g_istore_n C [(3, .int (μ.1 b 2)), (0, .ref (Y.ad b)), (1, .int p1), (2, .int p2)] dX7_closingWith_4 (by decide) rfl ?_
  refine g_iconst C (v := (0 : Int32)) dX7_closingWith_5 (by decide) ?_
  refine g_istore C [(4, .int ((0 : Int32))), (3, .int (μ.1 b 2)), (0, .ref (Y.ad b)), (1, .int p1), (2, .int p2)] dX7_closingWith_6 (by decide) rfl ?_
  refine g_lv (lv2 := [(0, .ref (Y.ad b)), (1, .int p1), (2, .int p2), (3, .int (μ.1 b 2)), (4, .int ((0 : Int32)))]) [2, 3, 4, 1, 0] ?_ rfl
  exact h
set_option maxRecDepth 20000 in
set_option maxHeartbeats 4000000 in
theorem tX7_small_25 {X : XT} {Y : YT} {l0 : Launch} {b : Nat} {p1 : Int32} {p2 : Int32} {Q : Int32 → Mem → Prop} (C : Cx X Y 3 cX7_small RX7 WX7_small (rmB 9 216) l0) (hr : RI X Y cX7_small .int Q) (hI : YI Y) (h0 : isX7 Y b) (μ : Mem) (h : nX7_small_25 b p1 p2 Q  μ) : G X Y 3 25 [(0, .ref (Y.ad b)), (1, .int p1), (2, .int p2)] [] μ := by
  unfold nX7_small_25 at h
  refine g_iconst C (v := (-1 : Int32)) dX7_small_25 (by decide) ?_
  exact hr _ _ _ _ _ dX7_small_26 rfl h
set_option maxRecDepth 20000 in
set_option maxHeartbeats 4000000 in
theorem ok_X7_small {Y : YT} {l0 : Launch} {b : Nat} {p1 : Int32} {p2 : Int32} {μ : Mem} {Q : Int32 → Mem → Prop} (hI : YI Y) (h0 : isX7 Y b) (h : PX7_small b p1 p2 μ Q) : MI l0 yX7_small WX7_small 9 216 Y [.ref (Y.ad b), .int p1, .int p2] μ Q := by
  refine mI_of (ty := .int) (cc := cX7_small) (maxL := 3) (by decide +kernel) rfl hI (Nat.le_of_ble_eq_true rfl) (fun X C hr => ?_)
  replace C : Cx X Y 3 cX7_small RX7 WX7_small (rmB 9 216) l0 := C
  refine g_lv (lv2 := [(0, .ref (Y.ad b)), (1, .int p1), (2, .int p2)]) [0, 1, 2] ?_ rfl
  unfold PX7_small at h
  refine g_aload_n C 0 dX7_small_0 rfl ?_
  refine g_iload_n C 1 dX7_small_1 rfl ?_
  refine g_callVI C [.int p1] [] (ok_X7_isThing hI h0 h) (cw_RX7_250 _) rfl dc_X7_isThing ⟨Nat.le_of_ble_eq_true rfl, Nat.le_of_ble_eq_true rfl⟩ (isX7_lt h0) (isX7_sh h0) rfl rfl rfl rfl (Nat.le_of_ble_eq_true rfl) dX7_small_2 (fun r2 m1 h => ?_)
  refine g_if_eq C 25 dX7_small_5 (by decide) (fun c3 => ?_) (fun c3 => ?_)
  · replace h := h.1 c3
    exact tX7_small_25 C hr hI h0 _ h
  · replace h := h.2 c3
    refine g_iload_n C 2 dX7_small_8 rfl ?_
    refine g_iconst C (v := (4 : Int32)) dX7_small_9 (by decide) ?_
    refine g_callSI C [.int p2, .int ((4 : Int32))] [] (ok_X7_areDays hI  h) (cw_RX7_395 _) rfl dc_X7_areDays ⟨Nat.le_of_ble_eq_true rfl, Nat.le_of_ble_eq_true rfl⟩ rfl (Nat.le_of_ble_eq_true rfl) dX7_small_10 (fun r5 m4 h => ?_)
    refine g_if_eq C 25 dX7_small_13 (by decide) (fun c6 => ?_) (fun c6 => ?_)
    · replace h := h.1 c6
      exact tX7_small_25 C hr hI h0 _ h
    · replace h := h.2 c6
      refine g_aload_n C 0 dX7_small_16 rfl ?_
      refine g_iload_n C 1 dX7_small_17 rfl ?_
      refine g_iload_n C 2 dX7_small_18 rfl ?_
      refine g_callVI C [.int p1, .int p2] [] (ok_X7_closingWith hI h0 h) (cw_RX7_411 _) rfl dc_X7_closingWith ⟨Nat.le_of_ble_eq_true rfl, Nat.le_of_ble_eq_true rfl⟩ (isX7_lt h0) (isX7_sh h0) rfl rfl rfl rfl (Nat.le_of_ble_eq_true rfl) dX7_small_19 (fun r8 m7 h => ?_)
      refine g_goto C 26 dX7_small_22 (by decide) ?_
      exact hr _ _ _ _ _ dX7_small_26 rfl h
def SX7_dish_18 (X : XT) (Y : YT) (b : Nat) (p1 : Int32) : Int32 → Int32 → Int32 → Mem → Prop := fun v2 v3 v4 μ => G X Y 6 18 [(0, .ref (Y.ad b)), (1, .int p1), (2, .int v2), (3, .int v3), (4, .int v4)] [] μ
set_option maxRecDepth 20000 in
set_option maxHeartbeats 4000000 in
theorem tX7_dish_61 {X : XT} {Y : YT} {l0 : Launch} {b : Nat} {p1 : Int32} {Q : Int32 → Mem → Prop} (C : Cx X Y 6 cX7_dish RX7 WX7_dish (rmB 9 216) l0) (hr : RI X Y cX7_dish .int Q) (hI : YI Y) (h0 : isX7 Y b) (v2 : Int32) (v4 : Int32) (w0 : Int32) (μ : Mem) (h : nX7_dish_61 b p1 Q (SX7_dish_18 X Y b p1) v2 v4 w0 μ) : G X Y 6 61 [(0, .ref (Y.ad b)), (1, .int p1), (2, .int v2), (4, .int v4)] [.int w0] μ := by
  unfold nX7_dish_61 at h
  refine g_istore_n C [(3, .int w0), (0, .ref (Y.ad b)), (1, .int p1), (2, .int v2), (4, .int v4)] dX7_dish_61 (by decide) rfl ?_
  refine g_iinc C (v := v4 + 1) 4 [(4, .int (v4 + 1)), (3, .int w0), (0, .ref (Y.ad b)), (1, .int p1), (2, .int v2)] dX7_dish_62 rfl rfl (by decide) rfl ?_
  refine g_goto C 18 dX7_dish_65 (by decide) ?_
  refine g_lv (lv2 := [(0, .ref (Y.ad b)), (1, .int p1), (2, .int v2), (3, .int w0), (4, .int (v4 + 1))]) [2, 3, 4, 1, 0] ?_ rfl
  exact h
set_option maxRecDepth 20000 in
set_option maxHeartbeats 4000000 in
theorem tX7_dish_48 {X : XT} {Y : YT} {l0 : Launch} {b : Nat} {p1 : Int32} {Q : Int32 → Mem → Prop} (C : Cx X Y 6 cX7_dish RX7 WX7_dish (rmB 9 216) l0) (hr : RI X Y cX7_dish .int Q) (hI : YI Y) (h0 : isX7 Y b) (v3 : Int32) (v4 : Int32) (v5 : Int32) (w0 : Int32) (μ : Mem) (h : nX7_dish_48 b p1 Q (SX7_dish_18 X Y b p1) v3 v4 v5 w0 μ) : G X Y 6 48 [(0, .ref (Y.ad b)), (1, .int p1), (3, .int v3), (4, .int v4), (5, .int v5)] [.int w0] μ := by
  unfold nX7_dish_48 at h
  refine g_istore_n C [(2, .int w0), (0, .ref (Y.ad b)), (1, .int p1), (3, .int v3), (4, .int v4), (5, .int v5)] dX7_dish_48 (by decide) rfl ?_
  refine g_iload C 5 dX7_dish_49 rfl ?_
  refine g_iload_n C 3 dX7_dish_51 rfl ?_
  refine g_icmp_le C 60 dX7_dish_52 (by decide) (fun c8 => ?_) (fun c8 => ?_)
  · replace h := h.1 c8
    refine g_iload_n C 3 dX7_dish_60 rfl ?_
    refine g_lv (lv2 := [(0, .ref (Y.ad b)), (1, .int p1), (2, .int w0), (4, .int v4)]) [1, 2, 0, 4] ?_ rfl
    exact tX7_dish_61 C hr hI h0 _ _ _ _ h
  · replace h := h.2 c8
    refine g_iload C 5 dX7_dish_55 rfl ?_
    refine g_goto C 61 dX7_dish_57 (by decide) ?_
    refine g_lv (lv2 := [(0, .ref (Y.ad b)), (1, .int p1), (2, .int w0), (4, .int v4)]) [1, 2, 0, 4] ?_ rfl
    exact tX7_dish_61 C hr hI h0 _ _ _ _ h
set_option maxRecDepth 20000 in
set_option maxHeartbeats 4000000 in
theorem tX7_dish_18 {X : XT} {Y : YT} {l0 : Launch} {b : Nat} {p1 : Int32} {Q : Int32 → Mem → Prop} (C : Cx X Y 6 cX7_dish RX7 WX7_dish (rmB 9 216) l0) (hr : RI X Y cX7_dish .int Q) (hI : YI Y) (h0 : isX7 Y b) (v2 : Int32) (v3 : Int32) (v4 : Int32) (μ : Mem) (h : nX7_dish_18 b p1 Q (SX7_dish_18 X Y b p1) v2 v3 v4 μ) : G X Y 6 18 [(0, .ref (Y.ad b)), (1, .int p1), (2, .int v2), (3, .int v3), (4, .int v4)] [] μ := by
  unfold nX7_dish_18 at h
  refine g_iload C 4 dX7_dish_18 rfl ?_
  refine g_aload_n C 0 dX7_dish_20 rfl ?_
  refine gf_RX7_115 C h0 dX7_dish_21 ?_
  refine g_icmp_ge C 68 dX7_dish_24 (by decide) (fun c4 => ?_) (fun c4 => ?_)
  · replace h := h.1 c4
    refine g_iload_n C 2 dX7_dish_68 rfl ?_
    exact hr _ _ _ _ _ dX7_dish_69 rfl h
  · replace h := h.2 c4
    refine g_aload_n C 0 dX7_dish_27 rfl ?_
    refine g_iload C 4 dX7_dish_28 rfl ?_
    refine g_iload_n C 1 dX7_dish_30 rfl ?_
    refine g_callVI C [.int v4, .int p1] [] (ok_X7_closingWith hI h0 h) (cw_RX7_411 _) rfl dc_X7_closingWith ⟨Nat.le_of_ble_eq_true rfl, Nat.le_of_ble_eq_true rfl⟩ (isX7_lt h0) (isX7_sh h0) rfl rfl rfl rfl (Nat.le_of_ble_eq_true rfl) dX7_dish_31 (fun r6 m5 h => ?_)
    refine g_istore C [(5, .int r6), (0, .ref (Y.ad b)), (1, .int p1), (2, .int v2), (3, .int v3), (4, .int v4)] dX7_dish_34 (by decide) rfl ?_
    refine g_iload C 0 dX7_dish_36 rfl ?_
    refine g_iload_n C 4 dX7_dish_38 rfl ?_
    refine g_icmp_le C 47 dX7_dish_39 (by decide) (fun c7 => ?_) (fun c7 => ?_)
    · replace h := h.1 c7
      refine g_iload_n C 3 dX7_dish_47 rfl ?_
      refine g_lv (lv2 := [(0, .ref (Y.ad b)), (1, .int p1), (3, .int v3), (4, .int v4), (5, .int r6)]) [1, 2, 4, 5, 0] ?_ rfl
      exact tX7_dish_48 C hr hI h0 _ _ _ _ _ h
    · replace h := h.2 c7
      refine g_iload C 5 dX7_dish_42 rfl ?_
      refine g_goto C 48 dX7_dish_44 (by decide) ?_
      refine g_lv (lv2 := [(0, .ref (Y.ad b)), (1, .int p1), (3, .int v3), (4, .int v4), (5, .int r6)]) [1, 2, 4, 5, 0] ?_ rfl
      exact tX7_dish_48 C hr hI h0 _ _ _ _ _ h
set_option maxRecDepth 20000 in
set_option maxHeartbeats 4000000 in
theorem ok_X7_dish {Y : YT} {l0 : Launch} {b : Nat} {p1 : Int32} {μ : Mem} {Q : Int32 → Mem → Prop} (hI : YI Y) (h0 : isX7 Y b) (h : PX7_dish b p1 μ Q) : MI l0 yX7_dish WX7_dish 9 216 Y [.ref (Y.ad b), .int p1] μ Q := by
  refine mI_of (ty := .int) (cc := cX7_dish) (maxL := 6) (by decide +kernel) rfl hI (Nat.le_of_ble_eq_true rfl) (fun X C hr => ?_)
  replace C : Cx X Y 6 cX7_dish RX7 WX7_dish (rmB 9 216) l0 := C
  refine g_lv (lv2 := [(0, .ref (Y.ad b)), (1, .int p1)]) [0, 1] ?_ rfl
  unfold PX7_dish at h
  replace h := h (SX7_dish_18 X Y b p1) (fun v2 v3 v4 μ z => tX7_dish_18 C hr hI h0 v2 v3 v4 μ z)
  refine g_iload_n C 1 dX7_dish_0 rfl ?_
  refine g_iconst C (v := (4 : Int32)) dX7_dish_1 (by decide) ?_
  refine g_callSI C [.int p1, .int ((4 : Int32))] [] (ok_X7_areDays hI  h) (cw_RX7_395 _) rfl dc_X7_areDays ⟨Nat.le_of_ble_eq_true rfl, Nat.le_of_ble_eq_true rfl⟩ rfl (Nat.le_of_ble_eq_true rfl) dX7_dish_2 (fun r2 m1 h => ?_)
  refine g_if_ne C 10 dX7_dish_5 (by decide) (fun c3 => ?_) (fun c3 => ?_)
  · replace h := h.1 c3
    refine g_bipush C (v := (-4 : Int32)) dX7_dish_10 (by decide) ?_
    refine g_istore_n C [(2, .int ((-4 : Int32))), (0, .ref (Y.ad b)), (1, .int p1)] dX7_dish_12 (by decide) rfl ?_
    refine g_iconst C (v := (-1 : Int32)) dX7_dish_13 (by decide) ?_
    refine g_istore_n C [(3, .int ((-1 : Int32))), (2, .int ((-4 : Int32))), (0, .ref (Y.ad b)), (1, .int p1)] dX7_dish_14 (by decide) rfl ?_
    refine g_iconst C (v := (0 : Int32)) dX7_dish_15 (by decide) ?_
    refine g_istore C [(4, .int ((0 : Int32))), (3, .int ((-1 : Int32))), (2, .int ((-4 : Int32))), (0, .ref (Y.ad b)), (1, .int p1)] dX7_dish_16 (by decide) rfl ?_
    refine g_lv (lv2 := [(0, .ref (Y.ad b)), (1, .int p1), (2, .int ((-4 : Int32))), (3, .int ((-1 : Int32))), (4, .int ((0 : Int32)))]) [3, 4, 2, 1, 0] ?_ rfl
    exact h
  · replace h := h.2 c3
    refine g_iconst C (v := (-1 : Int32)) dX7_dish_8 (by decide) ?_
    exact hr _ _ _ _ _ dX7_dish_9 rfl h
set_option maxRecDepth 20000 in
set_option maxHeartbeats 4000000 in
theorem ok_X7_cheap {Y : YT} {l0 : Launch} {b : Nat} {p1 : Int32} {p2 : Int32} {p3 : Int32} {μ : Mem} {Q : Int32 → Mem → Prop} (hI : YI Y) (h0 : isX7 Y b) (h : PX7_cheap b p1 p2 p3 μ Q) : MI l0 yX7_cheap WX7_cheap 8 196 Y [.ref (Y.ad b), .int p1, .int p2, .int p3] μ Q := by
  refine mI_of (ty := .int) (cc := cX7_cheap) (maxL := 5) (by decide +kernel) rfl hI (Nat.le_of_ble_eq_true rfl) (fun X C hr => ?_)
  replace C : Cx X Y 5 cX7_cheap RX7 WX7_cheap (rmB 8 196) l0 := C
  refine g_lv (lv2 := [(0, .ref (Y.ad b)), (1, .int p1), (2, .int p2), (3, .int p3)]) [0, 1, 2, 3] ?_ rfl
  unfold PX7_cheap at h
  refine g_aload_n C 0 dX7_cheap_0 rfl ?_
  refine g_iload_n C 1 dX7_cheap_1 rfl ?_
  refine g_callVI C [.int p1] [] (ok_X7_isThing hI h0 h) (cw_RX7_250 _) rfl dc_X7_isThing ⟨Nat.le_of_ble_eq_true rfl, Nat.le_of_ble_eq_true rfl⟩ (isX7_lt h0) (isX7_sh h0) rfl rfl rfl rfl (Nat.le_of_ble_eq_true rfl) dX7_cheap_2 (fun r2 m1 h => ?_)
  refine g_if_eq C 28 dX7_cheap_5 (by decide) (fun c3 => ?_) (fun c3 => ?_)
  · replace h := h.1 c3
    refine g_iconst C (v := (-1 : Int32)) dX7_cheap_28 (by decide) ?_
    exact hr _ _ _ _ _ dX7_cheap_29 rfl h
  · replace h := h.2 c3
    refine g_iload_n C 2 dX7_cheap_8 rfl ?_
    refine g_i2l C dX7_cheap_9 ?_
    refine g_lconst C (v := (0 : Int64)) dX7_cheap_10 (by decide) ?_
    refine g_ldc2 C (v := (60 : Int64)) (List.mem_cons_of_mem _ mL_RX7_414) dX7_cheap_11 ?_
    refine g_callSI C [.long p2.toInt64, .long ((0 : Int64)), .long ((60 : Int64))] [] (ok_X7_in hI  h) (cw_RX7_134 _) rfl dc_X7_in ⟨Nat.le_of_ble_eq_true rfl, Nat.le_of_ble_eq_true rfl⟩ rfl (Nat.le_of_ble_eq_true rfl) dX7_cheap_14 (fun r5 m4 h => ?_)
    refine g_if_eq C 28 dX7_cheap_17 (by decide) (fun c6 => ?_) (fun c6 => ?_)
    · replace h := h.1 c6
      refine g_iconst C (v := (-1 : Int32)) dX7_cheap_28 (by decide) ?_
      exact hr _ _ _ _ _ dX7_cheap_29 rfl h
    · replace h := h.2 c6
      refine g_iload_n C 3 dX7_cheap_20 rfl ?_
      refine g_iconst C (v := (5 : Int32)) dX7_cheap_21 (by decide) ?_
      refine g_callSI C [.int p3, .int ((5 : Int32))] [] (ok_X7_areDays hI  h) (cw_RX7_395 _) rfl dc_X7_areDays ⟨Nat.le_of_ble_eq_true rfl, Nat.le_of_ble_eq_true rfl⟩ rfl (Nat.le_of_ble_eq_true rfl) dX7_cheap_22 (fun r8 m7 h => ?_)
      refine g_if_ne C 30 dX7_cheap_25 (by decide) (fun c9 => ?_) (fun c9 => ?_)
      · replace h := h.1 c9
        refine g_aload_n C 0 dX7_cheap_30 rfl ?_
        refine gf_RX7_7 C h0 dX7_cheap_31 ?_
        refine g_iconst C (v := (3 : Int32)) dX7_cheap_34 (by decide) ?_
        refine g_iload_n C 1 dX7_cheap_35 rfl ?_
        refine g_imul C dX7_cheap_36 ?_
        refine g_iconst C (v := (2 : Int32)) dX7_cheap_37 (by decide) ?_
        refine g_iadd C dX7_cheap_38 ?_
        refine g_iald C (isX7_thing h0).1 (isX7_thing h0).2 h.1 dX7_cheap_39 ?_
        replace h := h.2
        refine g_topi (fun x10 ex10 => ?_)
        replace h := h x10 ex10
        refine g_istore C [(4, .int x10), (0, .ref (Y.ad b)), (1, .int p1), (2, .int p2), (3, .int p3)] dX7_cheap_40 (by decide) rfl ?_
        refine g_aload_n C 1 dX7_cheap_42 rfl ?_
        refine gf_RX7_7 C h0 dX7_cheap_43 ?_
        refine g_iconst C (v := (3 : Int32)) dX7_cheap_46 (by decide) ?_
        refine g_iload_n C 2 dX7_cheap_47 rfl ?_
        refine g_imul C dX7_cheap_48 ?_
        refine g_iconst C (v := (2 : Int32)) dX7_cheap_49 (by decide) ?_
        refine g_iadd C dX7_cheap_50 ?_
        refine g_iload_n C 3 dX7_cheap_51 rfl ?_
        refine g_iast C (isX7_thing h0).1 (isX7_thing h0).2 h.1 dX7_cheap_52 ?_
        replace h := h.2
        refine g_aload_n C 1 dX7_cheap_53 rfl ?_
        refine g_iload_n C 4 dX7_cheap_54 rfl ?_
        refine g_iconst C (v := (0 : Int32)) dX7_cheap_55 (by decide) ?_
        refine g_callVV C [.int p3, .int ((0 : Int32))] [] (ok_X7_findBest hI h0 h) (cw_RX7_398 _) rfl dc_X7_findBest ⟨Nat.le_of_ble_eq_true rfl, Nat.le_of_ble_eq_true rfl⟩ (isX7_lt h0) (isX7_sh h0) rfl rfl rfl rfl (Nat.le_of_ble_eq_true rfl) dX7_cheap_56 (fun m11 h => ?_)
        refine g_aload_n C 1 dX7_cheap_59 rfl ?_
        refine gf_RX7_7 C h0 dX7_cheap_60 ?_
        refine g_iconst C (v := (3 : Int32)) dX7_cheap_63 (by decide) ?_
        refine g_iload_n C 2 dX7_cheap_64 rfl ?_
        refine g_imul C dX7_cheap_65 ?_
        refine g_iconst C (v := (2 : Int32)) dX7_cheap_66 (by decide) ?_
        refine g_iadd C dX7_cheap_67 ?_
        refine g_iload C 0 dX7_cheap_68 rfl ?_
        refine g_iast C (isX7_thing h0).1 (isX7_thing h0).2 h.1 dX7_cheap_70 ?_
        replace h := h.2
        refine g_aload_n C 1 dX7_cheap_71 rfl ?_
        refine gf_RX7_374 C h0 dX7_cheap_72 ?_
        refine g_if_ne C 83 dX7_cheap_75 (by decide) (fun c13 => ?_) (fun c13 => ?_)
        · replace h := h.1 c13
          refine g_aload_n C 1 dX7_cheap_83 rfl ?_
          refine gf_RX7_368 C h0 dX7_cheap_84 ?_
          exact hr _ _ _ _ _ dX7_cheap_87 rfl h
        · replace h := h.2 c13
          refine g_bipush C (v := (-4 : Int32)) dX7_cheap_78 (by decide) ?_
          refine g_goto C 87 dX7_cheap_80 (by decide) ?_
          exact hr _ _ _ _ _ dX7_cheap_87 rfl h
      · replace h := h.2 c9
        refine g_iconst C (v := (-1 : Int32)) dX7_cheap_28 (by decide) ?_
        exact hr _ _ _ _ _ dX7_cheap_29 rfl h
set_option maxRecDepth 20000 in
set_option maxHeartbeats 4000000 in
theorem tX7_cold_43 {X : XT} {Y : YT} {l0 : Launch} {b : Nat} {p1 : Int32} {p2 : Int32} {Q : Int32 → Mem → Prop} (C : Cx X Y 4 cX7_cold RX7 WX7_cold (rmB 8 196) l0) (hr : RI X Y cX7_cold .int Q) (hI : YI Y) (h0 : isX7 Y b) (v3 : Int32) (w0 : Int32) (w1 : Int32) (μ : Mem) (h : nX7_cold_43 b p1 p2 Q v3 w0 w1 μ) : G X Y 4 43 [(0, .ref (Y.ad b)), (1, .int p1), (2, .int p2), (3, .int v3)] [.int w0, .int w1, .ref (Y.ad (b + 1))] μ := by
  unfold nX7_cold_43 at h
  refine g_iast C (isX7_thing h0).1 (isX7_thing h0).2 h.1 dX7_cold_43 ?_
  replace h := h.2
  refine g_aload_n C 0 dX7_cold_44 rfl ?_
  refine g_iload_n C 2 dX7_cold_45 rfl ?_
  refine g_iconst C (v := (0 : Int32)) dX7_cold_46 (by decide) ?_
  refine g_callVV C [.int p2, .int ((0 : Int32))] [] (ok_X7_findBest hI h0 h) (cw_RX7_398 _) rfl dc_X7_findBest ⟨Nat.le_of_ble_eq_true rfl, Nat.le_of_ble_eq_true rfl⟩ (isX7_lt h0) (isX7_sh h0) rfl rfl rfl rfl (Nat.le_of_ble_eq_true rfl) dX7_cold_47 (fun m10 h => ?_)
  refine g_aload_n C 0 dX7_cold_50 rfl ?_
  refine gf_RX7_7 C h0 dX7_cold_51 ?_
  refine g_iconst C (v := (3 : Int32)) dX7_cold_54 (by decide) ?_
  refine g_iload_n C 1 dX7_cold_55 rfl ?_
  refine g_imul C dX7_cold_56 ?_
  refine g_iload_n C 3 dX7_cold_57 rfl ?_
  refine g_iast C (isX7_thing h0).1 (isX7_thing h0).2 h.1 dX7_cold_58 ?_
  replace h := h.2
  refine g_aload_n C 0 dX7_cold_59 rfl ?_
  refine gf_RX7_374 C h0 dX7_cold_60 ?_
  refine g_if_ne C 71 dX7_cold_63 (by decide) (fun c12 => ?_) (fun c12 => ?_)
  · replace h := h.1 c12
    refine g_aload_n C 0 dX7_cold_71 rfl ?_
    refine gf_RX7_365 C h0 dX7_cold_72 ?_
    exact hr _ _ _ _ _ dX7_cold_75 rfl h
  · replace h := h.2 c12
    refine g_bipush C (v := (-4 : Int32)) dX7_cold_66 (by decide) ?_
    refine g_goto C 75 dX7_cold_68 (by decide) ?_
    exact hr _ _ _ _ _ dX7_cold_75 rfl h
set_option maxRecDepth 20000 in
set_option maxHeartbeats 4000000 in
theorem ok_X7_cold {Y : YT} {l0 : Launch} {b : Nat} {p1 : Int32} {p2 : Int32} {μ : Mem} {Q : Int32 → Mem → Prop} (hI : YI Y) (h0 : isX7 Y b) (h : PX7_cold b p1 p2 μ Q) : MI l0 yX7_cold WX7_cold 8 196 Y [.ref (Y.ad b), .int p1, .int p2] μ Q := by
  refine mI_of (ty := .int) (cc := cX7_cold) (maxL := 4) (by decide +kernel) rfl hI (Nat.le_of_ble_eq_true rfl) (fun X C hr => ?_)
  replace C : Cx X Y 4 cX7_cold RX7 WX7_cold (rmB 8 196) l0 := C
  refine g_lv (lv2 := [(0, .ref (Y.ad b)), (1, .int p1), (2, .int p2)]) [0, 1, 2] ?_ rfl
  unfold PX7_cold at h
  refine g_aload_n C 0 dX7_cold_0 rfl ?_
  refine g_iload_n C 1 dX7_cold_1 rfl ?_
  refine g_callVI C [.int p1] [] (ok_X7_isThing hI h0 h) (cw_RX7_250 _) rfl dc_X7_isThing ⟨Nat.le_of_ble_eq_true rfl, Nat.le_of_ble_eq_true rfl⟩ (isX7_lt h0) (isX7_sh h0) rfl rfl rfl rfl (Nat.le_of_ble_eq_true rfl) dX7_cold_2 (fun r2 m1 h => ?_)
  refine g_if_eq C 16 dX7_cold_5 (by decide) (fun c3 => ?_) (fun c3 => ?_)
  · replace h := h.1 c3
    refine g_iconst C (v := (-1 : Int32)) dX7_cold_16 (by decide) ?_
    exact hr _ _ _ _ _ dX7_cold_17 rfl h
  · replace h := h.2 c3
    refine g_iload_n C 2 dX7_cold_8 rfl ?_
    refine g_iconst C (v := (5 : Int32)) dX7_cold_9 (by decide) ?_
    refine g_callSI C [.int p2, .int ((5 : Int32))] [] (ok_X7_areDays hI  h) (cw_RX7_395 _) rfl dc_X7_areDays ⟨Nat.le_of_ble_eq_true rfl, Nat.le_of_ble_eq_true rfl⟩ rfl (Nat.le_of_ble_eq_true rfl) dX7_cold_10 (fun r5 m4 h => ?_)
    refine g_if_ne C 18 dX7_cold_13 (by decide) (fun c6 => ?_) (fun c6 => ?_)
    · replace h := h.1 c6
      refine g_aload_n C 0 dX7_cold_18 rfl ?_
      refine g_iload_n C 1 dX7_cold_19 rfl ?_
      refine g_callVI C [.int p1] [] (ok_X7_keeps hI h0 h) (cw_RX7_308 _) rfl dc_X7_keeps ⟨Nat.le_of_ble_eq_true rfl, Nat.le_of_ble_eq_true rfl⟩ (isX7_lt h0) (isX7_sh h0) rfl rfl rfl rfl (Nat.le_of_ble_eq_true rfl) dX7_cold_20 (fun r8 m7 h => ?_)
      refine g_istore_n C [(3, .int r8), (0, .ref (Y.ad b)), (1, .int p1), (2, .int p2)] dX7_cold_23 (by decide) rfl ?_
      refine g_aload_n C 1 dX7_cold_24 rfl ?_
      refine gf_RX7_7 C h0 dX7_cold_25 ?_
      refine g_iconst C (v := (3 : Int32)) dX7_cold_28 (by decide) ?_
      refine g_iload_n C 2 dX7_cold_29 rfl ?_
      refine g_imul C dX7_cold_30 ?_
      refine g_iload_n C 0 dX7_cold_31 rfl ?_
      refine g_iconst C (v := (4 : Int32)) dX7_cold_32 (by decide) ?_
      refine g_icmp_ge C 42 dX7_cold_33 (by decide) (fun c9 => ?_) (fun c9 => ?_)
      · replace h := h.1 c9
        refine g_iconst C (v := (4 : Int32)) dX7_cold_42 (by decide) ?_
        refine g_lv (lv2 := [(0, .ref (Y.ad b)), (1, .int p1), (2, .int p2), (3, .int r8)]) [1, 2, 3, 0] ?_ rfl
        exact tX7_cold_43 C hr hI h0 _ _ _ _ h
      · replace h := h.2 c9
        refine g_iload_n C 0 dX7_cold_36 rfl ?_
        refine g_iconst C (v := (1 : Int32)) dX7_cold_37 (by decide) ?_
        refine g_iadd C dX7_cold_38 ?_
        refine g_goto C 43 dX7_cold_39 (by decide) ?_
        refine g_lv (lv2 := [(0, .ref (Y.ad b)), (1, .int p1), (2, .int p2), (3, .int r8)]) [1, 2, 3, 0] ?_ rfl
        exact tX7_cold_43 C hr hI h0 _ _ _ _ h
    · replace h := h.2 c6
      refine g_iconst C (v := (-1 : Int32)) dX7_cold_16 (by decide) ?_
      exact hr _ _ _ _ _ dX7_cold_17 rfl h
set_option maxRecDepth 20000 in
set_option maxHeartbeats 4000000 in
theorem tX7_isSheet_28 {X : XT} {Y : YT} {l0 : Launch} {p0 : Int32} {p1 : Int32} {Q : Int32 → Mem → Prop} (C : Cx X Y 2 cX7_isSheet RX7 WX7_isSheet (rmB 1 25) l0) (hr : RI X Y cX7_isSheet .boolean Q) (hI : YI Y)  (μ : Mem) (h : nX7_isSheet_28 p0 p1 Q  μ) : G X Y 2 28 [(0, .int p0), (1, .int p1)] [] μ := by
  unfold nX7_isSheet_28 at h
  refine g_iconst C (v := (0 : Int32)) dX7_isSheet_28 (by decide) ?_
  exact hr _ _ _ _ _ dX7_isSheet_29 rfl h
set_option maxRecDepth 20000 in
set_option maxHeartbeats 4000000 in
theorem ok_X7_isSheet {Y : YT} {l0 : Launch} {p0 : Int32} {p1 : Int32} {μ : Mem} {Q : Int32 → Mem → Prop} (hI : YI Y) (h : PX7_isSheet p0 p1 μ Q) : MI l0 yX7_isSheet WX7_isSheet 1 25 Y [.int p0, .int p1] μ Q := by
  refine mI_of (ty := .boolean) (cc := cX7_isSheet) (maxL := 2) (by decide +kernel) rfl hI (Nat.le_of_ble_eq_true rfl) (fun X C hr => ?_)
  replace C : Cx X Y 2 cX7_isSheet RX7 WX7_isSheet (rmB 1 25) l0 := C
  refine g_lv (lv2 := [(0, .int p0), (1, .int p1)]) [0, 1] ?_ rfl
  unfold PX7_isSheet at h
  refine g_iload_n C 0 dX7_isSheet_0 rfl ?_
  refine g_i2l C dX7_isSheet_1 ?_
  refine g_lconst C (v := (0 : Int64)) dX7_isSheet_2 (by decide) ?_
  refine g_ldc2 C (v := (3 : Int64)) (List.mem_cons_of_mem _ mL_RX7_225) dX7_isSheet_3 ?_
  refine g_callSI C [.long p0.toInt64, .long ((0 : Int64)), .long ((3 : Int64))] [] (ok_X7_in hI  h) (cw_RX7_134 _) rfl dc_X7_in ⟨Nat.le_of_ble_eq_true rfl, Nat.le_of_ble_eq_true rfl⟩ rfl (Nat.le_of_ble_eq_true rfl) dX7_isSheet_6 (fun r2 m1 h => ?_)
  refine g_if_eq C 28 dX7_isSheet_9 (by decide) (fun c3 => ?_) (fun c3 => ?_)
  · replace h := h.1 c3
    exact tX7_isSheet_28 C hr hI  _ h
  · replace h := h.2 c3
    refine g_iload_n C 1 dX7_isSheet_12 rfl ?_
    refine g_i2l C dX7_isSheet_13 ?_
    refine g_lconst C (v := (0 : Int64)) dX7_isSheet_14 (by decide) ?_
    refine g_ldc2 C (v := (2 : Int64)) (List.mem_cons_of_mem _ mL_RX7_254) dX7_isSheet_15 ?_
    refine g_callSI C [.long p1.toInt64, .long ((0 : Int64)), .long ((2 : Int64))] [] (ok_X7_in hI  h) (cw_RX7_134 _) rfl dc_X7_in ⟨Nat.le_of_ble_eq_true rfl, Nat.le_of_ble_eq_true rfl⟩ rfl (Nat.le_of_ble_eq_true rfl) dX7_isSheet_18 (fun r5 m4 h => ?_)
    refine g_if_eq C 28 dX7_isSheet_21 (by decide) (fun c6 => ?_) (fun c6 => ?_)
    · replace h := h.1 c6
      exact tX7_isSheet_28 C hr hI  _ h
    · replace h := h.2 c6
      refine g_iconst C (v := (1 : Int32)) dX7_isSheet_24 (by decide) ?_
      refine g_goto C 29 dX7_isSheet_25 (by decide) ?_
      exact hr _ _ _ _ _ dX7_isSheet_29 rfl h
