def SX7_sheet_40 (X : XT) (Y : YT) (b : Nat) (p1 : Int32) (p2 : Int32) (p3 : Int32) : Int32 → Mem → Prop := fun v4 μ => G X Y 5 40 [(0, .ref (Y.ad b)), (1, .int p1), (2, .int p2), (3, .int p3), (4, .int v4)] [] μ
set_option maxRecDepth 20000 in
set_option maxHeartbeats 4000000 in
theorem tX7_sheet_40 {X : XT} {Y : YT} {l0 : Launch} {b : Nat} {p1 : Int32} {p2 : Int32} {p3 : Int32} {Q : Int32 → Mem → Prop} (C : Cx X Y 5 cX7_sheet RX7 WX7_sheet (rmB 2 46) l0) (hr : RI X Y cX7_sheet .int Q) (hI : YI Y) (h0 : isX7 Y b) (v4 : Int32) (μ : Mem) (h : nX7_sheet_40 b p1 p2 p3 Q (SX7_sheet_40 X Y b p1 p2 p3) v4 μ) : G X Y 5 40 [(0, .ref (Y.ad b)), (1, .int p1), (2, .int p2), (3, .int p3), (4, .int v4)] [] μ := by
  unfold nX7_sheet_40 at h
  refine g_iload C 4 dX7_sheet_40 rfl ?_
  refine g_bipush C (v := (40 : Int32)) dX7_sheet_42 (by decide) ?_
  refine g_icmp_ge C 66 dX7_sheet_44 (by decide) (fun c7 => ?_) (fun c7 => ?_)
  · replace h := h.1 c7
    refine g_iconst C (v := (1 : Int32)) dX7_sheet_66 (by decide) ?_
    exact hr _ _ _ _ _ dX7_sheet_67 rfl h
  · replace h := h.2 c7
    refine g_aload_n C 0 dX7_sheet_47 rfl ?_
    refine gf_RX7_80 C h0 dX7_sheet_48 ?_
    refine g_bipush C (v := (40 : Int32)) dX7_sheet_51 (by decide) ?_
    refine g_iload_n C 1 dX7_sheet_53 rfl ?_
    refine g_imul C dX7_sheet_54 ?_
    refine g_iload C 4 dX7_sheet_55 rfl ?_
    refine g_iadd C dX7_sheet_57 ?_
    refine g_iconst C (v := (0 : Int32)) dX7_sheet_58 (by decide) ?_
    refine g_iast C (isX7_cells h0).1 (isX7_cells h0).2 h.1 dX7_sheet_59 ?_
    replace h := h.2
    refine g_iinc C (v := v4 + 1) 4 [(4, .int (v4 + 1)), (0, .ref (Y.ad b)), (1, .int p1), (2, .int p2), (3, .int p3)] dX7_sheet_60 rfl rfl (by decide) rfl ?_
    refine g_goto C 40 dX7_sheet_63 (by decide) ?_
    refine g_lv (lv2 := [(0, .ref (Y.ad b)), (1, .int p1), (2, .int p2), (3, .int p3), (4, .int (v4 + 1))]) [1, 2, 3, 4, 0] ?_ rfl
    exact h
set_option maxRecDepth 20000 in
set_option maxHeartbeats 4000000 in
theorem ok_X7_sheet {Y : YT} {l0 : Launch} {b : Nat} {p1 : Int32} {p2 : Int32} {p3 : Int32} {μ : Mem} {Q : Int32 → Mem → Prop} (hI : YI Y) (h0 : isX7 Y b) (h : PX7_sheet b p1 p2 p3 μ Q) : MI l0 yX7_sheet WX7_sheet 2 46 Y [.ref (Y.ad b), .int p1, .int p2, .int p3] μ Q := by
  refine mI_of (ty := .int) (cc := cX7_sheet) (maxL := 5) (by decide +kernel) rfl hI (Nat.le_of_ble_eq_true rfl) (fun X C hr => ?_)
  replace C : Cx X Y 5 cX7_sheet RX7 WX7_sheet (rmB 2 46) l0 := C
  refine g_lv (lv2 := [(0, .ref (Y.ad b)), (1, .int p1), (2, .int p2), (3, .int p3)]) [0, 1, 2, 3] ?_ rfl
  unfold PX7_sheet at h
  replace h := h (SX7_sheet_40 X Y b p1 p2 p3) (fun v4 μ z => tX7_sheet_40 C hr hI h0 v4 μ z)
  refine g_iload_n C 1 dX7_sheet_0 rfl ?_
  refine g_iload_n C 2 dX7_sheet_1 rfl ?_
  refine g_callSI C [.int p1, .int p2] [] (ok_X7_isSheet hI  h) (cw_RX7_416 _) rfl dc_X7_isSheet ⟨Nat.le_of_ble_eq_true rfl, Nat.le_of_ble_eq_true rfl⟩ rfl (Nat.le_of_ble_eq_true rfl) dX7_sheet_2 (fun r2 m1 h => ?_)
  refine g_if_eq C 14 dX7_sheet_5 (by decide) (fun c3 => ?_) (fun c3 => ?_)
  · replace h := h.1 c3
    refine g_iconst C (v := (-1 : Int32)) dX7_sheet_14 (by decide) ?_
    exact hr _ _ _ _ _ dX7_sheet_15 rfl h
  · replace h := h.2 c3
    refine g_iload_n C 3 dX7_sheet_8 rfl ?_
    refine g_bipush C (v := (40 : Int32)) dX7_sheet_9 (by decide) ?_
    refine g_icmp_le C 16 dX7_sheet_11 (by decide) (fun c4 => ?_) (fun c4 => ?_)
    · replace h := h.1 c4
      refine g_iload_n C 3 dX7_sheet_16 rfl ?_
      refine g_if_ge C 23 dX7_sheet_17 (by decide) (fun c5 => ?_) (fun c5 => ?_)
      · replace h := h.1 c5
        refine g_aload_n C 0 dX7_sheet_23 rfl ?_
        refine gf_RX7_74 C h0 dX7_sheet_24 ?_
        refine g_iload_n C 1 dX7_sheet_27 rfl ?_
        refine g_iload_n C 2 dX7_sheet_28 rfl ?_
        refine g_iast C (isX7_lanes h0).1 (isX7_lanes h0).2 h.1 dX7_sheet_29 ?_
        replace h := h.2
        refine g_aload_n C 0 dX7_sheet_30 rfl ?_
        refine gf_RX7_77 C h0 dX7_sheet_31 ?_
        refine g_iload_n C 1 dX7_sheet_34 rfl ?_
        refine g_iload_n C 3 dX7_sheet_35 rfl ?_
        refine g_iast C (isX7_sizes h0).1 (isX7_sizes h0).2 h.1 dX7_sheet_36 ?_
        replace h := h.2
        refine g_mem (fun m6 em6 => ?_)
        replace h := h m6 em6
        refine g_iconst C (v := (0 : Int32)) dX7_sheet_37 (by decide) ?_
        refine g_istore C [(4, .int ((0 : Int32))), (0, .ref (Y.ad b)), (1, .int p1), (2, .int p2), (3, .int p3)] dX7_sheet_38 (by decide) rfl ?_
        refine g_lv (lv2 := [(0, .ref (Y.ad b)), (1, .int p1), (2, .int p2), (3, .int p3), (4, .int ((0 : Int32)))]) [1, 2, 3, 4, 0] ?_ rfl
        exact h
      · replace h := h.2 c5
        refine g_bipush C (v := (-14 : Int32)) dX7_sheet_20 (by decide) ?_
        exact hr _ _ _ _ _ dX7_sheet_22 rfl h
    · replace h := h.2 c4
      refine g_iconst C (v := (-1 : Int32)) dX7_sheet_14 (by decide) ?_
      exact hr _ _ _ _ _ dX7_sheet_15 rfl h
set_option maxRecDepth 20000 in
set_option maxHeartbeats 4000000 in
theorem ok_X7_lay {Y : YT} {l0 : Launch} {b : Nat} {p1 : Int32} {p2 : Int32} {p3 : Int32} {μ : Mem} {Q : Int32 → Mem → Prop} (hI : YI Y) (h0 : isX7 Y b) (h : PX7_lay b p1 p2 p3 μ Q) : MI l0 yX7_lay WX7_lay 2 46 Y [.ref (Y.ad b), .int p1, .int p2, .int p3] μ Q := by
  refine mI_of (ty := .int) (cc := cX7_lay) (maxL := 4) (by decide +kernel) rfl hI (Nat.le_of_ble_eq_true rfl) (fun X C hr => ?_)
  replace C : Cx X Y 4 cX7_lay RX7 WX7_lay (rmB 2 46) l0 := C
  refine g_lv (lv2 := [(0, .ref (Y.ad b)), (1, .int p1), (2, .int p2), (3, .int p3)]) [0, 1, 2, 3] ?_ rfl
  unfold PX7_lay at h
  refine g_iload_n C 1 dX7_lay_0 rfl ?_
  refine g_iconst C (v := (0 : Int32)) dX7_lay_1 (by decide) ?_
  refine g_callSI C [.int p1, .int ((0 : Int32))] [] (ok_X7_isSheet hI  h) (cw_RX7_416 _) rfl dc_X7_isSheet ⟨Nat.le_of_ble_eq_true rfl, Nat.le_of_ble_eq_true rfl⟩ rfl (Nat.le_of_ble_eq_true rfl) dX7_lay_2 (fun r2 m1 h => ?_)
  refine g_if_ne C 10 dX7_lay_5 (by decide) (fun c3 => ?_) (fun c3 => ?_)
  · replace h := h.1 c3
    refine g_aload_n C 0 dX7_lay_10 rfl ?_
    refine gf_RX7_74 C h0 dX7_lay_11 ?_
    refine g_iload_n C 1 dX7_lay_14 rfl ?_
    refine g_iald C (isX7_lanes h0).1 (isX7_lanes h0).2 h.1 dX7_lay_15 ?_
    replace h := h.2
    refine g_bipush C (v := (-4 : Int32)) dX7_lay_16 (by decide) ?_
    refine g_icmp_ne C 24 dX7_lay_18 (by decide) (fun c4 => ?_) (fun c4 => ?_)
    · replace h := h.1 c4
      refine g_iload_n C 2 dX7_lay_24 rfl ?_
      refine g_i2l C dX7_lay_25 ?_
      refine g_lconst C (v := (0 : Int64)) dX7_lay_26 (by decide) ?_
      refine g_aload_n C 0 dX7_lay_27 rfl ?_
      refine gf_RX7_77 C h0 dX7_lay_28 ?_
      refine g_iload_n C 1 dX7_lay_31 rfl ?_
      refine g_iald C (isX7_sizes h0).1 (isX7_sizes h0).2 h.1 dX7_lay_32 ?_
      replace h := h.2
      refine g_iconst C (v := (1 : Int32)) dX7_lay_33 (by decide) ?_
      refine g_isub C dX7_lay_34 ?_
      refine g_i2l C dX7_lay_35 ?_
      refine g_callSI C [.long p2.toInt64, .long ((0 : Int64)), .long (((m1.1 (b + 23) p1.toNatClampNeg) - ((1 : Int32))).toInt64)] [] (ok_X7_in hI  h) (cw_RX7_134 _) rfl dc_X7_in ⟨Nat.le_of_ble_eq_true rfl, Nat.le_of_ble_eq_true rfl⟩ rfl (Nat.le_of_ble_eq_true rfl) dX7_lay_36 (fun r6 m5 h => ?_)
      refine g_if_ne C 45 dX7_lay_39 (by decide) (fun c7 => ?_) (fun c7 => ?_)
      · replace h := h.1 c7
        refine g_aload_n C 0 dX7_lay_45 rfl ?_
        refine gf_RX7_80 C h0 dX7_lay_46 ?_
        refine g_bipush C (v := (40 : Int32)) dX7_lay_49 (by decide) ?_
        refine g_iload_n C 1 dX7_lay_51 rfl ?_
        refine g_imul C dX7_lay_52 ?_
        refine g_iload_n C 2 dX7_lay_53 rfl ?_
        refine g_iadd C dX7_lay_54 ?_
        refine g_aload_n C 0 dX7_lay_55 rfl ?_
        refine gf_RX7_74 C h0 dX7_lay_56 ?_
        refine g_iload_n C 1 dX7_lay_59 rfl ?_
        refine g_iald C (isX7_lanes h0).1 (isX7_lanes h0).2 h.1 dX7_lay_60 ?_
        replace h := h.2
        refine g_if_ne C 69 dX7_lay_61 (by decide) (fun c8 => ?_) (fun c8 => ?_)
        · replace h := h.1 c8
          refine g_aload_n C 0 dX7_lay_69 rfl ?_
          refine gf_RX7_74 C h0 dX7_lay_70 ?_
          refine g_iload_n C 1 dX7_lay_73 rfl ?_
          refine g_iald C (isX7_lanes h0).1 (isX7_lanes h0).2 h.1 dX7_lay_74 ?_
          replace h := h.2
          refine g_iconst C (v := (1 : Int32)) dX7_lay_75 (by decide) ?_
          refine g_icmp_ne C 84 dX7_lay_76 (by decide) (fun c9 => ?_) (fun c9 => ?_)
          · replace h := h.1 c9
            refine g_iload_n C 3 dX7_lay_84 rfl ?_
            refine g_iast C (isX7_cells h0).1 (isX7_cells h0).2 h.1 dX7_lay_85 ?_
            replace h := h.2
            refine g_iconst C (v := (1 : Int32)) dX7_lay_86 (by decide) ?_
            exact hr _ _ _ _ _ dX7_lay_87 rfl h
          · replace h := h.2 c9
            refine g_iload_n C 3 dX7_lay_79 rfl ?_
            refine g_i2s C dX7_lay_80 ?_
            refine g_goto C 85 dX7_lay_81 (by decide) ?_
            refine g_iast C (isX7_cells h0).1 (isX7_cells h0).2 h.1 dX7_lay_85 ?_
            replace h := h.2
            refine g_iconst C (v := (1 : Int32)) dX7_lay_86 (by decide) ?_
            exact hr _ _ _ _ _ dX7_lay_87 rfl h
        · replace h := h.2 c8
          refine g_iload_n C 3 dX7_lay_64 rfl ?_
          refine g_i2b C dX7_lay_65 ?_
          refine g_goto C 85 dX7_lay_66 (by decide) ?_
          refine g_iast C (isX7_cells h0).1 (isX7_cells h0).2 h.1 dX7_lay_85 ?_
          replace h := h.2
          refine g_iconst C (v := (1 : Int32)) dX7_lay_86 (by decide) ?_
          exact hr _ _ _ _ _ dX7_lay_87 rfl h
      · replace h := h.2 c7
        refine g_bipush C (v := (-12 : Int32)) dX7_lay_42 (by decide) ?_
        exact hr _ _ _ _ _ dX7_lay_44 rfl h
    · replace h := h.2 c4
      refine g_bipush C (v := (-11 : Int32)) dX7_lay_21 (by decide) ?_
      exact hr _ _ _ _ _ dX7_lay_23 rfl h
  · replace h := h.2 c3
    refine g_iconst C (v := (-1 : Int32)) dX7_lay_8 (by decide) ?_
    exact hr _ _ _ _ _ dX7_lay_9 rfl h
def SX7_read_32 (X : XT) (Y : YT) (b : Nat) (p1 : Int32) (p2 : Int32) (p3 : Int32) (p4 : Int32) : Int32 → Int32 → Int32 → Mem → Prop := fun v5 v6 v7 μ => G X Y 11 32 [(0, .ref (Y.ad b)), (1, .int p1), (2, .int p2), (3, .int p3), (4, .int p4), (5, .int v5), (6, .int v6), (7, .int v7)] [] μ
def SX7_read_47 (X : XT) (Y : YT) (b : Nat) (p1 : Int32) (p2 : Int32) (p3 : Int32) (p4 : Int32) : Int32 → Int32 → Int32 → Int32 → Mem → Prop := fun v5 v6 v7 v8 μ => G X Y 11 47 [(0, .ref (Y.ad b)), (1, .int p1), (2, .int p2), (3, .int p3), (4, .int p4), (5, .int v5), (6, .int v6), (7, .int v7), (8, .int v8)] [] μ
def SX7_read_208 (X : XT) (Y : YT) (b : Nat) (p1 : Int32) (p2 : Int32) (p3 : Int32) (p4 : Int32) : Int32 → Int32 → Mem → Prop := fun v6 v7 μ => G X Y 11 208 [(0, .ref (Y.ad b)), (1, .int p1), (2, .int p2), (3, .int p3), (4, .int p4), (6, .int v6), (7, .int v7)] [] μ
set_option maxRecDepth 20000 in
set_option maxHeartbeats 4000000 in
theorem tX7_read_199 {X : XT} {Y : YT} {l0 : Launch} {b : Nat} {p1 : Int32} {p2 : Int32} {p3 : Int32} {p4 : Int32} {Q : Int32 → Mem → Prop} (C : Cx X Y 11 cX7_read RX7 WX7_read (rmB 4 93) l0) (hr : RI X Y cX7_read .int Q) (hI : YI Y) (h0 : isX7 Y b) (v5 : Int32) (v6 : Int32) (μ : Mem) (h : nX7_read_199 b p1 p2 p3 p4 Q (SX7_read_32 X Y b p1 p2 p3 p4) (SX7_read_47 X Y b p1 p2 p3 p4) (SX7_read_208 X Y b p1 p2 p3 p4) v5 v6 μ) : G X Y 11 199 [(0, .ref (Y.ad b)), (1, .int p1), (2, .int p2), (3, .int p3), (4, .int p4), (5, .int v5), (6, .int v6)] [] μ := by
  unfold nX7_read_199 at h
  refine g_aload_n C 0 dX7_read_199 rfl ?_
  refine g_iload C 5 dX7_read_200 rfl ?_
  refine gp_RX7_421 C h0 dX7_read_202 ?_
  refine g_iconst C (v := (0 : Int32)) dX7_read_205 (by decide) ?_
  refine g_istore C [(7, .int ((0 : Int32))), (0, .ref (Y.ad b)), (1, .int p1), (2, .int p2), (3, .int p3), (4, .int p4), (5, .int v5), (6, .int v6)] dX7_read_206 (by decide) rfl ?_
  refine g_lv (lv2 := [(0, .ref (Y.ad b)), (1, .int p1), (2, .int p2), (3, .int p3), (4, .int p4), (6, .int v6), (7, .int ((0 : Int32)))]) [1, 2, 3, 4, 5, 7, 0] ?_ rfl
  exact h
set_option maxRecDepth 20000 in
set_option maxHeartbeats 4000000 in
theorem tX7_read_32 {X : XT} {Y : YT} {l0 : Launch} {b : Nat} {p1 : Int32} {p2 : Int32} {p3 : Int32} {p4 : Int32} {Q : Int32 → Mem → Prop} (C : Cx X Y 11 cX7_read RX7 WX7_read (rmB 4 93) l0) (hr : RI X Y cX7_read .int Q) (hI : YI Y) (h0 : isX7 Y b) (v5 : Int32) (v6 : Int32) (v7 : Int32) (μ : Mem) (h : nX7_read_32 b p1 p2 p3 p4 Q (SX7_read_32 X Y b p1 p2 p3 p4) (SX7_read_47 X Y b p1 p2 p3 p4) (SX7_read_208 X Y b p1 p2 p3 p4) v5 v6 v7 μ) : G X Y 11 32 [(0, .ref (Y.ad b)), (1, .int p1), (2, .int p2), (3, .int p3), (4, .int p4), (5, .int v5), (6, .int v6), (7, .int v7)] [] μ := by
  unfold nX7_read_32 at h
  refine g_iload C 7 dX7_read_32 rfl ?_
  refine g_iload C 4 dX7_read_34 rfl ?_
  refine g_icmp_ge C 199 dX7_read_36 (by decide) (fun c7 => ?_) (fun c7 => ?_)
  · replace h := h.1 c7
    refine g_lv (lv2 := [(0, .ref (Y.ad b)), (1, .int p1), (2, .int p2), (3, .int p3), (4, .int p4), (5, .int v5), (6, .int v6)]) [0, 1, 2, 3, 4, 5, 6] ?_ rfl
    exact tX7_read_199 C hr hI h0 _ _ _ h
  · replace h := h.2 c7
    refine g_iload C 5 dX7_read_39 rfl ?_
    refine g_if_ne C 199 dX7_read_41 (by decide) (fun c8 => ?_) (fun c8 => ?_)
    · replace h := h.1 c8
      refine g_lv (lv2 := [(0, .ref (Y.ad b)), (1, .int p1), (2, .int p2), (3, .int p3), (4, .int p4), (5, .int v5), (6, .int v6)]) [0, 1, 2, 3, 4, 5, 6] ?_ rfl
      exact tX7_read_199 C hr hI h0 _ _ _ h
    · replace h := h.2 c8
      refine g_iconst C (v := (0 : Int32)) dX7_read_44 (by decide) ?_
      refine g_istore C [(8, .int ((0 : Int32))), (0, .ref (Y.ad b)), (1, .int p1), (2, .int p2), (3, .int p3), (4, .int p4), (5, .int v5), (6, .int v6), (7, .int v7)] dX7_read_45 (by decide) rfl ?_
      refine g_lv (lv2 := [(0, .ref (Y.ad b)), (1, .int p1), (2, .int p2), (3, .int p3), (4, .int p4), (5, .int v5), (6, .int v6), (7, .int v7), (8, .int ((0 : Int32)))]) [1, 2, 3, 4, 5, 6, 7, 8, 0] ?_ rfl
      exact h
set_option maxRecDepth 20000 in
set_option maxHeartbeats 4000000 in
theorem tX7_read_126 {X : XT} {Y : YT} {l0 : Launch} {b : Nat} {p1 : Int32} {p2 : Int32} {p3 : Int32} {p4 : Int32} {Q : Int32 → Mem → Prop} (C : Cx X Y 11 cX7_read RX7 WX7_read (rmB 4 93) l0) (hr : RI X Y cX7_read .int Q) (hI : YI Y) (h0 : isX7 Y b) (v6 : Int32) (v7 : Int32) (v8 : Int32) (w0 : Int32) (μ : Mem) (h : nX7_read_126 b p1 p2 p3 p4 Q (SX7_read_32 X Y b p1 p2 p3 p4) (SX7_read_47 X Y b p1 p2 p3 p4) (SX7_read_208 X Y b p1 p2 p3 p4) v6 v7 v8 w0 μ) : G X Y 11 126 [(0, .ref (Y.ad b)), (1, .int p1), (2, .int p2), (3, .int p3), (4, .int p4), (6, .int v6), (7, .int v7), (8, .int v8)] [.int w0] μ := by
  unfold nX7_read_126 at h
  refine g_istore C [(5, .int w0), (0, .ref (Y.ad b)), (1, .int p1), (2, .int p2), (3, .int p3), (4, .int p4), (6, .int v6), (7, .int v7), (8, .int v8)] dX7_read_126 (by decide) rfl ?_
  refine g_iinc C (v := v8 + 1) 8 [(8, .int (v8 + 1)), (5, .int w0), (0, .ref (Y.ad b)), (1, .int p1), (2, .int p2), (3, .int p3), (4, .int p4), (6, .int v6), (7, .int v7)] dX7_read_128 rfl rfl (by decide) rfl ?_
  refine g_goto C 47 dX7_read_131 (by decide) ?_
  refine g_lv (lv2 := [(0, .ref (Y.ad b)), (1, .int p1), (2, .int p2), (3, .int p3), (4, .int p4), (5, .int w0), (6, .int v6), (7, .int v7), (8, .int (v8 + 1))]) [2, 3, 4, 5, 6, 1, 7, 8, 0] ?_ rfl
  exact h
set_option maxRecDepth 20000 in
set_option maxHeartbeats 4000000 in
theorem tX7_read_121 {X : XT} {Y : YT} {l0 : Launch} {b : Nat} {p1 : Int32} {p2 : Int32} {p3 : Int32} {p4 : Int32} {Q : Int32 → Mem → Prop} (C : Cx X Y 11 cX7_read RX7 WX7_read (rmB 4 93) l0) (hr : RI X Y cX7_read .int Q) (hI : YI Y) (h0 : isX7 Y b) (v6 : Int32) (v7 : Int32) (v8 : Int32) (μ : Mem) (h : nX7_read_121 b p1 p2 p3 p4 Q (SX7_read_32 X Y b p1 p2 p3 p4) (SX7_read_47 X Y b p1 p2 p3 p4) (SX7_read_208 X Y b p1 p2 p3 p4) v6 v7 v8 μ) : G X Y 11 121 [(0, .ref (Y.ad b)), (1, .int p1), (2, .int p2), (3, .int p3), (4, .int p4), (6, .int v6), (7, .int v7), (8, .int v8)] [] μ := by
  unfold nX7_read_121 at h
  refine g_iconst C (v := (2 : Int32)) dX7_read_121 (by decide) ?_
  refine g_goto C 126 dX7_read_122 (by decide) ?_
  exact tX7_read_126 C hr hI h0 _ _ _ _ _ h
set_option maxRecDepth 20000 in
set_option maxHeartbeats 4000000 in
theorem tX7_read_193 {X : XT} {Y : YT} {l0 : Launch} {b : Nat} {p1 : Int32} {p2 : Int32} {p3 : Int32} {p4 : Int32} {Q : Int32 → Mem → Prop} (C : Cx X Y 11 cX7_read RX7 WX7_read (rmB 4 93) l0) (hr : RI X Y cX7_read .int Q) (hI : YI Y) (h0 : isX7 Y b) (v5 : Int32) (v6 : Int32) (v7 : Int32) (μ : Mem) (h : nX7_read_193 b p1 p2 p3 p4 Q (SX7_read_32 X Y b p1 p2 p3 p4) (SX7_read_47 X Y b p1 p2 p3 p4) (SX7_read_208 X Y b p1 p2 p3 p4) v5 v6 v7 μ) : G X Y 11 193 [(0, .ref (Y.ad b)), (1, .int p1), (2, .int p2), (3, .int p3), (4, .int p4), (5, .int v5), (6, .int v6), (7, .int v7)] [] μ := by
  unfold nX7_read_193 at h
  refine g_iinc C (v := v7 + 1) 7 [(7, .int (v7 + 1)), (0, .ref (Y.ad b)), (1, .int p1), (2, .int p2), (3, .int p3), (4, .int p4), (5, .int v5), (6, .int v6)] dX7_read_193 rfl rfl (by decide) rfl ?_
  refine g_goto C 32 dX7_read_196 (by decide) ?_
  refine g_lv (lv2 := [(0, .ref (Y.ad b)), (1, .int p1), (2, .int p2), (3, .int p3), (4, .int p4), (5, .int v5), (6, .int v6), (7, .int (v7 + 1))]) [1, 2, 3, 4, 5, 6, 7, 0] ?_ rfl
  exact h
set_option maxRecDepth 20000 in
set_option maxHeartbeats 4000000 in
theorem tX7_read_134 {X : XT} {Y : YT} {l0 : Launch} {b : Nat} {p1 : Int32} {p2 : Int32} {p3 : Int32} {p4 : Int32} {Q : Int32 → Mem → Prop} (C : Cx X Y 11 cX7_read RX7 WX7_read (rmB 4 93) l0) (hr : RI X Y cX7_read .int Q) (hI : YI Y) (h0 : isX7 Y b) (v5 : Int32) (v6 : Int32) (v7 : Int32) (μ : Mem) (h : nX7_read_134 b p1 p2 p3 p4 Q (SX7_read_32 X Y b p1 p2 p3 p4) (SX7_read_47 X Y b p1 p2 p3 p4) (SX7_read_208 X Y b p1 p2 p3 p4) v5 v6 v7 μ) : G X Y 11 134 [(0, .ref (Y.ad b)), (1, .int p1), (2, .int p2), (3, .int p3), (4, .int p4), (5, .int v5), (6, .int v6), (7, .int v7)] [] μ := by
  unfold nX7_read_134 at h
  refine g_iload C 5 dX7_read_134 rfl ?_
  refine g_if_ne C 193 dX7_read_136 (by decide) (fun c15 => ?_) (fun c15 => ?_)
  · replace h := h.1 c15
    exact tX7_read_193 C hr hI h0 _ _ _ _ h
  · replace h := h.2 c15
    refine g_bipush C (v := (40 : Int32)) dX7_read_139 (by decide) ?_
    refine g_iload_n C 1 dX7_read_141 rfl ?_
    refine g_imul C dX7_read_142 ?_
    refine g_iload_n C 3 dX7_read_143 rfl ?_
    refine g_iadd C dX7_read_144 ?_
    refine g_iconst C (v := (3 : Int32)) dX7_read_145 (by decide) ?_
    refine g_iload C 7 dX7_read_146 rfl ?_
    refine g_imul C dX7_read_148 ?_
    refine g_iadd C dX7_read_149 ?_
    refine g_istore C [(8, .int (((((40 : Int32)) * p1) + p3) + (((3 : Int32)) * v7))), (0, .ref (Y.ad b)), (1, .int p1), (2, .int p2), (3, .int p3), (4, .int p4), (5, .int v5), (6, .int v6), (7, .int v7)] dX7_read_150 (by decide) rfl ?_
    refine g_aload_n C 1 dX7_read_152 rfl ?_
    refine g_aload_n C 1 dX7_read_153 rfl ?_
    refine gf_RX7_80 C h0 dX7_read_154 ?_
    refine g_iload C 0 dX7_read_157 rfl ?_
    refine g_iald C (isX7_cells h0).1 (isX7_cells h0).2 h.1 dX7_read_159 ?_
    replace h := h.2
    refine g_aload_n C 1 dX7_read_160 rfl ?_
    refine gf_RX7_80 C h0 dX7_read_161 ?_
    refine g_iload C 0 dX7_read_164 rfl ?_
    refine g_iconst C (v := (1 : Int32)) dX7_read_166 (by decide) ?_
    refine g_iadd C dX7_read_167 ?_
    refine g_iald C (isX7_cells h0).1 (isX7_cells h0).2 h.1 dX7_read_168 ?_
    replace h := h.2
    refine g_aload_n C 1 dX7_read_169 rfl ?_
    refine gf_RX7_80 C h0 dX7_read_170 ?_
    refine g_iload C 0 dX7_read_173 rfl ?_
    refine g_iconst C (v := (2 : Int32)) dX7_read_175 (by decide) ?_
    refine g_iadd C dX7_read_176 ?_
    refine g_iald C (isX7_cells h0).1 (isX7_cells h0).2 h.1 dX7_read_177 ?_
    replace h := h.2
    refine g_callVI C [.int (μ.1 (b + 24) (((((40 : Int32)) * p1) + p3) + (((3 : Int32)) * v7)).toNatClampNeg), .int (μ.1 (b + 24) ((((((40 : Int32)) * p1) + p3) + (((3 : Int32)) * v7)) + ((1 : Int32))).toNatClampNeg), .int (μ.1 (b + 24) ((((((40 : Int32)) * p1) + p3) + (((3 : Int32)) * v7)) + ((2 : Int32))).toNatClampNeg)] [] (ok_X7_isLot hI h0 h) (cw_RX7_313 _) rfl dc_X7_isLot ⟨Nat.le_of_ble_eq_true rfl, Nat.le_of_ble_eq_true rfl⟩ (isX7_lt h0) (isX7_sh h0) rfl rfl rfl rfl (Nat.le_of_ble_eq_true rfl) dX7_read_178 (fun r17 m16 h => ?_)
    refine g_if_ne C 190 dX7_read_181 (by decide) (fun c18 => ?_) (fun c18 => ?_)
    · replace h := h.1 c18
      refine g_iinc C (v := v6 + 1) 7 [(6, .int (v6 + 1)), (8, .int (((((40 : Int32)) * p1) + p3) + (((3 : Int32)) * v7))), (0, .ref (Y.ad b)), (1, .int p1), (2, .int p2), (3, .int p3), (4, .int p4), (5, .int v5), (7, .int v7)] dX7_read_190 rfl rfl (by decide) rfl ?_
      refine g_lv (lv2 := [(0, .ref (Y.ad b)), (1, .int p1), (2, .int p2), (3, .int p3), (4, .int p4), (5, .int v5), (6, .int (v6 + 1)), (7, .int v7)]) [2, 3, 4, 5, 6, 7, 0, 8] ?_ rfl
      exact tX7_read_193 C hr hI h0 _ _ _ _ h
    · replace h := h.2 c18
      refine g_bipush C (v := (-20 : Int32)) dX7_read_184 (by decide) ?_
      refine g_iload C 8 dX7_read_186 rfl ?_
      refine g_isub C dX7_read_188 ?_
      exact hr _ _ _ _ _ dX7_read_189 rfl h
set_option maxRecDepth 20000 in
set_option maxHeartbeats 4000000 in
theorem tX7_read_47 {X : XT} {Y : YT} {l0 : Launch} {b : Nat} {p1 : Int32} {p2 : Int32} {p3 : Int32} {p4 : Int32} {Q : Int32 → Mem → Prop} (C : Cx X Y 11 cX7_read RX7 WX7_read (rmB 4 93) l0) (hr : RI X Y cX7_read .int Q) (hI : YI Y) (h0 : isX7 Y b) (v5 : Int32) (v6 : Int32) (v7 : Int32) (v8 : Int32) (μ : Mem) (h : nX7_read_47 b p1 p2 p3 p4 Q (SX7_read_32 X Y b p1 p2 p3 p4) (SX7_read_47 X Y b p1 p2 p3 p4) (SX7_read_208 X Y b p1 p2 p3 p4) v5 v6 v7 v8 μ) : G X Y 11 47 [(0, .ref (Y.ad b)), (1, .int p1), (2, .int p2), (3, .int p3), (4, .int p4), (5, .int v5), (6, .int v6), (7, .int v7), (8, .int v8)] [] μ := by
  unfold nX7_read_47 at h
  refine g_iload C 8 dX7_read_47 rfl ?_
  refine g_iconst C (v := (3 : Int32)) dX7_read_49 (by decide) ?_
  refine g_icmp_ge C 134 dX7_read_50 (by decide) (fun c9 => ?_) (fun c9 => ?_)
  · replace h := h.1 c9
    refine g_lv (lv2 := [(0, .ref (Y.ad b)), (1, .int p1), (2, .int p2), (3, .int p3), (4, .int p4), (5, .int v5), (6, .int v6), (7, .int v7)]) [0, 1, 2, 3, 4, 5, 6, 7] ?_ rfl
    exact tX7_read_134 C hr hI h0 _ _ _ _ h
  · replace h := h.2 c9
    refine g_iload C 5 dX7_read_53 rfl ?_
    refine g_if_ne C 134 dX7_read_55 (by decide) (fun c10 => ?_) (fun c10 => ?_)
    · replace h := h.1 c10
      refine g_lv (lv2 := [(0, .ref (Y.ad b)), (1, .int p1), (2, .int p2), (3, .int p3), (4, .int p4), (5, .int v5), (6, .int v6), (7, .int v7)]) [0, 1, 2, 3, 4, 5, 6, 7] ?_ rfl
      exact tX7_read_134 C hr hI h0 _ _ _ _ h
    · replace h := h.2 c10
      refine g_iload_n C 3 dX7_read_58 rfl ?_
      refine g_i2l C dX7_read_59 ?_
      refine g_iconst C (v := (3 : Int32)) dX7_read_60 (by decide) ?_
      refine g_iload C 7 dX7_read_61 rfl ?_
      refine g_imul C dX7_read_63 ?_
      refine g_i2l C dX7_read_64 ?_
      refine g_ladd C dX7_read_65 ?_
      refine g_iload C 8 dX7_read_66 rfl ?_
      refine g_i2l C dX7_read_68 ?_
      refine g_ladd C dX7_read_69 ?_
      refine g_lstore C [(9, .long ((p3.toInt64 + ((((3 : Int32)) * v7).toInt64)) + v8.toInt64)), (0, .ref (Y.ad b)), (1, .int p1), (2, .int p2), (3, .int p3), (4, .int p4), (5, .int v5), (6, .int v6), (7, .int v7), (8, .int v8)] dX7_read_70 (by decide) rfl ?_
      refine g_aload_n C 1 dX7_read_72 rfl ?_
      refine gf_RX7_74 C h0 dX7_read_73 ?_
      refine g_iload_n C 2 dX7_read_76 rfl ?_
      refine g_iald C (isX7_lanes h0).1 (isX7_lanes h0).2 h.1 dX7_read_77 ?_
      replace h := h.2
      refine g_bipush C (v := (-4 : Int32)) dX7_read_78 (by decide) ?_
      refine g_icmp_ne C 87 dX7_read_80 (by decide) (fun c11 => ?_) (fun c11 => ?_)
      · replace h := h.1 c11
        refine g_aload_n C 1 dX7_read_87 rfl ?_
        refine gf_RX7_74 C h0 dX7_read_88 ?_
        refine g_iload_n C 2 dX7_read_91 rfl ?_
        refine g_iald C (isX7_lanes h0).1 (isX7_lanes h0).2 h.1 dX7_read_92 ?_
        replace h := h.2
        refine g_iload_n C 3 dX7_read_93 rfl ?_
        refine g_icmp_eq C 101 dX7_read_94 (by decide) (fun c12 => ?_) (fun c12 => ?_)
        · replace h := h.1 c12
          refine g_lload C 0 dX7_read_101 rfl ?_
          refine g_lconst C (v := (0 : Int64)) dX7_read_103 (by decide) ?_
          refine g_lcmp C dX7_read_104 ?_
          refine g_if_lt C 121 dX7_read_105 (by decide) (fun c13 => ?_) (fun c13 => ?_)
          · replace h := h.1 c13
            refine g_lv (lv2 := [(0, .ref (Y.ad b)), (1, .int p1), (2, .int p2), (3, .int p3), (4, .int p4), (6, .int v6), (7, .int v7), (8, .int v8)]) [1, 2, 3, 4, 5, 7, 8, 9] ?_ rfl
            exact tX7_read_121 C hr hI h0 _ _ _ _ h
          · replace h := h.2 c13
            refine g_lload C 0 dX7_read_108 rfl ?_
            refine g_aload_n C 1 dX7_read_110 rfl ?_
            refine gf_RX7_77 C h0 dX7_read_111 ?_
            refine g_iload_n C 2 dX7_read_114 rfl ?_
            refine g_iald C (isX7_sizes h0).1 (isX7_sizes h0).2 h.1 dX7_read_115 ?_
            replace h := h.2
            refine g_i2l C dX7_read_116 ?_
            refine g_lcmp C dX7_read_117 ?_
            refine g_if_lt C 125 dX7_read_118 (by decide) (fun c14 => ?_) (fun c14 => ?_)
            · replace h := h.1 c14
              refine g_iconst C (v := (0 : Int32)) dX7_read_125 (by decide) ?_
              refine g_lv (lv2 := [(0, .ref (Y.ad b)), (1, .int p1), (2, .int p2), (3, .int p3), (4, .int p4), (6, .int v6), (7, .int v7), (8, .int v8)]) [1, 2, 3, 4, 5, 7, 8, 9] ?_ rfl
              exact tX7_read_126 C hr hI h0 _ _ _ _ _ h
            · replace h := h.2 c14
              refine g_lv (lv2 := [(0, .ref (Y.ad b)), (1, .int p1), (2, .int p2), (3, .int p3), (4, .int p4), (6, .int v6), (7, .int v7), (8, .int v8)]) [1, 2, 3, 4, 5, 7, 8, 9] ?_ rfl
              exact tX7_read_121 C hr hI h0 _ _ _ _ h
        · replace h := h.2 c12
          refine g_iconst C (v := (3 : Int32)) dX7_read_97 (by decide) ?_
          refine g_goto C 126 dX7_read_98 (by decide) ?_
          refine g_lv (lv2 := [(0, .ref (Y.ad b)), (1, .int p1), (2, .int p2), (3, .int p3), (4, .int p4), (6, .int v6), (7, .int v7), (8, .int v8)]) [1, 2, 3, 4, 5, 7, 8, 9] ?_ rfl
          exact tX7_read_126 C hr hI h0 _ _ _ _ _ h
      · replace h := h.2 c11
        refine g_iconst C (v := (1 : Int32)) dX7_read_83 (by decide) ?_
        refine g_goto C 126 dX7_read_84 (by decide) ?_
        refine g_lv (lv2 := [(0, .ref (Y.ad b)), (1, .int p1), (2, .int p2), (3, .int p3), (4, .int p4), (6, .int v6), (7, .int v7), (8, .int v8)]) [1, 2, 3, 4, 5, 7, 8, 9] ?_ rfl
        exact tX7_read_126 C hr hI h0 _ _ _ _ _ h
set_option maxRecDepth 20000 in
set_option maxHeartbeats 4000000 in
theorem tX7_read_208 {X : XT} {Y : YT} {l0 : Launch} {b : Nat} {p1 : Int32} {p2 : Int32} {p3 : Int32} {p4 : Int32} {Q : Int32 → Mem → Prop} (C : Cx X Y 11 cX7_read RX7 WX7_read (rmB 4 93) l0) (hr : RI X Y cX7_read .int Q) (hI : YI Y) (h0 : isX7 Y b) (v6 : Int32) (v7 : Int32) (μ : Mem) (h : nX7_read_208 b p1 p2 p3 p4 Q (SX7_read_32 X Y b p1 p2 p3 p4) (SX7_read_47 X Y b p1 p2 p3 p4) (SX7_read_208 X Y b p1 p2 p3 p4) v6 v7 μ) : G X Y 11 208 [(0, .ref (Y.ad b)), (1, .int p1), (2, .int p2), (3, .int p3), (4, .int p4), (6, .int v6), (7, .int v7)] [] μ := by
  unfold nX7_read_208 at h
  refine g_iload C 6 dX7_read_208 rfl ?_
  refine g_iload C 5 dX7_read_210 rfl ?_
  refine g_icmp_ge C 264 dX7_read_212 (by decide) (fun c19 => ?_) (fun c19 => ?_)
  · replace h := h.1 c19
    refine g_iload C 5 dX7_read_264 rfl ?_
    exact hr _ _ _ _ _ dX7_read_266 rfl h
  · replace h := h.2 c19
    refine g_bipush C (v := (40 : Int32)) dX7_read_215 (by decide) ?_
    refine g_iload_n C 1 dX7_read_217 rfl ?_
    refine g_imul C dX7_read_218 ?_
    refine g_iload_n C 3 dX7_read_219 rfl ?_
    refine g_iadd C dX7_read_220 ?_
    refine g_iconst C (v := (3 : Int32)) dX7_read_221 (by decide) ?_
    refine g_iload C 6 dX7_read_222 rfl ?_
    refine g_imul C dX7_read_224 ?_
    refine g_iadd C dX7_read_225 ?_
    refine g_istore C [(8, .int (((((40 : Int32)) * p1) + p3) + (((3 : Int32)) * v7))), (0, .ref (Y.ad b)), (1, .int p1), (2, .int p2), (3, .int p3), (4, .int p4), (6, .int v6), (7, .int v7)] dX7_read_226 (by decide) rfl ?_
    refine g_aload_n C 1 dX7_read_228 rfl ?_
    refine g_aload_n C 1 dX7_read_229 rfl ?_
    refine gf_RX7_80 C h0 dX7_read_230 ?_
    refine g_iload C 0 dX7_read_233 rfl ?_
    refine g_iald C (isX7_cells h0).1 (isX7_cells h0).2 h.1 dX7_read_235 ?_
    replace h := h.2
    refine g_aload_n C 1 dX7_read_236 rfl ?_
    refine gf_RX7_80 C h0 dX7_read_237 ?_
    refine g_iload C 0 dX7_read_240 rfl ?_
    refine g_iconst C (v := (1 : Int32)) dX7_read_242 (by decide) ?_
    refine g_iadd C dX7_read_243 ?_
    refine g_iald C (isX7_cells h0).1 (isX7_cells h0).2 h.1 dX7_read_244 ?_
    replace h := h.2
    refine g_aload_n C 1 dX7_read_245 rfl ?_
    refine gf_RX7_80 C h0 dX7_read_246 ?_
    refine g_iload C 0 dX7_read_249 rfl ?_
    refine g_iconst C (v := (2 : Int32)) dX7_read_251 (by decide) ?_
    refine g_iadd C dX7_read_252 ?_
    refine g_iald C (isX7_cells h0).1 (isX7_cells h0).2 h.1 dX7_read_253 ?_
    replace h := h.2
    refine g_callVI C [.int (μ.1 (b + 24) (((((40 : Int32)) * p1) + p3) + (((3 : Int32)) * v7)).toNatClampNeg), .int (μ.1 (b + 24) ((((((40 : Int32)) * p1) + p3) + (((3 : Int32)) * v7)) + ((1 : Int32))).toNatClampNeg), .int (μ.1 (b + 24) ((((((40 : Int32)) * p1) + p3) + (((3 : Int32)) * v7)) + ((2 : Int32))).toNatClampNeg)] [] (ok_X7_put hI h0 h) (cw_RX7_424 _) rfl dc_X7_put ⟨Nat.le_of_ble_eq_true rfl, Nat.le_of_ble_eq_true rfl⟩ (isX7_lt h0) (isX7_sh h0) rfl rfl rfl rfl (Nat.le_of_ble_eq_true rfl) dX7_read_254 (fun r21 m20 h => ?_)
    refine g_pop C dX7_read_257 rfl ?_
    refine g_iinc C (v := v7 + 1) 7 [(7, .int (v7 + 1)), (8, .int (((((40 : Int32)) * p1) + p3) + (((3 : Int32)) * v7))), (0, .ref (Y.ad b)), (1, .int p1), (2, .int p2), (3, .int p3), (4, .int p4), (6, .int v6)] dX7_read_258 rfl rfl (by decide) rfl ?_
    refine g_goto C 208 dX7_read_261 (by decide) ?_
    refine g_lv (lv2 := [(0, .ref (Y.ad b)), (1, .int p1), (2, .int p2), (3, .int p3), (4, .int p4), (6, .int v6), (7, .int (v7 + 1))]) [2, 3, 4, 5, 6, 7, 0] ?_ rfl
    exact h
set_option maxRecDepth 20000 in
set_option maxHeartbeats 4000000 in
theorem ok_X7_read {Y : YT} {l0 : Launch} {b : Nat} {p1 : Int32} {p2 : Int32} {p3 : Int32} {p4 : Int32} {μ : Mem} {Q : Int32 → Mem → Prop} (hI : YI Y) (h0 : isX7 Y b) (h : PX7_read b p1 p2 p3 p4 μ Q) : MI l0 yX7_read WX7_read 4 93 Y [.ref (Y.ad b), .int p1, .int p2, .int p3, .int p4] μ Q := by
  refine mI_of (ty := .int) (cc := cX7_read) (maxL := 11) (by decide +kernel) rfl hI (Nat.le_of_ble_eq_true rfl) (fun X C hr => ?_)
  replace C : Cx X Y 11 cX7_read RX7 WX7_read (rmB 4 93) l0 := C
  refine g_lv (lv2 := [(0, .ref (Y.ad b)), (1, .int p1), (2, .int p2), (3, .int p3), (4, .int p4)]) [0, 1, 2, 3, 4] ?_ rfl
  unfold PX7_read at h
  replace h := h (SX7_read_32 X Y b p1 p2 p3 p4) (SX7_read_47 X Y b p1 p2 p3 p4) (SX7_read_208 X Y b p1 p2 p3 p4) (fun v5 v6 v7 μ z => tX7_read_32 C hr hI h0 v5 v6 v7 μ z) (fun v5 v6 v7 v8 μ z => tX7_read_47 C hr hI h0 v5 v6 v7 v8 μ z) (fun v6 v7 μ z => tX7_read_208 C hr hI h0 v6 v7 μ z)
  refine g_iload_n C 1 dX7_read_0 rfl ?_
  refine g_iload_n C 2 dX7_read_1 rfl ?_
  refine g_callSI C [.int p1, .int p2] [] (ok_X7_isSheet hI  h) (cw_RX7_416 _) rfl dc_X7_isSheet ⟨Nat.le_of_ble_eq_true rfl, Nat.le_of_ble_eq_true rfl⟩ rfl (Nat.le_of_ble_eq_true rfl) dX7_read_2 (fun r2 m1 h => ?_)
  refine g_if_eq C 21 dX7_read_5 (by decide) (fun c3 => ?_) (fun c3 => ?_)
  · replace h := h.1 c3
    refine g_iconst C (v := (-1 : Int32)) dX7_read_21 (by decide) ?_
    exact hr _ _ _ _ _ dX7_read_22 rfl h
  · replace h := h.2 c3
    refine g_iload C 4 dX7_read_8 rfl ?_
    refine g_i2l C dX7_read_10 ?_
    refine g_lconst C (v := (0 : Int64)) dX7_read_11 (by decide) ?_
    refine g_ldc2 C (v := (12 : Int64)) (List.mem_cons_of_mem _ mL_RX7_419) dX7_read_12 ?_
    refine g_callSI C [.long p4.toInt64, .long ((0 : Int64)), .long ((12 : Int64))] [] (ok_X7_in hI  h) (cw_RX7_134 _) rfl dc_X7_in ⟨Nat.le_of_ble_eq_true rfl, Nat.le_of_ble_eq_true rfl⟩ rfl (Nat.le_of_ble_eq_true rfl) dX7_read_15 (fun r5 m4 h => ?_)
    refine g_if_ne C 23 dX7_read_18 (by decide) (fun c6 => ?_) (fun c6 => ?_)
    · replace h := h.1 c6
      refine g_iconst C (v := (0 : Int32)) dX7_read_23 (by decide) ?_
      refine g_istore C [(5, .int ((0 : Int32))), (0, .ref (Y.ad b)), (1, .int p1), (2, .int p2), (3, .int p3), (4, .int p4)] dX7_read_24 (by decide) rfl ?_
      refine g_iconst C (v := (0 : Int32)) dX7_read_26 (by decide) ?_
      refine g_istore C [(6, .int ((0 : Int32))), (5, .int ((0 : Int32))), (0, .ref (Y.ad b)), (1, .int p1), (2, .int p2), (3, .int p3), (4, .int p4)] dX7_read_27 (by decide) rfl ?_
      refine g_iconst C (v := (0 : Int32)) dX7_read_29 (by decide) ?_
      refine g_istore C [(7, .int ((0 : Int32))), (6, .int ((0 : Int32))), (5, .int ((0 : Int32))), (0, .ref (Y.ad b)), (1, .int p1), (2, .int p2), (3, .int p3), (4, .int p4)] dX7_read_30 (by decide) rfl ?_
      refine g_lv (lv2 := [(0, .ref (Y.ad b)), (1, .int p1), (2, .int p2), (3, .int p3), (4, .int p4), (5, .int ((0 : Int32))), (6, .int ((0 : Int32))), (7, .int ((0 : Int32)))]) [3, 4, 5, 6, 7, 2, 1, 0] ?_ rfl
      exact h
    · replace h := h.2 c6
      refine g_iconst C (v := (-1 : Int32)) dX7_read_21 (by decide) ?_
      exact hr _ _ _ _ _ dX7_read_22 rfl h
set_option maxRecDepth 20000 in
set_option maxHeartbeats 4000000 in
theorem ok_X7_torn {Y : YT} {l0 : Launch} {b : Nat} {μ : Mem} {Q : Int32 → Mem → Prop} (hI : YI Y) (h0 : isX7 Y b) (h : PX7_torn b μ Q) : MI l0 yX7_torn WX7_torn 0 0 Y [.ref (Y.ad b)] μ Q := by
  refine mI_of (ty := .int) (cc := cX7_torn) (maxL := 1) (by decide +kernel) rfl hI (Nat.le_of_ble_eq_true rfl) (fun X C hr => ?_)
  replace C : Cx X Y 1 cX7_torn RX7 WX7_torn (rmB 0 0) l0 := C
  refine g_lv (lv2 := [(0, .ref (Y.ad b))]) [0] ?_ rfl
  unfold PX7_torn at h
  refine g_aload_n C 0 dX7_torn_0 rfl ?_
  refine gf_RX7_421 C h0 dX7_torn_1 ?_
  exact hr _ _ _ _ _ dX7_torn_4 rfl h
set_option maxRecDepth 20000 in
set_option maxHeartbeats 4000000 in
theorem ok_X7_count {Y : YT} {l0 : Launch} {b : Nat} {p1 : Int32} {μ : Mem} {Q : Int32 → Mem → Prop} (hI : YI Y) (h0 : isX7 Y b) (h : PX7_count b p1 μ Q) : MI l0 yX7_count WX7_count 1 20 Y [.ref (Y.ad b), .int p1] μ Q := by
  refine mI_of (ty := .int) (cc := cX7_count) (maxL := 2) (by decide +kernel) rfl hI (Nat.le_of_ble_eq_true rfl) (fun X C hr => ?_)
  replace C : Cx X Y 2 cX7_count RX7 WX7_count (rmB 1 20) l0 := C
  refine g_lv (lv2 := [(0, .ref (Y.ad b)), (1, .int p1)]) [0, 1] ?_ rfl
  unfold PX7_count at h
  refine g_iload_n C 1 dX7_count_0 rfl ?_
  by_cases c1 : p1 = 0
  · refine g_tableIn C 40 dX7_count_1 (by rw [c1]; decide) (by rw [c1]; decide) (by rw [c1]; rfl) (by decide) ?_
    replace h := h.1 c1
    refine g_aload_n C 0 dX7_count_40 rfl ?_
    refine gf_RX7_115 C h0 dX7_count_41 ?_
    exact hr _ _ _ _ _ dX7_count_44 rfl h
  by_cases c2 : p1 = 1
  · refine g_tableIn C 45 dX7_count_1 (by rw [c2]; decide) (by rw [c2]; decide) (by rw [c2]; rfl) (by decide) ?_
    replace h := h.2.1 c2
    refine g_aload_n C 0 dX7_count_45 rfl ?_
    refine gf_RX7_118 C h0 dX7_count_46 ?_
    exact hr _ _ _ _ _ dX7_count_49 rfl h
  by_cases c3 : p1 = 2
  · refine g_tableIn C 50 dX7_count_1 (by rw [c3]; decide) (by rw [c3]; decide) (by rw [c3]; rfl) (by decide) ?_
    replace h := h.2.2.1 c3
    refine g_aload_n C 0 dX7_count_50 rfl ?_
    refine gf_RX7_138 C h0 dX7_count_51 ?_
    exact hr _ _ _ _ _ dX7_count_54 rfl h
  by_cases c4 : p1 = 3
  · refine g_tableIn C 55 dX7_count_1 (by rw [c4]; decide) (by rw [c4]; decide) (by rw [c4]; rfl) (by decide) ?_
    replace h := h.2.2.2.1 c4
    refine g_aload_n C 0 dX7_count_55 rfl ?_
    refine gf_RX7_52 C h0 dX7_count_56 ?_
    refine g_iconst C (v := (0 : Int32)) dX7_count_59 (by decide) ?_
    refine g_zald C (isX7_isKept h0).1 (isX7_isKept h0).2 h.1 dX7_count_60 ?_
    replace h := h.2
    refine g_callSI C [.int (μ.1 (b + 15) ((0 : Int32)).toNatClampNeg)] [] (ok_X7_flag hI  h) (cw_RX7_270 _) rfl dc_X7_flag ⟨Nat.le_of_ble_eq_true rfl, Nat.le_of_ble_eq_true rfl⟩ rfl (Nat.le_of_ble_eq_true rfl) dX7_count_61 (fun r6 m5 h => ?_)
    refine g_aload_n C 0 dX7_count_64 rfl ?_
    refine gf_RX7_52 C h0 dX7_count_65 ?_
    refine g_iconst C (v := (1 : Int32)) dX7_count_68 (by decide) ?_
    refine g_zald C (isX7_isKept h0).1 (isX7_isKept h0).2 h.1 dX7_count_69 ?_
    replace h := h.2
    refine g_callSI C [.int (m5.1 (b + 15) ((1 : Int32)).toNatClampNeg)] [.int r6] (ok_X7_flag hI  h) (cw_RX7_270 _) rfl dc_X7_flag ⟨Nat.le_of_ble_eq_true rfl, Nat.le_of_ble_eq_true rfl⟩ rfl (Nat.le_of_ble_eq_true rfl) dX7_count_70 (fun r8 m7 h => ?_)
    refine g_iadd C dX7_count_73 ?_
    exact hr _ _ _ _ _ dX7_count_74 rfl h
  by_cases c9 : p1 = 4
  · refine g_tableIn C 75 dX7_count_1 (by rw [c9]; decide) (by rw [c9]; decide) (by rw [c9]; rfl) (by decide) ?_
    replace h := h.2.2.2.2.1 c9
    refine g_aload_n C 0 dX7_count_75 rfl ?_
    refine gf_RX7_141 C h0 dX7_count_76 ?_
    exact hr _ _ _ _ _ dX7_count_79 rfl h
  by_cases c10 : p1 = 5
  · refine g_tableIn C 80 dX7_count_1 (by rw [c10]; decide) (by rw [c10]; decide) (by rw [c10]; rfl) (by decide) ?_
    replace h := h.2.2.2.2.2.1 c10
    refine g_aload_n C 0 dX7_count_80 rfl ?_
    refine gf_RX7_74 C h0 dX7_count_81 ?_
    refine g_iconst C (v := (0 : Int32)) dX7_count_84 (by decide) ?_
    refine g_iald C (isX7_lanes h0).1 (isX7_lanes h0).2 h.1 dX7_count_85 ?_
    replace h := h.2
    refine g_bipush C (v := (-4 : Int32)) dX7_count_86 (by decide) ?_
    refine g_icmp_ne C 96 dX7_count_88 (by decide) (fun c11 => ?_) (fun c11 => ?_)
    · replace h := h.1 c11
      refine g_aload_n C 0 dX7_count_96 rfl ?_
      refine gf_RX7_77 C h0 dX7_count_97 ?_
      refine g_iconst C (v := (0 : Int32)) dX7_count_100 (by decide) ?_
      refine g_iald C (isX7_sizes h0).1 (isX7_sizes h0).2 h.1 dX7_count_101 ?_
      replace h := h.2
      exact hr _ _ _ _ _ dX7_count_102 rfl h
    · replace h := h.2 c11
      refine g_bipush C (v := (-4 : Int32)) dX7_count_91 (by decide) ?_
      refine g_goto C 102 dX7_count_93 (by decide) ?_
      exact hr _ _ _ _ _ dX7_count_102 rfl h
  have c12 : p1.toInt < 0 ∨ 5 < p1.toInt := by
    have z := (And.intro True.intro ⟨lv_neT (a := 0) c1 rfl, lv_neT (a := 1) c2 rfl, lv_neT (a := 2) c3 rfl, lv_neT (a := 3) c4 rfl, lv_neT (a := 4) c9 rfl, lv_neT (a := 5) c10 rfl⟩ : True ∧ ¬ p1.toInt = 0 ∧ ¬ p1.toInt = 1 ∧ ¬ p1.toInt = 2 ∧ ¬ p1.toInt = 3 ∧ ¬ p1.toInt = 4 ∧ ¬ p1.toInt = 5)
    omega
  refine g_tableOut C 103 dX7_count_1 c12 (by decide) ?_
  replace h := h.2.2.2.2.2.2 c12
  refine g_iconst C (v := (-1 : Int32)) dX7_count_103 (by decide) ?_
  exact hr _ _ _ _ _ dX7_count_104 rfl h
