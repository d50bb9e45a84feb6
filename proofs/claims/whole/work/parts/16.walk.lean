set_option maxRecDepth 20000 in
set_option maxHeartbeats 4000000 in
theorem ok_X7_weekDay {Y : YT} {l0 : Launch} {b : Nat} {p1 : Int32} {μ : Mem} {Q : Int32 → Mem → Prop} (hI : YI Y) (h0 : isX7 Y b) (h : PX7_weekDay b p1 μ Q) : MI l0 yX7_weekDay WX7_weekDay 0 0 Y [.ref (Y.ad b), .int p1] μ Q := by
  refine mI_of (ty := .int) (cc := cX7_weekDay) (maxL := 2) (by decide +kernel) rfl hI (Nat.le_of_ble_eq_true rfl) (fun X C hr => ?_)
  replace C : Cx X Y 2 cX7_weekDay RX7 WX7_weekDay (rmB 0 0) l0 := C
  refine g_lv (lv2 := [(0, .ref (Y.ad b)), (1, .int p1)]) [0, 1] ?_ rfl
  unfold PX7_weekDay at h
  refine g_aload_n C 0 dX7_weekDay_0 rfl ?_
  refine gf_RX7_49 C h0 dX7_weekDay_1 ?_
  refine g_iload_n C 1 dX7_weekDay_4 rfl ?_
  refine g_bipush C (v := (36 : Int32)) dX7_weekDay_5 (by decide) ?_
  refine g_iadd C dX7_weekDay_7 ?_
  refine g_iald C (isX7_st h0).1 (isX7_st h0).2 h.1 dX7_weekDay_8 ?_
  replace h := h.2
  refine g_bipush C (v := (7 : Int32)) dX7_weekDay_9 (by decide) ?_
  refine g_irem C dX7_weekDay_11 (by decide) ?_
  exact hr _ _ _ _ _ dX7_weekDay_12 rfl h
set_option maxRecDepth 20000 in
set_option maxHeartbeats 4000000 in
theorem tX7_isBought_50 {X : XT} {Y : YT} {l0 : Launch} {b : Nat} {p1 : Int32} {p2 : Int32} {p3 : Int32} {Q : Int32 → Mem → Prop} (C : Cx X Y 4 cX7_isBought RX7 WX7_isBought (rmB 1 21) l0) (hr : RI X Y cX7_isBought .boolean Q) (hI : YI Y) (h0 : isX7 Y b) (μ : Mem) (h : nX7_isBought_50 b p1 p2 p3 Q  μ) : G X Y 4 50 [(0, .ref (Y.ad b)), (1, .int p1), (2, .int p2), (3, .int p3)] [] μ := by
  unfold nX7_isBought_50 at h
  refine g_iconst C (v := (0 : Int32)) dX7_isBought_50 (by decide) ?_
  exact hr _ _ _ _ _ dX7_isBought_51 rfl h
set_option maxRecDepth 20000 in
set_option maxHeartbeats 4000000 in
theorem tX7_isBought_17 {X : XT} {Y : YT} {l0 : Launch} {b : Nat} {p1 : Int32} {p2 : Int32} {p3 : Int32} {Q : Int32 → Mem → Prop} (C : Cx X Y 4 cX7_isBought RX7 WX7_isBought (rmB 1 21) l0) (hr : RI X Y cX7_isBought .boolean Q) (hI : YI Y) (h0 : isX7 Y b) (μ : Mem) (h : nX7_isBought_17 b p1 p2 p3 Q  μ) : G X Y 4 17 [(0, .ref (Y.ad b)), (1, .int p1), (2, .int p2), (3, .int p3)] [] μ := by
  unfold nX7_isBought_17 at h
  refine g_aload_n C 0 dX7_isBought_17 rfl ?_
  refine gf_RX7_7 C h0 dX7_isBought_18 ?_
  refine g_iconst C (v := (3 : Int32)) dX7_isBought_21 (by decide) ?_
  refine g_iload_n C 3 dX7_isBought_22 rfl ?_
  refine g_imul C dX7_isBought_23 ?_
  refine g_iconst C (v := (2 : Int32)) dX7_isBought_24 (by decide) ?_
  refine g_iadd C dX7_isBought_25 ?_
  refine g_iald C (isX7_thing h0).1 (isX7_thing h0).2 h.1 dX7_isBought_26 ?_
  replace h := h.2
  refine g_if_le C 50 dX7_isBought_27 (by decide) (fun c7 => ?_) (fun c7 => ?_)
  · replace h := h.1 c7
    exact tX7_isBought_50 C hr hI h0 _ h
  · replace h := h.2 c7
    refine g_aload_n C 0 dX7_isBought_30 rfl ?_
    refine gf_RX7_124 C h0 dX7_isBought_31 ?_
    refine g_aload_n C 0 dX7_isBought_34 rfl ?_
    refine g_iload_n C 1 dX7_isBought_35 rfl ?_
    refine g_callVI C [.int p1] [.int (μ.1 b 7)] (ok_X7_weekDay hI h0 h) (cw_RX7_290 _) rfl dc_X7_weekDay ⟨Nat.le_of_ble_eq_true rfl, Nat.le_of_ble_eq_true rfl⟩ (isX7_lt h0) (isX7_sh h0) rfl rfl rfl rfl (Nat.le_of_ble_eq_true rfl) dX7_isBought_36 (fun r9 m8 h => ?_)
    refine g_ishr C dX7_isBought_39 ?_
    refine g_iconst C (v := (1 : Int32)) dX7_isBought_40 (by decide) ?_
    refine g_iand C dX7_isBought_41 ?_
    refine g_iconst C (v := (1 : Int32)) dX7_isBought_42 (by decide) ?_
    refine g_icmp_ne C 50 dX7_isBought_43 (by decide) (fun c10 => ?_) (fun c10 => ?_)
    · replace h := h.1 c10
      exact tX7_isBought_50 C hr hI h0 _ h
    · replace h := h.2 c10
      refine g_iconst C (v := (1 : Int32)) dX7_isBought_46 (by decide) ?_
      refine g_goto C 51 dX7_isBought_47 (by decide) ?_
      exact hr _ _ _ _ _ dX7_isBought_51 rfl h
set_option maxRecDepth 20000 in
set_option maxHeartbeats 4000000 in
theorem ok_X7_isBought {Y : YT} {l0 : Launch} {b : Nat} {p1 : Int32} {p2 : Int32} {p3 : Int32} {μ : Mem} {Q : Int32 → Mem → Prop} (hI : YI Y) (h0 : isX7 Y b) (h : PX7_isBought b p1 p2 p3 μ Q) : MI l0 yX7_isBought WX7_isBought 1 21 Y [.ref (Y.ad b), .int p1, .int p2, .int p3] μ Q := by
  refine mI_of (ty := .boolean) (cc := cX7_isBought) (maxL := 4) (by decide +kernel) rfl hI (Nat.le_of_ble_eq_true rfl) (fun X C hr => ?_)
  replace C : Cx X Y 4 cX7_isBought RX7 WX7_isBought (rmB 1 21) l0 := C
  refine g_lv (lv2 := [(0, .ref (Y.ad b)), (1, .int p1), (2, .int p2), (3, .int p3)]) [0, 1, 2, 3] ?_ rfl
  unfold PX7_isBought at h
  refine g_aload_n C 0 dX7_isBought_0 rfl ?_
  refine g_iload_n C 2 dX7_isBought_1 rfl ?_
  refine g_callVI C [.int p2] [] (ok_X7_kind hI h0 h) (cw_RX7_267 _) rfl dc_X7_kind ⟨Nat.le_of_ble_eq_true rfl, Nat.le_of_ble_eq_true rfl⟩ (isX7_lt h0) (isX7_sh h0) rfl rfl rfl rfl (Nat.le_of_ble_eq_true rfl) dX7_isBought_2 (fun r2 m1 h => ?_)
  refine g_if_eq C 17 dX7_isBought_5 (by decide) (fun c3 => ?_) (fun c3 => ?_)
  · replace h := h.1 c3
    exact tX7_isBought_17 C hr hI h0 _ h
  · replace h := h.2 c3
    refine g_aload_n C 0 dX7_isBought_8 rfl ?_
    refine g_iload_n C 2 dX7_isBought_9 rfl ?_
    refine g_callVI C [.int p2] [] (ok_X7_kind hI h0 h) (cw_RX7_267 _) rfl dc_X7_kind ⟨Nat.le_of_ble_eq_true rfl, Nat.le_of_ble_eq_true rfl⟩ (isX7_lt h0) (isX7_sh h0) rfl rfl rfl rfl (Nat.le_of_ble_eq_true rfl) dX7_isBought_10 (fun r5 m4 h => ?_)
    refine g_iconst C (v := (2 : Int32)) dX7_isBought_13 (by decide) ?_
    refine g_icmp_ne C 50 dX7_isBought_14 (by decide) (fun c6 => ?_) (fun c6 => ?_)
    · replace h := h.1 c6
      exact tX7_isBought_50 C hr hI h0 _ h
    · replace h := h.2 c6
      exact tX7_isBought_17 C hr hI h0 _ h
set_option maxRecDepth 20000 in
set_option maxHeartbeats 4000000 in
theorem ok_X7_packsOf {Y : YT} {l0 : Launch} {b : Nat} {p1 : Int32} {p2 : Int32} {p3 : Int32} {p4 : Int32} {μ : Mem} {Q : Int32 → Mem → Prop} (hI : YI Y) (h0 : isX7 Y b) (h : PX7_packsOf b p1 p2 p3 p4 μ Q) : MI l0 yX7_packsOf WX7_packsOf 3 73 Y [.ref (Y.ad b), .int p1, .int p2, .int p3, .int p4] μ Q := by
  refine mI_of (ty := .int) (cc := cX7_packsOf) (maxL := 6) (by decide +kernel) rfl hI (Nat.le_of_ble_eq_true rfl) (fun X C hr => ?_)
  replace C : Cx X Y 6 cX7_packsOf RX7 WX7_packsOf (rmB 3 73) l0 := C
  refine g_lv (lv2 := [(0, .ref (Y.ad b)), (1, .int p1), (2, .int p2), (3, .int p3), (4, .int p4)]) [0, 1, 2, 3, 4] ?_ rfl
  unfold PX7_packsOf at h
  refine g_aload_n C 0 dX7_packsOf_0 rfl ?_
  refine gf_RX7_7 C h0 dX7_packsOf_1 ?_
  refine g_iconst C (v := (3 : Int32)) dX7_packsOf_4 (by decide) ?_
  refine g_iload C 4 dX7_packsOf_5 rfl ?_
  refine g_imul C dX7_packsOf_7 ?_
  refine g_iconst C (v := (1 : Int32)) dX7_packsOf_8 (by decide) ?_
  refine g_iadd C dX7_packsOf_9 ?_
  refine g_iald C (isX7_thing h0).1 (isX7_thing h0).2 h.1 dX7_packsOf_10 ?_
  replace h := h.2
  refine g_topi (fun x1 ex1 => ?_)
  replace h := h x1 ex1
  refine g_istore C [(5, .int x1), (0, .ref (Y.ad b)), (1, .int p1), (2, .int p2), (3, .int p3), (4, .int p4)] dX7_packsOf_11 (by decide) rfl ?_
  refine g_aload_n C 1 dX7_packsOf_13 rfl ?_
  refine g_iload_n C 2 dX7_packsOf_14 rfl ?_
  refine g_iload_n C 3 dX7_packsOf_15 rfl ?_
  refine g_iload C 5 dX7_packsOf_16 rfl ?_
  refine g_callVI C [.int p1, .int p2, .int p4] [] (ok_X7_isBought hI h0 h) (cw_RX7_293 _) rfl dc_X7_isBought ⟨Nat.le_of_ble_eq_true rfl, Nat.le_of_ble_eq_true rfl⟩ (isX7_lt h0) (isX7_sh h0) rfl rfl rfl rfl (Nat.le_of_ble_eq_true rfl) dX7_packsOf_18 (fun r3 m2 h => ?_)
  refine g_if_eq C 44 dX7_packsOf_21 (by decide) (fun c4 => ?_) (fun c4 => ?_)
  · replace h := h.1 c4
    refine g_iconst C (v := (0 : Int32)) dX7_packsOf_44 (by decide) ?_
    exact hr _ _ _ _ _ dX7_packsOf_45 rfl h
  · replace h := h.2 c4
    refine g_aload_n C 1 dX7_packsOf_24 rfl ?_
    refine g_iload_n C 2 dX7_packsOf_25 rfl ?_
    refine g_iload_n C 3 dX7_packsOf_26 rfl ?_
    refine g_iload_n C 4 dX7_packsOf_27 rfl ?_
    refine g_iload C 5 dX7_packsOf_28 rfl ?_
    refine g_callVI C [.int p1, .int p2, .int p3, .int p4] [] (ok_X7_lackOf hI h0 h) (cw_RX7_297 _) rfl dc_X7_lackOf ⟨Nat.le_of_ble_eq_true rfl, Nat.le_of_ble_eq_true rfl⟩ (isX7_lt h0) (isX7_sh h0) rfl rfl rfl rfl (Nat.le_of_ble_eq_true rfl) dX7_packsOf_30 (fun r6 m5 h => ?_)
    refine g_iload C 0 dX7_packsOf_33 rfl ?_
    refine g_iadd C dX7_packsOf_35 ?_
    refine g_iconst C (v := (1 : Int32)) dX7_packsOf_36 (by decide) ?_
    refine g_isub C dX7_packsOf_37 ?_
    refine g_iload C 0 dX7_packsOf_38 rfl ?_
    refine g_idiv C dX7_packsOf_40 h.1 ?_
    replace h := h.2
    refine g_goto C 45 dX7_packsOf_41 (by decide) ?_
    exact hr _ _ _ _ _ dX7_packsOf_45 rfl h
def SX7_whyNot_62 (X : XT) (Y : YT) (b : Nat) (p1 : Int32) (p2 : Int32) (p3 : Int32) : Int32 → Mem → Prop := fun v5 μ => G X Y 6 62 [(0, .ref (Y.ad b)), (1, .int p1), (2, .int p2), (3, .int p3), (5, .int v5)] [] μ
set_option maxRecDepth 20000 in
set_option maxHeartbeats 4000000 in
theorem tX7_whyNot_59 {X : XT} {Y : YT} {l0 : Launch} {b : Nat} {p1 : Int32} {p2 : Int32} {p3 : Int32} {Q : Int32 → Mem → Prop} (C : Cx X Y 6 cX7_whyNot RX7 WX7_whyNot (rmB 3 73) l0) (hr : RI X Y cX7_whyNot .int Q) (hI : YI Y) (h0 : isX7 Y b) (μ : Mem) (h : nX7_whyNot_59 b p1 p2 p3 Q (SX7_whyNot_62 X Y b p1 p2 p3) μ) : G X Y 6 59 [(0, .ref (Y.ad b)), (1, .int p1), (2, .int p2), (3, .int p3)] [] μ := by
  unfold nX7_whyNot_59 at h
  refine g_iconst C (v := (0 : Int32)) dX7_whyNot_59 (by decide) ?_
  refine g_istore C [(5, .int ((0 : Int32))), (0, .ref (Y.ad b)), (1, .int p1), (2, .int p2), (3, .int p3)] dX7_whyNot_60 (by decide) rfl ?_
  refine g_lv (lv2 := [(0, .ref (Y.ad b)), (1, .int p1), (2, .int p2), (3, .int p3), (5, .int ((0 : Int32)))]) [1, 2, 3, 4, 0] ?_ rfl
  exact h
set_option maxRecDepth 20000 in
set_option maxHeartbeats 4000000 in
theorem tX7_whyNot_96 {X : XT} {Y : YT} {l0 : Launch} {b : Nat} {p1 : Int32} {p2 : Int32} {p3 : Int32} {Q : Int32 → Mem → Prop} (C : Cx X Y 6 cX7_whyNot RX7 WX7_whyNot (rmB 3 73) l0) (hr : RI X Y cX7_whyNot .int Q) (hI : YI Y) (h0 : isX7 Y b) (v5 : Int32) (μ : Mem) (h : nX7_whyNot_96 b p1 p2 p3 Q (SX7_whyNot_62 X Y b p1 p2 p3) v5 μ) : G X Y 6 96 [(0, .ref (Y.ad b)), (1, .int p1), (2, .int p2), (3, .int p3), (5, .int v5)] [] μ := by
  unfold nX7_whyNot_96 at h
  refine g_iinc C (v := v5 + 1) 4 [(5, .int (v5 + 1)), (0, .ref (Y.ad b)), (1, .int p1), (2, .int p2), (3, .int p3)] dX7_whyNot_96 rfl rfl (by decide) rfl ?_
  refine g_goto C 62 dX7_whyNot_99 (by decide) ?_
  refine g_lv (lv2 := [(0, .ref (Y.ad b)), (1, .int p1), (2, .int p2), (3, .int p3), (5, .int (v5 + 1))]) [1, 2, 3, 4, 0] ?_ rfl
  exact h
set_option maxRecDepth 20000 in
set_option maxHeartbeats 4000000 in
theorem tX7_whyNot_62 {X : XT} {Y : YT} {l0 : Launch} {b : Nat} {p1 : Int32} {p2 : Int32} {p3 : Int32} {Q : Int32 → Mem → Prop} (C : Cx X Y 6 cX7_whyNot RX7 WX7_whyNot (rmB 3 73) l0) (hr : RI X Y cX7_whyNot .int Q) (hI : YI Y) (h0 : isX7 Y b) (v5 : Int32) (μ : Mem) (h : nX7_whyNot_62 b p1 p2 p3 Q (SX7_whyNot_62 X Y b p1 p2 p3) v5 μ) : G X Y 6 62 [(0, .ref (Y.ad b)), (1, .int p1), (2, .int p2), (3, .int p3), (5, .int v5)] [] μ := by
  unfold nX7_whyNot_62 at h
  refine g_iload C 4 dX7_whyNot_62 rfl ?_
  refine g_aload_n C 0 dX7_whyNot_64 rfl ?_
  refine gf_RX7_115 C h0 dX7_whyNot_65 ?_
  refine g_icmp_ge C 102 dX7_whyNot_68 (by decide) (fun c6 => ?_) (fun c6 => ?_)
  · replace h := h.1 c6
    refine g_iconst C (v := (0 : Int32)) dX7_whyNot_102 (by decide) ?_
    exact hr _ _ _ _ _ dX7_whyNot_103 rfl h
  · replace h := h.2 c6
    refine g_aload_n C 0 dX7_whyNot_71 rfl ?_
    refine g_iload_n C 1 dX7_whyNot_72 rfl ?_
    refine g_iload_n C 2 dX7_whyNot_73 rfl ?_
    refine g_iload_n C 3 dX7_whyNot_74 rfl ?_
    refine g_iload C 4 dX7_whyNot_75 rfl ?_
    refine g_callVI C [.int p1, .int p2, .int p3, .int v5] [] (ok_X7_lackOf hI h0 h) (cw_RX7_297 _) rfl dc_X7_lackOf ⟨Nat.le_of_ble_eq_true rfl, Nat.le_of_ble_eq_true rfl⟩ (isX7_lt h0) (isX7_sh h0) rfl rfl rfl rfl (Nat.le_of_ble_eq_true rfl) dX7_whyNot_77 (fun r8 m7 h => ?_)
    refine g_if_le C 96 dX7_whyNot_80 (by decide) (fun c9 => ?_) (fun c9 => ?_)
    · replace h := h.1 c9
      exact tX7_whyNot_96 C hr hI h0 _ _ h
    · replace h := h.2 c9
      refine g_aload_n C 0 dX7_whyNot_83 rfl ?_
      refine g_iload_n C 1 dX7_whyNot_84 rfl ?_
      refine g_iload_n C 2 dX7_whyNot_85 rfl ?_
      refine g_iload C 4 dX7_whyNot_86 rfl ?_
      refine g_callVI C [.int p1, .int p2, .int v5] [] (ok_X7_isBought hI h0 h) (cw_RX7_293 _) rfl dc_X7_isBought ⟨Nat.le_of_ble_eq_true rfl, Nat.le_of_ble_eq_true rfl⟩ (isX7_lt h0) (isX7_sh h0) rfl rfl rfl rfl (Nat.le_of_ble_eq_true rfl) dX7_whyNot_88 (fun r11 m10 h => ?_)
      refine g_if_ne C 96 dX7_whyNot_91 (by decide) (fun c12 => ?_) (fun c12 => ?_)
      · replace h := h.1 c12
        exact tX7_whyNot_96 C hr hI h0 _ _ h
      · replace h := h.2 c12
        refine g_iconst C (v := (3 : Int32)) dX7_whyNot_94 (by decide) ?_
        exact hr _ _ _ _ _ dX7_whyNot_95 rfl h
set_option maxRecDepth 20000 in
set_option maxHeartbeats 4000000 in
theorem ok_X7_whyNot {Y : YT} {l0 : Launch} {b : Nat} {p1 : Int32} {p2 : Int32} {p3 : Int32} {μ : Mem} {Q : Int32 → Mem → Prop} (hI : YI Y) (h0 : isX7 Y b) (h : PX7_whyNot b p1 p2 p3 μ Q) : MI l0 yX7_whyNot WX7_whyNot 3 73 Y [.ref (Y.ad b), .int p1, .int p2, .int p3] μ Q := by
  refine mI_of (ty := .int) (cc := cX7_whyNot) (maxL := 6) (by decide +kernel) rfl hI (Nat.le_of_ble_eq_true rfl) (fun X C hr => ?_)
  replace C : Cx X Y 6 cX7_whyNot RX7 WX7_whyNot (rmB 3 73) l0 := C
  refine g_lv (lv2 := [(0, .ref (Y.ad b)), (1, .int p1), (2, .int p2), (3, .int p3)]) [0, 1, 2, 3] ?_ rfl
  unfold PX7_whyNot at h
  replace h := h (SX7_whyNot_62 X Y b p1 p2 p3) (fun v5 μ z => tX7_whyNot_62 C hr hI h0 v5 μ z)
  refine g_aload_n C 0 dX7_whyNot_0 rfl ?_
  refine gf_RX7_127 C h0 dX7_whyNot_1 ?_
  refine g_aload_n C 0 dX7_whyNot_4 rfl ?_
  refine g_iload_n C 1 dX7_whyNot_5 rfl ?_
  refine g_callVI C [.int p1] [.int (μ.1 b 8)] (ok_X7_weekDay hI h0 h) (cw_RX7_290 _) rfl dc_X7_weekDay ⟨Nat.le_of_ble_eq_true rfl, Nat.le_of_ble_eq_true rfl⟩ (isX7_lt h0) (isX7_sh h0) rfl rfl rfl rfl (Nat.le_of_ble_eq_true rfl) dX7_whyNot_6 (fun r2 m1 h => ?_)
  refine g_ishr C dX7_whyNot_9 ?_
  refine g_iconst C (v := (1 : Int32)) dX7_whyNot_10 (by decide) ?_
  refine g_iand C dX7_whyNot_11 ?_
  refine g_iconst C (v := (1 : Int32)) dX7_whyNot_12 (by decide) ?_
  refine g_icmp_ne C 18 dX7_whyNot_13 (by decide) (fun c3 => ?_) (fun c3 => ?_)
  · replace h := h.1 c3
    refine g_aload_n C 0 dX7_whyNot_18 rfl ?_
    refine gf_RX7_49 C h0 dX7_whyNot_19 ?_
    refine g_iload_n C 1 dX7_whyNot_22 rfl ?_
    refine g_bipush C (v := (24 : Int32)) dX7_whyNot_23 (by decide) ?_
    refine g_iadd C dX7_whyNot_25 ?_
    refine g_iload_n C 2 dX7_whyNot_26 rfl ?_
    refine g_iadd C dX7_whyNot_27 ?_
    refine g_iald C (isX7_st h0).1 (isX7_st h0).2 h.1 dX7_whyNot_28 ?_
    replace h := h.2
    refine g_istore C [(4, .int (m1.1 (b + 14) ((p1 + ((24 : Int32))) + p2).toNatClampNeg)), (0, .ref (Y.ad b)), (1, .int p1), (2, .int p2), (3, .int p3)] dX7_whyNot_29 (by decide) rfl ?_
    refine g_iload C 0 dX7_whyNot_31 rfl ?_
    refine g_bipush C (v := (-4 : Int32)) dX7_whyNot_33 (by decide) ?_
    refine g_icmp_eq C 59 dX7_whyNot_35 (by decide) (fun c4 => ?_) (fun c4 => ?_)
    · replace h := h.1 c4
      refine g_lv (lv2 := [(0, .ref (Y.ad b)), (1, .int p1), (2, .int p2), (3, .int p3)]) [1, 2, 3, 4] ?_ rfl
      exact tX7_whyNot_59 C hr hI h0 _ h
    · replace h := h.2 c4
      refine g_aload_n C 1 dX7_whyNot_38 rfl ?_
      refine gf_RX7_49 C h0 dX7_whyNot_39 ?_
      refine g_iload_n C 2 dX7_whyNot_42 rfl ?_
      refine g_bipush C (v := (36 : Int32)) dX7_whyNot_43 (by decide) ?_
      refine g_iadd C dX7_whyNot_45 ?_
      refine g_iald C (isX7_st h0).1 (isX7_st h0).2 h.1 dX7_whyNot_46 ?_
      replace h := h.2
      refine g_iload C 0 dX7_whyNot_47 rfl ?_
      refine g_isub C dX7_whyNot_49 ?_
      refine g_aload_n C 1 dX7_whyNot_50 rfl ?_
      refine gf_RX7_121 C h0 dX7_whyNot_51 ?_
      refine g_icmp_ge C 59 dX7_whyNot_54 (by decide) (fun c5 => ?_) (fun c5 => ?_)
      · replace h := h.1 c5
        refine g_lv (lv2 := [(0, .ref (Y.ad b)), (1, .int p1), (2, .int p2), (3, .int p3)]) [1, 2, 3, 4] ?_ rfl
        exact tX7_whyNot_59 C hr hI h0 _ h
      · replace h := h.2 c5
        refine g_iconst C (v := (2 : Int32)) dX7_whyNot_57 (by decide) ?_
        exact hr _ _ _ _ _ dX7_whyNot_58 rfl h
  · replace h := h.2 c3
    refine g_iconst C (v := (1 : Int32)) dX7_whyNot_16 (by decide) ?_
    exact hr _ _ _ _ _ dX7_whyNot_17 rfl h
def SX7_findTaken_11 (X : XT) (Y : YT) (b : Nat) (p1 : Int32) (p2 : Int32) (p3 : Int32) : Int32 → Int32 → Mem → Prop := fun v4 v5 μ => G X Y 9 11 [(0, .ref (Y.ad b)), (1, .int p1), (2, .int p2), (3, .int p3), (4, .int v4), (5, .int v5)] [] μ
def SX7_findTaken_35 (X : XT) (Y : YT) (b : Nat) (p1 : Int32) (p2 : Int32) (p3 : Int32) : Int32 → Int32 → Mem → Prop := fun v4 v5 μ => G X Y 9 35 [(0, .ref (Y.ad b)), (1, .int p1), (2, .int p2), (3, .int p3), (4, .int v4), (5, .int v5)] [] μ
def SX7_findTaken_66 (X : XT) (Y : YT) (b : Nat) (p1 : Int32) (p2 : Int32) (p3 : Int32) : Int32 → Int32 → Int32 → Int32 → Mem → Prop := fun v4 v5 v6 v7 μ => G X Y 9 66 [(0, .ref (Y.ad b)), (1, .int p1), (2, .int p2), (3, .int p3), (4, .int v4), (5, .int v5), (6, .int v6), (7, .int v7)] [] μ
def SX7_findTaken_145 (X : XT) (Y : YT) (b : Nat) (p1 : Int32) (p2 : Int32) (p3 : Int32) : Int32 → Int32 → Mem → Prop := fun v4 v5 μ => G X Y 9 145 [(0, .ref (Y.ad b)), (1, .int p1), (2, .int p2), (3, .int p3), (4, .int v4), (5, .int v5)] [] μ
def SX7_findTaken_162 (X : XT) (Y : YT) (b : Nat) (p1 : Int32) (p2 : Int32) (p3 : Int32) : Int32 → Int32 → Int32 → Mem → Prop := fun v4 v5 v6 μ => G X Y 9 162 [(0, .ref (Y.ad b)), (1, .int p1), (2, .int p2), (3, .int p3), (4, .int v4), (5, .int v5), (6, .int v6)] [] μ
set_option maxRecDepth 20000 in
set_option maxHeartbeats 4000000 in
theorem tX7_findTaken_11 {X : XT} {Y : YT} {l0 : Launch} {b : Nat} {p1 : Int32} {p2 : Int32} {p3 : Int32} {Q : Mem → Prop} (C : Cx X Y 9 cX7_findTaken RX7 WX7_findTaken (rmB 2 45) l0) (hr : RV X Y cX7_findTaken Q) (hI : YI Y) (h0 : isX7 Y b) (v4 : Int32) (v5 : Int32) (μ : Mem) (h : nX7_findTaken_11 b p1 p2 p3 Q (SX7_findTaken_11 X Y b p1 p2 p3) (SX7_findTaken_35 X Y b p1 p2 p3) (SX7_findTaken_66 X Y b p1 p2 p3) (SX7_findTaken_145 X Y b p1 p2 p3) (SX7_findTaken_162 X Y b p1 p2 p3) v4 v5 μ) : G X Y 9 11 [(0, .ref (Y.ad b)), (1, .int p1), (2, .int p2), (3, .int p3), (4, .int v4), (5, .int v5)] [] μ := by
  unfold nX7_findTaken_11 at h
  refine g_iload C 5 dX7_findTaken_11 rfl ?_
  refine g_bipush C (v := (24 : Int32)) dX7_findTaken_13 (by decide) ?_
  refine g_icmp_ge C 32 dX7_findTaken_15 (by decide) (fun c3 => ?_) (fun c3 => ?_)
  · replace h := h.1 c3
    refine g_iconst C (v := (0 : Int32)) dX7_findTaken_32 (by decide) ?_
    refine g_istore C [(5, .int ((0 : Int32))), (0, .ref (Y.ad b)), (1, .int p1), (2, .int p2), (3, .int p3), (4, .int v4)] dX7_findTaken_33 (by decide) rfl ?_
    refine g_lv (lv2 := [(0, .ref (Y.ad b)), (1, .int p1), (2, .int p2), (3, .int p3), (4, .int v4), (5, .int ((0 : Int32)))]) [1, 2, 3, 4, 5, 0] ?_ rfl
    exact h
  · replace h := h.2 c3
    refine g_aload_n C 0 dX7_findTaken_18 rfl ?_
    refine gf_RX7_56 C h0 dX7_findTaken_19 ?_
    refine g_iload C 5 dX7_findTaken_22 rfl ?_
    refine g_iconst C (v := (0 : Int32)) dX7_findTaken_24 (by decide) ?_
    refine g_iast C (isX7_taken h0).1 (isX7_taken h0).2 h.1 dX7_findTaken_25 ?_
    replace h := h.2
    refine g_iinc C (v := v5 + 1) 5 [(5, .int (v5 + 1)), (0, .ref (Y.ad b)), (1, .int p1), (2, .int p2), (3, .int p3), (4, .int v4)] dX7_findTaken_26 rfl rfl (by decide) rfl ?_
    refine g_goto C 11 dX7_findTaken_29 (by decide) ?_
    refine g_lv (lv2 := [(0, .ref (Y.ad b)), (1, .int p1), (2, .int p2), (3, .int p3), (4, .int v4), (5, .int (v5 + 1))]) [1, 2, 3, 4, 5, 0] ?_ rfl
    exact h
set_option maxRecDepth 20000 in
set_option maxHeartbeats 4000000 in
theorem tX7_findTaken_142 {X : XT} {Y : YT} {l0 : Launch} {b : Nat} {p1 : Int32} {p2 : Int32} {p3 : Int32} {Q : Mem → Prop} (C : Cx X Y 9 cX7_findTaken RX7 WX7_findTaken (rmB 2 45) l0) (hr : RV X Y cX7_findTaken Q) (hI : YI Y) (h0 : isX7 Y b) (v4 : Int32) (μ : Mem) (h : nX7_findTaken_142 b p1 p2 p3 Q (SX7_findTaken_11 X Y b p1 p2 p3) (SX7_findTaken_35 X Y b p1 p2 p3) (SX7_findTaken_66 X Y b p1 p2 p3) (SX7_findTaken_145 X Y b p1 p2 p3) (SX7_findTaken_162 X Y b p1 p2 p3) v4 μ) : G X Y 9 142 [(0, .ref (Y.ad b)), (1, .int p1), (2, .int p2), (3, .int p3), (4, .int v4)] [] μ := by
  unfold nX7_findTaken_142 at h
  refine g_iconst C (v := (3 : Int32)) dX7_findTaken_142 (by decide) ?_
  refine g_istore C [(5, .int ((3 : Int32))), (0, .ref (Y.ad b)), (1, .int p1), (2, .int p2), (3, .int p3), (4, .int v4)] dX7_findTaken_143 (by decide) rfl ?_
  refine g_lv (lv2 := [(0, .ref (Y.ad b)), (1, .int p1), (2, .int p2), (3, .int p3), (4, .int v4), (5, .int ((3 : Int32)))]) [1, 2, 3, 4, 5, 0] ?_ rfl
  exact h
set_option maxRecDepth 20000 in
set_option maxHeartbeats 4000000 in
theorem tX7_findTaken_35 {X : XT} {Y : YT} {l0 : Launch} {b : Nat} {p1 : Int32} {p2 : Int32} {p3 : Int32} {Q : Mem → Prop} (C : Cx X Y 9 cX7_findTaken RX7 WX7_findTaken (rmB 2 45) l0) (hr : RV X Y cX7_findTaken Q) (hI : YI Y) (h0 : isX7 Y b) (v4 : Int32) (v5 : Int32) (μ : Mem) (h : nX7_findTaken_35 b p1 p2 p3 Q (SX7_findTaken_11 X Y b p1 p2 p3) (SX7_findTaken_35 X Y b p1 p2 p3) (SX7_findTaken_66 X Y b p1 p2 p3) (SX7_findTaken_145 X Y b p1 p2 p3) (SX7_findTaken_162 X Y b p1 p2 p3) v4 v5 μ) : G X Y 9 35 [(0, .ref (Y.ad b)), (1, .int p1), (2, .int p2), (3, .int p3), (4, .int v4), (5, .int v5)] [] μ := by
  unfold nX7_findTaken_35 at h
  refine g_iload C 5 dX7_findTaken_35 rfl ?_
  refine g_aload_n C 0 dX7_findTaken_37 rfl ?_
  refine gf_RX7_115 C h0 dX7_findTaken_38 ?_
  refine g_icmp_ge C 142 dX7_findTaken_41 (by decide) (fun c4 => ?_) (fun c4 => ?_)
  · replace h := h.1 c4
    refine g_lv (lv2 := [(0, .ref (Y.ad b)), (1, .int p1), (2, .int p2), (3, .int p3), (4, .int v4)]) [0, 1, 2, 3, 4] ?_ rfl
    exact tX7_findTaken_142 C hr hI h0 _ _ h
  · replace h := h.2 c4
    refine g_aload_n C 0 dX7_findTaken_44 rfl ?_
    refine g_iload_n C 2 dX7_findTaken_45 rfl ?_
    refine g_callVI C [.int p2] [] (ok_X7_kind hI h0 h) (cw_RX7_267 _) rfl dc_X7_kind ⟨Nat.le_of_ble_eq_true rfl, Nat.le_of_ble_eq_true rfl⟩ (isX7_lt h0) (isX7_sh h0) rfl rfl rfl rfl (Nat.le_of_ble_eq_true rfl) dX7_findTaken_46 (fun r6 m5 h => ?_)
    refine g_iconst C (v := (3 : Int32)) dX7_findTaken_49 (by decide) ?_
    refine g_icmp_eq C 142 dX7_findTaken_50 (by decide) (fun c7 => ?_) (fun c7 => ?_)
    · replace h := h.1 c7
      refine g_lv (lv2 := [(0, .ref (Y.ad b)), (1, .int p1), (2, .int p2), (3, .int p3), (4, .int v4)]) [0, 1, 2, 3, 4] ?_ rfl
      exact tX7_findTaken_142 C hr hI h0 _ _ h
    · replace h := h.2 c7
      refine g_aload_n C 0 dX7_findTaken_53 rfl ?_
      refine g_iload_n C 2 dX7_findTaken_54 rfl ?_
      refine g_iload_n C 3 dX7_findTaken_55 rfl ?_
      refine g_iload C 5 dX7_findTaken_56 rfl ?_
      refine g_callVI C [.int p2, .int p3, .int v5] [] (ok_X7_wantOf hI h0 h) (cw_RX7_286 _) rfl dc_X7_wantOf ⟨Nat.le_of_ble_eq_true rfl, Nat.le_of_ble_eq_true rfl⟩ (isX7_lt h0) (isX7_sh h0) rfl rfl rfl rfl (Nat.le_of_ble_eq_true rfl) dX7_findTaken_58 (fun r9 m8 h => ?_)
      refine g_istore C [(6, .int r9), (0, .ref (Y.ad b)), (1, .int p1), (2, .int p2), (3, .int p3), (4, .int v4), (5, .int v5)] dX7_findTaken_61 (by decide) rfl ?_
      refine g_iconst C (v := (3 : Int32)) dX7_findTaken_63 (by decide) ?_
      refine g_istore C [(7, .int ((3 : Int32))), (6, .int r9), (0, .ref (Y.ad b)), (1, .int p1), (2, .int p2), (3, .int p3), (4, .int v4), (5, .int v5)] dX7_findTaken_64 (by decide) rfl ?_
      refine g_lv (lv2 := [(0, .ref (Y.ad b)), (1, .int p1), (2, .int p2), (3, .int p3), (4, .int v4), (5, .int v5), (6, .int r9), (7, .int ((3 : Int32)))]) [2, 3, 4, 5, 6, 7, 1, 0] ?_ rfl
      exact h
set_option maxRecDepth 20000 in
set_option maxHeartbeats 4000000 in
theorem tX7_findTaken_112 {X : XT} {Y : YT} {l0 : Launch} {b : Nat} {p1 : Int32} {p2 : Int32} {p3 : Int32} {Q : Mem → Prop} (C : Cx X Y 9 cX7_findTaken RX7 WX7_findTaken (rmB 2 45) l0) (hr : RV X Y cX7_findTaken Q) (hI : YI Y) (h0 : isX7 Y b) (v4 : Int32) (v5 : Int32) (v6 : Int32) (v7 : Int32) (w0 : Int32) (w1 : Int32) (μ : Mem) (h : nX7_findTaken_112 b p1 p2 p3 Q (SX7_findTaken_11 X Y b p1 p2 p3) (SX7_findTaken_35 X Y b p1 p2 p3) (SX7_findTaken_66 X Y b p1 p2 p3) (SX7_findTaken_145 X Y b p1 p2 p3) (SX7_findTaken_162 X Y b p1 p2 p3) v4 v5 v6 v7 w0 w1 μ) : G X Y 9 112 [(0, .ref (Y.ad b)), (1, .int p1), (2, .int p2), (3, .int p3), (4, .int v4), (5, .int v5), (6, .int v6), (7, .int v7)] [.int w0, .int w1, .ref (Y.ad (b + 16))] μ := by
  unfold nX7_findTaken_112 at h
  refine g_iast C (isX7_taken h0).1 (isX7_taken h0).2 h.1 dX7_findTaken_112 ?_
  replace h := h.2
  refine g_iload C 6 dX7_findTaken_113 rfl ?_
  refine g_aload_n C 0 dX7_findTaken_115 rfl ?_
  refine gf_RX7_56 C h0 dX7_findTaken_116 ?_
  refine g_iconst C (v := (4 : Int32)) dX7_findTaken_119 (by decide) ?_
  refine g_iload C 5 dX7_findTaken_120 rfl ?_
  refine g_imul C dX7_findTaken_122 ?_
  refine g_iload C 7 dX7_findTaken_123 rfl ?_
  refine g_iadd C dX7_findTaken_125 ?_
  refine g_iald C (isX7_taken h0).1 (isX7_taken h0).2 h.1 dX7_findTaken_126 ?_
  replace h := h.2
  refine g_isub C dX7_findTaken_127 ?_
  refine g_topi (fun x13 ex13 => ?_)
  replace h := h x13 ex13
  refine g_istore C [(6, .int x13), (0, .ref (Y.ad b)), (1, .int p1), (2, .int p2), (3, .int p3), (4, .int v4), (5, .int v5), (7, .int v7)] dX7_findTaken_128 (by decide) rfl ?_
  refine g_iinc C (v := v7 + (-1)) 7 [(7, .int (v7 + (-1))), (6, .int x13), (0, .ref (Y.ad b)), (1, .int p1), (2, .int p2), (3, .int p3), (4, .int v4), (5, .int v5)] dX7_findTaken_130 rfl rfl (by decide) rfl ?_
  refine g_goto C 66 dX7_findTaken_133 (by decide) ?_
  refine g_lv (lv2 := [(0, .ref (Y.ad b)), (1, .int p1), (2, .int p2), (3, .int p3), (4, .int v4), (5, .int v5), (6, .int x13), (7, .int (v7 + (-1)))]) [2, 3, 4, 5, 6, 7, 1, 0] ?_ rfl
  exact h
set_option maxRecDepth 20000 in
set_option maxHeartbeats 4000000 in
theorem tX7_findTaken_66 {X : XT} {Y : YT} {l0 : Launch} {b : Nat} {p1 : Int32} {p2 : Int32} {p3 : Int32} {Q : Mem → Prop} (C : Cx X Y 9 cX7_findTaken RX7 WX7_findTaken (rmB 2 45) l0) (hr : RV X Y cX7_findTaken Q) (hI : YI Y) (h0 : isX7 Y b) (v4 : Int32) (v5 : Int32) (v6 : Int32) (v7 : Int32) (μ : Mem) (h : nX7_findTaken_66 b p1 p2 p3 Q (SX7_findTaken_11 X Y b p1 p2 p3) (SX7_findTaken_35 X Y b p1 p2 p3) (SX7_findTaken_66 X Y b p1 p2 p3) (SX7_findTaken_145 X Y b p1 p2 p3) (SX7_findTaken_162 X Y b p1 p2 p3) v4 v5 v6 v7 μ) : G X Y 9 66 [(0, .ref (Y.ad b)), (1, .int p1), (2, .int p2), (3, .int p3), (4, .int v4), (5, .int v5), (6, .int v6), (7, .int v7)] [] μ := by
  unfold nX7_findTaken_66 at h
  refine g_iload C 7 dX7_findTaken_66 rfl ?_
  refine g_if_lt C 136 dX7_findTaken_68 (by decide) (fun c10 => ?_) (fun c10 => ?_)
  · replace h := h.1 c10
    refine g_iinc C (v := v5 + 1) 5 [(5, .int (v5 + 1)), (0, .ref (Y.ad b)), (1, .int p1), (2, .int p2), (3, .int p3), (4, .int v4), (6, .int v6), (7, .int v7)] dX7_findTaken_136 rfl rfl (by decide) rfl ?_
    refine g_goto C 35 dX7_findTaken_139 (by decide) ?_
    refine g_lv (lv2 := [(0, .ref (Y.ad b)), (1, .int p1), (2, .int p2), (3, .int p3), (4, .int v4), (5, .int (v5 + 1))]) [1, 2, 3, 4, 5, 0] ?_ rfl
    exact h
  · replace h := h.2 c10
    refine g_aload_n C 0 dX7_findTaken_71 rfl ?_
    refine gf_RX7_49 C h0 dX7_findTaken_72 ?_
    refine g_iload_n C 1 dX7_findTaken_75 rfl ?_
    refine g_iconst C (v := (4 : Int32)) dX7_findTaken_76 (by decide) ?_
    refine g_iload C 5 dX7_findTaken_77 rfl ?_
    refine g_imul C dX7_findTaken_79 ?_
    refine g_iadd C dX7_findTaken_80 ?_
    refine g_iload C 7 dX7_findTaken_81 rfl ?_
    refine g_iadd C dX7_findTaken_83 ?_
    refine g_iald C (isX7_st h0).1 (isX7_st h0).2 h.1 dX7_findTaken_84 ?_
    replace h := h.2
    refine g_topi (fun x11 ex11 => ?_)
    replace h := h x11 ex11
    refine g_istore C [(8, .int x11), (0, .ref (Y.ad b)), (1, .int p1), (2, .int p2), (3, .int p3), (4, .int v4), (5, .int v5), (6, .int v6), (7, .int v7)] dX7_findTaken_85 (by decide) rfl ?_
    refine g_aload_n C 1 dX7_findTaken_87 rfl ?_
    refine gf_RX7_56 C h0 dX7_findTaken_88 ?_
    refine g_iconst C (v := (4 : Int32)) dX7_findTaken_91 (by decide) ?_
    refine g_iload C 6 dX7_findTaken_92 rfl ?_
    refine g_imul C dX7_findTaken_94 ?_
    refine g_iload C 8 dX7_findTaken_95 rfl ?_
    refine g_iadd C dX7_findTaken_97 ?_
    refine g_iload C 0 dX7_findTaken_98 rfl ?_
    refine g_iload C 7 dX7_findTaken_100 rfl ?_
    refine g_icmp_ge C 110 dX7_findTaken_102 (by decide) (fun c12 => ?_) (fun c12 => ?_)
    · replace h := h.1 c12
      refine g_iload C 7 dX7_findTaken_110 rfl ?_
      refine g_lv (lv2 := [(0, .ref (Y.ad b)), (1, .int p1), (2, .int p2), (3, .int p3), (4, .int v4), (5, .int v5), (6, .int v6), (7, .int v7)]) [1, 2, 3, 4, 5, 6, 7, 8] ?_ rfl
      exact tX7_findTaken_112 C hr hI h0 _ _ _ _ _ _ _ h
    · replace h := h.2 c12
      refine g_iload C 0 dX7_findTaken_105 rfl ?_
      refine g_goto C 112 dX7_findTaken_107 (by decide) ?_
      refine g_lv (lv2 := [(0, .ref (Y.ad b)), (1, .int p1), (2, .int p2), (3, .int p3), (4, .int v4), (5, .int v5), (6, .int v6), (7, .int v7)]) [1, 2, 3, 4, 5, 6, 7, 8] ?_ rfl
      exact tX7_findTaken_112 C hr hI h0 _ _ _ _ _ _ _ h
set_option maxRecDepth 20000 in
set_option maxHeartbeats 4000000 in
theorem tX7_findTaken_145 {X : XT} {Y : YT} {l0 : Launch} {b : Nat} {p1 : Int32} {p2 : Int32} {p3 : Int32} {Q : Mem → Prop} (C : Cx X Y 9 cX7_findTaken RX7 WX7_findTaken (rmB 2 45) l0) (hr : RV X Y cX7_findTaken Q) (hI : YI Y) (h0 : isX7 Y b) (v4 : Int32) (v5 : Int32) (μ : Mem) (h : nX7_findTaken_145 b p1 p2 p3 Q (SX7_findTaken_11 X Y b p1 p2 p3) (SX7_findTaken_35 X Y b p1 p2 p3) (SX7_findTaken_66 X Y b p1 p2 p3) (SX7_findTaken_145 X Y b p1 p2 p3) (SX7_findTaken_162 X Y b p1 p2 p3) v4 v5 μ) : G X Y 9 145 [(0, .ref (Y.ad b)), (1, .int p1), (2, .int p2), (3, .int p3), (4, .int v4), (5, .int v5)] [] μ := by
  unfold nX7_findTaken_145 at h
  refine g_iload C 5 dX7_findTaken_145 rfl ?_
  refine g_if_lt C 256 dX7_findTaken_147 (by decide) (fun c14 => ?_) (fun c14 => ?_)
  · replace h := h.1 c14
    exact hr _ _ _ _ dX7_findTaken_256 h
  · replace h := h.2 c14
    refine g_aload_n C 0 dX7_findTaken_150 rfl ?_
    refine g_iload_n C 2 dX7_findTaken_151 rfl ?_
    refine g_callVI C [.int p2] [] (ok_X7_kind hI h0 h) (cw_RX7_267 _) rfl dc_X7_kind ⟨Nat.le_of_ble_eq_true rfl, Nat.le_of_ble_eq_true rfl⟩ (isX7_lt h0) (isX7_sh h0) rfl rfl rfl rfl (Nat.le_of_ble_eq_true rfl) dX7_findTaken_152 (fun r16 m15 h => ?_)
    refine g_iconst C (v := (3 : Int32)) dX7_findTaken_155 (by decide) ?_
    refine g_icmp_ne C 256 dX7_findTaken_156 (by decide) (fun c17 => ?_) (fun c17 => ?_)
    · replace h := h.1 c17
      exact hr _ _ _ _ dX7_findTaken_256 h
    · replace h := h.2 c17
      refine g_iconst C (v := (0 : Int32)) dX7_findTaken_159 (by decide) ?_
      refine g_istore C [(6, .int ((0 : Int32))), (0, .ref (Y.ad b)), (1, .int p1), (2, .int p2), (3, .int p3), (4, .int v4), (5, .int v5)] dX7_findTaken_160 (by decide) rfl ?_
      refine g_lv (lv2 := [(0, .ref (Y.ad b)), (1, .int p1), (2, .int p2), (3, .int p3), (4, .int v4), (5, .int v5), (6, .int ((0 : Int32)))]) [1, 2, 3, 4, 5, 6, 0] ?_ rfl
      exact h
set_option maxRecDepth 20000 in
set_option maxHeartbeats 4000000 in
theorem tX7_findTaken_226 {X : XT} {Y : YT} {l0 : Launch} {b : Nat} {p1 : Int32} {p2 : Int32} {p3 : Int32} {Q : Mem → Prop} (C : Cx X Y 9 cX7_findTaken RX7 WX7_findTaken (rmB 2 45) l0) (hr : RV X Y cX7_findTaken Q) (hI : YI Y) (h0 : isX7 Y b) (v4 : Int32) (v5 : Int32) (v6 : Int32) (w0 : Int32) (w1 : Int32) (μ : Mem) (h : nX7_findTaken_226 b p1 p2 p3 Q (SX7_findTaken_11 X Y b p1 p2 p3) (SX7_findTaken_35 X Y b p1 p2 p3) (SX7_findTaken_66 X Y b p1 p2 p3) (SX7_findTaken_145 X Y b p1 p2 p3) (SX7_findTaken_162 X Y b p1 p2 p3) v4 v5 v6 w0 w1 μ) : G X Y 9 226 [(0, .ref (Y.ad b)), (1, .int p1), (2, .int p2), (3, .int p3), (4, .int v4), (5, .int v5), (6, .int v6)] [.int w0, .int w1, .ref (Y.ad (b + 16))] μ := by
  unfold nX7_findTaken_226 at h
  refine g_iast C (isX7_taken h0).1 (isX7_taken h0).2 h.1 dX7_findTaken_226 ?_
  replace h := h.2
  refine g_iload C 4 dX7_findTaken_227 rfl ?_
  refine g_aload_n C 0 dX7_findTaken_229 rfl ?_
  refine gf_RX7_56 C h0 dX7_findTaken_230 ?_
  refine g_iconst C (v := (4 : Int32)) dX7_findTaken_233 (by decide) ?_
  refine g_iload C 6 dX7_findTaken_234 rfl ?_
  refine g_imul C dX7_findTaken_236 ?_
  refine g_iload C 5 dX7_findTaken_237 rfl ?_
  refine g_iadd C dX7_findTaken_239 ?_
  refine g_iald C (isX7_taken h0).1 (isX7_taken h0).2 h.1 dX7_findTaken_240 ?_
  replace h := h.2
  refine g_isub C dX7_findTaken_241 ?_
  refine g_topi (fun x23 ex23 => ?_)
  replace h := h x23 ex23
  refine g_istore C [(4, .int x23), (0, .ref (Y.ad b)), (1, .int p1), (2, .int p2), (3, .int p3), (5, .int v5), (6, .int v6)] dX7_findTaken_242 (by decide) rfl ?_
  refine g_iinc C (v := v6 + 1) 6 [(6, .int (v6 + 1)), (4, .int x23), (0, .ref (Y.ad b)), (1, .int p1), (2, .int p2), (3, .int p3), (5, .int v5)] dX7_findTaken_244 rfl rfl (by decide) rfl ?_
  refine g_goto C 162 dX7_findTaken_247 (by decide) ?_
  refine g_lv (lv2 := [(0, .ref (Y.ad b)), (1, .int p1), (2, .int p2), (3, .int p3), (4, .int x23), (5, .int v5), (6, .int (v6 + 1))]) [2, 3, 4, 5, 1, 6, 0] ?_ rfl
  exact h
set_option maxRecDepth 20000 in
set_option maxHeartbeats 4000000 in
theorem tX7_findTaken_199 {X : XT} {Y : YT} {l0 : Launch} {b : Nat} {p1 : Int32} {p2 : Int32} {p3 : Int32} {Q : Mem → Prop} (C : Cx X Y 9 cX7_findTaken RX7 WX7_findTaken (rmB 2 45) l0) (hr : RV X Y cX7_findTaken Q) (hI : YI Y) (h0 : isX7 Y b) (v4 : Int32) (v5 : Int32) (v6 : Int32) (w0 : Int32) (μ : Mem) (h : nX7_findTaken_199 b p1 p2 p3 Q (SX7_findTaken_11 X Y b p1 p2 p3) (SX7_findTaken_35 X Y b p1 p2 p3) (SX7_findTaken_66 X Y b p1 p2 p3) (SX7_findTaken_145 X Y b p1 p2 p3) (SX7_findTaken_162 X Y b p1 p2 p3) v4 v5 v6 w0 μ) : G X Y 9 199 [(0, .ref (Y.ad b)), (1, .int p1), (2, .int p2), (3, .int p3), (4, .int v4), (5, .int v5), (6, .int v6)] [.int w0] μ := by
  unfold nX7_findTaken_199 at h
  refine g_istore C [(7, .int w0), (0, .ref (Y.ad b)), (1, .int p1), (2, .int p2), (3, .int p3), (4, .int v4), (5, .int v5), (6, .int v6)] dX7_findTaken_199 (by decide) rfl ?_
  refine g_aload_n C 1 dX7_findTaken_201 rfl ?_
  refine gf_RX7_56 C h0 dX7_findTaken_202 ?_
  refine g_iconst C (v := (4 : Int32)) dX7_findTaken_205 (by decide) ?_
  refine g_iload C 7 dX7_findTaken_206 rfl ?_
  refine g_imul C dX7_findTaken_208 ?_
  refine g_iload C 6 dX7_findTaken_209 rfl ?_
  refine g_iadd C dX7_findTaken_211 ?_
  refine g_iload C 0 dX7_findTaken_212 rfl ?_
  refine g_iload C 5 dX7_findTaken_214 rfl ?_
  refine g_icmp_ge C 224 dX7_findTaken_216 (by decide) (fun c22 => ?_) (fun c22 => ?_)
  · replace h := h.1 c22
    refine g_iload C 5 dX7_findTaken_224 rfl ?_
    refine g_lv (lv2 := [(0, .ref (Y.ad b)), (1, .int p1), (2, .int p2), (3, .int p3), (4, .int v4), (5, .int v5), (6, .int v6)]) [1, 2, 3, 4, 5, 6, 7] ?_ rfl
    exact tX7_findTaken_226 C hr hI h0 _ _ _ _ _ _ h
  · replace h := h.2 c22
    refine g_iload C 0 dX7_findTaken_219 rfl ?_
    refine g_goto C 226 dX7_findTaken_221 (by decide) ?_
    refine g_lv (lv2 := [(0, .ref (Y.ad b)), (1, .int p1), (2, .int p2), (3, .int p3), (4, .int v4), (5, .int v5), (6, .int v6)]) [1, 2, 3, 4, 5, 6, 7] ?_ rfl
    exact tX7_findTaken_226 C hr hI h0 _ _ _ _ _ _ h
set_option maxRecDepth 20000 in
set_option maxHeartbeats 4000000 in
theorem tX7_findTaken_162 {X : XT} {Y : YT} {l0 : Launch} {b : Nat} {p1 : Int32} {p2 : Int32} {p3 : Int32} {Q : Mem → Prop} (C : Cx X Y 9 cX7_findTaken RX7 WX7_findTaken (rmB 2 45) l0) (hr : RV X Y cX7_findTaken Q) (hI : YI Y) (h0 : isX7 Y b) (v4 : Int32) (v5 : Int32) (v6 : Int32) (μ : Mem) (h : nX7_findTaken_162 b p1 p2 p3 Q (SX7_findTaken_11 X Y b p1 p2 p3) (SX7_findTaken_35 X Y b p1 p2 p3) (SX7_findTaken_66 X Y b p1 p2 p3) (SX7_findTaken_145 X Y b p1 p2 p3) (SX7_findTaken_162 X Y b p1 p2 p3) v4 v5 v6 μ) : G X Y 9 162 [(0, .ref (Y.ad b)), (1, .int p1), (2, .int p2), (3, .int p3), (4, .int v4), (5, .int v5), (6, .int v6)] [] μ := by
  unfold nX7_findTaken_162 at h
  refine g_iload C 6 dX7_findTaken_162 rfl ?_
  refine g_aload_n C 0 dX7_findTaken_164 rfl ?_
  refine gf_RX7_115 C h0 dX7_findTaken_165 ?_
  refine g_icmp_ge C 250 dX7_findTaken_168 (by decide) (fun c18 => ?_) (fun c18 => ?_)
  · replace h := h.1 c18
    refine g_iinc C (v := v5 + (-1)) 5 [(5, .int (v5 + (-1))), (0, .ref (Y.ad b)), (1, .int p1), (2, .int p2), (3, .int p3), (4, .int v4), (6, .int v6)] dX7_findTaken_250 rfl rfl (by decide) rfl ?_
    refine g_goto C 145 dX7_findTaken_253 (by decide) ?_
    refine g_lv (lv2 := [(0, .ref (Y.ad b)), (1, .int p1), (2, .int p2), (3, .int p3), (4, .int v4), (5, .int (v5 + (-1)))]) [1, 2, 3, 4, 5, 0] ?_ rfl
    exact h
  · replace h := h.2 c18
    refine g_aload_n C 0 dX7_findTaken_171 rfl ?_
    refine g_iload_n C 2 dX7_findTaken_172 rfl ?_
    refine g_iload C 6 dX7_findTaken_173 rfl ?_
    refine g_callVI C [.int p2, .int v6] [] (ok_X7_isAmong hI h0 h) (cw_RX7_273 _) rfl dc_X7_isAmong ⟨Nat.le_of_ble_eq_true rfl, Nat.le_of_ble_eq_true rfl⟩ (isX7_lt h0) (isX7_sh h0) rfl rfl rfl rfl (Nat.le_of_ble_eq_true rfl) dX7_findTaken_175 (fun r20 m19 h => ?_)
    refine g_if_eq C 198 dX7_findTaken_178 (by decide) (fun c21 => ?_) (fun c21 => ?_)
    · replace h := h.1 c21
      refine g_iconst C (v := (0 : Int32)) dX7_findTaken_198 (by decide) ?_
      exact tX7_findTaken_199 C hr hI h0 _ _ _ _ _ h
    · replace h := h.2 c21
      refine g_aload_n C 0 dX7_findTaken_181 rfl ?_
      refine gf_RX7_49 C h0 dX7_findTaken_182 ?_
      refine g_iload_n C 1 dX7_findTaken_185 rfl ?_
      refine g_iconst C (v := (4 : Int32)) dX7_findTaken_186 (by decide) ?_
      refine g_iload C 6 dX7_findTaken_187 rfl ?_
      refine g_imul C dX7_findTaken_189 ?_
      refine g_iadd C dX7_findTaken_190 ?_
      refine g_iload C 5 dX7_findTaken_191 rfl ?_
      refine g_iadd C dX7_findTaken_193 ?_
      refine g_iald C (isX7_st h0).1 (isX7_st h0).2 h.1 dX7_findTaken_194 ?_
      replace h := h.2
      refine g_goto C 199 dX7_findTaken_195 (by decide) ?_
      exact tX7_findTaken_199 C hr hI h0 _ _ _ _ _ h
set_option maxRecDepth 20000 in
set_option maxHeartbeats 4000000 in
theorem ok_X7_findTaken {Y : YT} {l0 : Launch} {b : Nat} {p1 : Int32} {p2 : Int32} {p3 : Int32} {μ : Mem} {Q : Mem → Prop} (hI : YI Y) (h0 : isX7 Y b) (h : PX7_findTaken b p1 p2 p3 μ Q) : MV l0 yX7_findTaken WX7_findTaken 2 45 Y [.ref (Y.ad b), .int p1, .int p2, .int p3] μ Q := by
  refine mV_of (cc := cX7_findTaken) (maxL := 9) (by decide +kernel) rfl hI (Nat.le_of_ble_eq_true rfl) (fun X C hr => ?_)
  replace C : Cx X Y 9 cX7_findTaken RX7 WX7_findTaken (rmB 2 45) l0 := C
  refine g_lv (lv2 := [(0, .ref (Y.ad b)), (1, .int p1), (2, .int p2), (3, .int p3)]) [0, 1, 2, 3] ?_ rfl
  unfold PX7_findTaken at h
  replace h := h (SX7_findTaken_11 X Y b p1 p2 p3) (SX7_findTaken_35 X Y b p1 p2 p3) (SX7_findTaken_66 X Y b p1 p2 p3) (SX7_findTaken_145 X Y b p1 p2 p3) (SX7_findTaken_162 X Y b p1 p2 p3) (fun v4 v5 μ z => tX7_findTaken_11 C hr hI h0 v4 v5 μ z) (fun v4 v5 μ z => tX7_findTaken_35 C hr hI h0 v4 v5 μ z) (fun v4 v5 v6 v7 μ z => tX7_findTaken_66 C hr hI h0 v4 v5 v6 v7 μ z) (fun v4 v5 μ z => tX7_findTaken_145 C hr hI h0 v4 v5 μ z) (fun v4 v5 v6 μ z => tX7_findTaken_162 C hr hI h0 v4 v5 v6 μ z)
  refine g_aload_n C 0 dX7_findTaken_0 rfl ?_
  refine g_iload_n C 2 dX7_findTaken_1 rfl ?_
  refine g_iload_n C 3 dX7_findTaken_2 rfl ?_
  refine g_callVI C [.int p2, .int p3] [] (ok_X7_anyOf hI h0 h) (cw_RX7_279 _) rfl dc_X7_anyOf ⟨Nat.le_of_ble_eq_true rfl, Nat.le_of_ble_eq_true rfl⟩ (isX7_lt h0) (isX7_sh h0) rfl rfl rfl rfl (Nat.le_of_ble_eq_true rfl) dX7_findTaken_3 (fun r2 m1 h => ?_)
  refine g_istore C [(4, .int r2), (0, .ref (Y.ad b)), (1, .int p1), (2, .int p2), (3, .int p3)] dX7_findTaken_6 (by decide) rfl ?_
  refine g_iconst C (v := (0 : Int32)) dX7_findTaken_8 (by decide) ?_
  refine g_istore C [(5, .int ((0 : Int32))), (4, .int r2), (0, .ref (Y.ad b)), (1, .int p1), (2, .int p2), (3, .int p3)] dX7_findTaken_9 (by decide) rfl ?_
  refine g_lv (lv2 := [(0, .ref (Y.ad b)), (1, .int p1), (2, .int p2), (3, .int p3), (4, .int r2), (5, .int ((0 : Int32)))]) [2, 3, 4, 5, 1, 0] ?_ rfl
  exact h
def SX7_eats_13 (X : XT) (Y : YT) (b : Nat) (p1 : Int32) (p2 : Int32) (p3 : Int32) : Int32 → Int32 → Mem → Prop := fun v4 v5 μ => G X Y 8 13 [(0, .ref (Y.ad b)), (1, .int p1), (2, .int p2), (3, .int p3), (4, .int v4), (5, .int v5)] [] μ
def SX7_eats_105 (X : XT) (Y : YT) (b : Nat) (p1 : Int32) (p2 : Int32) (p3 : Int32) : Int32 → Int32 → Mem → Prop := fun v4 v5 μ => G X Y 8 105 [(0, .ref (Y.ad b)), (1, .int p1), (2, .int p2), (3, .int p3), (4, .int v4), (5, .int v5)] [] μ
def SX7_eats_117 (X : XT) (Y : YT) (b : Nat) (p1 : Int32) (p2 : Int32) (p3 : Int32) : Int32 → Int32 → Int32 → Mem → Prop := fun v4 v5 v6 μ => G X Y 8 117 [(0, .ref (Y.ad b)), (1, .int p1), (2, .int p2), (3, .int p3), (4, .int v4), (5, .int v5), (6, .int v6)] [] μ
set_option maxRecDepth 20000 in
set_option maxHeartbeats 4000000 in
theorem tX7_eats_65 {X : XT} {Y : YT} {l0 : Launch} {b : Nat} {p1 : Int32} {p2 : Int32} {p3 : Int32} {Q : Int32 → Mem → Prop} (C : Cx X Y 8 cX7_eats RX7 WX7_eats (rmB 4 98) l0) (hr : RI X Y cX7_eats .int Q) (hI : YI Y) (h0 : isX7 Y b) (v4 : Int32) (v5 : Int32) (v6 : Int32) (w0 : Int32) (w1 : Int32) (μ : Mem) (h : nX7_eats_65 b p1 p2 p3 Q (SX7_eats_13 X Y b p1 p2 p3) (SX7_eats_105 X Y b p1 p2 p3) (SX7_eats_117 X Y b p1 p2 p3) v4 v5 v6 w0 w1 μ) : G X Y 8 65 [(0, .ref (Y.ad b)), (1, .int p1), (2, .int p2), (3, .int p3), (4, .int v4), (5, .int v5), (6, .int v6)] [.int w0, .int w1] μ := by
  unfold nX7_eats_65 at h
  refine g_isub C dX7_eats_65 ?_
  refine g_istore C [(7, .int (w1 - w0)), (0, .ref (Y.ad b)), (1, .int p1), (2, .int p2), (3, .int p3), (4, .int v4), (5, .int v5), (6, .int v6)] dX7_eats_66 (by decide) rfl ?_
  refine g_iload C 5 dX7_eats_68 rfl ?_
  refine g_iload C 7 dX7_eats_70 rfl ?_
  refine g_aload_n C 1 dX7_eats_72 rfl ?_
  refine gf_RX7_7 C h0 dX7_eats_73 ?_
  refine g_iconst C (v := (3 : Int32)) dX7_eats_76 (by decide) ?_
  refine g_iload C 6 dX7_eats_77 rfl ?_
  refine g_imul C dX7_eats_79 ?_
  refine g_iconst C (v := (2 : Int32)) dX7_eats_80 (by decide) ?_
  refine g_iadd C dX7_eats_81 ?_
  refine g_iald C (isX7_thing h0).1 (isX7_thing h0).2 h.1 dX7_eats_82 ?_
  replace h := h.2
  refine g_imul C dX7_eats_83 ?_
  refine g_iadd C dX7_eats_84 ?_
  refine g_topi (fun x9 ex9 => ?_)
  replace h := h x9 ex9
  refine g_istore C [(4, .int x9), (7, .int (w1 - w0)), (0, .ref (Y.ad b)), (1, .int p1), (2, .int p2), (3, .int p3), (5, .int v5), (6, .int v6)] dX7_eats_85 (by decide) rfl ?_
  refine g_aload_n C 2 dX7_eats_87 rfl ?_
  refine gf_RX7_59 C h0 dX7_eats_88 ?_
  refine g_iload C 6 dX7_eats_91 rfl ?_
  refine g_iload C 1 dX7_eats_93 rfl ?_
  refine g_iast C (isX7_bought h0).1 (isX7_bought h0).2 h.1 dX7_eats_95 ?_
  replace h := h.2
  refine g_iinc C (v := v5 + 1) 6 [(5, .int (v5 + 1)), (4, .int x9), (7, .int (w1 - w0)), (0, .ref (Y.ad b)), (1, .int p1), (2, .int p2), (3, .int p3), (6, .int v6)] dX7_eats_96 rfl rfl (by decide) rfl ?_
  refine g_goto C 13 dX7_eats_99 (by decide) ?_
  refine g_lv (lv2 := [(0, .ref (Y.ad b)), (1, .int p1), (2, .int p2), (3, .int p3), (4, .int x9), (5, .int (v5 + 1))]) [3, 4, 5, 6, 1, 0] ?_ rfl
  exact h
set_option maxRecDepth 20000 in
set_option maxHeartbeats 4000000 in
theorem tX7_eats_13 {X : XT} {Y : YT} {l0 : Launch} {b : Nat} {p1 : Int32} {p2 : Int32} {p3 : Int32} {Q : Int32 → Mem → Prop} (C : Cx X Y 8 cX7_eats RX7 WX7_eats (rmB 4 98) l0) (hr : RI X Y cX7_eats .int Q) (hI : YI Y) (h0 : isX7 Y b) (v4 : Int32) (v5 : Int32) (μ : Mem) (h : nX7_eats_13 b p1 p2 p3 Q (SX7_eats_13 X Y b p1 p2 p3) (SX7_eats_105 X Y b p1 p2 p3) (SX7_eats_117 X Y b p1 p2 p3) v4 v5 μ) : G X Y 8 13 [(0, .ref (Y.ad b)), (1, .int p1), (2, .int p2), (3, .int p3), (4, .int v4), (5, .int v5)] [] μ := by
  unfold nX7_eats_13 at h
  refine g_iload C 5 dX7_eats_13 rfl ?_
  refine g_aload_n C 0 dX7_eats_15 rfl ?_
  refine gf_RX7_115 C h0 dX7_eats_16 ?_
  refine g_icmp_ge C 102 dX7_eats_19 (by decide) (fun c3 => ?_) (fun c3 => ?_)
  · replace h := h.1 c3
    refine g_iconst C (v := (0 : Int32)) dX7_eats_102 (by decide) ?_
    refine g_istore C [(5, .int ((0 : Int32))), (0, .ref (Y.ad b)), (1, .int p1), (2, .int p2), (3, .int p3), (4, .int v4)] dX7_eats_103 (by decide) rfl ?_
    refine g_lv (lv2 := [(0, .ref (Y.ad b)), (1, .int p1), (2, .int p2), (3, .int p3), (4, .int v4), (5, .int ((0 : Int32)))]) [1, 2, 3, 4, 5, 0] ?_ rfl
    exact h
  · replace h := h.2 c3
    refine g_aload_n C 0 dX7_eats_22 rfl ?_
    refine g_iload_n C 1 dX7_eats_23 rfl ?_
    refine g_iload_n C 2 dX7_eats_24 rfl ?_
    refine g_iload_n C 3 dX7_eats_25 rfl ?_
    refine g_iload C 5 dX7_eats_26 rfl ?_
    refine g_callVI C [.int p1, .int p2, .int p3, .int v5] [] (ok_X7_packsOf hI h0 h) (cw_RX7_305 _) rfl dc_X7_packsOf ⟨Nat.le_of_ble_eq_true rfl, Nat.le_of_ble_eq_true rfl⟩ (isX7_lt h0) (isX7_sh h0) rfl rfl rfl rfl (Nat.le_of_ble_eq_true rfl) dX7_eats_28 (fun r5 m4 h => ?_)
    refine g_istore C [(6, .int r5), (0, .ref (Y.ad b)), (1, .int p1), (2, .int p2), (3, .int p3), (4, .int v4), (5, .int v5)] dX7_eats_31 (by decide) rfl ?_
    refine g_iload C 0 dX7_eats_33 rfl ?_
    refine g_aload_n C 1 dX7_eats_35 rfl ?_
    refine gf_RX7_7 C h0 dX7_eats_36 ?_
    refine g_iconst C (v := (3 : Int32)) dX7_eats_39 (by decide) ?_
    refine g_iload C 6 dX7_eats_40 rfl ?_
    refine g_imul C dX7_eats_42 ?_
    refine g_iconst C (v := (1 : Int32)) dX7_eats_43 (by decide) ?_
    refine g_iadd C dX7_eats_44 ?_
    refine g_iald C (isX7_thing h0).1 (isX7_thing h0).2 h.1 dX7_eats_45 ?_
    replace h := h.2
    refine g_imul C dX7_eats_46 ?_
    refine g_iload C 0 dX7_eats_47 rfl ?_
    refine g_if_le C 64 dX7_eats_49 (by decide) (fun c6 => ?_) (fun c6 => ?_)
    · replace h := h.1 c6
      refine g_iconst C (v := (0 : Int32)) dX7_eats_64 (by decide) ?_
      refine g_lv (lv2 := [(0, .ref (Y.ad b)), (1, .int p1), (2, .int p2), (3, .int p3), (4, .int v4), (5, .int v5), (6, .int r5)]) [1, 2, 3, 4, 5, 6, 0] ?_ rfl
      exact tX7_eats_65 C hr hI h0 _ _ _ _ _ _ h
    · replace h := h.2 c6
      refine g_aload_n C 1 dX7_eats_52 rfl ?_
      refine g_iload_n C 2 dX7_eats_53 rfl ?_
      refine g_iload_n C 3 dX7_eats_54 rfl ?_
      refine g_iload_n C 4 dX7_eats_55 rfl ?_
      refine g_iload C 6 dX7_eats_56 rfl ?_
      refine g_callVI C [.int p1, .int p2, .int p3, .int v5] [.int (r5 * (m4.1 (b + 1) ((((3 : Int32)) * v5) + ((1 : Int32))).toNatClampNeg))] (ok_X7_lackOf hI h0 h) (cw_RX7_297 _) rfl dc_X7_lackOf ⟨Nat.le_of_ble_eq_true rfl, Nat.le_of_ble_eq_true rfl⟩ (isX7_lt h0) (isX7_sh h0) rfl rfl rfl rfl (Nat.le_of_ble_eq_true rfl) dX7_eats_58 (fun r8 m7 h => ?_)
      refine g_goto C 65 dX7_eats_61 (by decide) ?_
      refine g_lv (lv2 := [(0, .ref (Y.ad b)), (1, .int p1), (2, .int p2), (3, .int p3), (4, .int v4), (5, .int v5), (6, .int r5)]) [1, 2, 3, 4, 5, 6, 0] ?_ rfl
      exact tX7_eats_65 C hr hI h0 _ _ _ _ _ _ h
set_option maxRecDepth 20000 in
set_option maxHeartbeats 4000000 in
theorem tX7_eats_105 {X : XT} {Y : YT} {l0 : Launch} {b : Nat} {p1 : Int32} {p2 : Int32} {p3 : Int32} {Q : Int32 → Mem → Prop} (C : Cx X Y 8 cX7_eats RX7 WX7_eats (rmB 4 98) l0) (hr : RI X Y cX7_eats .int Q) (hI : YI Y) (h0 : isX7 Y b) (v4 : Int32) (v5 : Int32) (μ : Mem) (h : nX7_eats_105 b p1 p2 p3 Q (SX7_eats_13 X Y b p1 p2 p3) (SX7_eats_105 X Y b p1 p2 p3) (SX7_eats_117 X Y b p1 p2 p3) v4 v5 μ) : G X Y 8 105 [(0, .ref (Y.ad b)), (1, .int p1), (2, .int p2), (3, .int p3), (4, .int v4), (5, .int v5)] [] μ := by
  unfold nX7_eats_105 at h
  refine g_iload C 5 dX7_eats_105 rfl ?_
  refine g_aload_n C 0 dX7_eats_107 rfl ?_
  refine gf_RX7_115 C h0 dX7_eats_108 ?_
  refine g_icmp_ge C 198 dX7_eats_111 (by decide) (fun c10 => ?_) (fun c10 => ?_)
  · replace h := h.1 c10
    refine g_aload_n C 0 dX7_eats_198 rfl ?_
    refine gf_RX7_49 C h0 dX7_eats_199 ?_
    refine g_iload_n C 1 dX7_eats_202 rfl ?_
    refine g_bipush C (v := (24 : Int32)) dX7_eats_203 (by decide) ?_
    refine g_iadd C dX7_eats_205 ?_
    refine g_iload_n C 2 dX7_eats_206 rfl ?_
    refine g_iadd C dX7_eats_207 ?_
    refine g_aload_n C 0 dX7_eats_208 rfl ?_
    refine gf_RX7_49 C h0 dX7_eats_209 ?_
    refine g_iload_n C 1 dX7_eats_212 rfl ?_
    refine g_bipush C (v := (36 : Int32)) dX7_eats_213 (by decide) ?_
    refine g_iadd C dX7_eats_215 ?_
    refine g_iald C (isX7_st h0).1 (isX7_st h0).2 h.1 dX7_eats_216 ?_
    replace h := h.2
    refine g_iast C (isX7_st h0).1 (isX7_st h0).2 h.1 dX7_eats_217 ?_
    replace h := h.2
    refine g_mem (fun m11 em11 => ?_)
    replace h := h m11 em11
    refine g_aload_n C 0 dX7_eats_218 rfl ?_
    refine gf_RX7_49 C h0 dX7_eats_219 ?_
    refine g_iload_n C 1 dX7_eats_222 rfl ?_
    refine g_bipush C (v := (37 : Int32)) dX7_eats_223 (by decide) ?_
    refine g_iadd C dX7_eats_225 ?_
    refine g_iload_n C 2 dX7_eats_226 rfl ?_
    refine g_iast C (isX7_st h0).1 (isX7_st h0).2 h.1 dX7_eats_227 ?_
    replace h := h.2
    refine g_aload_n C 0 dX7_eats_228 rfl ?_
    refine gf_RX7_49 C h0 dX7_eats_229 ?_
    refine g_iload_n C 1 dX7_eats_232 rfl ?_
    refine g_bipush C (v := (33 : Int32)) dX7_eats_233 (by decide) ?_
    refine g_iadd C dX7_eats_235 ?_
    refine g_dup2 C dX7_eats_236 rfl rfl ?_
    refine g_iald C (isX7_st h0).1 (isX7_st h0).2 h.1 dX7_eats_237 ?_
    replace h := h.2
    refine g_iload C 4 dX7_eats_238 rfl ?_
    refine g_iadd C dX7_eats_240 ?_
    refine g_iast C (isX7_st h0).1 (isX7_st h0).2 h.1 dX7_eats_241 ?_
    replace h := h.2
    refine g_mem (fun m12 em12 => ?_)
    replace h := h m12 em12
    refine g_aload_n C 0 dX7_eats_242 rfl ?_
    refine gf_RX7_49 C h0 dX7_eats_243 ?_
    refine g_iload_n C 1 dX7_eats_246 rfl ?_
    refine g_bipush C (v := (35 : Int32)) dX7_eats_247 (by decide) ?_
    refine g_iadd C dX7_eats_249 ?_
    refine g_dup2 C dX7_eats_250 rfl rfl ?_
    refine g_iald C (isX7_st h0).1 (isX7_st h0).2 h.1 dX7_eats_251 ?_
    replace h := h.2
    refine g_aload_n C 0 dX7_eats_252 rfl ?_
    refine gf_RX7_13 C h0 dX7_eats_253 ?_
    refine g_iconst C (v := (5 : Int32)) dX7_eats_256 (by decide) ?_
    refine g_iload_n C 2 dX7_eats_257 rfl ?_
    refine g_imul C dX7_eats_258 ?_
    refine g_iconst C (v := (1 : Int32)) dX7_eats_259 (by decide) ?_
    refine g_iadd C dX7_eats_260 ?_
    refine g_iald C (isX7_supper h0).1 (isX7_supper h0).2 h.1 dX7_eats_261 ?_
    replace h := h.2
    refine g_iadd C dX7_eats_262 ?_
    refine g_iast C (isX7_st h0).1 (isX7_st h0).2 h.1 dX7_eats_263 ?_
    replace h := h.2
    refine g_mem (fun m13 em13 => ?_)
    replace h := h m13 em13
    refine g_iload C 4 dX7_eats_264 rfl ?_
    exact hr _ _ _ _ _ dX7_eats_266 rfl h
  · replace h := h.2 c10
    refine g_iconst C (v := (0 : Int32)) dX7_eats_114 (by decide) ?_
    refine g_istore C [(6, .int ((0 : Int32))), (0, .ref (Y.ad b)), (1, .int p1), (2, .int p2), (3, .int p3), (4, .int v4), (5, .int v5)] dX7_eats_115 (by decide) rfl ?_
    refine g_lv (lv2 := [(0, .ref (Y.ad b)), (1, .int p1), (2, .int p2), (3, .int p3), (4, .int v4), (5, .int v5), (6, .int ((0 : Int32)))]) [1, 2, 3, 4, 5, 6, 0] ?_ rfl
    exact h
set_option maxRecDepth 20000 in
set_option maxHeartbeats 4000000 in
theorem tX7_eats_117 {X : XT} {Y : YT} {l0 : Launch} {b : Nat} {p1 : Int32} {p2 : Int32} {p3 : Int32} {Q : Int32 → Mem → Prop} (C : Cx X Y 8 cX7_eats RX7 WX7_eats (rmB 4 98) l0) (hr : RI X Y cX7_eats .int Q) (hI : YI Y) (h0 : isX7 Y b) (v4 : Int32) (v5 : Int32) (v6 : Int32) (μ : Mem) (h : nX7_eats_117 b p1 p2 p3 Q (SX7_eats_13 X Y b p1 p2 p3) (SX7_eats_105 X Y b p1 p2 p3) (SX7_eats_117 X Y b p1 p2 p3) v4 v5 v6 μ) : G X Y 8 117 [(0, .ref (Y.ad b)), (1, .int p1), (2, .int p2), (3, .int p3), (4, .int v4), (5, .int v5), (6, .int v6)] [] μ := by
  unfold nX7_eats_117 at h
  refine g_iload C 6 dX7_eats_117 rfl ?_
  refine g_iconst C (v := (4 : Int32)) dX7_eats_119 (by decide) ?_
  refine g_icmp_ge C 158 dX7_eats_120 (by decide) (fun c14 => ?_) (fun c14 => ?_)
  · replace h := h.1 c14
    refine g_aload_n C 0 dX7_eats_158 rfl ?_
    refine gf_RX7_49 C h0 dX7_eats_159 ?_
    refine g_iload_n C 1 dX7_eats_162 rfl ?_
    refine g_iconst C (v := (4 : Int32)) dX7_eats_163 (by decide) ?_
    refine g_iload C 5 dX7_eats_164 rfl ?_
    refine g_imul C dX7_eats_166 ?_
    refine g_iadd C dX7_eats_167 ?_
    refine g_dup2 C dX7_eats_168 rfl rfl ?_
    refine g_iald C (isX7_st h0).1 (isX7_st h0).2 h.1 dX7_eats_169 ?_
    replace h := h.2
    refine g_aload_n C 0 dX7_eats_170 rfl ?_
    refine gf_RX7_59 C h0 dX7_eats_171 ?_
    refine g_iload C 5 dX7_eats_174 rfl ?_
    refine g_iald C (isX7_bought h0).1 (isX7_bought h0).2 h.1 dX7_eats_176 ?_
    replace h := h.2
    refine g_aload_n C 0 dX7_eats_177 rfl ?_
    refine gf_RX7_19 C h0 dX7_eats_178 ?_
    refine g_bipush C (v := (6 : Int32)) dX7_eats_181 (by decide) ?_
    refine g_iload_n C 2 dX7_eats_183 rfl ?_
    refine g_imul C dX7_eats_184 ?_
    refine g_iload C 5 dX7_eats_185 rfl ?_
    refine g_iadd C dX7_eats_187 ?_
    refine g_iald C (isX7_leaves h0).1 (isX7_leaves h0).2 h.1 dX7_eats_188 ?_
    replace h := h.2
    refine g_iadd C dX7_eats_189 ?_
    refine g_iadd C dX7_eats_190 ?_
    refine g_iast C (isX7_st h0).1 (isX7_st h0).2 h.1 dX7_eats_191 ?_
    replace h := h.2
    refine g_mem (fun m15 em15 => ?_)
    replace h := h m15 em15
    refine g_iinc C (v := v5 + 1) 5 [(5, .int (v5 + 1)), (0, .ref (Y.ad b)), (1, .int p1), (2, .int p2), (3, .int p3), (4, .int v4), (6, .int v6)] dX7_eats_192 rfl rfl (by decide) rfl ?_
    refine g_goto C 105 dX7_eats_195 (by decide) ?_
    refine g_lv (lv2 := [(0, .ref (Y.ad b)), (1, .int p1), (2, .int p2), (3, .int p3), (4, .int v4), (5, .int (v5 + 1))]) [1, 2, 3, 4, 5, 0] ?_ rfl
    exact h
  · replace h := h.2 c14
    refine g_aload_n C 0 dX7_eats_123 rfl ?_
    refine gf_RX7_49 C h0 dX7_eats_124 ?_
    refine g_iload_n C 1 dX7_eats_127 rfl ?_
    refine g_iconst C (v := (4 : Int32)) dX7_eats_128 (by decide) ?_
    refine g_iload C 5 dX7_eats_129 rfl ?_
    refine g_imul C dX7_eats_131 ?_
    refine g_iadd C dX7_eats_132 ?_
    refine g_iload C 6 dX7_eats_133 rfl ?_
    refine g_iadd C dX7_eats_135 ?_
    refine g_dup2 C dX7_eats_136 rfl rfl ?_
    refine g_iald C (isX7_st h0).1 (isX7_st h0).2 h.1 dX7_eats_137 ?_
    replace h := h.2
    refine g_aload_n C 0 dX7_eats_138 rfl ?_
    refine gf_RX7_56 C h0 dX7_eats_139 ?_
    refine g_iconst C (v := (4 : Int32)) dX7_eats_142 (by decide) ?_
    refine g_iload C 5 dX7_eats_143 rfl ?_
    refine g_imul C dX7_eats_145 ?_
    refine g_iload C 6 dX7_eats_146 rfl ?_
    refine g_iadd C dX7_eats_148 ?_
    refine g_iald C (isX7_taken h0).1 (isX7_taken h0).2 h.1 dX7_eats_149 ?_
    replace h := h.2
    refine g_isub C dX7_eats_150 ?_
    refine g_iast C (isX7_st h0).1 (isX7_st h0).2 h.1 dX7_eats_151 ?_
    replace h := h.2
    refine g_mem (fun m16 em16 => ?_)
    replace h := h m16 em16
    refine g_iinc C (v := v6 + 1) 6 [(6, .int (v6 + 1)), (0, .ref (Y.ad b)), (1, .int p1), (2, .int p2), (3, .int p3), (4, .int v4), (5, .int v5)] dX7_eats_152 rfl rfl (by decide) rfl ?_
    refine g_goto C 117 dX7_eats_155 (by decide) ?_
    refine g_lv (lv2 := [(0, .ref (Y.ad b)), (1, .int p1), (2, .int p2), (3, .int p3), (4, .int v4), (5, .int v5), (6, .int (v6 + 1))]) [1, 2, 3, 4, 5, 6, 0] ?_ rfl
    exact h
set_option maxRecDepth 20000 in
set_option maxHeartbeats 4000000 in
theorem ok_X7_eats {Y : YT} {l0 : Launch} {b : Nat} {p1 : Int32} {p2 : Int32} {p3 : Int32} {μ : Mem} {Q : Int32 → Mem → Prop} (hI : YI Y) (h0 : isX7 Y b) (h : PX7_eats b p1 p2 p3 μ Q) : MI l0 yX7_eats WX7_eats 4 98 Y [.ref (Y.ad b), .int p1, .int p2, .int p3] μ Q := by
  refine mI_of (ty := .int) (cc := cX7_eats) (maxL := 8) (by decide +kernel) rfl hI (Nat.le_of_ble_eq_true rfl) (fun X C hr => ?_)
  replace C : Cx X Y 8 cX7_eats RX7 WX7_eats (rmB 4 98) l0 := C
  refine g_lv (lv2 := [(0, .ref (Y.ad b)), (1, .int p1), (2, .int p2), (3, .int p3)]) [0, 1, 2, 3] ?_ rfl
  unfold PX7_eats at h
  replace h := h (SX7_eats_13 X Y b p1 p2 p3) (SX7_eats_105 X Y b p1 p2 p3) (SX7_eats_117 X Y b p1 p2 p3) (fun v4 v5 μ z => tX7_eats_13 C hr hI h0 v4 v5 μ z) (fun v4 v5 μ z => tX7_eats_105 C hr hI h0 v4 v5 μ z) (fun v4 v5 v6 μ z => tX7_eats_117 C hr hI h0 v4 v5 v6 μ z)
  refine g_iconst C (v := (0 : Int32)) dX7_eats_0 (by decide) ?_
  refine g_istore C [(4, .int ((0 : Int32))), (0, .ref (Y.ad b)), (1, .int p1), (2, .int p2), (3, .int p3)] dX7_eats_1 (by decide) rfl ?_
  refine g_aload_n C 1 dX7_eats_3 rfl ?_
  refine g_iload_n C 2 dX7_eats_4 rfl ?_
  refine g_iload_n C 3 dX7_eats_5 rfl ?_
  refine g_iload_n C 4 dX7_eats_6 rfl ?_
  refine g_callVV C [.int p1, .int p2, .int p3] [] (ok_X7_findTaken hI h0 h) (cw_RX7_301 _) rfl dc_X7_findTaken ⟨Nat.le_of_ble_eq_true rfl, Nat.le_of_ble_eq_true rfl⟩ (isX7_lt h0) (isX7_sh h0) rfl rfl rfl rfl (Nat.le_of_ble_eq_true rfl) dX7_eats_7 (fun m1 h => ?_)
  refine g_iconst C (v := (0 : Int32)) dX7_eats_10 (by decide) ?_
  refine g_istore C [(5, .int ((0 : Int32))), (4, .int ((0 : Int32))), (0, .ref (Y.ad b)), (1, .int p1), (2, .int p2), (3, .int p3)] dX7_eats_11 (by decide) rfl ?_
  refine g_lv (lv2 := [(0, .ref (Y.ad b)), (1, .int p1), (2, .int p2), (3, .int p3), (4, .int ((0 : Int32))), (5, .int ((0 : Int32)))]) [2, 3, 4, 5, 1, 0] ?_ rfl
  exact h
def SX7_nights_4 (X : XT) (Y : YT) (b : Nat) (p1 : Int32) : Int32 → Int32 → Mem → Prop := fun v2 v3 μ => G X Y 6 4 [(0, .ref (Y.ad b)), (1, .int p1), (2, .int v2), (3, .int v3)] [] μ
def SX7_nights_15 (X : XT) (Y : YT) (b : Nat) (p1 : Int32) : Int32 → Int32 → Int32 → Mem → Prop := fun v2 v3 v4 μ => G X Y 6 15 [(0, .ref (Y.ad b)), (1, .int p1), (2, .int v2), (3, .int v3), (4, .int v4)] [] μ
set_option maxRecDepth 20000 in
set_option maxHeartbeats 4000000 in
theorem tX7_nights_4 {X : XT} {Y : YT} {l0 : Launch} {b : Nat} {p1 : Int32} {Q : Int32 → Mem → Prop} (C : Cx X Y 6 cX7_nights RX7 WX7_nights (rmB 1 21) l0) (hr : RI X Y cX7_nights .int Q) (hI : YI Y) (h0 : isX7 Y b) (v2 : Int32) (v3 : Int32) (μ : Mem) (h : nX7_nights_4 b p1 Q (SX7_nights_4 X Y b p1) (SX7_nights_15 X Y b p1) v2 v3 μ) : G X Y 6 4 [(0, .ref (Y.ad b)), (1, .int p1), (2, .int v2), (3, .int v3)] [] μ := by
  unfold nX7_nights_4 at h
  refine g_iload_n C 3 dX7_nights_4 rfl ?_
  refine g_aload_n C 0 dX7_nights_5 rfl ?_
  refine gf_RX7_115 C h0 dX7_nights_6 ?_
  refine g_icmp_ge C 98 dX7_nights_9 (by decide) (fun c1 => ?_) (fun c1 => ?_)
  · replace h := h.1 c1
    refine g_aload_n C 0 dX7_nights_98 rfl ?_
    refine gf_RX7_49 C h0 dX7_nights_99 ?_
    refine g_iload_n C 1 dX7_nights_102 rfl ?_
    refine g_bipush C (v := (34 : Int32)) dX7_nights_103 (by decide) ?_
    refine g_iadd C dX7_nights_105 ?_
    refine g_dup2 C dX7_nights_106 rfl rfl ?_
    refine g_iald C (isX7_st h0).1 (isX7_st h0).2 h.1 dX7_nights_107 ?_
    replace h := h.2
    refine g_iload_n C 2 dX7_nights_108 rfl ?_
    refine g_iadd C dX7_nights_109 ?_
    refine g_iast C (isX7_st h0).1 (isX7_st h0).2 h.1 dX7_nights_110 ?_
    replace h := h.2
    refine g_mem (fun m2 em2 => ?_)
    replace h := h m2 em2
    refine g_aload_n C 0 dX7_nights_111 rfl ?_
    refine gf_RX7_49 C h0 dX7_nights_112 ?_
    refine g_iload_n C 1 dX7_nights_115 rfl ?_
    refine g_bipush C (v := (36 : Int32)) dX7_nights_116 (by decide) ?_
    refine g_iadd C dX7_nights_118 ?_
    refine g_dup2 C dX7_nights_119 rfl rfl ?_
    refine g_iald C (isX7_st h0).1 (isX7_st h0).2 h.1 dX7_nights_120 ?_
    replace h := h.2
    refine g_iconst C (v := (1 : Int32)) dX7_nights_121 (by decide) ?_
    refine g_iadd C dX7_nights_122 ?_
    refine g_iast C (isX7_st h0).1 (isX7_st h0).2 h.1 dX7_nights_123 ?_
    replace h := h.2
    refine g_mem (fun m3 em3 => ?_)
    replace h := h m3 em3
    refine g_aload_n C 0 dX7_nights_124 rfl ?_
    refine gf_RX7_49 C h0 dX7_nights_125 ?_
    refine g_iload_n C 1 dX7_nights_128 rfl ?_
    refine g_bipush C (v := (37 : Int32)) dX7_nights_129 (by decide) ?_
    refine g_iadd C dX7_nights_131 ?_
    refine g_bipush C (v := (-4 : Int32)) dX7_nights_132 (by decide) ?_
    refine g_iast C (isX7_st h0).1 (isX7_st h0).2 h.1 dX7_nights_134 ?_
    replace h := h.2
    refine g_iload_n C 2 dX7_nights_135 rfl ?_
    exact hr _ _ _ _ _ dX7_nights_136 rfl h
  · replace h := h.2 c1
    refine g_iconst C (v := (3 : Int32)) dX7_nights_12 (by decide) ?_
    refine g_istore C [(4, .int ((3 : Int32))), (0, .ref (Y.ad b)), (1, .int p1), (2, .int v2), (3, .int v3)] dX7_nights_13 (by decide) rfl ?_
    refine g_lv (lv2 := [(0, .ref (Y.ad b)), (1, .int p1), (2, .int v2), (3, .int v3), (4, .int ((3 : Int32)))]) [1, 2, 3, 4, 0] ?_ rfl
    exact h
set_option maxRecDepth 20000 in
set_option maxHeartbeats 4000000 in
theorem tX7_nights_86 {X : XT} {Y : YT} {l0 : Launch} {b : Nat} {p1 : Int32} {Q : Int32 → Mem → Prop} (C : Cx X Y 6 cX7_nights RX7 WX7_nights (rmB 1 21) l0) (hr : RI X Y cX7_nights .int Q) (hI : YI Y) (h0 : isX7 Y b) (v2 : Int32) (v3 : Int32) (v4 : Int32) (μ : Mem) (h : nX7_nights_86 b p1 Q (SX7_nights_4 X Y b p1) (SX7_nights_15 X Y b p1) v2 v3 v4 μ) : G X Y 6 86 [(0, .ref (Y.ad b)), (1, .int p1), (2, .int v2), (3, .int v3), (4, .int v4)] [] μ := by
  unfold nX7_nights_86 at h
  refine g_iinc C (v := v4 + (-1)) 4 [(4, .int (v4 + (-1))), (0, .ref (Y.ad b)), (1, .int p1), (2, .int v2), (3, .int v3)] dX7_nights_86 rfl rfl (by decide) rfl ?_
  refine g_goto C 15 dX7_nights_89 (by decide) ?_
  refine g_lv (lv2 := [(0, .ref (Y.ad b)), (1, .int p1), (2, .int v2), (3, .int v3), (4, .int (v4 + (-1)))]) [1, 2, 3, 4, 0] ?_ rfl
  exact h
set_option maxRecDepth 20000 in
set_option maxHeartbeats 4000000 in
theorem tX7_nights_15 {X : XT} {Y : YT} {l0 : Launch} {b : Nat} {p1 : Int32} {Q : Int32 → Mem → Prop} (C : Cx X Y 6 cX7_nights RX7 WX7_nights (rmB 1 21) l0) (hr : RI X Y cX7_nights .int Q) (hI : YI Y) (h0 : isX7 Y b) (v2 : Int32) (v3 : Int32) (v4 : Int32) (μ : Mem) (h : nX7_nights_15 b p1 Q (SX7_nights_4 X Y b p1) (SX7_nights_15 X Y b p1) v2 v3 v4 μ) : G X Y 6 15 [(0, .ref (Y.ad b)), (1, .int p1), (2, .int v2), (3, .int v3), (4, .int v4)] [] μ := by
  unfold nX7_nights_15 at h
  refine g_iload C 4 dX7_nights_15 rfl ?_
  refine g_if_lt C 92 dX7_nights_17 (by decide) (fun c4 => ?_) (fun c4 => ?_)
  · replace h := h.1 c4
    refine g_iinc C (v := v3 + 1) 3 [(3, .int (v3 + 1)), (0, .ref (Y.ad b)), (1, .int p1), (2, .int v2), (4, .int v4)] dX7_nights_92 rfl rfl (by decide) rfl ?_
    refine g_goto C 4 dX7_nights_95 (by decide) ?_
    refine g_lv (lv2 := [(0, .ref (Y.ad b)), (1, .int p1), (2, .int v2), (3, .int (v3 + 1))]) [1, 2, 3, 0] ?_ rfl
    exact h
  · replace h := h.2 c4
    refine g_aload_n C 0 dX7_nights_20 rfl ?_
    refine gf_RX7_49 C h0 dX7_nights_21 ?_
    refine g_iload_n C 1 dX7_nights_24 rfl ?_
    refine g_iconst C (v := (4 : Int32)) dX7_nights_25 (by decide) ?_
    refine g_iload_n C 3 dX7_nights_26 rfl ?_
    refine g_imul C dX7_nights_27 ?_
    refine g_iadd C dX7_nights_28 ?_
    refine g_iload C 4 dX7_nights_29 rfl ?_
    refine g_iadd C dX7_nights_31 ?_
    refine g_iald C (isX7_st h0).1 (isX7_st h0).2 h.1 dX7_nights_32 ?_
    replace h := h.2
    refine g_topi (fun x5 ex5 => ?_)
    replace h := h x5 ex5
    refine g_istore C [(5, .int x5), (0, .ref (Y.ad b)), (1, .int p1), (2, .int v2), (3, .int v3), (4, .int v4)] dX7_nights_33 (by decide) rfl ?_
    refine g_aload_n C 1 dX7_nights_35 rfl ?_
    refine gf_RX7_49 C h0 dX7_nights_36 ?_
    refine g_iload_n C 2 dX7_nights_39 rfl ?_
    refine g_iconst C (v := (4 : Int32)) dX7_nights_40 (by decide) ?_
    refine g_iload_n C 4 dX7_nights_41 rfl ?_
    refine g_imul C dX7_nights_42 ?_
    refine g_iadd C dX7_nights_43 ?_
    refine g_iload C 5 dX7_nights_44 rfl ?_
    refine g_iadd C dX7_nights_46 ?_
    refine g_iconst C (v := (0 : Int32)) dX7_nights_47 (by decide) ?_
    refine g_iast C (isX7_st h0).1 (isX7_st h0).2 h.1 dX7_nights_48 ?_
    replace h := h.2
    refine g_iload C 5 dX7_nights_49 rfl ?_
    refine g_iconst C (v := (1 : Int32)) dX7_nights_51 (by decide) ?_
    refine g_iadd C dX7_nights_52 ?_
    refine g_aload_n C 1 dX7_nights_53 rfl ?_
    refine g_iload_n C 4 dX7_nights_54 rfl ?_
    refine g_callVI C [.int v3] [.int (v4 + ((1 : Int32)))] (ok_X7_keeps hI h0 h) (cw_RX7_308 _) rfl dc_X7_keeps ⟨Nat.le_of_ble_eq_true rfl, Nat.le_of_ble_eq_true rfl⟩ (isX7_lt h0) (isX7_sh h0) rfl rfl rfl rfl (Nat.le_of_ble_eq_true rfl) dX7_nights_55 (fun r7 m6 h => ?_)
    refine g_icmp_lt C 69 dX7_nights_58 (by decide) (fun c8 => ?_) (fun c8 => ?_)
    · replace h := h.1 c8
      refine g_aload_n C 1 dX7_nights_69 rfl ?_
      refine gf_RX7_49 C h0 dX7_nights_70 ?_
      refine g_iload_n C 2 dX7_nights_73 rfl ?_
      refine g_iconst C (v := (4 : Int32)) dX7_nights_74 (by decide) ?_
      refine g_iload_n C 4 dX7_nights_75 rfl ?_
      refine g_imul C dX7_nights_76 ?_
      refine g_iadd C dX7_nights_77 ?_
      refine g_iload C 5 dX7_nights_78 rfl ?_
      refine g_iadd C dX7_nights_80 ?_
      refine g_iconst C (v := (1 : Int32)) dX7_nights_81 (by decide) ?_
      refine g_iadd C dX7_nights_82 ?_
      refine g_iload C 0 dX7_nights_83 rfl ?_
      refine g_iast C (isX7_st h0).1 (isX7_st h0).2 h.1 dX7_nights_85 ?_
      replace h := h.2
      refine g_mem (fun m9 em9 => ?_)
      replace h := h m9 em9
      refine g_lv (lv2 := [(0, .ref (Y.ad b)), (1, .int p1), (2, .int v2), (3, .int v3), (4, .int v4)]) [1, 2, 3, 4, 5] ?_ rfl
      exact tX7_nights_86 C hr hI h0 _ _ _ _ h
    · replace h := h.2 c8
      refine g_iload_n C 3 dX7_nights_61 rfl ?_
      refine g_iload C 0 dX7_nights_62 rfl ?_
      refine g_iadd C dX7_nights_64 ?_
      refine g_istore_n C [(2, .int (v2 + x5)), (5, .int x5), (0, .ref (Y.ad b)), (1, .int p1), (3, .int v3), (4, .int v4)] dX7_nights_65 (by decide) rfl ?_
      refine g_goto C 86 dX7_nights_66 (by decide) ?_
      refine g_lv (lv2 := [(0, .ref (Y.ad b)), (1, .int p1), (2, .int (v2 + x5)), (3, .int v3), (4, .int v4)]) [2, 3, 0, 4, 5] ?_ rfl
      exact tX7_nights_86 C hr hI h0 _ _ _ _ h
set_option maxRecDepth 20000 in
set_option maxHeartbeats 4000000 in
theorem ok_X7_nights {Y : YT} {l0 : Launch} {b : Nat} {p1 : Int32} {μ : Mem} {Q : Int32 → Mem → Prop} (hI : YI Y) (h0 : isX7 Y b) (h : PX7_nights b p1 μ Q) : MI l0 yX7_nights WX7_nights 1 21 Y [.ref (Y.ad b), .int p1] μ Q := by
  refine mI_of (ty := .int) (cc := cX7_nights) (maxL := 6) (by decide +kernel) rfl hI (Nat.le_of_ble_eq_true rfl) (fun X C hr => ?_)
  replace C : Cx X Y 6 cX7_nights RX7 WX7_nights (rmB 1 21) l0 := C
  refine g_lv (lv2 := [(0, .ref (Y.ad b)), (1, .int p1)]) [0, 1] ?_ rfl
  unfold PX7_nights at h
  replace h := h (SX7_nights_4 X Y b p1) (SX7_nights_15 X Y b p1) (fun v2 v3 μ z => tX7_nights_4 C hr hI h0 v2 v3 μ z) (fun v2 v3 v4 μ z => tX7_nights_15 C hr hI h0 v2 v3 v4 μ z)
  refine g_iconst C (v := (0 : Int32)) dX7_nights_0 (by decide) ?_
  refine g_istore_n C [(2, .int ((0 : Int32))), (0, .ref (Y.ad b)), (1, .int p1)] dX7_nights_1 (by decide) rfl ?_
  refine g_iconst C (v := (0 : Int32)) dX7_nights_2 (by decide) ?_
  refine g_istore_n C [(3, .int ((0 : Int32))), (2, .int ((0 : Int32))), (0, .ref (Y.ad b)), (1, .int p1)] dX7_nights_3 (by decide) rfl ?_
  refine g_lv (lv2 := [(0, .ref (Y.ad b)), (1, .int p1), (2, .int ((0 : Int32))), (3, .int ((0 : Int32)))]) [2, 3, 1, 0] ?_ rfl
  exact h
set_option maxRecDepth 20000 in
set_option maxHeartbeats 4000000 in
theorem tX7_isLot_41 {X : XT} {Y : YT} {l0 : Launch} {b : Nat} {p1 : Int32} {p2 : Int32} {p3 : Int32} {Q : Int32 → Mem → Prop} (C : Cx X Y 4 cX7_isLot RX7 WX7_isLot (rmB 2 46) l0) (hr : RI X Y cX7_isLot .boolean Q) (hI : YI Y) (h0 : isX7 Y b) (μ : Mem) (h : nX7_isLot_41 b p1 p2 p3 Q  μ) : G X Y 4 41 [(0, .ref (Y.ad b)), (1, .int p1), (2, .int p2), (3, .int p3)] [] μ := by
  unfold nX7_isLot_41 at h
  refine g_iconst C (v := (0 : Int32)) dX7_isLot_41 (by decide) ?_
  exact hr _ _ _ _ _ dX7_isLot_42 rfl h
set_option maxRecDepth 20000 in
set_option maxHeartbeats 4000000 in
theorem ok_X7_isLot {Y : YT} {l0 : Launch} {b : Nat} {p1 : Int32} {p2 : Int32} {p3 : Int32} {μ : Mem} {Q : Int32 → Mem → Prop} (hI : YI Y) (h0 : isX7 Y b) (h : PX7_isLot b p1 p2 p3 μ Q) : MI l0 yX7_isLot WX7_isLot 2 46 Y [.ref (Y.ad b), .int p1, .int p2, .int p3] μ Q := by
  refine mI_of (ty := .boolean) (cc := cX7_isLot) (maxL := 4) (by decide +kernel) rfl hI (Nat.le_of_ble_eq_true rfl) (fun X C hr => ?_)
  replace C : Cx X Y 4 cX7_isLot RX7 WX7_isLot (rmB 2 46) l0 := C
  refine g_lv (lv2 := [(0, .ref (Y.ad b)), (1, .int p1), (2, .int p2), (3, .int p3)]) [0, 1, 2, 3] ?_ rfl
  unfold PX7_isLot at h
  refine g_aload_n C 0 dX7_isLot_0 rfl ?_
  refine g_iload_n C 1 dX7_isLot_1 rfl ?_
  refine g_callVI C [.int p1] [] (ok_X7_isThing hI h0 h) (cw_RX7_250 _) rfl dc_X7_isThing ⟨Nat.le_of_ble_eq_true rfl, Nat.le_of_ble_eq_true rfl⟩ (isX7_lt h0) (isX7_sh h0) rfl rfl rfl rfl (Nat.le_of_ble_eq_true rfl) dX7_isLot_2 (fun r2 m1 h => ?_)
  refine g_if_eq C 41 dX7_isLot_5 (by decide) (fun c3 => ?_) (fun c3 => ?_)
  · replace h := h.1 c3
    exact tX7_isLot_41 C hr hI h0 _ h
  · replace h := h.2 c3
    refine g_iload_n C 2 dX7_isLot_8 rfl ?_
    refine g_i2l C dX7_isLot_9 ?_
    refine g_lconst C (v := (0 : Int64)) dX7_isLot_10 (by decide) ?_
    refine g_aload_n C 0 dX7_isLot_11 rfl ?_
    refine g_iload_n C 1 dX7_isLot_12 rfl ?_
    refine g_callVI C [.int p1] [.long ((0 : Int64)), .long p2.toInt64] (ok_X7_keeps hI h0 h) (cw_RX7_308 _) rfl dc_X7_keeps ⟨Nat.le_of_ble_eq_true rfl, Nat.le_of_ble_eq_true rfl⟩ (isX7_lt h0) (isX7_sh h0) rfl rfl rfl rfl (Nat.le_of_ble_eq_true rfl) dX7_isLot_13 (fun r5 m4 h => ?_)
    refine g_iconst C (v := (1 : Int32)) dX7_isLot_16 (by decide) ?_
    refine g_isub C dX7_isLot_17 ?_
    refine g_i2l C dX7_isLot_18 ?_
    refine g_callSI C [.long p2.toInt64, .long ((0 : Int64)), .long ((r5 - ((1 : Int32))).toInt64)] [] (ok_X7_in hI  h) (cw_RX7_134 _) rfl dc_X7_in ⟨Nat.le_of_ble_eq_true rfl, Nat.le_of_ble_eq_true rfl⟩ rfl (Nat.le_of_ble_eq_true rfl) dX7_isLot_19 (fun r7 m6 h => ?_)
    refine g_if_eq C 41 dX7_isLot_22 (by decide) (fun c8 => ?_) (fun c8 => ?_)
    · replace h := h.1 c8
      exact tX7_isLot_41 C hr hI h0 _ h
    · replace h := h.2 c8
      refine g_iload_n C 3 dX7_isLot_25 rfl ?_
      refine g_i2l C dX7_isLot_26 ?_
      refine g_lconst C (v := (0 : Int64)) dX7_isLot_27 (by decide) ?_
      refine g_ldc2 C (v := (9 : Int64)) (List.mem_cons_of_mem _ mL_RX7_311) dX7_isLot_28 ?_
      refine g_callSI C [.long p3.toInt64, .long ((0 : Int64)), .long ((9 : Int64))] [] (ok_X7_in hI  h) (cw_RX7_134 _) rfl dc_X7_in ⟨Nat.le_of_ble_eq_true rfl, Nat.le_of_ble_eq_true rfl⟩ rfl (Nat.le_of_ble_eq_true rfl) dX7_isLot_31 (fun r10 m9 h => ?_)
      refine g_if_eq C 41 dX7_isLot_34 (by decide) (fun c11 => ?_) (fun c11 => ?_)
      · replace h := h.1 c11
        exact tX7_isLot_41 C hr hI h0 _ h
      · replace h := h.2 c11
        refine g_iconst C (v := (1 : Int32)) dX7_isLot_37 (by decide) ?_
        refine g_goto C 42 dX7_isLot_38 (by decide) ?_
        exact hr _ _ _ _ _ dX7_isLot_42 rfl h
set_option maxRecDepth 20000 in
set_option maxHeartbeats 4000000 in
theorem ok_X7_put {Y : YT} {l0 : Launch} {b : Nat} {p1 : Int32} {p2 : Int32} {p3 : Int32} {μ : Mem} {Q : Int32 → Mem → Prop} (hI : YI Y) (h0 : isX7 Y b) (h : PX7_put b p1 p2 p3 μ Q) : MI l0 yX7_put WX7_put 3 69 Y [.ref (Y.ad b), .int p1, .int p2, .int p3] μ Q := by
  refine mI_of (ty := .int) (cc := cX7_put) (maxL := 5) (by decide +kernel) rfl hI (Nat.le_of_ble_eq_true rfl) (fun X C hr => ?_)
  replace C : Cx X Y 5 cX7_put RX7 WX7_put (rmB 3 69) l0 := C
  refine g_lv (lv2 := [(0, .ref (Y.ad b)), (1, .int p1), (2, .int p2), (3, .int p3)]) [0, 1, 2, 3] ?_ rfl
  unfold PX7_put at h
  refine g_aload_n C 0 dX7_put_0 rfl ?_
  refine g_iload_n C 1 dX7_put_1 rfl ?_
  refine g_iload_n C 2 dX7_put_2 rfl ?_
  refine g_iload_n C 3 dX7_put_3 rfl ?_
  refine g_callVI C [.int p1, .int p2, .int p3] [] (ok_X7_isLot hI h0 h) (cw_RX7_313 _) rfl dc_X7_isLot ⟨Nat.le_of_ble_eq_true rfl, Nat.le_of_ble_eq_true rfl⟩ (isX7_lt h0) (isX7_sh h0) rfl rfl rfl rfl (Nat.le_of_ble_eq_true rfl) dX7_put_4 (fun r2 m1 h => ?_)
  refine g_if_ne C 12 dX7_put_7 (by decide) (fun c3 => ?_) (fun c3 => ?_)
  · replace h := h.1 c3
    refine g_aload_n C 0 dX7_put_12 rfl ?_
    refine gf_RX7_49 C h0 dX7_put_13 ?_
    refine g_sipush C (v := (280 : Int32)) dX7_put_16 (by decide) ?_
    refine g_iconst C (v := (4 : Int32)) dX7_put_19 (by decide) ?_
    refine g_iload_n C 1 dX7_put_20 rfl ?_
    refine g_imul C dX7_put_21 ?_
    refine g_iadd C dX7_put_22 ?_
    refine g_iload_n C 2 dX7_put_23 rfl ?_
    refine g_iadd C dX7_put_24 ?_
    refine g_iald C (isX7_st h0).1 (isX7_st h0).2 h.1 dX7_put_25 ?_
    replace h := h.2
    refine g_topi (fun x4 ex4 => ?_)
    replace h := h x4 ex4
    refine g_istore C [(4, .int x4), (0, .ref (Y.ad b)), (1, .int p1), (2, .int p2), (3, .int p3)] dX7_put_26 (by decide) rfl ?_
    refine g_aload_n C 1 dX7_put_28 rfl ?_
    refine gf_RX7_49 C h0 dX7_put_29 ?_
    refine g_sipush C (v := (280 : Int32)) dX7_put_32 (by decide) ?_
    refine g_iconst C (v := (4 : Int32)) dX7_put_35 (by decide) ?_
    refine g_iload_n C 2 dX7_put_36 rfl ?_
    refine g_imul C dX7_put_37 ?_
    refine g_iadd C dX7_put_38 ?_
    refine g_iload_n C 3 dX7_put_39 rfl ?_
    refine g_iadd C dX7_put_40 ?_
    refine g_iload_n C 4 dX7_put_41 rfl ?_
    refine g_iast C (isX7_st h0).1 (isX7_st h0).2 h.1 dX7_put_42 ?_
    replace h := h.2
    refine g_iload C 0 dX7_put_43 rfl ?_
    exact hr _ _ _ _ _ dX7_put_45 rfl h
  · replace h := h.2 c3
    refine g_iconst C (v := (-1 : Int32)) dX7_put_10 (by decide) ?_
    exact hr _ _ _ _ _ dX7_put_11 rfl h
set_option maxRecDepth 20000 in
set_option maxHeartbeats 4000000 in
theorem tX7_has_37 {X : XT} {Y : YT} {l0 : Launch} {b : Nat} {p1 : Int32} {p2 : Int32} {Q : Int32 → Mem → Prop} (C : Cx X Y 3 cX7_has RX7 WX7_has (rmB 2 46) l0) (hr : RI X Y cX7_has .int Q) (hI : YI Y) (h0 : isX7 Y b) (μ : Mem) (h : nX7_has_37 b p1 p2 Q  μ) : G X Y 3 37 [(0, .ref (Y.ad b)), (1, .int p1), (2, .int p2)] [] μ := by
  unfold nX7_has_37 at h
  refine g_iconst C (v := (-1 : Int32)) dX7_has_37 (by decide) ?_
  exact hr _ _ _ _ _ dX7_has_38 rfl h
set_option maxRecDepth 20000 in
set_option maxHeartbeats 4000000 in
theorem ok_X7_has {Y : YT} {l0 : Launch} {b : Nat} {p1 : Int32} {p2 : Int32} {μ : Mem} {Q : Int32 → Mem → Prop} (hI : YI Y) (h0 : isX7 Y b) (h : PX7_has b p1 p2 μ Q) : MI l0 yX7_has WX7_has 2 46 Y [.ref (Y.ad b), .int p1, .int p2] μ Q := by
  refine mI_of (ty := .int) (cc := cX7_has) (maxL := 3) (by decide +kernel) rfl hI (Nat.le_of_ble_eq_true rfl) (fun X C hr => ?_)
  replace C : Cx X Y 3 cX7_has RX7 WX7_has (rmB 2 46) l0 := C
  refine g_lv (lv2 := [(0, .ref (Y.ad b)), (1, .int p1), (2, .int p2)]) [0, 1, 2] ?_ rfl
  unfold PX7_has at h
  refine g_aload_n C 0 dX7_has_0 rfl ?_
  refine g_iload_n C 1 dX7_has_1 rfl ?_
  refine g_callVI C [.int p1] [] (ok_X7_isThing hI h0 h) (cw_RX7_250 _) rfl dc_X7_isThing ⟨Nat.le_of_ble_eq_true rfl, Nat.le_of_ble_eq_true rfl⟩ (isX7_lt h0) (isX7_sh h0) rfl rfl rfl rfl (Nat.le_of_ble_eq_true rfl) dX7_has_2 (fun r2 m1 h => ?_)
  refine g_if_eq C 37 dX7_has_5 (by decide) (fun c3 => ?_) (fun c3 => ?_)
  · replace h := h.1 c3
    exact tX7_has_37 C hr hI h0 _ h
  · replace h := h.2 c3
    refine g_iload_n C 2 dX7_has_8 rfl ?_
    refine g_i2l C dX7_has_9 ?_
    refine g_lconst C (v := (0 : Int64)) dX7_has_10 (by decide) ?_
    refine g_ldc2 C (v := (3 : Int64)) (List.mem_cons_of_mem _ mL_RX7_225) dX7_has_11 ?_
    refine g_callSI C [.long p2.toInt64, .long ((0 : Int64)), .long ((3 : Int64))] [] (ok_X7_in hI  h) (cw_RX7_134 _) rfl dc_X7_in ⟨Nat.le_of_ble_eq_true rfl, Nat.le_of_ble_eq_true rfl⟩ rfl (Nat.le_of_ble_eq_true rfl) dX7_has_14 (fun r5 m4 h => ?_)
    refine g_if_eq C 37 dX7_has_17 (by decide) (fun c6 => ?_) (fun c6 => ?_)
    · replace h := h.1 c6
      exact tX7_has_37 C hr hI h0 _ h
    · replace h := h.2 c6
      refine g_aload_n C 0 dX7_has_20 rfl ?_
      refine gf_RX7_49 C h0 dX7_has_21 ?_
      refine g_sipush C (v := (280 : Int32)) dX7_has_24 (by decide) ?_
      refine g_iconst C (v := (4 : Int32)) dX7_has_27 (by decide) ?_
      refine g_iload_n C 1 dX7_has_28 rfl ?_
      refine g_imul C dX7_has_29 ?_
      refine g_iadd C dX7_has_30 ?_
      refine g_iload_n C 2 dX7_has_31 rfl ?_
      refine g_iadd C dX7_has_32 ?_
      refine g_iald C (isX7_st h0).1 (isX7_st h0).2 h.1 dX7_has_33 ?_
      replace h := h.2
      refine g_goto C 38 dX7_has_34 (by decide) ?_
      exact hr _ _ _ _ _ dX7_has_38 rfl h
set_option maxRecDepth 20000 in
set_option maxHeartbeats 4000000 in
theorem ok_X7_may {Y : YT} {l0 : Launch} {b : Nat} {p1 : Int32} {p2 : Int32} {μ : Mem} {Q : Int32 → Mem → Prop} (hI : YI Y) (h0 : isX7 Y b) (h : PX7_may b p1 p2 μ Q) : MI l0 yX7_may WX7_may 4 98 Y [.ref (Y.ad b), .int p1, .int p2] μ Q := by
  refine mI_of (ty := .int) (cc := cX7_may) (maxL := 3) (by decide +kernel) rfl hI (Nat.le_of_ble_eq_true rfl) (fun X C hr => ?_)
  replace C : Cx X Y 3 cX7_may RX7 WX7_may (rmB 4 98) l0 := C
  refine g_lv (lv2 := [(0, .ref (Y.ad b)), (1, .int p1), (2, .int p2)]) [0, 1, 2] ?_ rfl
  unfold PX7_may at h
  refine g_aload_n C 0 dX7_may_0 rfl ?_
  refine g_iload_n C 1 dX7_may_1 rfl ?_
  refine g_callVI C [.int p1] [] (ok_X7_isSupper hI h0 h) (cw_RX7_256 _) rfl dc_X7_isSupper ⟨Nat.le_of_ble_eq_true rfl, Nat.le_of_ble_eq_true rfl⟩ (isX7_lt h0) (isX7_sh h0) rfl rfl rfl rfl (Nat.le_of_ble_eq_true rfl) dX7_may_2 (fun r2 m1 h => ?_)
  refine g_if_eq C 20 dX7_may_5 (by decide) (fun c3 => ?_) (fun c3 => ?_)
  · replace h := h.1 c3
    refine g_iconst C (v := (-1 : Int32)) dX7_may_20 (by decide) ?_
    exact hr _ _ _ _ _ dX7_may_21 rfl h
  · replace h := h.2 c3
    refine g_aload_n C 0 dX7_may_8 rfl ?_
    refine g_sipush C (v := (280 : Int32)) dX7_may_9 (by decide) ?_
    refine g_iload_n C 1 dX7_may_12 rfl ?_
    refine g_iload_n C 2 dX7_may_13 rfl ?_
    refine g_callVI C [.int ((280 : Int32)), .int p1, .int p2] [] (ok_X7_whyNot hI h0 h) (cw_RX7_316 _) rfl dc_X7_whyNot ⟨Nat.le_of_ble_eq_true rfl, Nat.le_of_ble_eq_true rfl⟩ (isX7_lt h0) (isX7_sh h0) rfl rfl rfl rfl (Nat.le_of_ble_eq_true rfl) dX7_may_14 (fun r5 m4 h => ?_)
    refine g_goto C 21 dX7_may_17 (by decide) ?_
    exact hr _ _ _ _ _ dX7_may_21 rfl h
set_option maxRecDepth 20000 in
set_option maxHeartbeats 4000000 in
theorem ok_X7_lacks {Y : YT} {l0 : Launch} {b : Nat} {p1 : Int32} {p2 : Int32} {p3 : Int32} {p4 : Int32} {μ : Mem} {Q : Int32 → Mem → Prop} (hI : YI Y) (h0 : isX7 Y b) (h : PX7_lacks b p1 p2 p3 p4 μ Q) : MI l0 yX7_lacks WX7_lacks 4 98 Y [.ref (Y.ad b), .int p1, .int p2, .int p3, .int p4] μ Q := by
  refine mI_of (ty := .int) (cc := cX7_lacks) (maxL := 5) (by decide +kernel) rfl hI (Nat.le_of_ble_eq_true rfl) (fun X C hr => ?_)
  replace C : Cx X Y 5 cX7_lacks RX7 WX7_lacks (rmB 4 98) l0 := C
  refine g_lv (lv2 := [(0, .ref (Y.ad b)), (1, .int p1), (2, .int p2), (3, .int p3), (4, .int p4)]) [0, 1, 2, 3, 4] ?_ rfl
  unfold PX7_lacks at h
  refine g_aload_n C 0 dX7_lacks_0 rfl ?_
  refine g_iload_n C 1 dX7_lacks_1 rfl ?_
  refine g_callVI C [.int p1] [] (ok_X7_isSupper hI h0 h) (cw_RX7_256 _) rfl dc_X7_isSupper ⟨Nat.le_of_ble_eq_true rfl, Nat.le_of_ble_eq_true rfl⟩ (isX7_lt h0) (isX7_sh h0) rfl rfl rfl rfl (Nat.le_of_ble_eq_true rfl) dX7_lacks_2 (fun r2 m1 h => ?_)
  refine g_if_eq C 29 dX7_lacks_5 (by decide) (fun c3 => ?_) (fun c3 => ?_)
  · replace h := h.1 c3
    refine g_iconst C (v := (-1 : Int32)) dX7_lacks_29 (by decide) ?_
    exact hr _ _ _ _ _ dX7_lacks_30 rfl h
  · replace h := h.2 c3
    refine g_aload_n C 0 dX7_lacks_8 rfl ?_
    refine g_iload_n C 3 dX7_lacks_9 rfl ?_
    refine g_callVI C [.int p3] [] (ok_X7_isThing hI h0 h) (cw_RX7_250 _) rfl dc_X7_isThing ⟨Nat.le_of_ble_eq_true rfl, Nat.le_of_ble_eq_true rfl⟩ (isX7_lt h0) (isX7_sh h0) rfl rfl rfl rfl (Nat.le_of_ble_eq_true rfl) dX7_lacks_10 (fun r5 m4 h => ?_)
    refine g_if_eq C 29 dX7_lacks_13 (by decide) (fun c6 => ?_) (fun c6 => ?_)
    · replace h := h.1 c6
      refine g_iconst C (v := (-1 : Int32)) dX7_lacks_29 (by decide) ?_
      exact hr _ _ _ _ _ dX7_lacks_30 rfl h
    · replace h := h.2 c6
      refine g_iload C 4 dX7_lacks_16 rfl ?_
      refine g_i2l C dX7_lacks_18 ?_
      refine g_lconst C (v := (0 : Int64)) dX7_lacks_19 (by decide) ?_
      refine g_ldc2 C (v := (2 : Int64)) (List.mem_cons_of_mem _ mL_RX7_254) dX7_lacks_20 ?_
      refine g_callSI C [.long p4.toInt64, .long ((0 : Int64)), .long ((2 : Int64))] [] (ok_X7_in hI  h) (cw_RX7_134 _) rfl dc_X7_in ⟨Nat.le_of_ble_eq_true rfl, Nat.le_of_ble_eq_true rfl⟩ rfl (Nat.le_of_ble_eq_true rfl) dX7_lacks_23 (fun r8 m7 h => ?_)
      refine g_if_ne C 31 dX7_lacks_26 (by decide) (fun c9 => ?_) (fun c9 => ?_)
      · replace h := h.1 c9
        refine g_iload C 4 dX7_lacks_31 rfl ?_
        refine g_iconst C (v := (2 : Int32)) dX7_lacks_33 (by decide) ?_
        refine g_icmp_ge C 66 dX7_lacks_34 (by decide) (fun c10 => ?_) (fun c10 => ?_)
        · replace h := h.1 c10
          refine g_aload_n C 0 dX7_lacks_66 rfl ?_
          refine g_sipush C (v := (280 : Int32)) dX7_lacks_67 (by decide) ?_
          refine g_iload_n C 1 dX7_lacks_70 rfl ?_
          refine g_iload_n C 2 dX7_lacks_71 rfl ?_
          refine g_callVV C [.int ((280 : Int32)), .int p1, .int p2] [] (ok_X7_findTaken hI h0 h) (cw_RX7_301 _) rfl dc_X7_findTaken ⟨Nat.le_of_ble_eq_true rfl, Nat.le_of_ble_eq_true rfl⟩ (isX7_lt h0) (isX7_sh h0) rfl rfl rfl rfl (Nat.le_of_ble_eq_true rfl) dX7_lacks_72 (fun m11 h => ?_)
          refine g_aload_n C 0 dX7_lacks_75 rfl ?_
          refine gf_RX7_56 C h0 dX7_lacks_76 ?_
          refine g_iconst C (v := (4 : Int32)) dX7_lacks_79 (by decide) ?_
          refine g_iload_n C 3 dX7_lacks_80 rfl ?_
          refine g_imul C dX7_lacks_81 ?_
          refine g_iald C (isX7_taken h0).1 (isX7_taken h0).2 h.1 dX7_lacks_82 ?_
          replace h := h.2
          refine g_aload_n C 0 dX7_lacks_83 rfl ?_
          refine gf_RX7_56 C h0 dX7_lacks_84 ?_
          refine g_iconst C (v := (4 : Int32)) dX7_lacks_87 (by decide) ?_
          refine g_iload_n C 3 dX7_lacks_88 rfl ?_
          refine g_imul C dX7_lacks_89 ?_
          refine g_iconst C (v := (1 : Int32)) dX7_lacks_90 (by decide) ?_
          refine g_iadd C dX7_lacks_91 ?_
          refine g_iald C (isX7_taken h0).1 (isX7_taken h0).2 h.1 dX7_lacks_92 ?_
          replace h := h.2
          refine g_iadd C dX7_lacks_93 ?_
          refine g_aload_n C 0 dX7_lacks_94 rfl ?_
          refine gf_RX7_56 C h0 dX7_lacks_95 ?_
          refine g_iconst C (v := (4 : Int32)) dX7_lacks_98 (by decide) ?_
          refine g_iload_n C 3 dX7_lacks_99 rfl ?_
          refine g_imul C dX7_lacks_100 ?_
          refine g_iconst C (v := (2 : Int32)) dX7_lacks_101 (by decide) ?_
          refine g_iadd C dX7_lacks_102 ?_
          refine g_iald C (isX7_taken h0).1 (isX7_taken h0).2 h.1 dX7_lacks_103 ?_
          replace h := h.2
          refine g_iadd C dX7_lacks_104 ?_
          refine g_aload_n C 0 dX7_lacks_105 rfl ?_
          refine gf_RX7_56 C h0 dX7_lacks_106 ?_
          refine g_iconst C (v := (4 : Int32)) dX7_lacks_109 (by decide) ?_
          refine g_iload_n C 3 dX7_lacks_110 rfl ?_
          refine g_imul C dX7_lacks_111 ?_
          refine g_iconst C (v := (3 : Int32)) dX7_lacks_112 (by decide) ?_
          refine g_iadd C dX7_lacks_113 ?_
          refine g_iald C (isX7_taken h0).1 (isX7_taken h0).2 h.1 dX7_lacks_114 ?_
          replace h := h.2
          refine g_iadd C dX7_lacks_115 ?_
          exact hr _ _ _ _ _ dX7_lacks_116 rfl h
        · replace h := h.2 c10
          refine g_iload C 4 dX7_lacks_37 rfl ?_
          refine g_if_ne C 55 dX7_lacks_39 (by decide) (fun c13 => ?_) (fun c13 => ?_)
          · replace h := h.1 c13
            refine g_aload_n C 0 dX7_lacks_55 rfl ?_
            refine g_sipush C (v := (280 : Int32)) dX7_lacks_56 (by decide) ?_
            refine g_iload_n C 1 dX7_lacks_59 rfl ?_
            refine g_iload_n C 2 dX7_lacks_60 rfl ?_
            refine g_iload_n C 3 dX7_lacks_61 rfl ?_
            refine g_callVI C [.int ((280 : Int32)), .int p1, .int p2, .int p3] [] (ok_X7_packsOf hI h0 h) (cw_RX7_305 _) rfl dc_X7_packsOf ⟨Nat.le_of_ble_eq_true rfl, Nat.le_of_ble_eq_true rfl⟩ (isX7_lt h0) (isX7_sh h0) rfl rfl rfl rfl (Nat.le_of_ble_eq_true rfl) dX7_lacks_62 (fun r15 m14 h => ?_)
            exact hr _ _ _ _ _ dX7_lacks_65 rfl h
          · replace h := h.2 c13
            refine g_aload_n C 0 dX7_lacks_42 rfl ?_
            refine g_sipush C (v := (280 : Int32)) dX7_lacks_43 (by decide) ?_
            refine g_iload_n C 1 dX7_lacks_46 rfl ?_
            refine g_iload_n C 2 dX7_lacks_47 rfl ?_
            refine g_iload_n C 3 dX7_lacks_48 rfl ?_
            refine g_callVI C [.int ((280 : Int32)), .int p1, .int p2, .int p3] [] (ok_X7_lackOf hI h0 h) (cw_RX7_297 _) rfl dc_X7_lackOf ⟨Nat.le_of_ble_eq_true rfl, Nat.le_of_ble_eq_true rfl⟩ (isX7_lt h0) (isX7_sh h0) rfl rfl rfl rfl (Nat.le_of_ble_eq_true rfl) dX7_lacks_49 (fun r17 m16 h => ?_)
            refine g_goto C 65 dX7_lacks_52 (by decide) ?_
            exact hr _ _ _ _ _ dX7_lacks_65 rfl h
      · replace h := h.2 c9
        refine g_iconst C (v := (-1 : Int32)) dX7_lacks_29 (by decide) ?_
        exact hr _ _ _ _ _ dX7_lacks_30 rfl h
set_option maxRecDepth 20000 in
set_option maxHeartbeats 4000000 in
theorem tX7_eat_35 {X : XT} {Y : YT} {l0 : Launch} {b : Nat} {p1 : Int32} {p2 : Int32} {Q : Int32 → Mem → Prop} (C : Cx X Y 3 cX7_eat RX7 WX7_eat (rmB 5 125) l0) (hr : RI X Y cX7_eat .int Q) (hI : YI Y) (h0 : isX7 Y b) (μ : Mem) (h : nX7_eat_35 b p1 p2 Q  μ) : G X Y 3 35 [(0, .ref (Y.ad b)), (1, .int p1), (2, .int p2)] [] μ := by
  unfold nX7_eat_35 at h
  refine g_bipush C (v := (-2 : Int32)) dX7_eat_35 (by decide) ?_
  refine g_goto C 49 dX7_eat_37 (by decide) ?_
  exact hr _ _ _ _ _ dX7_eat_49 rfl h
set_option maxRecDepth 20000 in
set_option maxHeartbeats 4000000 in
theorem ok_X7_eat {Y : YT} {l0 : Launch} {b : Nat} {p1 : Int32} {p2 : Int32} {μ : Mem} {Q : Int32 → Mem → Prop} (hI : YI Y) (h0 : isX7 Y b) (h : PX7_eat b p1 p2 μ Q) : MI l0 yX7_eat WX7_eat 5 125 Y [.ref (Y.ad b), .int p1, .int p2] μ Q := by
  refine mI_of (ty := .int) (cc := cX7_eat) (maxL := 3) (by decide +kernel) rfl hI (Nat.le_of_ble_eq_true rfl) (fun X C hr => ?_)
  replace C : Cx X Y 3 cX7_eat RX7 WX7_eat (rmB 5 125) l0 := C
  refine g_lv (lv2 := [(0, .ref (Y.ad b)), (1, .int p1), (2, .int p2)]) [0, 1, 2] ?_ rfl
  unfold PX7_eat at h
  refine g_aload_n C 0 dX7_eat_0 rfl ?_
  refine g_iload_n C 1 dX7_eat_1 rfl ?_
  refine g_callVI C [.int p1] [] (ok_X7_isSupper hI h0 h) (cw_RX7_256 _) rfl dc_X7_isSupper ⟨Nat.le_of_ble_eq_true rfl, Nat.le_of_ble_eq_true rfl⟩ (isX7_lt h0) (isX7_sh h0) rfl rfl rfl rfl (Nat.le_of_ble_eq_true rfl) dX7_eat_2 (fun r2 m1 h => ?_)
  refine g_if_ne C 10 dX7_eat_5 (by decide) (fun c3 => ?_) (fun c3 => ?_)
  · replace h := h.1 c3
    refine g_aload_n C 0 dX7_eat_10 rfl ?_
    refine gf_RX7_49 C h0 dX7_eat_11 ?_
    refine g_sipush C (v := (317 : Int32)) dX7_eat_14 (by decide) ?_
    refine g_iald C (isX7_st h0).1 (isX7_st h0).2 h.1 dX7_eat_17 ?_
    replace h := h.2
    refine g_bipush C (v := (-4 : Int32)) dX7_eat_18 (by decide) ?_
    refine g_icmp_ne C 35 dX7_eat_20 (by decide) (fun c4 => ?_) (fun c4 => ?_)
    · replace h := h.1 c4
      exact tX7_eat_35 C hr hI h0 _ h
    · replace h := h.2 c4
      refine g_aload_n C 0 dX7_eat_23 rfl ?_
      refine g_sipush C (v := (280 : Int32)) dX7_eat_24 (by decide) ?_
      refine g_iload_n C 1 dX7_eat_27 rfl ?_
      refine g_iload_n C 2 dX7_eat_28 rfl ?_
      refine g_callVI C [.int ((280 : Int32)), .int p1, .int p2] [] (ok_X7_whyNot hI h0 h) (cw_RX7_316 _) rfl dc_X7_whyNot ⟨Nat.le_of_ble_eq_true rfl, Nat.le_of_ble_eq_true rfl⟩ (isX7_lt h0) (isX7_sh h0) rfl rfl rfl rfl (Nat.le_of_ble_eq_true rfl) dX7_eat_29 (fun r6 m5 h => ?_)
      refine g_if_le C 40 dX7_eat_32 (by decide) (fun c7 => ?_) (fun c7 => ?_)
      · replace h := h.1 c7
        refine g_aload_n C 0 dX7_eat_40 rfl ?_
        refine g_sipush C (v := (280 : Int32)) dX7_eat_41 (by decide) ?_
        refine g_iload_n C 1 dX7_eat_44 rfl ?_
        refine g_iload_n C 2 dX7_eat_45 rfl ?_
        refine g_callVI C [.int ((280 : Int32)), .int p1, .int p2] [] (ok_X7_eats hI h0 h) (cw_RX7_320 _) rfl dc_X7_eats ⟨Nat.le_of_ble_eq_true rfl, Nat.le_of_ble_eq_true rfl⟩ (isX7_lt h0) (isX7_sh h0) rfl rfl rfl rfl (Nat.le_of_ble_eq_true rfl) dX7_eat_46 (fun r9 m8 h => ?_)
        exact hr _ _ _ _ _ dX7_eat_49 rfl h
      · replace h := h.2 c7
        exact tX7_eat_35 C hr hI h0 _ h
  · replace h := h.2 c3
    refine g_iconst C (v := (-1 : Int32)) dX7_eat_8 (by decide) ?_
    exact hr _ _ _ _ _ dX7_eat_9 rfl h
set_option maxRecDepth 20000 in
set_option maxHeartbeats 4000000 in
theorem ok_X7_night {Y : YT} {l0 : Launch} {b : Nat} {μ : Mem} {Q : Int32 → Mem → Prop} (hI : YI Y) (h0 : isX7 Y b) (h : PX7_night b μ Q) : MI l0 yX7_night WX7_night 2 46 Y [.ref (Y.ad b)] μ Q := by
  refine mI_of (ty := .int) (cc := cX7_night) (maxL := 1) (by decide +kernel) rfl hI (Nat.le_of_ble_eq_true rfl) (fun X C hr => ?_)
  replace C : Cx X Y 1 cX7_night RX7 WX7_night (rmB 2 46) l0 := C
  refine g_lv (lv2 := [(0, .ref (Y.ad b))]) [0] ?_ rfl
  unfold PX7_night at h
  refine g_aload_n C 0 dX7_night_0 rfl ?_
  refine g_sipush C (v := (280 : Int32)) dX7_night_1 (by decide) ?_
  refine g_callVI C [.int ((280 : Int32))] [] (ok_X7_nights hI h0 h) (cw_RX7_323 _) rfl dc_X7_nights ⟨Nat.le_of_ble_eq_true rfl, Nat.le_of_ble_eq_true rfl⟩ (isX7_lt h0) (isX7_sh h0) rfl rfl rfl rfl (Nat.le_of_ble_eq_true rfl) dX7_night_4 (fun r2 m1 h => ?_)
  exact hr _ _ _ _ _ dX7_night_7 rfl h
def SX7_now_4 (X : XT) (Y : YT) (b : Nat) (p1 : Int32) : Int32 → Int32 → Mem → Prop := fun v2 v3 μ => G X Y 4 4 [(0, .ref (Y.ad b)), (1, .int p1), (2, .int v2), (3, .int v3)] [] μ
set_option maxRecDepth 20000 in
set_option maxHeartbeats 4000000 in
theorem tX7_now_4 {X : XT} {Y : YT} {l0 : Launch} {b : Nat} {p1 : Int32} {Q : Int32 → Mem → Prop} (C : Cx X Y 4 cX7_now RX7 WX7_now (rmB 0 0) l0) (hr : RI X Y cX7_now .int Q) (hI : YI Y) (h0 : isX7 Y b) (v2 : Int32) (v3 : Int32) (μ : Mem) (h : nX7_now_4 b p1 Q (SX7_now_4 X Y b p1) v2 v3 μ) : G X Y 4 4 [(0, .ref (Y.ad b)), (1, .int p1), (2, .int v2), (3, .int v3)] [] μ := by
  unfold nX7_now_4 at h
  refine g_iload_n C 3 dX7_now_4 rfl ?_
  refine g_bipush C (v := (24 : Int32)) dX7_now_5 (by decide) ?_
  refine g_icmp_ge C 29 dX7_now_7 (by decide) (fun c1 => ?_) (fun c1 => ?_)
  · replace h := h.1 c1
    refine g_iload_n C 1 dX7_now_29 rfl ?_
    by_cases c2 : p1 = 0
    · refine g_tableIn C 68 dX7_now_30 (by rw [c2]; decide) (by rw [c2]; decide) (by rw [c2]; rfl) (by decide) ?_
      replace h := h.1 c2
      refine g_aload_n C 0 dX7_now_68 rfl ?_
      refine gf_RX7_49 C h0 dX7_now_69 ?_
      refine g_sipush C (v := (316 : Int32)) dX7_now_72 (by decide) ?_
      refine g_iald C (isX7_st h0).1 (isX7_st h0).2 h.1 dX7_now_75 ?_
      replace h := h.2
      exact hr _ _ _ _ _ dX7_now_76 rfl h
    by_cases c3 : p1 = 1
    · refine g_tableIn C 77 dX7_now_30 (by rw [c3]; decide) (by rw [c3]; decide) (by rw [c3]; rfl) (by decide) ?_
      replace h := h.2.1 c3
      refine g_aload_n C 0 dX7_now_77 rfl ?_
      refine gf_RX7_49 C h0 dX7_now_78 ?_
      refine g_sipush C (v := (317 : Int32)) dX7_now_81 (by decide) ?_
      refine g_iald C (isX7_st h0).1 (isX7_st h0).2 h.1 dX7_now_84 ?_
      replace h := h.2
      exact hr _ _ _ _ _ dX7_now_85 rfl h
    by_cases c4 : p1 = 2
    · refine g_tableIn C 86 dX7_now_30 (by rw [c4]; decide) (by rw [c4]; decide) (by rw [c4]; rfl) (by decide) ?_
      replace h := h.2.2.1 c4
      refine g_aload_n C 0 dX7_now_86 rfl ?_
      refine gf_RX7_49 C h0 dX7_now_87 ?_
      refine g_sipush C (v := (313 : Int32)) dX7_now_90 (by decide) ?_
      refine g_iald C (isX7_st h0).1 (isX7_st h0).2 h.1 dX7_now_93 ?_
      replace h := h.2
      exact hr _ _ _ _ _ dX7_now_94 rfl h
    by_cases c5 : p1 = 3
    · refine g_tableIn C 95 dX7_now_30 (by rw [c5]; decide) (by rw [c5]; decide) (by rw [c5]; rfl) (by decide) ?_
      replace h := h.2.2.2.1 c5
      refine g_aload_n C 0 dX7_now_95 rfl ?_
      refine gf_RX7_49 C h0 dX7_now_96 ?_
      refine g_sipush C (v := (314 : Int32)) dX7_now_99 (by decide) ?_
      refine g_iald C (isX7_st h0).1 (isX7_st h0).2 h.1 dX7_now_102 ?_
      replace h := h.2
      exact hr _ _ _ _ _ dX7_now_103 rfl h
    by_cases c6 : p1 = 4
    · refine g_tableIn C 104 dX7_now_30 (by rw [c6]; decide) (by rw [c6]; decide) (by rw [c6]; rfl) (by decide) ?_
      replace h := h.2.2.2.2.1 c6
      refine g_aload_n C 0 dX7_now_104 rfl ?_
      refine gf_RX7_49 C h0 dX7_now_105 ?_
      refine g_sipush C (v := (315 : Int32)) dX7_now_108 (by decide) ?_
      refine g_iald C (isX7_st h0).1 (isX7_st h0).2 h.1 dX7_now_111 ?_
      replace h := h.2
      exact hr _ _ _ _ _ dX7_now_112 rfl h
    by_cases c7 : p1 = 5
    · refine g_tableIn C 113 dX7_now_30 (by rw [c7]; decide) (by rw [c7]; decide) (by rw [c7]; rfl) (by decide) ?_
      replace h := h.2.2.2.2.2.1 c7
      refine g_iload_n C 2 dX7_now_113 rfl ?_
      exact hr _ _ _ _ _ dX7_now_114 rfl h
    have c8 : p1.toInt < 0 ∨ 5 < p1.toInt := by
      have z := (And.intro True.intro ⟨lv_neT (a := 0) c2 rfl, lv_neT (a := 1) c3 rfl, lv_neT (a := 2) c4 rfl, lv_neT (a := 3) c5 rfl, lv_neT (a := 4) c6 rfl, lv_neT (a := 5) c7 rfl⟩ : True ∧ ¬ p1.toInt = 0 ∧ ¬ p1.toInt = 1 ∧ ¬ p1.toInt = 2 ∧ ¬ p1.toInt = 3 ∧ ¬ p1.toInt = 4 ∧ ¬ p1.toInt = 5)
      omega
    refine g_tableOut C 115 dX7_now_30 c8 (by decide) ?_
    replace h := h.2.2.2.2.2.2 c8
    refine g_iconst C (v := (-1 : Int32)) dX7_now_115 (by decide) ?_
    exact hr _ _ _ _ _ dX7_now_116 rfl h
  · replace h := h.2 c1
    refine g_iload_n C 2 dX7_now_10 rfl ?_
    refine g_aload_n C 0 dX7_now_11 rfl ?_
    refine gf_RX7_49 C h0 dX7_now_12 ?_
    refine g_sipush C (v := (280 : Int32)) dX7_now_15 (by decide) ?_
    refine g_iload_n C 3 dX7_now_18 rfl ?_
    refine g_iadd C dX7_now_19 ?_
    refine g_iald C (isX7_st h0).1 (isX7_st h0).2 h.1 dX7_now_20 ?_
    replace h := h.2
    refine g_iadd C dX7_now_21 ?_
    refine g_istore_n C [(2, .int (v2 + (μ.1 (b + 14) (((280 : Int32)) + v3).toNatClampNeg))), (0, .ref (Y.ad b)), (1, .int p1), (3, .int v3)] dX7_now_22 (by decide) rfl ?_
    refine g_iinc C (v := v3 + 1) 3 [(3, .int (v3 + 1)), (2, .int (v2 + (μ.1 (b + 14) (((280 : Int32)) + v3).toNatClampNeg))), (0, .ref (Y.ad b)), (1, .int p1)] dX7_now_23 rfl rfl (by decide) rfl ?_
    refine g_goto C 4 dX7_now_26 (by decide) ?_
    refine g_lv (lv2 := [(0, .ref (Y.ad b)), (1, .int p1), (2, .int (v2 + (μ.1 (b + 14) (((280 : Int32)) + v3).toNatClampNeg))), (3, .int (v3 + 1))]) [2, 3, 1, 0] ?_ rfl
    exact h
set_option maxRecDepth 20000 in
set_option maxHeartbeats 4000000 in
theorem ok_X7_now {Y : YT} {l0 : Launch} {b : Nat} {p1 : Int32} {μ : Mem} {Q : Int32 → Mem → Prop} (hI : YI Y) (h0 : isX7 Y b) (h : PX7_now b p1 μ Q) : MI l0 yX7_now WX7_now 0 0 Y [.ref (Y.ad b), .int p1] μ Q := by
  refine mI_of (ty := .int) (cc := cX7_now) (maxL := 4) (by decide +kernel) rfl hI (Nat.le_of_ble_eq_true rfl) (fun X C hr => ?_)
  replace C : Cx X Y 4 cX7_now RX7 WX7_now (rmB 0 0) l0 := C
  refine g_lv (lv2 := [(0, .ref (Y.ad b)), (1, .int p1)]) [0, 1] ?_ rfl
  unfold PX7_now at h
  replace h := h (SX7_now_4 X Y b p1) (fun v2 v3 μ z => tX7_now_4 C hr hI h0 v2 v3 μ z)
  refine g_iconst C (v := (0 : Int32)) dX7_now_0 (by decide) ?_
  refine g_istore_n C [(2, .int ((0 : Int32))), (0, .ref (Y.ad b)), (1, .int p1)] dX7_now_1 (by decide) rfl ?_
  refine g_iconst C (v := (0 : Int32)) dX7_now_2 (by decide) ?_
  refine g_istore_n C [(3, .int ((0 : Int32))), (2, .int ((0 : Int32))), (0, .ref (Y.ad b)), (1, .int p1)] dX7_now_3 (by decide) rfl ?_
  refine g_lv (lv2 := [(0, .ref (Y.ad b)), (1, .int p1), (2, .int ((0 : Int32))), (3, .int ((0 : Int32)))]) [2, 3, 1, 0] ?_ rfl
  exact h
set_option maxRecDepth 20000 in
set_option maxHeartbeats 4000000 in
theorem ok_X7_last {Y : YT} {l0 : Launch} {b : Nat} {p1 : Int32} {μ : Mem} {Q : Int32 → Mem → Prop} (hI : YI Y) (h0 : isX7 Y b) (h : PX7_last b p1 μ Q) : MI l0 yX7_last WX7_last 2 46 Y [.ref (Y.ad b), .int p1] μ Q := by
  refine mI_of (ty := .int) (cc := cX7_last) (maxL := 2) (by decide +kernel) rfl hI (Nat.le_of_ble_eq_true rfl) (fun X C hr => ?_)
  replace C : Cx X Y 2 cX7_last RX7 WX7_last (rmB 2 46) l0 := C
  refine g_lv (lv2 := [(0, .ref (Y.ad b)), (1, .int p1)]) [0, 1] ?_ rfl
  unfold PX7_last at h
  refine g_aload_n C 0 dX7_last_0 rfl ?_
  refine g_iload_n C 1 dX7_last_1 rfl ?_
  refine g_callVI C [.int p1] [] (ok_X7_isSupper hI h0 h) (cw_RX7_256 _) rfl dc_X7_isSupper ⟨Nat.le_of_ble_eq_true rfl, Nat.le_of_ble_eq_true rfl⟩ (isX7_lt h0) (isX7_sh h0) rfl rfl rfl rfl (Nat.le_of_ble_eq_true rfl) dX7_last_2 (fun r2 m1 h => ?_)
  refine g_if_eq C 21 dX7_last_5 (by decide) (fun c3 => ?_) (fun c3 => ?_)
  · replace h := h.1 c3
    refine g_iconst C (v := (-1 : Int32)) dX7_last_21 (by decide) ?_
    exact hr _ _ _ _ _ dX7_last_22 rfl h
  · replace h := h.2 c3
    refine g_aload_n C 0 dX7_last_8 rfl ?_
    refine gf_RX7_49 C h0 dX7_last_9 ?_
    refine g_sipush C (v := (304 : Int32)) dX7_last_12 (by decide) ?_
    refine g_iload_n C 1 dX7_last_15 rfl ?_
    refine g_iadd C dX7_last_16 ?_
    refine g_iald C (isX7_st h0).1 (isX7_st h0).2 h.1 dX7_last_17 ?_
    replace h := h.2
    refine g_goto C 22 dX7_last_18 (by decide) ?_
    exact hr _ _ _ _ _ dX7_last_22 rfl h
set_option maxRecDepth 20000 in
set_option maxHeartbeats 4000000 in
theorem ok_X7_keep {Y : YT} {l0 : Launch} {b : Nat} {p1 : Int32} {μ : Mem} {Q : Int32 → Mem → Prop} (hI : YI Y) (h0 : isX7 Y b) (h : PX7_keep b p1 μ Q) : MI l0 yX7_keep WX7_keep 1 25 Y [.ref (Y.ad b), .int p1] μ Q := by
  refine mI_of (ty := .int) (cc := cX7_keep) (maxL := 3) (by decide +kernel) rfl hI (Nat.le_of_ble_eq_true rfl) (fun X C hr => ?_)
  replace C : Cx X Y 3 cX7_keep RX7 WX7_keep (rmB 1 25) l0 := C
  refine g_lv (lv2 := [(0, .ref (Y.ad b)), (1, .int p1)]) [0, 1] ?_ rfl
  unfold PX7_keep at h
  refine g_iload_n C 1 dX7_keep_0 rfl ?_
  refine g_i2l C dX7_keep_1 ?_
  refine g_lconst C (v := (0 : Int64)) dX7_keep_2 (by decide) ?_
  refine g_lconst C (v := (1 : Int64)) dX7_keep_3 (by decide) ?_
  refine g_callSI C [.long p1.toInt64, .long ((0 : Int64)), .long ((1 : Int64))] [] (ok_X7_in hI  h) (cw_RX7_134 _) rfl dc_X7_in ⟨Nat.le_of_ble_eq_true rfl, Nat.le_of_ble_eq_true rfl⟩ rfl (Nat.le_of_ble_eq_true rfl) dX7_keep_4 (fun r2 m1 h => ?_)
  refine g_if_ne C 12 dX7_keep_7 (by decide) (fun c3 => ?_) (fun c3 => ?_)
  · replace h := h.1 c3
    refine g_aload_n C 0 dX7_keep_12 rfl ?_
    refine gf_RX7_52 C h0 dX7_keep_13 ?_
    refine g_iload_n C 1 dX7_keep_16 rfl ?_
    refine g_zald C (isX7_isKept h0).1 (isX7_isKept h0).2 h.1 dX7_keep_17 ?_
    replace h := h.2
    refine g_callSI C [.int (m1.1 (b + 15) p1.toNatClampNeg)] [] (ok_X7_flag hI  h) (cw_RX7_270 _) rfl dc_X7_flag ⟨Nat.le_of_ble_eq_true rfl, Nat.le_of_ble_eq_true rfl⟩ rfl (Nat.le_of_ble_eq_true rfl) dX7_keep_18 (fun r5 m4 h => ?_)
    refine g_istore_n C [(2, .int r5), (0, .ref (Y.ad b)), (1, .int p1)] dX7_keep_21 (by decide) rfl ?_
    refine g_aload_n C 1 dX7_keep_22 rfl ?_
    refine gf_RX7_52 C h0 dX7_keep_23 ?_
    refine g_iload_n C 2 dX7_keep_26 rfl ?_
    refine g_iconst C (v := (1 : Int32)) dX7_keep_27 (by decide) ?_
    refine g_zast C (isX7_isKept h0).1 (isX7_isKept h0).2 h.1 dX7_keep_28 ?_
    replace h := h.2
    refine g_aload_n C 1 dX7_keep_29 rfl ?_
    refine g_sipush C (v := (320 : Int32)) dX7_keep_30 (by decide) ?_
    refine g_bipush C (v := (40 : Int32)) dX7_keep_33 (by decide) ?_
    refine g_iload_n C 2 dX7_keep_35 rfl ?_
    refine g_imul C dX7_keep_36 ?_
    refine g_iadd C dX7_keep_37 ?_
    refine g_sipush C (v := (280 : Int32)) dX7_keep_38 (by decide) ?_
    refine g_callVV C [.int (((320 : Int32)) + (((40 : Int32)) * p1)), .int ((280 : Int32))] [] (ok_X7_copies hI h0 h) (cw_RX7_326 _) rfl dc_X7_copies ⟨Nat.le_of_ble_eq_true rfl, Nat.le_of_ble_eq_true rfl⟩ (isX7_lt h0) (isX7_sh h0) rfl rfl rfl rfl (Nat.le_of_ble_eq_true rfl) dX7_keep_41 (fun m6 h => ?_)
    refine g_iload_n C 0 dX7_keep_44 rfl ?_
    exact hr _ _ _ _ _ dX7_keep_45 rfl h
  · replace h := h.2 c3
    refine g_iconst C (v := (-1 : Int32)) dX7_keep_10 (by decide) ?_
    exact hr _ _ _ _ _ dX7_keep_11 rfl h
set_option maxRecDepth 20000 in
set_option maxHeartbeats 4000000 in
theorem ok_X7_back {Y : YT} {l0 : Launch} {b : Nat} {p1 : Int32} {μ : Mem} {Q : Int32 → Mem → Prop} (hI : YI Y) (h0 : isX7 Y b) (h : PX7_back b p1 μ Q) : MI l0 yX7_back WX7_back 1 25 Y [.ref (Y.ad b), .int p1] μ Q := by
  refine mI_of (ty := .int) (cc := cX7_back) (maxL := 2) (by decide +kernel) rfl hI (Nat.le_of_ble_eq_true rfl) (fun X C hr => ?_)
  replace C : Cx X Y 2 cX7_back RX7 WX7_back (rmB 1 25) l0 := C
  refine g_lv (lv2 := [(0, .ref (Y.ad b)), (1, .int p1)]) [0, 1] ?_ rfl
  unfold PX7_back at h
  refine g_iload_n C 1 dX7_back_0 rfl ?_
  refine g_i2l C dX7_back_1 ?_
  refine g_lconst C (v := (0 : Int64)) dX7_back_2 (by decide) ?_
  refine g_lconst C (v := (1 : Int64)) dX7_back_3 (by decide) ?_
  refine g_callSI C [.long p1.toInt64, .long ((0 : Int64)), .long ((1 : Int64))] [] (ok_X7_in hI  h) (cw_RX7_134 _) rfl dc_X7_in ⟨Nat.le_of_ble_eq_true rfl, Nat.le_of_ble_eq_true rfl⟩ rfl (Nat.le_of_ble_eq_true rfl) dX7_back_4 (fun r2 m1 h => ?_)
  refine g_if_ne C 12 dX7_back_7 (by decide) (fun c3 => ?_) (fun c3 => ?_)
  · replace h := h.1 c3
    refine g_aload_n C 0 dX7_back_12 rfl ?_
    refine gf_RX7_52 C h0 dX7_back_13 ?_
    refine g_iload_n C 1 dX7_back_16 rfl ?_
    refine g_zald C (isX7_isKept h0).1 (isX7_isKept h0).2 h.1 dX7_back_17 ?_
    replace h := h.2
    refine g_if_ne C 24 dX7_back_18 (by decide) (fun c4 => ?_) (fun c4 => ?_)
    · replace h := h.1 c4
      refine g_aload_n C 0 dX7_back_24 rfl ?_
      refine g_sipush C (v := (280 : Int32)) dX7_back_25 (by decide) ?_
      refine g_sipush C (v := (320 : Int32)) dX7_back_28 (by decide) ?_
      refine g_bipush C (v := (40 : Int32)) dX7_back_31 (by decide) ?_
      refine g_iload_n C 1 dX7_back_33 rfl ?_
      refine g_imul C dX7_back_34 ?_
      refine g_iadd C dX7_back_35 ?_
      refine g_callVV C [.int ((280 : Int32)), .int (((320 : Int32)) + (((40 : Int32)) * p1))] [] (ok_X7_copies hI h0 h) (cw_RX7_326 _) rfl dc_X7_copies ⟨Nat.le_of_ble_eq_true rfl, Nat.le_of_ble_eq_true rfl⟩ (isX7_lt h0) (isX7_sh h0) rfl rfl rfl rfl (Nat.le_of_ble_eq_true rfl) dX7_back_36 (fun m5 h => ?_)
      refine g_aload_n C 0 dX7_back_39 rfl ?_
      refine gf_RX7_49 C h0 dX7_back_40 ?_
      refine g_sipush C (v := (316 : Int32)) dX7_back_43 (by decide) ?_
      refine g_iald C (isX7_st h0).1 (isX7_st h0).2 h.1 dX7_back_46 ?_
      replace h := h.2
      exact hr _ _ _ _ _ dX7_back_47 rfl h
    · replace h := h.2 c4
      refine g_bipush C (v := (-2 : Int32)) dX7_back_21 (by decide) ?_
      exact hr _ _ _ _ _ dX7_back_23 rfl h
  · replace h := h.2 c3
    refine g_iconst C (v := (-1 : Int32)) dX7_back_10 (by decide) ?_
    exact hr _ _ _ _ _ dX7_back_11 rfl h
set_option maxRecDepth 20000 in
set_option maxHeartbeats 4000000 in
theorem tX7_day_16 {X : XT} {Y : YT} {l0 : Launch} {b : Nat} {p1 : Int32} {Q : Int32 → Mem → Prop} (C : Cx X Y 2 cX7_day RX7 WX7_day (rmB 2 46) l0) (hr : RI X Y cX7_day .int Q) (hI : YI Y) (h0 : isX7 Y b) (μ : Mem) (h : nX7_day_16 b p1 Q  μ) : G X Y 2 16 [(0, .ref (Y.ad b)), (1, .int p1)] [] μ := by
  unfold nX7_day_16 at h
  refine g_aload_n C 0 dX7_day_16 rfl ?_
  refine gf_RX7_138 C h0 dX7_day_17 ?_
  refine g_bipush C (v := (7 : Int32)) dX7_day_20 (by decide) ?_
  refine g_icmp_ne C 28 dX7_day_22 (by decide) (fun c5 => ?_) (fun c5 => ?_)
  · replace h := h.1 c5
    refine g_aload_n C 0 dX7_day_28 rfl ?_
    refine gf_RX7_62 C h0 dX7_day_29 ?_
    refine g_aload_n C 0 dX7_day_32 rfl ?_
    refine gf_RX7_138 C h0 dX7_day_33 ?_
    refine g_iload_n C 1 dX7_day_36 rfl ?_
    refine g_iast C (isX7_row h0).1 (isX7_row h0).2 h.1 dX7_day_37 ?_
    replace h := h.2
    refine g_aload_n C 0 dX7_day_38 rfl ?_
    refine g_dup C dX7_day_39 rfl ?_
    refine gf_RX7_138 C h0 dX7_day_40 ?_
    refine g_iconst C (v := (1 : Int32)) dX7_day_43 (by decide) ?_
    refine g_iadd C dX7_day_44 ?_
    refine gp_RX7_138 C h0 dX7_day_45 ?_
    refine g_mem (fun m6 em6 => ?_)
    replace h := h m6 em6
    refine g_aload_n C 0 dX7_day_48 rfl ?_
    refine gf_RX7_138 C h0 dX7_day_49 ?_
    exact hr _ _ _ _ _ dX7_day_52 rfl h
  · replace h := h.2 c5
    refine g_bipush C (v := (-3 : Int32)) dX7_day_25 (by decide) ?_
    exact hr _ _ _ _ _ dX7_day_27 rfl h
set_option maxRecDepth 20000 in
set_option maxHeartbeats 4000000 in
theorem ok_X7_day {Y : YT} {l0 : Launch} {b : Nat} {p1 : Int32} {μ : Mem} {Q : Int32 → Mem → Prop} (hI : YI Y) (h0 : isX7 Y b) (h : PX7_day b p1 μ Q) : MI l0 yX7_day WX7_day 2 46 Y [.ref (Y.ad b), .int p1] μ Q := by
  refine mI_of (ty := .int) (cc := cX7_day) (maxL := 2) (by decide +kernel) rfl hI (Nat.le_of_ble_eq_true rfl) (fun X C hr => ?_)
  replace C : Cx X Y 2 cX7_day RX7 WX7_day (rmB 2 46) l0 := C
  refine g_lv (lv2 := [(0, .ref (Y.ad b)), (1, .int p1)]) [0, 1] ?_ rfl
  unfold PX7_day at h
  refine g_iload_n C 1 dX7_day_0 rfl ?_
  refine g_bipush C (v := (-4 : Int32)) dX7_day_1 (by decide) ?_
  refine g_icmp_eq C 16 dX7_day_3 (by decide) (fun c1 => ?_) (fun c1 => ?_)
  · replace h := h.1 c1
    exact tX7_day_16 C hr hI h0 _ h
  · replace h := h.2 c1
    refine g_aload_n C 0 dX7_day_6 rfl ?_
    refine g_iload_n C 1 dX7_day_7 rfl ?_
    refine g_callVI C [.int p1] [] (ok_X7_isSupper hI h0 h) (cw_RX7_256 _) rfl dc_X7_isSupper ⟨Nat.le_of_ble_eq_true rfl, Nat.le_of_ble_eq_true rfl⟩ (isX7_lt h0) (isX7_sh h0) rfl rfl rfl rfl (Nat.le_of_ble_eq_true rfl) dX7_day_8 (fun r3 m2 h => ?_)
    refine g_if_ne C 16 dX7_day_11 (by decide) (fun c4 => ?_) (fun c4 => ?_)
    · replace h := h.1 c4
      exact tX7_day_16 C hr hI h0 _ h
    · replace h := h.2 c4
      refine g_iconst C (v := (-1 : Int32)) dX7_day_14 (by decide) ?_
      exact hr _ _ _ _ _ dX7_day_15 rfl h
set_option maxRecDepth 20000 in
set_option maxHeartbeats 4000000 in
theorem ok_X7_clear {Y : YT} {l0 : Launch} {b : Nat} {μ : Mem} {Q : Int32 → Mem → Prop} (hI : YI Y) (h0 : isX7 Y b) (h : PX7_clear b μ Q) : MI l0 yX7_clear WX7_clear 0 0 Y [.ref (Y.ad b)] μ Q := by
  refine mI_of (ty := .int) (cc := cX7_clear) (maxL := 2) (by decide +kernel) rfl hI (Nat.le_of_ble_eq_true rfl) (fun X C hr => ?_)
  replace C : Cx X Y 2 cX7_clear RX7 WX7_clear (rmB 0 0) l0 := C
  refine g_lv (lv2 := [(0, .ref (Y.ad b))]) [0] ?_ rfl
  unfold PX7_clear at h
  refine g_aload_n C 0 dX7_clear_0 rfl ?_
  refine gf_RX7_138 C h0 dX7_clear_1 ?_
  refine g_istore_n C [(1, .int (μ.1 b 37)), (0, .ref (Y.ad b))] dX7_clear_4 (by decide) rfl ?_
  refine g_aload_n C 1 dX7_clear_5 rfl ?_
  refine g_iconst C (v := (0 : Int32)) dX7_clear_6 (by decide) ?_
  refine gp_RX7_138 C h0 dX7_clear_7 ?_
  refine g_iload_n C 0 dX7_clear_10 rfl ?_
  exact hr _ _ _ _ _ dX7_clear_11 rfl h
set_option maxRecDepth 20000 in
set_option maxHeartbeats 4000000 in
theorem ok_X7_begins {Y : YT} {l0 : Launch} {b : Nat} {p1 : Int32} {μ : Mem} {Q : Mem → Prop} (hI : YI Y) (h0 : isX7 Y b) (h : PX7_begins b p1 μ Q) : MV l0 yX7_begins WX7_begins 1 23 Y [.ref (Y.ad b), .int p1] μ Q := by
  refine mV_of (cc := cX7_begins) (maxL := 2) (by decide +kernel) rfl hI (Nat.le_of_ble_eq_true rfl) (fun X C hr => ?_)
  replace C : Cx X Y 2 cX7_begins RX7 WX7_begins (rmB 1 23) l0 := C
  refine g_lv (lv2 := [(0, .ref (Y.ad b)), (1, .int p1)]) [0, 1] ?_ rfl
  unfold PX7_begins at h
  refine g_aload_n C 0 dX7_begins_0 rfl ?_
  refine g_iload_n C 1 dX7_begins_1 rfl ?_
  refine g_sipush C (v := (280 : Int32)) dX7_begins_2 (by decide) ?_
  refine g_callVV C [.int p1, .int ((280 : Int32))] [] (ok_X7_copies hI h0 h) (cw_RX7_326 _) rfl dc_X7_copies ⟨Nat.le_of_ble_eq_true rfl, Nat.le_of_ble_eq_true rfl⟩ (isX7_lt h0) (isX7_sh h0) rfl rfl rfl rfl (Nat.le_of_ble_eq_true rfl) dX7_begins_5 (fun m1 h => ?_)
  refine g_aload_n C 0 dX7_begins_8 rfl ?_
  refine gf_RX7_49 C h0 dX7_begins_9 ?_
  refine g_iload_n C 1 dX7_begins_12 rfl ?_
  refine g_bipush C (v := (33 : Int32)) dX7_begins_13 (by decide) ?_
  refine g_iadd C dX7_begins_15 ?_
  refine g_iconst C (v := (0 : Int32)) dX7_begins_16 (by decide) ?_
  refine g_iast C (isX7_st h0).1 (isX7_st h0).2 h.1 dX7_begins_17 ?_
  replace h := h.2
  refine g_aload_n C 0 dX7_begins_18 rfl ?_
  refine gf_RX7_49 C h0 dX7_begins_19 ?_
  refine g_iload_n C 1 dX7_begins_22 rfl ?_
  refine g_bipush C (v := (34 : Int32)) dX7_begins_23 (by decide) ?_
  refine g_iadd C dX7_begins_25 ?_
  refine g_iconst C (v := (0 : Int32)) dX7_begins_26 (by decide) ?_
  refine g_iast C (isX7_st h0).1 (isX7_st h0).2 h.1 dX7_begins_27 ?_
  replace h := h.2
  refine g_mem (fun m3 em3 => ?_)
  replace h := h m3 em3
  refine g_aload_n C 0 dX7_begins_28 rfl ?_
  refine gf_RX7_49 C h0 dX7_begins_29 ?_
  refine g_iload_n C 1 dX7_begins_32 rfl ?_
  refine g_bipush C (v := (35 : Int32)) dX7_begins_33 (by decide) ?_
  refine g_iadd C dX7_begins_35 ?_
  refine g_iconst C (v := (0 : Int32)) dX7_begins_36 (by decide) ?_
  refine g_iast C (isX7_st h0).1 (isX7_st h0).2 h.1 dX7_begins_37 ?_
  replace h := h.2
  refine g_aload_n C 0 dX7_begins_38 rfl ?_
  refine gf_RX7_49 C h0 dX7_begins_39 ?_
  refine g_iload_n C 1 dX7_begins_42 rfl ?_
  refine g_bipush C (v := (37 : Int32)) dX7_begins_43 (by decide) ?_
  refine g_iadd C dX7_begins_45 ?_
  refine g_bipush C (v := (-4 : Int32)) dX7_begins_46 (by decide) ?_
  refine g_iast C (isX7_st h0).1 (isX7_st h0).2 h.1 dX7_begins_48 ?_
  replace h := h.2
  refine g_mem (fun m4 em4 => ?_)
  replace h := h m4 em4
  exact hr _ _ _ _ dX7_begins_49 h
def SX7_runs_14 (X : XT) (Y : YT) (b : Nat) (p1 : Int32) : Int32 → Mem → Prop := fun v2 μ => G X Y 3 14 [(0, .ref (Y.ad b)), (1, .int p1), (2, .int v2)] [] μ
set_option maxRecDepth 20000 in
set_option maxHeartbeats 4000000 in
theorem tX7_runs_101 {X : XT} {Y : YT} {l0 : Launch} {b : Nat} {p1 : Int32} {Q : Int32 → Mem → Prop} (C : Cx X Y 3 cX7_runs RX7 WX7_runs (rmB 5 125) l0) (hr : RI X Y cX7_runs .int Q) (hI : YI Y) (h0 : isX7 Y b) (v2 : Int32) (μ : Mem) (h : nX7_runs_101 b p1 Q (SX7_runs_14 X Y b p1) v2 μ) : G X Y 3 101 [(0, .ref (Y.ad b)), (1, .int p1), (2, .int v2)] [] μ := by
  unfold nX7_runs_101 at h
  refine g_aload_n C 0 dX7_runs_101 rfl ?_
  refine g_sipush C (v := (240 : Int32)) dX7_runs_102 (by decide) ?_
  refine g_callVI C [.int ((240 : Int32))] [] (ok_X7_nights hI h0 h) (cw_RX7_323 _) rfl dc_X7_nights ⟨Nat.le_of_ble_eq_true rfl, Nat.le_of_ble_eq_true rfl⟩ (isX7_lt h0) (isX7_sh h0) rfl rfl rfl rfl (Nat.le_of_ble_eq_true rfl) dX7_runs_105 (fun r13 m12 h => ?_)
  refine g_pop C dX7_runs_108 rfl ?_
  refine g_iinc C (v := v2 + 1) 2 [(2, .int (v2 + 1)), (0, .ref (Y.ad b)), (1, .int p1)] dX7_runs_109 rfl rfl (by decide) rfl ?_
  refine g_goto C 14 dX7_runs_112 (by decide) ?_
  refine g_lv (lv2 := [(0, .ref (Y.ad b)), (1, .int p1), (2, .int (v2 + 1))]) [1, 2, 0] ?_ rfl
  exact h
set_option maxRecDepth 20000 in
set_option maxHeartbeats 4000000 in
theorem tX7_runs_97 {X : XT} {Y : YT} {l0 : Launch} {b : Nat} {p1 : Int32} {Q : Int32 → Mem → Prop} (C : Cx X Y 3 cX7_runs RX7 WX7_runs (rmB 5 125) l0) (hr : RI X Y cX7_runs .int Q) (hI : YI Y) (h0 : isX7 Y b) (v2 : Int32) (w0 : Int32) (w1 : Int32) (w2 : Int32) (μ : Mem) (h : nX7_runs_97 b p1 Q (SX7_runs_14 X Y b p1) v2 w0 w1 w2 μ) : G X Y 3 97 [(0, .ref (Y.ad b)), (1, .int p1), (2, .int v2)] [.int w0, .int w1, .int w2, .ref (Y.ad b)] μ := by
  unfold nX7_runs_97 at h
  refine g_callVI C [.int w2, .int w1, .int w0] [] (ok_X7_eats hI h0 h) (cw_RX7_320 _) rfl dc_X7_eats ⟨Nat.le_of_ble_eq_true rfl, Nat.le_of_ble_eq_true rfl⟩ (isX7_lt h0) (isX7_sh h0) rfl rfl rfl rfl (Nat.le_of_ble_eq_true rfl) dX7_runs_97 (fun r11 m10 h => ?_)
  refine g_pop C dX7_runs_100 rfl ?_
  exact tX7_runs_101 C hr hI h0 _ _ h
set_option maxRecDepth 20000 in
set_option maxHeartbeats 4000000 in
theorem tX7_runs_58 {X : XT} {Y : YT} {l0 : Launch} {b : Nat} {p1 : Int32} {Q : Int32 → Mem → Prop} (C : Cx X Y 3 cX7_runs RX7 WX7_runs (rmB 5 125) l0) (hr : RI X Y cX7_runs .int Q) (hI : YI Y) (h0 : isX7 Y b) (v2 : Int32) (w0 : Int32) (w1 : Int32) (w2 : Int32) (μ : Mem) (h : nX7_runs_58 b p1 Q (SX7_runs_14 X Y b p1) v2 w0 w1 w2 μ) : G X Y 3 58 [(0, .ref (Y.ad b)), (1, .int p1), (2, .int v2)] [.int w0, .int w1, .int w2, .ref (Y.ad b), .ref (Y.ad b)] μ := by
  unfold nX7_runs_58 at h
  refine g_callVI C [.int w2, .int w1, .int w0] [.ref (Y.ad b)] (ok_X7_whyNot hI h0 h) (cw_RX7_316 _) rfl dc_X7_whyNot ⟨Nat.le_of_ble_eq_true rfl, Nat.le_of_ble_eq_true rfl⟩ (isX7_lt h0) (isX7_sh h0) rfl rfl rfl rfl (Nat.le_of_ble_eq_true rfl) dX7_runs_58 (fun r7 m6 h => ?_)
  refine gp_RX7_332 C h0 dX7_runs_61 ?_
  refine g_aload_n C 0 dX7_runs_64 rfl ?_
  refine gf_RX7_332 C h0 dX7_runs_65 ?_
  refine g_if_le C 73 dX7_runs_68 (by decide) (fun c8 => ?_) (fun c8 => ?_)
  · replace h := h.1 c8
    refine g_aload_n C 0 dX7_runs_73 rfl ?_
    refine g_sipush C (v := (240 : Int32)) dX7_runs_74 (by decide) ?_
    refine g_aload_n C 0 dX7_runs_77 rfl ?_
    refine gf_RX7_62 C h0 dX7_runs_78 ?_
    refine g_iload_n C 2 dX7_runs_81 rfl ?_
    refine g_iald C (isX7_row h0).1 (isX7_row h0).2 h.1 dX7_runs_82 ?_
    replace h := h.2
    refine g_iload_n C 1 dX7_runs_83 rfl ?_
    refine g_iload_n C 2 dX7_runs_84 rfl ?_
    refine g_ishr C dX7_runs_85 ?_
    refine g_iconst C (v := (1 : Int32)) dX7_runs_86 (by decide) ?_
    refine g_iand C dX7_runs_87 ?_
    refine g_iconst C (v := (1 : Int32)) dX7_runs_88 (by decide) ?_
    refine g_icmp_ne C 96 dX7_runs_89 (by decide) (fun c9 => ?_) (fun c9 => ?_)
    · replace h := h.1 c9
      refine g_iconst C (v := (0 : Int32)) dX7_runs_96 (by decide) ?_
      exact tX7_runs_97 C hr hI h0 _ _ _ _ _ h
    · replace h := h.2 c9
      refine g_iconst C (v := (1 : Int32)) dX7_runs_92 (by decide) ?_
      refine g_goto C 97 dX7_runs_93 (by decide) ?_
      exact tX7_runs_97 C hr hI h0 _ _ _ _ _ h
  · replace h := h.2 c8
    refine g_iload_n C 2 dX7_runs_71 rfl ?_
    exact hr _ _ _ _ _ dX7_runs_72 rfl h
set_option maxRecDepth 20000 in
set_option maxHeartbeats 4000000 in
theorem tX7_runs_14 {X : XT} {Y : YT} {l0 : Launch} {b : Nat} {p1 : Int32} {Q : Int32 → Mem → Prop} (C : Cx X Y 3 cX7_runs RX7 WX7_runs (rmB 5 125) l0) (hr : RI X Y cX7_runs .int Q) (hI : YI Y) (h0 : isX7 Y b) (v2 : Int32) (μ : Mem) (h : nX7_runs_14 b p1 Q (SX7_runs_14 X Y b p1) v2 μ) : G X Y 3 14 [(0, .ref (Y.ad b)), (1, .int p1), (2, .int v2)] [] μ := by
  unfold nX7_runs_14 at h
  refine g_iload_n C 2 dX7_runs_14 rfl ?_
  refine g_aload_n C 0 dX7_runs_15 rfl ?_
  refine gf_RX7_138 C h0 dX7_runs_16 ?_
  refine g_icmp_ge C 115 dX7_runs_19 (by decide) (fun c3 => ?_) (fun c3 => ?_)
  · replace h := h.1 c3
    refine g_aload_n C 0 dX7_runs_115 rfl ?_
    refine gf_RX7_138 C h0 dX7_runs_116 ?_
    exact hr _ _ _ _ _ dX7_runs_119 rfl h
  · replace h := h.2 c3
    refine g_aload_n C 0 dX7_runs_22 rfl ?_
    refine gf_RX7_62 C h0 dX7_runs_23 ?_
    refine g_iload_n C 2 dX7_runs_26 rfl ?_
    refine g_iald C (isX7_row h0).1 (isX7_row h0).2 h.1 dX7_runs_27 ?_
    replace h := h.2
    refine g_bipush C (v := (-4 : Int32)) dX7_runs_28 (by decide) ?_
    refine g_icmp_eq C 101 dX7_runs_30 (by decide) (fun c4 => ?_) (fun c4 => ?_)
    · replace h := h.1 c4
      exact tX7_runs_101 C hr hI h0 _ _ h
    · replace h := h.2 c4
      refine g_aload_n C 0 dX7_runs_33 rfl ?_
      refine g_aload_n C 0 dX7_runs_34 rfl ?_
      refine g_sipush C (v := (240 : Int32)) dX7_runs_35 (by decide) ?_
      refine g_aload_n C 0 dX7_runs_38 rfl ?_
      refine gf_RX7_62 C h0 dX7_runs_39 ?_
      refine g_iload_n C 2 dX7_runs_42 rfl ?_
      refine g_iald C (isX7_row h0).1 (isX7_row h0).2 h.1 dX7_runs_43 ?_
      replace h := h.2
      refine g_iload_n C 1 dX7_runs_44 rfl ?_
      refine g_iload_n C 2 dX7_runs_45 rfl ?_
      refine g_ishr C dX7_runs_46 ?_
      refine g_iconst C (v := (1 : Int32)) dX7_runs_47 (by decide) ?_
      refine g_iand C dX7_runs_48 ?_
      refine g_iconst C (v := (1 : Int32)) dX7_runs_49 (by decide) ?_
      refine g_icmp_ne C 57 dX7_runs_50 (by decide) (fun c5 => ?_) (fun c5 => ?_)
      · replace h := h.1 c5
        refine g_iconst C (v := (0 : Int32)) dX7_runs_57 (by decide) ?_
        exact tX7_runs_58 C hr hI h0 _ _ _ _ _ h
      · replace h := h.2 c5
        refine g_iconst C (v := (1 : Int32)) dX7_runs_53 (by decide) ?_
        refine g_goto C 58 dX7_runs_54 (by decide) ?_
        exact tX7_runs_58 C hr hI h0 _ _ _ _ _ h
set_option maxRecDepth 20000 in
set_option maxHeartbeats 4000000 in
theorem ok_X7_runs {Y : YT} {l0 : Launch} {b : Nat} {p1 : Int32} {μ : Mem} {Q : Int32 → Mem → Prop} (hI : YI Y) (h0 : isX7 Y b) (h : PX7_runs b p1 μ Q) : MI l0 yX7_runs WX7_runs 5 125 Y [.ref (Y.ad b), .int p1] μ Q := by
  refine mI_of (ty := .int) (cc := cX7_runs) (maxL := 3) (by decide +kernel) rfl hI (Nat.le_of_ble_eq_true rfl) (fun X C hr => ?_)
  replace C : Cx X Y 3 cX7_runs RX7 WX7_runs (rmB 5 125) l0 := C
  refine g_lv (lv2 := [(0, .ref (Y.ad b)), (1, .int p1)]) [0, 1] ?_ rfl
  unfold PX7_runs at h
  replace h := h (SX7_runs_14 X Y b p1) (fun v2 μ z => tX7_runs_14 C hr hI h0 v2 μ z)
  refine g_aload_n C 0 dX7_runs_0 rfl ?_
  refine g_sipush C (v := (240 : Int32)) dX7_runs_1 (by decide) ?_
  refine g_callVV C [.int ((240 : Int32))] [] (ok_X7_begins hI h0 h) (cw_RX7_329 _) rfl dc_X7_begins ⟨Nat.le_of_ble_eq_true rfl, Nat.le_of_ble_eq_true rfl⟩ (isX7_lt h0) (isX7_sh h0) rfl rfl rfl rfl (Nat.le_of_ble_eq_true rfl) dX7_runs_4 (fun m1 h => ?_)
  refine g_aload_n C 0 dX7_runs_7 rfl ?_
  refine g_iconst C (v := (0 : Int32)) dX7_runs_8 (by decide) ?_
  refine gp_RX7_332 C h0 dX7_runs_9 ?_
  refine g_iconst C (v := (0 : Int32)) dX7_runs_12 (by decide) ?_
  refine g_istore_n C [(2, .int ((0 : Int32))), (0, .ref (Y.ad b)), (1, .int p1)] dX7_runs_13 (by decide) rfl ?_
  refine g_lv (lv2 := [(0, .ref (Y.ad b)), (1, .int p1), (2, .int ((0 : Int32)))]) [1, 2, 0] ?_ rfl
  exact h
