set_option maxRecDepth 20000 in
set_option maxHeartbeats 4000000 in
theorem tX7_isLot_41 {X : XT} {Y : YT} {l0 : Launch} {b : Nat} {p1 : Int32} {p2 : Int32} {p3 : Int32} {Q : Int32 → Mem → Prop} (C : Cx X Y 4 cX7_isLot RX7 WX7_isLot (rmB 2 46) l0) (hr : RI X Y cX7_isLot .boolean Q) (hI : YI Y) (h0 : isX7 Y b) (μ : Mem) (h : nX7_isLot_41 b p1 p2 p3 Q  μ) : G X Y 4 41 [(0, .ref (Y.ad b)), (1, .int p1), (2, .int p2), (3, .int p3)] [] μ := by
  unfold nX7_isLot_41 at h
  refine g_iconst C (v := (0 : Int32)) dX7_isLot_41 (by decide) ?_
  exact hr _ _ _ _ _ dX7_isLot_42 rfl h
set_option maxRecDepth 20000 in
set_option maxHeartbeats 4000000 in
theorem ok_X7_isLot {Y : YT} {l0 : Launch} {b : Nat} {p1 : Int32} {p2 : Int32} {p3 : Int32} {μ : Mem} {Q : Int32 → Mem → Prop} (hI : YI Y) (h0 : isX7 Y b) (h : PX7_isLot b p1 p2 p3 μ Q) : MI l0 yX7_isLot WX7_isLot 2 46 Y [.ref (Y.ad b), .int p1, .int p2, .int p3] μ Q := by
  refine mI_of (ty := .boolean) (cc := cX7_isLot) (maxL := 4) (by decide +kernel) rfl hI (Nat.le_of_ble_eq_true rfl) (fun X C hr => ?_)
  replace C : Cx X Y 4 cX7_isLot RX7 WX7_isLot (rmB 2 46) l0 := C
  refine g_lv (lv2 := [(0, .ref (Y.ad b)), (1, .int p1), (2, .int p2), (3, .int p3)]) [0, 1, 2, 3] ?_ rfl
  unfold PX7_isLot at h
  refine g_aload_n C 0 dX7_isLot_0 rfl ?_
  refine g_iload_n C 1 dX7_isLot_1 rfl ?_
  refine g_callVI C [.int p1] [] (ok_X7_isThing hI h0 h) (cw_RX7_250 _) rfl dc_X7_isThing ⟨Nat.le_of_ble_eq_true rfl, Nat.le_of_ble_eq_true rfl⟩ (isX7_lt h0) (isX7_sh h0) rfl rfl rfl rfl (Nat.le_of_ble_eq_true rfl) dX7_isLot_2 (fun r2 m1 h => ?_)
  refine g_if_eq C 41 dX7_isLot_5 (by decide) (fun c3 => ?_) (fun c3 => ?_)
  · replace h := h.1 c3
    exact tX7_isLot_41 C hr hI h0 _ h
  · replace h := h.2 c3
    refine g_iload_n C 2 dX7_isLot_8 rfl ?_
    refine g_i2l C dX7_isLot_9 ?_
    refine g_lconst C (v := (0 : Int64)) dX7_isLot_10 (by decide) ?_
    refine g_aload_n C 0 dX7_isLot_11 rfl ?_
    refine g_iload_n C 1 dX7_isLot_12 rfl ?_
    refine g_callVI C [.int p1] [.long ((0 : Int64)), .long p2.toInt64] (ok_X7_keeps hI h0 h) (cw_RX7_308 _) rfl dc_X7_keeps ⟨Nat.le_of_ble_eq_true rfl, Nat.le_of_ble_eq_true rfl⟩ (isX7_lt h0) (isX7_sh h0) rfl rfl rfl rfl (Nat.le_of_ble_eq_true rfl) dX7_isLot_13 (fun r5 m4 h => ?_)
    refine g_iconst C (v := (1 : Int32)) dX7_isLot_16 (by decide) ?_
    refine g_isub C dX7_isLot_17 ?_
    refine g_i2l C dX7_isLot_18 ?_
    refine g_callSI C [.long p2.toInt64, .long ((0 : Int64)), .long ((r5 - ((1 : Int32))).toInt64)] [] (ok_X7_in hI  h) (cw_RX7_134 _) rfl dc_X7_in ⟨Nat.le_of_ble_eq_true rfl, Nat.le_of_ble_eq_true rfl⟩ rfl (Nat.le_of_ble_eq_true rfl) dX7_isLot_19 (fun r7 m6 h => ?_)
    refine g_if_eq C 41 dX7_isLot_22 (by decide) (fun c8 => ?_) (fun c8 => ?_)
    · replace h := h.1 c8
      exact tX7_isLot_41 C hr hI h0 _ h
    · replace h := h.2 c8
      refine g_iload_n C 3 dX7_isLot_25 rfl ?_
      refine g_i2l C dX7_isLot_26 ?_
      refine g_lconst C (v := (0 : Int64)) dX7_isLot_27 (by decide) ?_
      refine g_ldc2 C (v := (9 : Int64)) (List.mem_cons_of_mem _ mL_RX7_311) dX7_isLot_28 ?_
      refine g_callSI C [.long p3.toInt64, .long ((0 : Int64)), .long ((9 : Int64))] [] (ok_X7_in hI  h) (cw_RX7_134 _) rfl dc_X7_in ⟨Nat.le_of_ble_eq_true rfl, Nat.le_of_ble_eq_true rfl⟩ rfl (Nat.le_of_ble_eq_true rfl) dX7_isLot_31 (fun r10 m9 h => ?_)
      refine g_if_eq C 41 dX7_isLot_34 (by decide) (fun c11 => ?_) (fun c11 => ?_)
      · replace h := h.1 c11
        exact tX7_isLot_41 C hr hI h0 _ h
      · replace h := h.2 c11
        refine g_iconst C (v := (1 : Int32)) dX7_isLot_37 (by decide) ?_
        refine g_goto C 42 dX7_isLot_38 (by decide) ?_
        exact hr _ _ _ _ _ dX7_isLot_42 rfl h
set_option maxRecDepth 20000 in
set_option maxHeartbeats 4000000 in
theorem ok_X7_put {Y : YT} {l0 : Launch} {b : Nat} {p1 : Int32} {p2 : Int32} {p3 : Int32} {μ : Mem} {Q : Int32 → Mem → Prop} (hI : YI Y) (h0 : isX7 Y b) (h : PX7_put b p1 p2 p3 μ Q) : MI l0 yX7_put WX7_put 3 69 Y [.ref (Y.ad b), .int p1, .int p2, .int p3] μ Q := by
  refine mI_of (ty := .int) (cc := cX7_put) (maxL := 5) (by decide +kernel) rfl hI (Nat.le_of_ble_eq_true rfl) (fun X C hr => ?_)
  replace C : Cx X Y 5 cX7_put RX7 WX7_put (rmB 3 69) l0 := C
  refine g_lv (lv2 := [(0, .ref (Y.ad b)), (1, .int p1), (2, .int p2), (3, .int p3)]) [0, 1, 2, 3] ?_ rfl
  unfold PX7_put at h
  refine g_aload_n C 0 dX7_put_0 rfl ?_
  refine g_iload_n C 1 dX7_put_1 rfl ?_
  refine g_iload_n C 2 dX7_put_2 rfl ?_
  refine g_iload_n C 3 dX7_put_3 rfl ?_
  refine g_callVI C [.int p1, .int p2, .int p3] [] (ok_X7_isLot hI h0 h) (cw_RX7_313 _) rfl dc_X7_isLot ⟨Nat.le_of_ble_eq_true rfl, Nat.le_of_ble_eq_true rfl⟩ (isX7_lt h0) (isX7_sh h0) rfl rfl rfl rfl (Nat.le_of_ble_eq_true rfl) dX7_put_4 (fun r2 m1 h => ?_)
  refine g_if_ne C 12 dX7_put_7 (by decide) (fun c3 => ?_) (fun c3 => ?_)
  · replace h := h.1 c3
    refine g_aload_n C 0 dX7_put_12 rfl ?_
    refine gf_RX7_49 C h0 dX7_put_13 ?_
    refine g_sipush C (v := (280 : Int32)) dX7_put_16 (by decide) ?_
    refine g_iconst C (v := (4 : Int32)) dX7_put_19 (by decide) ?_
    refine g_iload_n C 1 dX7_put_20 rfl ?_
    refine g_imul C dX7_put_21 ?_
    refine g_iadd C dX7_put_22 ?_
    refine g_iload_n C 2 dX7_put_23 rfl ?_
    refine g_iadd C dX7_put_24 ?_
    refine g_iald C (isX7_st h0).1 (isX7_st h0).2 h.1 dX7_put_25 ?_
    replace h := h.2
    refine g_topi (fun x4 ex4 => ?_)
    replace h := h x4 ex4
    refine g_istore C [(4, .int x4), (0, .ref (Y.ad b)), (1, .int p1), (2, .int p2), (3, .int p3)] dX7_put_26 (by decide) rfl ?_
    refine g_aload_n C 1 dX7_put_28 rfl ?_
    refine gf_RX7_49 C h0 dX7_put_29 ?_
    refine g_sipush C (v := (280 : Int32)) dX7_put_32 (by decide) ?_
    refine g_iconst C (v := (4 : Int32)) dX7_put_35 (by decide) ?_
    refine g_iload_n C 2 dX7_put_36 rfl ?_
    refine g_imul C dX7_put_37 ?_
    refine g_iadd C dX7_put_38 ?_
    refine g_iload_n C 3 dX7_put_39 rfl ?_
    refine g_iadd C dX7_put_40 ?_
    refine g_iload_n C 4 dX7_put_41 rfl ?_
    refine g_iast C (isX7_st h0).1 (isX7_st h0).2 h.1 dX7_put_42 ?_
    replace h := h.2
    refine g_iload C 0 dX7_put_43 rfl ?_
    exact hr _ _ _ _ _ dX7_put_45 rfl h
  · replace h := h.2 c3
    refine g_iconst C (v := (-1 : Int32)) dX7_put_10 (by decide) ?_
    exact hr _ _ _ _ _ dX7_put_11 rfl h
set_option maxRecDepth 20000 in
set_option maxHeartbeats 4000000 in
theorem tX7_has_37 {X : XT} {Y : YT} {l0 : Launch} {b : Nat} {p1 : Int32} {p2 : Int32} {Q : Int32 → Mem → Prop} (C : Cx X Y 3 cX7_has RX7 WX7_has (rmB 2 46) l0) (hr : RI X Y cX7_has .int Q) (hI : YI Y) (h0 : isX7 Y b) (μ : Mem) (h : nX7_has_37 b p1 p2 Q  μ) : G X Y 3 37 [(0, .ref (Y.ad b)), (1, .int p1), (2, .int p2)] [] μ := by
  unfold nX7_has_37 at h
  refine g_iconst C (v := (-1 : Int32)) dX7_has_37 (by decide) ?_
  exact hr _ _ _ _ _ dX7_has_38 rfl h
set_option maxRecDepth 20000 in
set_option maxHeartbeats 4000000 in
theorem ok_X7_has {Y : YT} {l0 : Launch} {b : Nat} {p1 : Int32} {p2 : Int32} {μ : Mem} {Q : Int32 → Mem → Prop} (hI : YI Y) (h0 : isX7 Y b) (h : PX7_has b p1 p2 μ Q) : MI l0 yX7_has WX7_has 2 46 Y [.ref (Y.ad b), .int p1, .int p2] μ Q := by
  refine mI_of (ty := .int) (cc := cX7_has) (maxL := 3) (by decide +kernel) rfl hI (Nat.le_of_ble_eq_true rfl) (fun X C hr => ?_)
  replace C : Cx X Y 3 cX7_has RX7 WX7_has (rmB 2 46) l0 := C
  refine g_lv (lv2 := [(0, .ref (Y.ad b)), (1, .int p1), (2, .int p2)]) [0, 1, 2] ?_ rfl
  unfold PX7_has at h
  refine g_aload_n C 0 dX7_has_0 rfl ?_
  refine g_iload_n C 1 dX7_has_1 rfl ?_
  refine g_callVI C [.int p1] [] (ok_X7_isThing hI h0 h) (cw_RX7_250 _) rfl dc_X7_isThing ⟨Nat.le_of_ble_eq_true rfl, Nat.le_of_ble_eq_true rfl⟩ (isX7_lt h0) (isX7_sh h0) rfl rfl rfl rfl (Nat.le_of_ble_eq_true rfl) dX7_has_2 (fun r2 m1 h => ?_)
  refine g_if_eq C 37 dX7_has_5 (by decide) (fun c3 => ?_) (fun c3 => ?_)
  · replace h := h.1 c3
    exact tX7_has_37 C hr hI h0 _ h
  · replace h := h.2 c3
    refine g_iload_n C 2 dX7_has_8 rfl ?_
    refine g_i2l C dX7_has_9 ?_
    refine g_lconst C (v := (0 : Int64)) dX7_has_10 (by decide) ?_
    refine g_ldc2 C (v := (3 : Int64)) (List.mem_cons_of_mem _ mL_RX7_225) dX7_has_11 ?_
    refine g_callSI C [.long p2.toInt64, .long ((0 : Int64)), .long ((3 : Int64))] [] (ok_X7_in hI  h) (cw_RX7_134 _) rfl dc_X7_in ⟨Nat.le_of_ble_eq_true rfl, Nat.le_of_ble_eq_true rfl⟩ rfl (Nat.le_of_ble_eq_true rfl) dX7_has_14 (fun r5 m4 h => ?_)
    refine g_if_eq C 37 dX7_has_17 (by decide) (fun c6 => ?_) (fun c6 => ?_)
    · replace h := h.1 c6
      exact tX7_has_37 C hr hI h0 _ h
    · replace h := h.2 c6
      refine g_aload_n C 0 dX7_has_20 rfl ?_
      refine gf_RX7_49 C h0 dX7_has_21 ?_
      refine g_sipush C (v := (280 : Int32)) dX7_has_24 (by decide) ?_
      refine g_iconst C (v := (4 : Int32)) dX7_has_27 (by decide) ?_
      refine g_iload_n C 1 dX7_has_28 rfl ?_
      refine g_imul C dX7_has_29 ?_
      refine g_iadd C dX7_has_30 ?_
      refine g_iload_n C 2 dX7_has_31 rfl ?_
      refine g_iadd C dX7_has_32 ?_
      refine g_iald C (isX7_st h0).1 (isX7_st h0).2 h.1 dX7_has_33 ?_
      replace h := h.2
      refine g_goto C 38 dX7_has_34 (by decide) ?_
      exact hr _ _ _ _ _ dX7_has_38 rfl h
set_option maxRecDepth 20000 in
set_option maxHeartbeats 4000000 in
theorem ok_X7_may {Y : YT} {l0 : Launch} {b : Nat} {p1 : Int32} {p2 : Int32} {μ : Mem} {Q : Int32 → Mem → Prop} (hI : YI Y) (h0 : isX7 Y b) (h : PX7_may b p1 p2 μ Q) : MI l0 yX7_may WX7_may 4 98 Y [.ref (Y.ad b), .int p1, .int p2] μ Q := by
  refine mI_of (ty := .int) (cc := cX7_may) (maxL := 3) (by decide +kernel) rfl hI (Nat.le_of_ble_eq_true rfl) (fun X C hr => ?_)
  replace C : Cx X Y 3 cX7_may RX7 WX7_may (rmB 4 98) l0 := C
  refine g_lv (lv2 := [(0, .ref (Y.ad b)), (1, .int p1), (2, .int p2)]) [0, 1, 2] ?_ rfl
  unfold PX7_may at h
  refine g_aload_n C 0 dX7_may_0 rfl ?_
  refine g_iload_n C 1 dX7_may_1 rfl ?_
  refine g_callVI C [.int p1] [] (ok_X7_isSupper hI h0 h) (cw_RX7_256 _) rfl dc_X7_isSupper ⟨Nat.le_of_ble_eq_true rfl, Nat.le_of_ble_eq_true rfl⟩ (isX7_lt h0) (isX7_sh h0) rfl rfl rfl rfl (Nat.le_of_ble_eq_true rfl) dX7_may_2 (fun r2 m1 h => ?_)
  refine g_if_eq C 20 dX7_may_5 (by decide) (fun c3 => ?_) (fun c3 => ?_)
  · replace h := h.1 c3
    refine g_iconst C (v := (-1 : Int32)) dX7_may_20 (by decide) ?_
    exact hr _ _ _ _ _ dX7_may_21 rfl h
  · replace h := h.2 c3
    refine g_aload_n C 0 dX7_may_8 rfl ?_
    refine g_sipush C (v := (280 : Int32)) dX7_may_9 (by decide) ?_
    refine g_iload_n C 1 dX7_may_12 rfl ?_
    refine g_iload_n C 2 dX7_may_13 rfl ?_
    refine g_callVI C [.int ((280 : Int32)), .int p1, .int p2] [] (ok_X7_whyNot hI h0 h) (cw_RX7_316 _) rfl dc_X7_whyNot ⟨Nat.le_of_ble_eq_true rfl, Nat.le_of_ble_eq_true rfl⟩ (isX7_lt h0) (isX7_sh h0) rfl rfl rfl rfl (Nat.le_of_ble_eq_true rfl) dX7_may_14 (fun r5 m4 h => ?_)
    refine g_goto C 21 dX7_may_17 (by decide) ?_
    exact hr _ _ _ _ _ dX7_may_21 rfl h
set_option maxRecDepth 20000 in
set_option maxHeartbeats 4000000 in
theorem ok_X7_lacks {Y : YT} {l0 : Launch} {b : Nat} {p1 : Int32} {p2 : Int32} {p3 : Int32} {p4 : Int32} {μ : Mem} {Q : Int32 → Mem → Prop} (hI : YI Y) (h0 : isX7 Y b) (h : PX7_lacks b p1 p2 p3 p4 μ Q) : MI l0 yX7_lacks WX7_lacks 4 98 Y [.ref (Y.ad b), .int p1, .int p2, .int p3, .int p4] μ Q := by
  refine mI_of (ty := .int) (cc := cX7_lacks) (maxL := 5) (by decide +kernel) rfl hI (Nat.le_of_ble_eq_true rfl) (fun X C hr => ?_)
  replace C : Cx X Y 5 cX7_lacks RX7 WX7_lacks (rmB 4 98) l0 := C
  refine g_lv (lv2 := [(0, .ref (Y.ad b)), (1, .int p1), (2, .int p2), (3, .int p3), (4, .int p4)]) [0, 1, 2, 3, 4] ?_ rfl
  unfold PX7_lacks at h
  refine g_aload_n C 0 dX7_lacks_0 rfl ?_
  refine g_iload_n C 1 dX7_lacks_1 rfl ?_
  refine g_callVI C [.int p1] [] (ok_X7_isSupper hI h0 h) (cw_RX7_256 _) rfl dc_X7_isSupper ⟨Nat.le_of_ble_eq_true rfl, Nat.le_of_ble_eq_true rfl⟩ (isX7_lt h0) (isX7_sh h0) rfl rfl rfl rfl (Nat.le_of_ble_eq_true rfl) dX7_lacks_2 (fun r2 m1 h => ?_)
  refine g_if_eq C 29 dX7_lacks_5 (by decide) (fun c3 => ?_) (fun c3 => ?_)
  · replace h := h.1 c3
    refine g_iconst C (v := (-1 : Int32)) dX7_lacks_29 (by decide) ?_
    exact hr _ _ _ _ _ dX7_lacks_30 rfl h
  · replace h := h.2 c3
    refine g_aload_n C 0 dX7_lacks_8 rfl ?_
    refine g_iload_n C 3 dX7_lacks_9 rfl ?_
    refine g_callVI C [.int p3] [] (ok_X7_isThing hI h0 h) (cw_RX7_250 _) rfl dc_X7_isThing ⟨Nat.le_of_ble_eq_true rfl, Nat.le_of_ble_eq_true rfl⟩ (isX7_lt h0) (isX7_sh h0) rfl rfl rfl rfl (Nat.le_of_ble_eq_true rfl) dX7_lacks_10 (fun r5 m4 h => ?_)
    refine g_if_eq C 29 dX7_lacks_13 (by decide) (fun c6 => ?_) (fun c6 => ?_)
    · replace h := h.1 c6
      refine g_iconst C (v := (-1 : Int32)) dX7_lacks_29 (by decide) ?_
      exact hr _ _ _ _ _ dX7_lacks_30 rfl h
    · replace h := h.2 c6
      refine g_iload C 4 dX7_lacks_16 rfl ?_
      refine g_i2l C dX7_lacks_18 ?_
      refine g_lconst C (v := (0 : Int64)) dX7_lacks_19 (by decide) ?_
      refine g_ldc2 C (v := (2 : Int64)) (List.mem_cons_of_mem _ mL_RX7_254) dX7_lacks_20 ?_
      refine g_callSI C [.long p4.toInt64, .long ((0 : Int64)), .long ((2 : Int64))] [] (ok_X7_in hI  h) (cw_RX7_134 _) rfl dc_X7_in ⟨Nat.le_of_ble_eq_true rfl, Nat.le_of_ble_eq_true rfl⟩ rfl (Nat.le_of_ble_eq_true rfl) dX7_lacks_23 (fun r8 m7 h => ?_)
      refine g_if_ne C 31 dX7_lacks_26 (by decide) (fun c9 => ?_) (fun c9 => ?_)
      · replace h := h.1 c9
        refine g_iload C 4 dX7_lacks_31 rfl ?_
        refine g_iconst C (v := (2 : Int32)) dX7_lacks_33 (by decide) ?_
        refine g_icmp_ge C 66 dX7_lacks_34 (by decide) (fun c10 => ?_) (fun c10 => ?_)
        · replace h := h.1 c10
          refine g_aload_n C 0 dX7_lacks_66 rfl ?_
          refine g_sipush C (v := (280 : Int32)) dX7_lacks_67 (by decide) ?_
          refine g_iload_n C 1 dX7_lacks_70 rfl ?_
          refine g_iload_n C 2 dX7_lacks_71 rfl ?_
          refine g_callVV C [.int ((280 : Int32)), .int p1, .int p2] [] (ok_X7_findTaken hI h0 h) (cw_RX7_301 _) rfl dc_X7_findTaken ⟨Nat.le_of_ble_eq_true rfl, Nat.le_of_ble_eq_true rfl⟩ (isX7_lt h0) (isX7_sh h0) rfl rfl rfl rfl (Nat.le_of_ble_eq_true rfl) dX7_lacks_72 (fun m11 h => ?_)
          refine g_aload_n C 0 dX7_lacks_75 rfl ?_
          refine gf_RX7_56 C h0 dX7_lacks_76 ?_
          refine g_iconst C (v := (4 : Int32)) dX7_lacks_79 (by decide) ?_
          refine g_iload_n C 3 dX7_lacks_80 rfl ?_
          refine g_imul C dX7_lacks_81 ?_
          refine g_iald C (isX7_taken h0).1 (isX7_taken h0).2 h.1 dX7_lacks_82 ?_
          replace h := h.2
          refine g_aload_n C 0 dX7_lacks_83 rfl ?_
          refine gf_RX7_56 C h0 dX7_lacks_84 ?_
          refine g_iconst C (v := (4 : Int32)) dX7_lacks_87 (by decide) ?_
          refine g_iload_n C 3 dX7_lacks_88 rfl ?_
          refine g_imul C dX7_lacks_89 ?_
          refine g_iconst C (v := (1 : Int32)) dX7_lacks_90 (by decide) ?_
          refine g_iadd C dX7_lacks_91 ?_
          refine g_iald C (isX7_taken h0).1 (isX7_taken h0).2 h.1 dX7_lacks_92 ?_
          replace h := h.2
          refine g_iadd C dX7_lacks_93 ?_
          refine g_aload_n C 0 dX7_lacks_94 rfl ?_
          refine gf_RX7_56 C h0 dX7_lacks_95 ?_
          refine g_iconst C (v := (4 : Int32)) dX7_lacks_98 (by decide) ?_
          refine g_iload_n C 3 dX7_lacks_99 rfl ?_
          refine g_imul C dX7_lacks_100 ?_
          refine g_iconst C (v := (2 : Int32)) dX7_lacks_101 (by decide) ?_
          refine g_iadd C dX7_lacks_102 ?_
          refine g_iald C (isX7_taken h0).1 (isX7_taken h0).2 h.1 dX7_lacks_103 ?_
          replace h := h.2
          refine g_iadd C dX7_lacks_104 ?_
          refine g_aload_n C 0 dX7_lacks_105 rfl ?_
          refine gf_RX7_56 C h0 dX7_lacks_106 ?_
          refine g_iconst C (v := (4 : Int32)) dX7_lacks_109 (by decide) ?_
          refine g_iload_n C 3 dX7_lacks_110 rfl ?_
          refine g_imul C dX7_lacks_111 ?_
          refine g_iconst C (v := (3 : Int32)) dX7_lacks_112 (by decide) ?_
          refine g_iadd C dX7_lacks_113 ?_
          refine g_iald C (isX7_taken h0).1 (isX7_taken h0).2 h.1 dX7_lacks_114 ?_
          replace h := h.2
          refine g_iadd C dX7_lacks_115 ?_
          exact hr _ _ _ _ _ dX7_lacks_116 rfl h
        · replace h := h.2 c10
          refine g_iload C 4 dX7_lacks_37 rfl ?_
          refine g_if_ne C 55 dX7_lacks_39 (by decide) (fun c13 => ?_) (fun c13 => ?_)
          · replace h := h.1 c13
            refine g_aload_n C 0 dX7_lacks_55 rfl ?_
            refine g_sipush C (v := (280 : Int32)) dX7_lacks_56 (by decide) ?_
            refine g_iload_n C 1 dX7_lacks_59 rfl ?_
            refine g_iload_n C 2 dX7_lacks_60 rfl ?_
            refine g_iload_n C 3 dX7_lacks_61 rfl ?_
            refine g_callVI C [.int ((280 : Int32)), .int p1, .int p2, .int p3] [] (ok_X7_packsOf hI h0 h) (cw_RX7_305 _) rfl dc_X7_packsOf ⟨Nat.le_of_ble_eq_true rfl, Nat.le_of_ble_eq_true rfl⟩ (isX7_lt h0) (isX7_sh h0) rfl rfl rfl rfl (Nat.le_of_ble_eq_true rfl) dX7_lacks_62 (fun r15 m14 h => ?_)
            exact hr _ _ _ _ _ dX7_lacks_65 rfl h
          · replace h := h.2 c13
            refine g_aload_n C 0 dX7_lacks_42 rfl ?_
            refine g_sipush C (v := (280 : Int32)) dX7_lacks_43 (by decide) ?_
            refine g_iload_n C 1 dX7_lacks_46 rfl ?_
            refine g_iload_n C 2 dX7_lacks_47 rfl ?_
            refine g_iload_n C 3 dX7_lacks_48 rfl ?_
            refine g_callVI C [.int ((280 : Int32)), .int p1, .int p2, .int p3] [] (ok_X7_lackOf hI h0 h) (cw_RX7_297 _) rfl dc_X7_lackOf ⟨Nat.le_of_ble_eq_true rfl, Nat.le_of_ble_eq_true rfl⟩ (isX7_lt h0) (isX7_sh h0) rfl rfl rfl rfl (Nat.le_of_ble_eq_true rfl) dX7_lacks_49 (fun r17 m16 h => ?_)
            refine g_goto C 65 dX7_lacks_52 (by decide) ?_
            exact hr _ _ _ _ _ dX7_lacks_65 rfl h
      · replace h := h.2 c9
        refine g_iconst C (v := (-1 : Int32)) dX7_lacks_29 (by decide) ?_
        exact hr _ _ _ _ _ dX7_lacks_30 rfl h
set_option maxRecDepth 20000 in
set_option maxHeartbeats 4000000 in
theorem tX7_eat_35 {X : XT} {Y : YT} {l0 : Launch} {b : Nat} {p1 : Int32} {p2 : Int32} {Q : Int32 → Mem → Prop} (C : Cx X Y 3 cX7_eat RX7 WX7_eat (rmB 5 125) l0) (hr : RI X Y cX7_eat .int Q) (hI : YI Y) (h0 : isX7 Y b) (μ : Mem) (h : nX7_eat_35 b p1 p2 Q  μ) : G X Y 3 35 [(0, .ref (Y.ad b)), (1, .int p1), (2, .int p2)] [] μ := by
  unfold nX7_eat_35 at h
  refine g_bipush C (v := (-2 : Int32)) dX7_eat_35 (by decide) ?_
  refine g_goto C 49 dX7_eat_37 (by decide) ?_
  exact hr _ _ _ _ _ dX7_eat_49 rfl h
set_option maxRecDepth 20000 in
set_option maxHeartbeats 4000000 in
theorem ok_X7_eat {Y : YT} {l0 : Launch} {b : Nat} {p1 : Int32} {p2 : Int32} {μ : Mem} {Q : Int32 → Mem → Prop} (hI : YI Y) (h0 : isX7 Y b) (h : PX7_eat b p1 p2 μ Q) : MI l0 yX7_eat WX7_eat 5 125 Y [.ref (Y.ad b), .int p1, .int p2] μ Q := by
  refine mI_of (ty := .int) (cc := cX7_eat) (maxL := 3) (by decide +kernel) rfl hI (Nat.le_of_ble_eq_true rfl) (fun X C hr => ?_)
  replace C : Cx X Y 3 cX7_eat RX7 WX7_eat (rmB 5 125) l0 := C
  refine g_lv (lv2 := [(0, .ref (Y.ad b)), (1, .int p1), (2, .int p2)]) [0, 1, 2] ?_ rfl
  unfold PX7_eat at h
  refine g_aload_n C 0 dX7_eat_0 rfl ?_
  refine g_iload_n C 1 dX7_eat_1 rfl ?_
  refine g_callVI C [.int p1] [] (ok_X7_isSupper hI h0 h) (cw_RX7_256 _) rfl dc_X7_isSupper ⟨Nat.le_of_ble_eq_true rfl, Nat.le_of_ble_eq_true rfl⟩ (isX7_lt h0) (isX7_sh h0) rfl rfl rfl rfl (Nat.le_of_ble_eq_true rfl) dX7_eat_2 (fun r2 m1 h => ?_)
  refine g_if_ne C 10 dX7_eat_5 (by decide) (fun c3 => ?_) (fun c3 => ?_)
  · replace h := h.1 c3
    refine g_aload_n C 0 dX7_eat_10 rfl ?_
    refine gf_RX7_49 C h0 dX7_eat_11 ?_
    refine g_sipush C (v := (317 : Int32)) dX7_eat_14 (by decide) ?_
    refine g_iald C (isX7_st h0).1 (isX7_st h0).2 h.1 dX7_eat_17 ?_
    replace h := h.2
    refine g_bipush C (v := (-4 : Int32)) dX7_eat_18 (by decide) ?_
    refine g_icmp_ne C 35 dX7_eat_20 (by decide) (fun c4 => ?_) (fun c4 => ?_)
    · replace h := h.1 c4
      exact tX7_eat_35 C hr hI h0 _ h
    · replace h := h.2 c4
      refine g_aload_n C 0 dX7_eat_23 rfl ?_
      refine g_sipush C (v := (280 : Int32)) dX7_eat_24 (by decide) ?_
      refine g_iload_n C 1 dX7_eat_27 rfl ?_
      refine g_iload_n C 2 dX7_eat_28 rfl ?_
      refine g_callVI C [.int ((280 : Int32)), .int p1, .int p2] [] (ok_X7_whyNot hI h0 h) (cw_RX7_316 _) rfl dc_X7_whyNot ⟨Nat.le_of_ble_eq_true rfl, Nat.le_of_ble_eq_true rfl⟩ (isX7_lt h0) (isX7_sh h0) rfl rfl rfl rfl (Nat.le_of_ble_eq_true rfl) dX7_eat_29 (fun r6 m5 h => ?_)
      refine g_if_le C 40 dX7_eat_32 (by decide) (fun c7 => ?_) (fun c7 => ?_)
      · replace h := h.1 c7
        refine g_aload_n C 0 dX7_eat_40 rfl ?_
        refine g_sipush C (v := (280 : Int32)) dX7_eat_41 (by decide) ?_
        refine g_iload_n C 1 dX7_eat_44 rfl ?_
        refine g_iload_n C 2 dX7_eat_45 rfl ?_
        refine g_callVI C [.int ((280 : Int32)), .int p1, .int p2] [] (ok_X7_eats hI h0 h) (cw_RX7_320 _) rfl dc_X7_eats ⟨Nat.le_of_ble_eq_true rfl, Nat.le_of_ble_eq_true rfl⟩ (isX7_lt h0) (isX7_sh h0) rfl rfl rfl rfl (Nat.le_of_ble_eq_true rfl) dX7_eat_46 (fun r9 m8 h => ?_)
        exact hr _ _ _ _ _ dX7_eat_49 rfl h
      · replace h := h.2 c7
        exact tX7_eat_35 C hr hI h0 _ h
  · replace h := h.2 c3
    refine g_iconst C (v := (-1 : Int32)) dX7_eat_8 (by decide) ?_
    exact hr _ _ _ _ _ dX7_eat_9 rfl h
set_option maxRecDepth 20000 in
set_option maxHeartbeats 4000000 in
theorem ok_X7_night {Y : YT} {l0 : Launch} {b : Nat} {μ : Mem} {Q : Int32 → Mem → Prop} (hI : YI Y) (h0 : isX7 Y b) (h : PX7_night b μ Q) : MI l0 yX7_night WX7_night 2 46 Y [.ref (Y.ad b)] μ Q := by
  refine mI_of (ty := .int) (cc := cX7_night) (maxL := 1) (by decide +kernel) rfl hI (Nat.le_of_ble_eq_true rfl) (fun X C hr => ?_)
  replace C : Cx X Y 1 cX7_night RX7 WX7_night (rmB 2 46) l0 := C
  refine g_lv (lv2 := [(0, .ref (Y.ad b))]) [0] ?_ rfl
  unfold PX7_night at h
  refine g_aload_n C 0 dX7_night_0 rfl ?_
  refine g_sipush C (v := (280 : Int32)) dX7_night_1 (by decide) ?_
  refine g_callVI C [.int ((280 : Int32))] [] (ok_X7_nights hI h0 h) (cw_RX7_323 _) rfl dc_X7_nights ⟨Nat.le_of_ble_eq_true rfl, Nat.le_of_ble_eq_true rfl⟩ (isX7_lt h0) (isX7_sh h0) rfl rfl rfl rfl (Nat.le_of_ble_eq_true rfl) dX7_night_4 (fun r2 m1 h => ?_)
  exact hr _ _ _ _ _ dX7_night_7 rfl h
def SX7_now_4 (X : XT) (Y : YT) (b : Nat) (p1 : Int32) : Int32 → Int32 → Mem → Prop := fun v2 v3 μ => G X Y 4 4 [(0, .ref (Y.ad b)), (1, .int p1), (2, .int v2), (3, .int v3)] [] μ
set_option maxRecDepth 20000 in
set_option maxHeartbeats 4000000 in
theorem tX7_now_4 {X : XT} {Y : YT} {l0 : Launch} {b : Nat} {p1 : Int32} {Q : Int32 → Mem → Prop} (C : Cx X Y 4 cX7_now RX7 WX7_now (rmB 0 0) l0) (hr : RI X Y cX7_now .int Q) (hI : YI Y) (h0 : isX7 Y b) (v2 : Int32) (v3 : Int32) (μ : Mem) (h : nX7_now_4 b p1 Q (SX7_now_4 X Y b p1) v2 v3 μ) : G X Y 4 4 [(0, .ref (Y.ad b)), (1, .int p1), (2, .int v2), (3, .int v3)] [] μ := by
  unfold nX7_now_4 at h
  refine g_iload_n C 3 dX7_now_4 rfl ?_
  refine g_bipush C (v := (24 : Int32)) dX7_now_5 (by decide) ?_
  refine g_icmp_ge C 29 dX7_now_7 (by decide) (fun c1 => ?_) (fun c1 => ?_)
  · replace h := h.1 c1
    refine g_iload_n C 1 dX7_now_29 rfl ?_
    by_cases c2 : p1 = 0
    · refine g_tableIn C 68 dX7_now_30 (by rw [c2]; decide) (by rw [c2]; decide) (by rw [c2]; rfl) (by decide) ?_
      replace h := h.1 c2
      refine g_aload_n C 0 dX7_now_68 rfl ?_
      refine gf_RX7_49 C h0 dX7_now_69 ?_
      refine g_sipush C (v := (316 : Int32)) dX7_now_72 (by decide) ?_
      refine g_iald C (isX7_st h0).1 (isX7_st h0).2 h.1 dX7_now_75 ?_
      replace h := h.2
      exact hr _ _ _ _ _ dX7_now_76 rfl h
    by_cases c3 : p1 = 1
    · refine g_tableIn C 77 dX7_now_30 (by rw [c3]; decide) (by rw [c3]; decide) (by rw [c3]; rfl) (by decide) ?_
      replace h := h.2.1 c3
      refine g_aload_n C 0 dX7_now_77 rfl ?_
      refine gf_RX7_49 C h0 dX7_now_78 ?_
      refine g_sipush C (v := (317 : Int32)) dX7_now_81 (by decide) ?_
      refine g_iald C (isX7_st h0).1 (isX7_st h0).2 h.1 dX7_now_84 ?_
      replace h := h.2
      exact hr _ _ _ _ _ dX7_now_85 rfl h
    by_cases c4 : p1 = 2
    · refine g_tableIn C 86 dX7_now_30 (by rw [c4]; decide) (by rw [c4]; decide) (by rw [c4]; rfl) (by decide) ?_
      replace h := h.2.2.1 c4
      refine g_aload_n C 0 dX7_now_86 rfl ?_
      refine gf_RX7_49 C h0 dX7_now_87 ?_
      refine g_sipush C (v := (313 : Int32)) dX7_now_90 (by decide) ?_
      refine g_iald C (isX7_st h0).1 (isX7_st h0).2 h.1 dX7_now_93 ?_
      replace h := h.2
      exact hr _ _ _ _ _ dX7_now_94 rfl h
    by_cases c5 : p1 = 3
    · refine g_tableIn C 95 dX7_now_30 (by rw [c5]; decide) (by rw [c5]; decide) (by rw [c5]; rfl) (by decide) ?_
      replace h := h.2.2.2.1 c5
      refine g_aload_n C 0 dX7_now_95 rfl ?_
      refine gf_RX7_49 C h0 dX7_now_96 ?_
      refine g_sipush C (v := (314 : Int32)) dX7_now_99 (by decide) ?_
      refine g_iald C (isX7_st h0).1 (isX7_st h0).2 h.1 dX7_now_102 ?_
      replace h := h.2
      exact hr _ _ _ _ _ dX7_now_103 rfl h
    by_cases c6 : p1 = 4
    · refine g_tableIn C 104 dX7_now_30 (by rw [c6]; decide) (by rw [c6]; decide) (by rw [c6]; rfl) (by decide) ?_
      replace h := h.2.2.2.2.1 c6
      refine g_aload_n C 0 dX7_now_104 rfl ?_
      refine gf_RX7_49 C h0 dX7_now_105 ?_
      refine g_sipush C (v := (315 : Int32)) dX7_now_108 (by decide) ?_
      refine g_iald C (isX7_st h0).1 (isX7_st h0).2 h.1 dX7_now_111 ?_
      replace h := h.2
      exact hr _ _ _ _ _ dX7_now_112 rfl h
    by_cases c7 : p1 = 5
    · refine g_tableIn C 113 dX7_now_30 (by rw [c7]; decide) (by rw [c7]; decide) (by rw [c7]; rfl) (by decide) ?_
      replace h := h.2.2.2.2.2.1 c7
      refine g_iload_n C 2 dX7_now_113 rfl ?_
      exact hr _ _ _ _ _ dX7_now_114 rfl h
    have c8 : p1.toInt < 0 ∨ 5 < p1.toInt := by
      have z := (And.intro True.intro ⟨lv_neT (a := 0) c2 rfl, lv_neT (a := 1) c3 rfl, lv_neT (a := 2) c4 rfl, lv_neT (a := 3) c5 rfl, lv_neT (a := 4) c6 rfl, lv_neT (a := 5) c7 rfl⟩ : True ∧ ¬ p1.toInt = 0 ∧ ¬ p1.toInt = 1 ∧ ¬ p1.toInt = 2 ∧ ¬ p1.toInt = 3 ∧ ¬ p1.toInt = 4 ∧ ¬ p1.toInt = 5)
      omega
    refine g_tableOut C 115 dX7_now_30 c8 (by decide) ?_
    replace h := h.2.2.2.2.2.2 c8
    refine g_iconst C (v := (-1 : Int32)) dX7_now_115 (by decide) ?_
    exact hr _ _ _ _ _ dX7_now_116 rfl h
  · replace h := h.2 c1
    refine g_iload_n C 2 dX7_now_10 rfl ?_
    refine g_aload_n C 0 dX7_now_11 rfl ?_
    refine gf_RX7_49 C h0 dX7_now_12 ?_
    refine g_sipush C (v := (280 : Int32)) dX7_now_15 (by decide) ?_
    refine g_iload_n C 3 dX7_now_18 rfl ?_
    refine g_iadd C dX7_now_19 ?_
    refine g_iald C (isX7_st h0).1 (isX7_st h0).2 h.1 dX7_now_20 ?_
    replace h := h.2
    refine g_iadd C dX7_now_21 ?_
    refine g_istore_n C [(2, .int (v2 + (μ.1 (b + 14) (((280 : Int32)) + v3).toNatClampNeg))), (0, .ref (Y.ad b)), (1, .int p1), (3, .int v3)] dX7_now_22 (by decide) rfl ?_
    refine g_iinc C (v := v3 + 1) 3 [(3, .int (v3 + 1)), (2, .int (v2 + (μ.1 (b + 14) (((280 : Int32)) + v3).toNatClampNeg))), (0, .ref (Y.ad b)), (1, .int p1)] dX7_now_23 rfl rfl (by decide) rfl ?_
    refine g_goto C 4 dX7_now_26 (by decide) ?_
    refine g_lv (lv2 := [(0, .ref (Y.ad b)), (1, .int p1), (2, .int (v2 + (μ.1 (b + 14) (((280 : Int32)) + v3).toNatClampNeg))), (3, .int (v3 + 1))]) [2, 3, 1, 0] ?_ rfl
    exact h
set_option maxRecDepth 20000 in
set_option maxHeartbeats 4000000 in
theorem ok_X7_now {Y : YT} {l0 : Launch} {b : Nat} {p1 : Int32} {μ : Mem} {Q : Int32 → Mem → Prop} (hI : YI Y) (h0 : isX7 Y b) (h : PX7_now b p1 μ Q) : MI l0 yX7_now WX7_now 0 0 Y [.ref (Y.ad b), .int p1] μ Q := by
  refine mI_of (ty := .int) (cc := cX7_now) (maxL := 4) (by decide +kernel) rfl hI (Nat.le_of_ble_eq_true rfl) (fun X C hr => ?_)
  replace C : Cx X Y 4 cX7_now RX7 WX7_now (rmB 0 0) l0 := C
  refine g_lv (lv2 := [(0, .ref (Y.ad b)), (1, .int p1)]) [0, 1] ?_ rfl
  unfold PX7_now at h
  replace h := h (SX7_now_4 X Y b p1) (fun v2 v3 μ z => tX7_now_4 C hr hI h0 v2 v3 μ z)
  refine g_iconst C (v := (0 : Int32)) dX7_now_0 (by decide) ?_
  refine g_istore_n C [(2, .int ((0 : Int32))), (0, .ref (Y.ad b)), (1, .int p1)] dX7_now_1 (by decide) rfl ?_
  refine g_iconst C (v := (0 : Int32)) dX7_now_2 (by decide) ?_
  refine g_istore_n C [(3, .int ((0 : Int32))), (2, .int ((0 : Int32))), (0, .ref (Y.ad b)), (1, .int p1)] dX7_now_3 (by decide) rfl ?_
  refine g_lv (lv2 := [(0, .ref (Y.ad b)), (1, .int p1), (2, .int ((0 : Int32))), (3, .int ((0 : Int32)))]) [2, 3, 1, 0] ?_ rfl
  exact h
set_option maxRecDepth 20000 in
set_option maxHeartbeats 4000000 in
theorem ok_X7_last {Y : YT} {l0 : Launch} {b : Nat} {p1 : Int32} {μ : Mem} {Q : Int32 → Mem → Prop} (hI : YI Y) (h0 : isX7 Y b) (h : PX7_last b p1 μ Q) : MI l0 yX7_last WX7_last 2 46 Y [.ref (Y.ad b), .int p1] μ Q := by
  refine mI_of (ty := .int) (cc := cX7_last) (maxL := 2) (by decide +kernel) rfl hI (Nat.le_of_ble_eq_true rfl) (fun X C hr => ?_)
  replace C : Cx X Y 2 cX7_last RX7 WX7_last (rmB 2 46) l0 := C
  refine g_lv (lv2 := [(0, .ref (Y.ad b)), (1, .int p1)]) [0, 1] ?_ rfl
  unfold PX7_last at h
  refine g_aload_n C 0 dX7_last_0 rfl ?_
  refine g_iload_n C 1 dX7_last_1 rfl ?_
  refine g_callVI C [.int p1] [] (ok_X7_isSupper hI h0 h) (cw_RX7_256 _) rfl dc_X7_isSupper ⟨Nat.le_of_ble_eq_true rfl, Nat.le_of_ble_eq_true rfl⟩ (isX7_lt h0) (isX7_sh h0) rfl rfl rfl rfl (Nat.le_of_ble_eq_true rfl) dX7_last_2 (fun r2 m1 h => ?_)
  refine g_if_eq C 21 dX7_last_5 (by decide) (fun c3 => ?_) (fun c3 => ?_)
  · replace h := h.1 c3
    refine g_iconst C (v := (-1 : Int32)) dX7_last_21 (by decide) ?_
    exact hr _ _ _ _ _ dX7_last_22 rfl h
  · replace h := h.2 c3
    refine g_aload_n C 0 dX7_last_8 rfl ?_
    refine gf_RX7_49 C h0 dX7_last_9 ?_
    refine g_sipush C (v := (304 : Int32)) dX7_last_12 (by decide) ?_
    refine g_iload_n C 1 dX7_last_15 rfl ?_
    refine g_iadd C dX7_last_16 ?_
    refine g_iald C (isX7_st h0).1 (isX7_st h0).2 h.1 dX7_last_17 ?_
    replace h := h.2
    refine g_goto C 22 dX7_last_18 (by decide) ?_
    exact hr _ _ _ _ _ dX7_last_22 rfl h
set_option maxRecDepth 20000 in
set_option maxHeartbeats 4000000 in
theorem ok_X7_keep {Y : YT} {l0 : Launch} {b : Nat} {p1 : Int32} {μ : Mem} {Q : Int32 → Mem → Prop} (hI : YI Y) (h0 : isX7 Y b) (h : PX7_keep b p1 μ Q) : MI l0 yX7_keep WX7_keep 1 25 Y [.ref (Y.ad b), .int p1] μ Q := by
  refine mI_of (ty := .int) (cc := cX7_keep) (maxL := 3) (by decide +kernel) rfl hI (Nat.le_of_ble_eq_true rfl) (fun X C hr => ?_)
  replace C : Cx X Y 3 cX7_keep RX7 WX7_keep (rmB 1 25) l0 := C
  refine g_lv (lv2 := [(0, .ref (Y.ad b)), (1, .int p1)]) [0, 1] ?_ rfl
  unfold PX7_keep at h
  refine g_iload_n C 1 dX7_keep_0 rfl ?_
  refine g_i2l C dX7_keep_1 ?_
  refine g_lconst C (v := (0 : Int64)) dX7_keep_2 (by decide) ?_
  refine g_lconst C (v := (1 : Int64)) dX7_keep_3 (by decide) ?_
  refine g_callSI C [.long p1.toInt64, .long ((0 : Int64)), .long ((1 : Int64))] [] (ok_X7_in hI  h) (cw_RX7_134 _) rfl dc_X7_in ⟨Nat.le_of_ble_eq_true rfl, Nat.le_of_ble_eq_true rfl⟩ rfl (Nat.le_of_ble_eq_true rfl) dX7_keep_4 (fun r2 m1 h => ?_)
  refine g_if_ne C 12 dX7_keep_7 (by decide) (fun c3 => ?_) (fun c3 => ?_)
  · replace h := h.1 c3
    refine g_aload_n C 0 dX7_keep_12 rfl ?_
    refine gf_RX7_52 C h0 dX7_keep_13 ?_
    refine g_iload_n C 1 dX7_keep_16 rfl ?_
    refine g_zald C (isX7_isKept h0).1 (isX7_isKept h0).2 h.1 dX7_keep_17 ?_
    replace h := h.2
    refine g_callSI C [.int (m1.1 (b + 15) p1.toNatClampNeg)] [] (ok_X7_flag hI  h) (cw_RX7_270 _) rfl dc_X7_flag ⟨Nat.le_of_ble_eq_true rfl, Nat.le_of_ble_eq_true rfl⟩ rfl (Nat.le_of_ble_eq_true rfl) dX7_keep_18 (fun r5 m4 h => ?_)
    refine g_istore_n C [(2, .int r5), (0, .ref (Y.ad b)), (1, .int p1)] dX7_keep_21 (by decide) rfl ?_
    refine g_aload_n C 1 dX7_keep_22 rfl ?_
    refine gf_RX7_52 C h0 dX7_keep_23 ?_
    refine g_iload_n C 2 dX7_keep_26 rfl ?_
    refine g_iconst C (v := (1 : Int32)) dX7_keep_27 (by decide) ?_
    refine g_zast C (isX7_isKept h0).1 (isX7_isKept h0).2 h.1 dX7_keep_28 ?_
    replace h := h.2
    refine g_aload_n C 1 dX7_keep_29 rfl ?_
    refine g_sipush C (v := (320 : Int32)) dX7_keep_30 (by decide) ?_
    refine g_bipush C (v := (40 : Int32)) dX7_keep_33 (by decide) ?_
    refine g_iload_n C 2 dX7_keep_35 rfl ?_
    refine g_imul C dX7_keep_36 ?_
    refine g_iadd C dX7_keep_37 ?_
    refine g_sipush C (v := (280 : Int32)) dX7_keep_38 (by decide) ?_
    refine g_callVV C [.int (((320 : Int32)) + (((40 : Int32)) * p1)), .int ((280 : Int32))] [] (ok_X7_copies hI h0 h) (cw_RX7_326 _) rfl dc_X7_copies ⟨Nat.le_of_ble_eq_true rfl, Nat.le_of_ble_eq_true rfl⟩ (isX7_lt h0) (isX7_sh h0) rfl rfl rfl rfl (Nat.le_of_ble_eq_true rfl) dX7_keep_41 (fun m6 h => ?_)
    refine g_iload_n C 0 dX7_keep_44 rfl ?_
    exact hr _ _ _ _ _ dX7_keep_45 rfl h
  · replace h := h.2 c3
    refine g_iconst C (v := (-1 : Int32)) dX7_keep_10 (by decide) ?_
    exact hr _ _ _ _ _ dX7_keep_11 rfl h
set_option maxRecDepth 20000 in
set_option maxHeartbeats 4000000 in
theorem ok_X7_back {Y : YT} {l0 : Launch} {b : Nat} {p1 : Int32} {μ : Mem} {Q : Int32 → Mem → Prop} (hI : YI Y) (h0 : isX7 Y b) (h : PX7_back b p1 μ Q) : MI l0 yX7_back WX7_back 1 25 Y [.ref (Y.ad b), .int p1] μ Q := by
  refine mI_of (ty := .int) (cc := cX7_back) (maxL := 2) (by decide +kernel) rfl hI (Nat.le_of_ble_eq_true rfl) (fun X C hr => ?_)
  replace C : Cx X Y 2 cX7_back RX7 WX7_back (rmB 1 25) l0 := C
  refine g_lv (lv2 := [(0, .ref (Y.ad b)), (1, .int p1)]) [0, 1] ?_ rfl
  unfold PX7_back at h
  refine g_iload_n C 1 dX7_back_0 rfl ?_
  refine g_i2l C dX7_back_1 ?_
  refine g_lconst C (v := (0 : Int64)) dX7_back_2 (by decide) ?_
  refine g_lconst C (v := (1 : Int64)) dX7_back_3 (by decide) ?_
  refine g_callSI C [.long p1.toInt64, .long ((0 : Int64)), .long ((1 : Int64))] [] (ok_X7_in hI  h) (cw_RX7_134 _) rfl dc_X7_in ⟨Nat.le_of_ble_eq_true rfl, Nat.le_of_ble_eq_true rfl⟩ rfl (Nat.le_of_ble_eq_true rfl) dX7_back_4 (fun r2 m1 h => ?_)
  refine g_if_ne C 12 dX7_back_7 (by decide) (fun c3 => ?_) (fun c3 => ?_)
  · replace h := h.1 c3
    refine g_aload_n C 0 dX7_back_12 rfl ?_
    refine gf_RX7_52 C h0 dX7_back_13 ?_
    refine g_iload_n C 1 dX7_back_16 rfl ?_
    refine g_zald C (isX7_isKept h0).1 (isX7_isKept h0).2 h.1 dX7_back_17 ?_
    replace h := h.2
    refine g_if_ne C 24 dX7_back_18 (by decide) (fun c4 => ?_) (fun c4 => ?_)
    · replace h := h.1 c4
      refine g_aload_n C 0 dX7_back_24 rfl ?_
      refine g_sipush C (v := (280 : Int32)) dX7_back_25 (by decide) ?_
      refine g_sipush C (v := (320 : Int32)) dX7_back_28 (by decide) ?_
      refine g_bipush C (v := (40 : Int32)) dX7_back_31 (by decide) ?_
      refine g_iload_n C 1 dX7_back_33 rfl ?_
      refine g_imul C dX7_back_34 ?_
      refine g_iadd C dX7_back_35 ?_
      refine g_callVV C [.int ((280 : Int32)), .int (((320 : Int32)) + (((40 : Int32)) * p1))] [] (ok_X7_copies hI h0 h) (cw_RX7_326 _) rfl dc_X7_copies ⟨Nat.le_of_ble_eq_true rfl, Nat.le_of_ble_eq_true rfl⟩ (isX7_lt h0) (isX7_sh h0) rfl rfl rfl rfl (Nat.le_of_ble_eq_true rfl) dX7_back_36 (fun m5 h => ?_)
      refine g_aload_n C 0 dX7_back_39 rfl ?_
      refine gf_RX7_49 C h0 dX7_back_40 ?_
      refine g_sipush C (v := (316 : Int32)) dX7_back_43 (by decide) ?_
      refine g_iald C (isX7_st h0).1 (isX7_st h0).2 h.1 dX7_back_46 ?_
      replace h := h.2
      exact hr _ _ _ _ _ dX7_back_47 rfl h
    · replace h := h.2 c4
      refine g_bipush C (v := (-2 : Int32)) dX7_back_21 (by decide) ?_
      exact hr _ _ _ _ _ dX7_back_23 rfl h
  · replace h := h.2 c3
    refine g_iconst C (v := (-1 : Int32)) dX7_back_10 (by decide) ?_
    exact hr _ _ _ _ _ dX7_back_11 rfl h
set_option maxRecDepth 20000 in
set_option maxHeartbeats 4000000 in
theorem tX7_day_16 {X : XT} {Y : YT} {l0 : Launch} {b : Nat} {p1 : Int32} {Q : Int32 → Mem → Prop} (C : Cx X Y 2 cX7_day RX7 WX7_day (rmB 2 46) l0) (hr : RI X Y cX7_day .int Q) (hI : YI Y) (h0 : isX7 Y b) (μ : Mem) (h : nX7_day_16 b p1 Q  μ) : G X Y 2 16 [(0, .ref (Y.ad b)), (1, .int p1)] [] μ := by
  unfold nX7_day_16 at h
  refine g_aload_n C 0 dX7_day_16 rfl ?_
  refine gf_RX7_138 C h0 dX7_day_17 ?_
  refine g_bipush C (v := (7 : Int32)) dX7_day_20 (by decide) ?_
  refine g_icmp_ne C 28 dX7_day_22 (by decide) (fun c5 => ?_) (fun c5 => ?_)
  · replace h := h.1 c5
    refine g_aload_n C 0 dX7_day_28 rfl ?_
    refine gf_RX7_62 C h0 dX7_day_29 ?_
    refine g_aload_n C 0 dX7_day_32 rfl ?_
    refine gf_RX7_138 C h0 dX7_day_33 ?_
    refine g_iload_n C 1 dX7_day_36 rfl ?_
    refine g_iast C (isX7_row h0).1 (isX7_row h0).2 h.1 dX7_day_37 ?_
    replace h := h.2
    refine g_aload_n C 0 dX7_day_38 rfl ?_
    refine g_dup C dX7_day_39 rfl ?_
    refine gf_RX7_138 C h0 dX7_day_40 ?_
    refine g_iconst C (v := (1 : Int32)) dX7_day_43 (by decide) ?_
    refine g_iadd C dX7_day_44 ?_
    refine gp_RX7_138 C h0 dX7_day_45 ?_
    refine g_mem (fun m6 em6 => ?_)
    replace h := h m6 em6
    refine g_aload_n C 0 dX7_day_48 rfl ?_
    refine gf_RX7_138 C h0 dX7_day_49 ?_
    exact hr _ _ _ _ _ dX7_day_52 rfl h
  · replace h := h.2 c5
    refine g_bipush C (v := (-3 : Int32)) dX7_day_25 (by decide) ?_
    exact hr _ _ _ _ _ dX7_day_27 rfl h
set_option maxRecDepth 20000 in
set_option maxHeartbeats 4000000 in
theorem ok_X7_day {Y : YT} {l0 : Launch} {b : Nat} {p1 : Int32} {μ : Mem} {Q : Int32 → Mem → Prop} (hI : YI Y) (h0 : isX7 Y b) (h : PX7_day b p1 μ Q) : MI l0 yX7_day WX7_day 2 46 Y [.ref (Y.ad b), .int p1] μ Q := by
  refine mI_of (ty := .int) (cc := cX7_day) (maxL := 2) (by decide +kernel) rfl hI (Nat.le_of_ble_eq_true rfl) (fun X C hr => ?_)
  replace C : Cx X Y 2 cX7_day RX7 WX7_day (rmB 2 46) l0 := C
  refine g_lv (lv2 := [(0, .ref (Y.ad b)), (1, .int p1)]) [0, 1] ?_ rfl
  unfold PX7_day at h
  refine g_iload_n C 1 dX7_day_0 rfl ?_
  refine g_bipush C (v := (-4 : Int32)) dX7_day_1 (by decide) ?_
  refine g_icmp_eq C 16 dX7_day_3 (by decide) (fun c1 => ?_) (fun c1 => ?_)
  · replace h := h.1 c1
    exact tX7_day_16 C hr hI h0 _ h
  · replace h := h.2 c1
    refine g_aload_n C 0 dX7_day_6 rfl ?_
    refine g_iload_n C 1 dX7_day_7 rfl ?_
    refine g_callVI C [.int p1] [] (ok_X7_isSupper hI h0 h) (cw_RX7_256 _) rfl dc_X7_isSupper ⟨Nat.le_of_ble_eq_true rfl, Nat.le_of_ble_eq_true rfl⟩ (isX7_lt h0) (isX7_sh h0) rfl rfl rfl rfl (Nat.le_of_ble_eq_true rfl) dX7_day_8 (fun r3 m2 h => ?_)
    refine g_if_ne C 16 dX7_day_11 (by decide) (fun c4 => ?_) (fun c4 => ?_)
    · replace h := h.1 c4
      exact tX7_day_16 C hr hI h0 _ h
    · replace h := h.2 c4
      refine g_iconst C (v := (-1 : Int32)) dX7_day_14 (by decide) ?_
      exact hr _ _ _ _ _ dX7_day_15 rfl h
set_option maxRecDepth 20000 in
set_option maxHeartbeats 4000000 in
theorem ok_X7_clear {Y : YT} {l0 : Launch} {b : Nat} {μ : Mem} {Q : Int32 → Mem → Prop} (hI : YI Y) (h0 : isX7 Y b) (h : PX7_clear b μ Q) : MI l0 yX7_clear WX7_clear 0 0 Y [.ref (Y.ad b)] μ Q := by
  refine mI_of (ty := .int) (cc := cX7_clear) (maxL := 2) (by decide +kernel) rfl hI (Nat.le_of_ble_eq_true rfl) (fun X C hr => ?_)
  replace C : Cx X Y 2 cX7_clear RX7 WX7_clear (rmB 0 0) l0 := C
  refine g_lv (lv2 := [(0, .ref (Y.ad b))]) [0] ?_ rfl
  unfold PX7_clear at h
  refine g_aload_n C 0 dX7_clear_0 rfl ?_
  refine gf_RX7_138 C h0 dX7_clear_1 ?_
  refine g_istore_n C [(1, .int (μ.1 b 37)), (0, .ref (Y.ad b))] dX7_clear_4 (by decide) rfl ?_
  refine g_aload_n C 1 dX7_clear_5 rfl ?_
  refine g_iconst C (v := (0 : Int32)) dX7_clear_6 (by decide) ?_
  refine gp_RX7_138 C h0 dX7_clear_7 ?_
  refine g_iload_n C 0 dX7_clear_10 rfl ?_
  exact hr _ _ _ _ _ dX7_clear_11 rfl h
set_option maxRecDepth 20000 in
set_option maxHeartbeats 4000000 in
theorem ok_X7_begins {Y : YT} {l0 : Launch} {b : Nat} {p1 : Int32} {μ : Mem} {Q : Mem → Prop} (hI : YI Y) (h0 : isX7 Y b) (h : PX7_begins b p1 μ Q) : MV l0 yX7_begins WX7_begins 1 23 Y [.ref (Y.ad b), .int p1] μ Q := by
  refine mV_of (cc := cX7_begins) (maxL := 2) (by decide +kernel) rfl hI (Nat.le_of_ble_eq_true rfl) (fun X C hr => ?_)
  replace C : Cx X Y 2 cX7_begins RX7 WX7_begins (rmB 1 23) l0 := C
  refine g_lv (lv2 := [(0, .ref (Y.ad b)), (1, .int p1)]) [0, 1] ?_ rfl
  unfold PX7_begins at h
  refine g_aload_n C 0 dX7_begins_0 rfl ?_
  refine g_iload_n C 1 dX7_begins_1 rfl ?_
  refine g_sipush C (v := (280 : Int32)) dX7_begins_2 (by decide) ?_
  refine g_callVV C [.int p1, .int ((280 : Int32))] [] (ok_X7_copies hI h0 h) (cw_RX7_326 _) rfl dc_X7_copies ⟨Nat.le_of_ble_eq_true rfl, Nat.le_of_ble_eq_true rfl⟩ (isX7_lt h0) (isX7_sh h0) rfl rfl rfl rfl (Nat.le_of_ble_eq_true rfl) dX7_begins_5 (fun m1 h => ?_)
  refine g_aload_n C 0 dX7_begins_8 rfl ?_
  refine gf_RX7_49 C h0 dX7_begins_9 ?_
  refine g_iload_n C 1 dX7_begins_12 rfl ?_
  refine g_bipush C (v := (33 : Int32)) dX7_begins_13 (by decide) ?_
  refine g_iadd C dX7_begins_15 ?_
  refine g_iconst C (v := (0 : Int32)) dX7_begins_16 (by decide) ?_
  refine g_iast C (isX7_st h0).1 (isX7_st h0).2 h.1 dX7_begins_17 ?_
  replace h := h.2
  refine g_aload_n C 0 dX7_begins_18 rfl ?_
  refine gf_RX7_49 C h0 dX7_begins_19 ?_
  refine g_iload_n C 1 dX7_begins_22 rfl ?_
  refine g_bipush C (v := (34 : Int32)) dX7_begins_23 (by decide) ?_
  refine g_iadd C dX7_begins_25 ?_
  refine g_iconst C (v := (0 : Int32)) dX7_begins_26 (by decide) ?_
  refine g_iast C (isX7_st h0).1 (isX7_st h0).2 h.1 dX7_begins_27 ?_
  replace h := h.2
  refine g_mem (fun m3 em3 => ?_)
  replace h := h m3 em3
  refine g_aload_n C 0 dX7_begins_28 rfl ?_
  refine gf_RX7_49 C h0 dX7_begins_29 ?_
  refine g_iload_n C 1 dX7_begins_32 rfl ?_
  refine g_bipush C (v := (35 : Int32)) dX7_begins_33 (by decide) ?_
  refine g_iadd C dX7_begins_35 ?_
  refine g_iconst C (v := (0 : Int32)) dX7_begins_36 (by decide) ?_
  refine g_iast C (isX7_st h0).1 (isX7_st h0).2 h.1 dX7_begins_37 ?_
  replace h := h.2
  refine g_aload_n C 0 dX7_begins_38 rfl ?_
  refine gf_RX7_49 C h0 dX7_begins_39 ?_
  refine g_iload_n C 1 dX7_begins_42 rfl ?_
  refine g_bipush C (v := (37 : Int32)) dX7_begins_43 (by decide) ?_
  refine g_iadd C dX7_begins_45 ?_
  refine g_bipush C (v := (-4 : Int32)) dX7_begins_46 (by decide) ?_
  refine g_iast C (isX7_st h0).1 (isX7_st h0).2 h.1 dX7_begins_48 ?_
  replace h := h.2
  refine g_mem (fun m4 em4 => ?_)
  replace h := h m4 em4
  exact hr _ _ _ _ dX7_begins_49 h
def SX7_runs_14 (X : XT) (Y : YT) (b : Nat) (p1 : Int32) : Int32 → Mem → Prop := fun v2 μ => G X Y 3 14 [(0, .ref (Y.ad b)), (1, .int p1), (2, .int v2)] [] μ
set_option maxRecDepth 20000 in
set_option maxHeartbeats 4000000 in
theorem tX7_runs_101 {X : XT} {Y : YT} {l0 : Launch} {b : Nat} {p1 : Int32} {Q : Int32 → Mem → Prop} (C : Cx X Y 3 cX7_runs RX7 WX7_runs (rmB 5 125) l0) (hr : RI X Y cX7_runs .int Q) (hI : YI Y) (h0 : isX7 Y b) (v2 : Int32) (μ : Mem) (h : nX7_runs_101 b p1 Q (SX7_runs_14 X Y b p1) v2 μ) : G X Y 3 101 [(0, .ref (Y.ad b)), (1, .int p1), (2, .int v2)] [] μ := by
  unfold nX7_runs_101 at h
  refine g_aload_n C 0 dX7_runs_101 rfl ?_
  refine g_sipush C (v := (240 : Int32)) dX7_runs_102 (by decide) ?_
  refine g_callVI C [.int ((240 : Int32))] [] (ok_X7_nights hI h0 h) (cw_RX7_323 _) rfl dc_X7_nights ⟨Nat.le_of_ble_eq_true rfl, Nat.le_of_ble_eq_true rfl⟩ (isX7_lt h0) (isX7_sh h0) rfl rfl rfl rfl (Nat.le_of_ble_eq_true rfl) dX7_runs_105 (fun r13 m12 h => ?_)
  refine g_pop C dX7_runs_108 rfl ?_
  refine g_iinc C (v := v2 + 1) 2 [(2, .int (v2 + 1)), (0, .ref (Y.ad b)), (1, .int p1)] dX7_runs_109 rfl rfl (by decide) rfl ?_
  refine g_goto C 14 dX7_runs_112 (by decide) ?_
  refine g_lv (lv2 := [(0, .ref (Y.ad b)), (1, .int p1), (2, .int (v2 + 1))]) [1, 2, 0] ?_ rfl
  exact h
set_option maxRecDepth 20000 in
set_option maxHeartbeats 4000000 in
theorem tX7_runs_97 {X : XT} {Y : YT} {l0 : Launch} {b : Nat} {p1 : Int32} {Q : Int32 → Mem → Prop} (C : Cx X Y 3 cX7_runs RX7 WX7_runs (rmB 5 125) l0) (hr : RI X Y cX7_runs .int Q) (hI : YI Y) (h0 : isX7 Y b) (v2 : Int32) (w0 : Int32) (w1 : Int32) (w2 : Int32) (μ : Mem) (h : nX7_runs_97 b p1 Q (SX7_runs_14 X Y b p1) v2 w0 w1 w2 μ) : G X Y 3 97 [(0, .ref (Y.ad b)), (1, .int p1), (2, .int v2)] [.int w0, .int w1, .int w2, .ref (Y.ad b)] μ := by
  unfold nX7_runs_97 at h
  refine g_callVI C [.int w2, .int w1, .int w0] [] (ok_X7_eats hI h0 h) (cw_RX7_320 _) rfl dc_X7_eats ⟨Nat.le_of_ble_eq_true rfl, Nat.le_of_ble_eq_true rfl⟩ (isX7_lt h0) (isX7_sh h0) rfl rfl rfl rfl (Nat.le_of_ble_eq_true rfl) dX7_runs_97 (fun r11 m10 h => ?_)
  refine g_pop C dX7_runs_100 rfl ?_
  exact tX7_runs_101 C hr hI h0 _ _ h
set_option maxRecDepth 20000 in
set_option maxHeartbeats 4000000 in
theorem tX7_runs_58 {X : XT} {Y : YT} {l0 : Launch} {b : Nat} {p1 : Int32} {Q : Int32 → Mem → Prop} (C : Cx X Y 3 cX7_runs RX7 WX7_runs (rmB 5 125) l0) (hr : RI X Y cX7_runs .int Q) (hI : YI Y) (h0 : isX7 Y b) (v2 : Int32) (w0 : Int32) (w1 : Int32) (w2 : Int32) (μ : Mem) (h : nX7_runs_58 b p1 Q (SX7_runs_14 X Y b p1) v2 w0 w1 w2 μ) : G X Y 3 58 [(0, .ref (Y.ad b)), (1, .int p1), (2, .int v2)] [.int w0, .int w1, .int w2, .ref (Y.ad b), .ref (Y.ad b)] μ := by
  unfold nX7_runs_58 at h
  refine g_callVI C [.int w2, .int w1, .int w0] [.ref (Y.ad b)] (ok_X7_whyNot hI h0 h) (cw_RX7_316 _) rfl dc_X7_whyNot ⟨Nat.le_of_ble_eq_true rfl, Nat.le_of_ble_eq_true rfl⟩ (isX7_lt h0) (isX7_sh h0) rfl rfl rfl rfl (Nat.le_of_ble_eq_true rfl) dX7_runs_58 (fun r7 m6 h => ?_)
  refine gp_RX7_332 C h0 dX7_runs_61 ?_
  refine g_aload_n C 0 dX7_runs_64 rfl ?_
  refine gf_RX7_332 C h0 dX7_runs_65 ?_
  refine g_if_le C 73 dX7_runs_68 (by decide) (fun c8 => ?_) (fun c8 => ?_)
  · replace h := h.1 c8
    refine g_aload_n C 0 dX7_runs_73 rfl ?_
    refine g_sipush C (v := (240 : Int32)) dX7_runs_74 (by decide) ?_
    refine g_aload_n C 0 dX7_runs_77 rfl ?_
    refine gf_RX7_62 C h0 dX7_runs_78 ?_
    refine g_iload_n C 2 dX7_runs_81 rfl ?_
    refine g_iald C (isX7_row h0).1 (isX7_row h0).2 h.1 dX7_runs_82 ?_
    replace h := h.2
    refine g_iload_n C 1 dX7_runs_83 rfl ?_
    refine g_iload_n C 2 dX7_runs_84 rfl ?_
    refine g_ishr C dX7_runs_85 ?_
    refine g_iconst C (v := (1 : Int32)) dX7_runs_86 (by decide) ?_
    refine g_iand C dX7_runs_87 ?_
    refine g_iconst C (v := (1 : Int32)) dX7_runs_88 (by decide) ?_
    refine g_icmp_ne C 96 dX7_runs_89 (by decide) (fun c9 => ?_) (fun c9 => ?_)
    · replace h := h.1 c9
      refine g_iconst C (v := (0 : Int32)) dX7_runs_96 (by decide) ?_
      exact tX7_runs_97 C hr hI h0 _ _ _ _ _ h
    · replace h := h.2 c9
      refine g_iconst C (v := (1 : Int32)) dX7_runs_92 (by decide) ?_
      refine g_goto C 97 dX7_runs_93 (by decide) ?_
      exact tX7_runs_97 C hr hI h0 _ _ _ _ _ h
  · replace h := h.2 c8
    refine g_iload_n C 2 dX7_runs_71 rfl ?_
    exact hr _ _ _ _ _ dX7_runs_72 rfl h
set_option maxRecDepth 20000 in
set_option maxHeartbeats 4000000 in
theorem tX7_runs_14 {X : XT} {Y : YT} {l0 : Launch} {b : Nat} {p1 : Int32} {Q : Int32 → Mem → Prop} (C : Cx X Y 3 cX7_runs RX7 WX7_runs (rmB 5 125) l0) (hr : RI X Y cX7_runs .int Q) (hI : YI Y) (h0 : isX7 Y b) (v2 : Int32) (μ : Mem) (h : nX7_runs_14 b p1 Q (SX7_runs_14 X Y b p1) v2 μ) : G X Y 3 14 [(0, .ref (Y.ad b)), (1, .int p1), (2, .int v2)] [] μ := by
  unfold nX7_runs_14 at h
  refine g_iload_n C 2 dX7_runs_14 rfl ?_
  refine g_aload_n C 0 dX7_runs_15 rfl ?_
  refine gf_RX7_138 C h0 dX7_runs_16 ?_
  refine g_icmp_ge C 115 dX7_runs_19 (by decide) (fun c3 => ?_) (fun c3 => ?_)
  · replace h := h.1 c3
    refine g_aload_n C 0 dX7_runs_115 rfl ?_
    refine gf_RX7_138 C h0 dX7_runs_116 ?_
    exact hr _ _ _ _ _ dX7_runs_119 rfl h
  · replace h := h.2 c3
    refine g_aload_n C 0 dX7_runs_22 rfl ?_
    refine gf_RX7_62 C h0 dX7_runs_23 ?_
    refine g_iload_n C 2 dX7_runs_26 rfl ?_
    refine g_iald C (isX7_row h0).1 (isX7_row h0).2 h.1 dX7_runs_27 ?_
    replace h := h.2
    refine g_bipush C (v := (-4 : Int32)) dX7_runs_28 (by decide) ?_
    refine g_icmp_eq C 101 dX7_runs_30 (by decide) (fun c4 => ?_) (fun c4 => ?_)
    · replace h := h.1 c4
      exact tX7_runs_101 C hr hI h0 _ _ h
    · replace h := h.2 c4
      refine g_aload_n C 0 dX7_runs_33 rfl ?_
      refine g_aload_n C 0 dX7_runs_34 rfl ?_
      refine g_sipush C (v := (240 : Int32)) dX7_runs_35 (by decide) ?_
      refine g_aload_n C 0 dX7_runs_38 rfl ?_
      refine gf_RX7_62 C h0 dX7_runs_39 ?_
      refine g_iload_n C 2 dX7_runs_42 rfl ?_
      refine g_iald C (isX7_row h0).1 (isX7_row h0).2 h.1 dX7_runs_43 ?_
      replace h := h.2
      refine g_iload_n C 1 dX7_runs_44 rfl ?_
      refine g_iload_n C 2 dX7_runs_45 rfl ?_
      refine g_ishr C dX7_runs_46 ?_
      refine g_iconst C (v := (1 : Int32)) dX7_runs_47 (by decide) ?_
      refine g_iand C dX7_runs_48 ?_
      refine g_iconst C (v := (1 : Int32)) dX7_runs_49 (by decide) ?_
      refine g_icmp_ne C 57 dX7_runs_50 (by decide) (fun c5 => ?_) (fun c5 => ?_)
      · replace h := h.1 c5
        refine g_iconst C (v := (0 : Int32)) dX7_runs_57 (by decide) ?_
        exact tX7_runs_58 C hr hI h0 _ _ _ _ _ h
      · replace h := h.2 c5
        refine g_iconst C (v := (1 : Int32)) dX7_runs_53 (by decide) ?_
        refine g_goto C 58 dX7_runs_54 (by decide) ?_
        exact tX7_runs_58 C hr hI h0 _ _ _ _ _ h
set_option maxRecDepth 20000 in
set_option maxHeartbeats 4000000 in
theorem ok_X7_runs {Y : YT} {l0 : Launch} {b : Nat} {p1 : Int32} {μ : Mem} {Q : Int32 → Mem → Prop} (hI : YI Y) (h0 : isX7 Y b) (h : PX7_runs b p1 μ Q) : MI l0 yX7_runs WX7_runs 5 125 Y [.ref (Y.ad b), .int p1] μ Q := by
  refine mI_of (ty := .int) (cc := cX7_runs) (maxL := 3) (by decide +kernel) rfl hI (Nat.le_of_ble_eq_true rfl) (fun X C hr => ?_)
  replace C : Cx X Y 3 cX7_runs RX7 WX7_runs (rmB 5 125) l0 := C
  refine g_lv (lv2 := [(0, .ref (Y.ad b)), (1, .int p1)]) [0, 1] ?_ rfl
  unfold PX7_runs at h
  replace h := h (SX7_runs_14 X Y b p1) (fun v2 μ z => tX7_runs_14 C hr hI h0 v2 μ z)
  refine g_aload_n C 0 dX7_runs_0 rfl ?_
  refine g_sipush C (v := (240 : Int32)) dX7_runs_1 (by decide) ?_
  refine g_callVV C [.int ((240 : Int32))] [] (ok_X7_begins hI h0 h) (cw_RX7_329 _) rfl dc_X7_begins ⟨Nat.le_of_ble_eq_true rfl, Nat.le_of_ble_eq_true rfl⟩ (isX7_lt h0) (isX7_sh h0) rfl rfl rfl rfl (Nat.le_of_ble_eq_true rfl) dX7_runs_4 (fun m1 h => ?_)
  refine g_aload_n C 0 dX7_runs_7 rfl ?_
  refine g_iconst C (v := (0 : Int32)) dX7_runs_8 (by decide) ?_
  refine gp_RX7_332 C h0 dX7_runs_9 ?_
  refine g_iconst C (v := (0 : Int32)) dX7_runs_12 (by decide) ?_
  refine g_istore_n C [(2, .int ((0 : Int32))), (0, .ref (Y.ad b)), (1, .int p1)] dX7_runs_13 (by decide) rfl ?_
  refine g_lv (lv2 := [(0, .ref (Y.ad b)), (1, .int p1), (2, .int ((0 : Int32)))]) [1, 2, 0] ?_ rfl
  exact h
def SX7_isSameLarder_4 (X : XT) (Y : YT) (b : Nat) (p1 : Int32) : Int32 → Int32 → Mem → Prop := fun v2 v3 μ => G X Y 4 4 [(0, .ref (Y.ad b)), (1, .int p1), (2, .int v2), (3, .int v3)] [] μ
set_option maxRecDepth 20000 in
set_option maxHeartbeats 4000000 in
theorem tX7_isSameLarder_40 {X : XT} {Y : YT} {l0 : Launch} {b : Nat} {p1 : Int32} {Q : Int32 → Mem → Prop} (C : Cx X Y 4 cX7_isSameLarder RX7 WX7_isSameLarder (rmB 0 0) l0) (hr : RI X Y cX7_isSameLarder .boolean Q) (hI : YI Y) (h0 : isX7 Y b) (v3 : Int32) (w0 : Int32) (μ : Mem) (h : nX7_isSameLarder_40 b p1 Q (SX7_isSameLarder_4 X Y b p1) v3 w0 μ) : G X Y 4 40 [(0, .ref (Y.ad b)), (1, .int p1), (3, .int v3)] [.int w0] μ := by
  unfold nX7_isSameLarder_40 at h
  refine g_istore_n C [(2, .int w0), (0, .ref (Y.ad b)), (1, .int p1), (3, .int v3)] dX7_isSameLarder_40 (by decide) rfl ?_
  refine g_iinc C (v := v3 + 1) 3 [(3, .int (v3 + 1)), (2, .int w0), (0, .ref (Y.ad b)), (1, .int p1)] dX7_isSameLarder_41 rfl rfl (by decide) rfl ?_
  refine g_goto C 4 dX7_isSameLarder_44 (by decide) ?_
  refine g_lv (lv2 := [(0, .ref (Y.ad b)), (1, .int p1), (2, .int w0), (3, .int (v3 + 1))]) [2, 3, 1, 0] ?_ rfl
  exact h
set_option maxRecDepth 20000 in
set_option maxHeartbeats 4000000 in
theorem tX7_isSameLarder_39 {X : XT} {Y : YT} {l0 : Launch} {b : Nat} {p1 : Int32} {Q : Int32 → Mem → Prop} (C : Cx X Y 4 cX7_isSameLarder RX7 WX7_isSameLarder (rmB 0 0) l0) (hr : RI X Y cX7_isSameLarder .boolean Q) (hI : YI Y) (h0 : isX7 Y b) (v3 : Int32) (μ : Mem) (h : nX7_isSameLarder_39 b p1 Q (SX7_isSameLarder_4 X Y b p1) v3 μ) : G X Y 4 39 [(0, .ref (Y.ad b)), (1, .int p1), (3, .int v3)] [] μ := by
  unfold nX7_isSameLarder_39 at h
  refine g_iconst C (v := (0 : Int32)) dX7_isSameLarder_39 (by decide) ?_
  exact tX7_isSameLarder_40 C hr hI h0 _ _ _ h
set_option maxRecDepth 20000 in
set_option maxHeartbeats 4000000 in
theorem tX7_isSameLarder_4 {X : XT} {Y : YT} {l0 : Launch} {b : Nat} {p1 : Int32} {Q : Int32 → Mem → Prop} (C : Cx X Y 4 cX7_isSameLarder RX7 WX7_isSameLarder (rmB 0 0) l0) (hr : RI X Y cX7_isSameLarder .boolean Q) (hI : YI Y) (h0 : isX7 Y b) (v2 : Int32) (v3 : Int32) (μ : Mem) (h : nX7_isSameLarder_4 b p1 Q (SX7_isSameLarder_4 X Y b p1) v2 v3 μ) : G X Y 4 4 [(0, .ref (Y.ad b)), (1, .int p1), (2, .int v2), (3, .int v3)] [] μ := by
  unfold nX7_isSameLarder_4 at h
  refine g_iload_n C 3 dX7_isSameLarder_4 rfl ?_
  refine g_bipush C (v := (24 : Int32)) dX7_isSameLarder_5 (by decide) ?_
  refine g_icmp_ge C 47 dX7_isSameLarder_7 (by decide) (fun c1 => ?_) (fun c1 => ?_)
  · replace h := h.1 c1
    refine g_iload_n C 2 dX7_isSameLarder_47 rfl ?_
    exact hr _ _ _ _ _ dX7_isSameLarder_48 h.1.1 h.2
  · replace h := h.2 c1
    refine g_iload_n C 2 dX7_isSameLarder_10 rfl ?_
    refine g_if_eq C 39 dX7_isSameLarder_11 (by decide) (fun c2 => ?_) (fun c2 => ?_)
    · replace h := h.1 c2
      refine g_lv (lv2 := [(0, .ref (Y.ad b)), (1, .int p1), (3, .int v3)]) [0, 1, 3] ?_ rfl
      exact tX7_isSameLarder_39 C hr hI h0 _ _ h
    · replace h := h.2 c2
      refine g_aload_n C 0 dX7_isSameLarder_14 rfl ?_
      refine gf_RX7_49 C h0 dX7_isSameLarder_15 ?_
      refine g_iload_n C 1 dX7_isSameLarder_18 rfl ?_
      refine g_iload_n C 3 dX7_isSameLarder_19 rfl ?_
      refine g_iadd C dX7_isSameLarder_20 ?_
      refine g_iald C (isX7_st h0).1 (isX7_st h0).2 h.1 dX7_isSameLarder_21 ?_
      replace h := h.2
      refine g_aload_n C 0 dX7_isSameLarder_22 rfl ?_
      refine gf_RX7_49 C h0 dX7_isSameLarder_23 ?_
      refine g_sipush C (v := (280 : Int32)) dX7_isSameLarder_26 (by decide) ?_
      refine g_iload_n C 3 dX7_isSameLarder_29 rfl ?_
      refine g_iadd C dX7_isSameLarder_30 ?_
      refine g_iald C (isX7_st h0).1 (isX7_st h0).2 h.1 dX7_isSameLarder_31 ?_
      replace h := h.2
      refine g_icmp_ne C 39 dX7_isSameLarder_32 (by decide) (fun c3 => ?_) (fun c3 => ?_)
      · replace h := h.1 c3
        refine g_lv (lv2 := [(0, .ref (Y.ad b)), (1, .int p1), (3, .int v3)]) [0, 1, 3] ?_ rfl
        exact tX7_isSameLarder_39 C hr hI h0 _ _ h
      · replace h := h.2 c3
        refine g_iconst C (v := (1 : Int32)) dX7_isSameLarder_35 (by decide) ?_
        refine g_goto C 40 dX7_isSameLarder_36 (by decide) ?_
        refine g_lv (lv2 := [(0, .ref (Y.ad b)), (1, .int p1), (3, .int v3)]) [0, 1, 3] ?_ rfl
        exact tX7_isSameLarder_40 C hr hI h0 _ _ _ h
set_option maxRecDepth 20000 in
set_option maxHeartbeats 4000000 in
theorem ok_X7_isSameLarder {Y : YT} {l0 : Launch} {b : Nat} {p1 : Int32} {μ : Mem} {Q : Int32 → Mem → Prop} (hI : YI Y) (h0 : isX7 Y b) (h : PX7_isSameLarder b p1 μ Q) : MI l0 yX7_isSameLarder WX7_isSameLarder 0 0 Y [.ref (Y.ad b), .int p1] μ Q := by
  refine mI_of (ty := .boolean) (cc := cX7_isSameLarder) (maxL := 4) (by decide +kernel) rfl hI (Nat.le_of_ble_eq_true rfl) (fun X C hr => ?_)
  replace C : Cx X Y 4 cX7_isSameLarder RX7 WX7_isSameLarder (rmB 0 0) l0 := C
  refine g_lv (lv2 := [(0, .ref (Y.ad b)), (1, .int p1)]) [0, 1] ?_ rfl
  unfold PX7_isSameLarder at h
  replace h := h (SX7_isSameLarder_4 X Y b p1) (fun v2 v3 μ z => tX7_isSameLarder_4 C hr hI h0 v2 v3 μ z)
  refine g_iconst C (v := (1 : Int32)) dX7_isSameLarder_0 (by decide) ?_
  refine g_istore_n C [(2, .int ((1 : Int32))), (0, .ref (Y.ad b)), (1, .int p1)] dX7_isSameLarder_1 (by decide) rfl ?_
  refine g_iconst C (v := (0 : Int32)) dX7_isSameLarder_2 (by decide) ?_
  refine g_istore_n C [(3, .int ((0 : Int32))), (2, .int ((1 : Int32))), (0, .ref (Y.ad b)), (1, .int p1)] dX7_isSameLarder_3 (by decide) rfl ?_
  refine g_lv (lv2 := [(0, .ref (Y.ad b)), (1, .int p1), (2, .int ((1 : Int32))), (3, .int ((0 : Int32)))]) [2, 3, 1, 0] ?_ rfl
  exact h
def SX7_isClosed_29 (X : XT) (Y : YT) (b : Nat) (p1 : Int32) (p2 : Int32) : Int32 → Int32 → Mem → Prop := fun v3 v4 μ => G X Y 6 29 [(0, .ref (Y.ad b)), (1, .int p1), (2, .int p2), (3, .int v3), (4, .int v4)] [] μ
def SX7_isClosed_42 (X : XT) (Y : YT) (b : Nat) (p1 : Int32) (p2 : Int32) : Int32 → Int32 → Mem → Prop := fun v4 v5 μ => G X Y 6 42 [(0, .ref (Y.ad b)), (1, .int p1), (2, .int p2), (4, .int v4), (5, .int v5)] [] μ
set_option maxRecDepth 20000 in
set_option maxHeartbeats 4000000 in
theorem tX7_isClosed_25 {X : XT} {Y : YT} {l0 : Launch} {b : Nat} {p1 : Int32} {p2 : Int32} {Q : Int32 → Mem → Prop} (C : Cx X Y 6 cX7_isClosed RX7 WX7_isClosed (rmB 1 23) l0) (hr : RI X Y cX7_isClosed .boolean Q) (hI : YI Y) (h0 : isX7 Y b) (w0 : Int32) (μ : Mem) (h : nX7_isClosed_25 b p1 p2 Q (SX7_isClosed_29 X Y b p1 p2) (SX7_isClosed_42 X Y b p1 p2) w0 μ) : G X Y 6 25 [(0, .ref (Y.ad b)), (1, .int p1), (2, .int p2)] [.int w0] μ := by
  unfold nX7_isClosed_25 at h
  refine g_istore_n C [(3, .int w0), (0, .ref (Y.ad b)), (1, .int p1), (2, .int p2)] dX7_isClosed_25 (by decide) rfl ?_
  refine g_iconst C (v := (0 : Int32)) dX7_isClosed_26 (by decide) ?_
  refine g_istore C [(4, .int ((0 : Int32))), (3, .int w0), (0, .ref (Y.ad b)), (1, .int p1), (2, .int p2)] dX7_isClosed_27 (by decide) rfl ?_
  refine g_lv (lv2 := [(0, .ref (Y.ad b)), (1, .int p1), (2, .int p2), (3, .int w0), (4, .int ((0 : Int32)))]) [2, 3, 4, 1, 0] ?_ rfl
  exact h
set_option maxRecDepth 20000 in
set_option maxHeartbeats 4000000 in
theorem tX7_isClosed_24 {X : XT} {Y : YT} {l0 : Launch} {b : Nat} {p1 : Int32} {p2 : Int32} {Q : Int32 → Mem → Prop} (C : Cx X Y 6 cX7_isClosed RX7 WX7_isClosed (rmB 1 23) l0) (hr : RI X Y cX7_isClosed .boolean Q) (hI : YI Y) (h0 : isX7 Y b) (μ : Mem) (h : nX7_isClosed_24 b p1 p2 Q (SX7_isClosed_29 X Y b p1 p2) (SX7_isClosed_42 X Y b p1 p2) μ) : G X Y 6 24 [(0, .ref (Y.ad b)), (1, .int p1), (2, .int p2)] [] μ := by
  unfold nX7_isClosed_24 at h
  refine g_iconst C (v := (0 : Int32)) dX7_isClosed_24 (by decide) ?_
  exact tX7_isClosed_25 C hr hI h0 _ _ h
set_option maxRecDepth 20000 in
set_option maxHeartbeats 4000000 in
theorem tX7_isClosed_29 {X : XT} {Y : YT} {l0 : Launch} {b : Nat} {p1 : Int32} {p2 : Int32} {Q : Int32 → Mem → Prop} (C : Cx X Y 6 cX7_isClosed RX7 WX7_isClosed (rmB 1 23) l0) (hr : RI X Y cX7_isClosed .boolean Q) (hI : YI Y) (h0 : isX7 Y b) (v3 : Int32) (v4 : Int32) (μ : Mem) (h : nX7_isClosed_29 b p1 p2 Q (SX7_isClosed_29 X Y b p1 p2) (SX7_isClosed_42 X Y b p1 p2) v3 v4 μ) : G X Y 6 29 [(0, .ref (Y.ad b)), (1, .int p1), (2, .int p2), (3, .int v3), (4, .int v4)] [] μ := by
  unfold nX7_isClosed_29 at h
  refine g_iload C 4 dX7_isClosed_29 rfl ?_
  refine g_iload_n C 2 dX7_isClosed_31 rfl ?_
  refine g_icmp_ge C 109 dX7_isClosed_32 (by decide) (fun c5 => ?_) (fun c5 => ?_)
  · replace h := h.1 c5
    refine g_iload_n C 3 dX7_isClosed_109 rfl ?_
    exact hr _ _ _ _ _ dX7_isClosed_110 h.1.1 h.2
  · replace h := h.2 c5
    refine g_iload_n C 3 dX7_isClosed_35 rfl ?_
    refine g_if_eq C 109 dX7_isClosed_36 (by decide) (fun c6 => ?_) (fun c6 => ?_)
    · replace h := h.1 c6
      refine g_iload_n C 3 dX7_isClosed_109 rfl ?_
      exact hr _ _ _ _ _ dX7_isClosed_110 h.1.1 h.2
    · replace h := h.2 c6
      refine g_iconst C (v := (1 : Int32)) dX7_isClosed_39 (by decide) ?_
      refine g_istore C [(5, .int ((1 : Int32))), (0, .ref (Y.ad b)), (1, .int p1), (2, .int p2), (3, .int v3), (4, .int v4)] dX7_isClosed_40 (by decide) rfl ?_
      refine g_lv (lv2 := [(0, .ref (Y.ad b)), (1, .int p1), (2, .int p2), (4, .int v4), (5, .int ((1 : Int32)))]) [1, 2, 3, 5, 0] ?_ rfl
      exact h
set_option maxRecDepth 20000 in
set_option maxHeartbeats 4000000 in
theorem tX7_isClosed_102 {X : XT} {Y : YT} {l0 : Launch} {b : Nat} {p1 : Int32} {p2 : Int32} {Q : Int32 → Mem → Prop} (C : Cx X Y 6 cX7_isClosed RX7 WX7_isClosed (rmB 1 23) l0) (hr : RI X Y cX7_isClosed .boolean Q) (hI : YI Y) (h0 : isX7 Y b) (v4 : Int32) (w0 : Int32) (μ : Mem) (h : nX7_isClosed_102 b p1 p2 Q (SX7_isClosed_29 X Y b p1 p2) (SX7_isClosed_42 X Y b p1 p2) v4 w0 μ) : G X Y 6 102 [(0, .ref (Y.ad b)), (1, .int p1), (2, .int p2), (4, .int v4)] [.int w0] μ := by
  unfold nX7_isClosed_102 at h
  refine g_istore_n C [(3, .int w0), (0, .ref (Y.ad b)), (1, .int p1), (2, .int p2), (4, .int v4)] dX7_isClosed_102 (by decide) rfl ?_
  refine g_iinc C (v := v4 + 1) 4 [(4, .int (v4 + 1)), (3, .int w0), (0, .ref (Y.ad b)), (1, .int p1), (2, .int p2)] dX7_isClosed_103 rfl rfl (by decide) rfl ?_
  refine g_goto C 29 dX7_isClosed_106 (by decide) ?_
  refine g_lv (lv2 := [(0, .ref (Y.ad b)), (1, .int p1), (2, .int p2), (3, .int w0), (4, .int (v4 + 1))]) [2, 3, 4, 1, 0] ?_ rfl
  exact h
set_option maxRecDepth 20000 in
set_option maxHeartbeats 4000000 in
theorem tX7_isClosed_97 {X : XT} {Y : YT} {l0 : Launch} {b : Nat} {p1 : Int32} {p2 : Int32} {Q : Int32 → Mem → Prop} (C : Cx X Y 6 cX7_isClosed RX7 WX7_isClosed (rmB 1 23) l0) (hr : RI X Y cX7_isClosed .boolean Q) (hI : YI Y) (h0 : isX7 Y b) (v4 : Int32) (μ : Mem) (h : nX7_isClosed_97 b p1 p2 Q (SX7_isClosed_29 X Y b p1 p2) (SX7_isClosed_42 X Y b p1 p2) v4 μ) : G X Y 6 97 [(0, .ref (Y.ad b)), (1, .int p1), (2, .int p2), (4, .int v4)] [] μ := by
  unfold nX7_isClosed_97 at h
  refine g_iconst C (v := (1 : Int32)) dX7_isClosed_97 (by decide) ?_
  refine g_goto C 102 dX7_isClosed_98 (by decide) ?_
  exact tX7_isClosed_102 C hr hI h0 _ _ _ h
set_option maxRecDepth 20000 in
set_option maxHeartbeats 4000000 in
theorem tX7_isClosed_76 {X : XT} {Y : YT} {l0 : Launch} {b : Nat} {p1 : Int32} {p2 : Int32} {Q : Int32 → Mem → Prop} (C : Cx X Y 6 cX7_isClosed RX7 WX7_isClosed (rmB 1 23) l0) (hr : RI X Y cX7_isClosed .boolean Q) (hI : YI Y) (h0 : isX7 Y b) (v4 : Int32) (v5 : Int32) (μ : Mem) (h : nX7_isClosed_76 b p1 p2 Q (SX7_isClosed_29 X Y b p1 p2) (SX7_isClosed_42 X Y b p1 p2) v4 v5 μ) : G X Y 6 76 [(0, .ref (Y.ad b)), (1, .int p1), (2, .int p2), (4, .int v4), (5, .int v5)] [] μ := by
  unfold nX7_isClosed_76 at h
  refine g_aload_n C 0 dX7_isClosed_76 rfl ?_
  refine gf_RX7_65 C h0 dX7_isClosed_77 ?_
  refine g_iload C 3 dX7_isClosed_80 rfl ?_
  refine g_iald C (isX7_pick h0).1 (isX7_pick h0).2 h.1 dX7_isClosed_82 ?_
  replace h := h.2
  refine g_bipush C (v := (-4 : Int32)) dX7_isClosed_83 (by decide) ?_
  refine g_icmp_eq C 97 dX7_isClosed_85 (by decide) (fun c9 => ?_) (fun c9 => ?_)
  · replace h := h.1 c9
    refine g_lv (lv2 := [(0, .ref (Y.ad b)), (1, .int p1), (2, .int p2), (4, .int v4)]) [0, 1, 2, 3] ?_ rfl
    exact tX7_isClosed_97 C hr hI h0 _ _ h
  · replace h := h.2 c9
    refine g_iload C 4 dX7_isClosed_88 rfl ?_
    refine g_aload_n C 0 dX7_isClosed_90 rfl ?_
    refine gf_RX7_121 C h0 dX7_isClosed_91 ?_
    refine g_icmp_lt C 101 dX7_isClosed_94 (by decide) (fun c10 => ?_) (fun c10 => ?_)
    · replace h := h.1 c10
      refine g_iconst C (v := (0 : Int32)) dX7_isClosed_101 (by decide) ?_
      refine g_lv (lv2 := [(0, .ref (Y.ad b)), (1, .int p1), (2, .int p2), (4, .int v4)]) [0, 1, 2, 3] ?_ rfl
      exact tX7_isClosed_102 C hr hI h0 _ _ _ h
    · replace h := h.2 c10
      refine g_lv (lv2 := [(0, .ref (Y.ad b)), (1, .int p1), (2, .int p2), (4, .int v4)]) [0, 1, 2, 3] ?_ rfl
      exact tX7_isClosed_97 C hr hI h0 _ _ h
set_option maxRecDepth 20000 in
set_option maxHeartbeats 4000000 in
theorem tX7_isClosed_42 {X : XT} {Y : YT} {l0 : Launch} {b : Nat} {p1 : Int32} {p2 : Int32} {Q : Int32 → Mem → Prop} (C : Cx X Y 6 cX7_isClosed RX7 WX7_isClosed (rmB 1 23) l0) (hr : RI X Y cX7_isClosed .boolean Q) (hI : YI Y) (h0 : isX7 Y b) (v4 : Int32) (v5 : Int32) (μ : Mem) (h : nX7_isClosed_42 b p1 p2 Q (SX7_isClosed_29 X Y b p1 p2) (SX7_isClosed_42 X Y b p1 p2) v4 v5 μ) : G X Y 6 42 [(0, .ref (Y.ad b)), (1, .int p1), (2, .int p2), (4, .int v4), (5, .int v5)] [] μ := by
  unfold nX7_isClosed_42 at h
  refine g_iload C 4 dX7_isClosed_42 rfl ?_
  refine g_iload_n C 2 dX7_isClosed_44 rfl ?_
  refine g_icmp_ge C 76 dX7_isClosed_45 (by decide) (fun c7 => ?_) (fun c7 => ?_)
  · replace h := h.1 c7
    exact tX7_isClosed_76 C hr hI h0 _ _ _ h
  · replace h := h.2 c7
    refine g_aload_n C 0 dX7_isClosed_48 rfl ?_
    refine gf_RX7_65 C h0 dX7_isClosed_49 ?_
    refine g_iload C 3 dX7_isClosed_52 rfl ?_
    refine g_iload C 4 dX7_isClosed_54 rfl ?_
    refine g_iadd C dX7_isClosed_56 ?_
    refine g_iload_n C 2 dX7_isClosed_57 rfl ?_
    refine g_irem C dX7_isClosed_58 h.1 ?_
    replace h := h.2
    refine g_iald C (isX7_pick h0).1 (isX7_pick h0).2 h.1 dX7_isClosed_59 ?_
    replace h := h.2
    refine g_aload_n C 0 dX7_isClosed_60 rfl ?_
    refine gf_RX7_65 C h0 dX7_isClosed_61 ?_
    refine g_iload C 3 dX7_isClosed_64 rfl ?_
    refine g_iald C (isX7_pick h0).1 (isX7_pick h0).2 h.1 dX7_isClosed_66 ?_
    replace h := h.2
    refine g_icmp_eq C 76 dX7_isClosed_67 (by decide) (fun c8 => ?_) (fun c8 => ?_)
    · replace h := h.1 c8
      exact tX7_isClosed_76 C hr hI h0 _ _ _ h
    · replace h := h.2 c8
      refine g_iinc C (v := v5 + 1) 4 [(5, .int (v5 + 1)), (0, .ref (Y.ad b)), (1, .int p1), (2, .int p2), (4, .int v4)] dX7_isClosed_70 rfl rfl (by decide) rfl ?_
      refine g_goto C 42 dX7_isClosed_73 (by decide) ?_
      refine g_lv (lv2 := [(0, .ref (Y.ad b)), (1, .int p1), (2, .int p2), (4, .int v4), (5, .int (v5 + 1))]) [1, 2, 3, 4, 0] ?_ rfl
      exact h
set_option maxRecDepth 20000 in
set_option maxHeartbeats 4000000 in
theorem ok_X7_isClosed {Y : YT} {l0 : Launch} {b : Nat} {p1 : Int32} {p2 : Int32} {μ : Mem} {Q : Int32 → Mem → Prop} (hI : YI Y) (h0 : isX7 Y b) (h : PX7_isClosed b p1 p2 μ Q) : MI l0 yX7_isClosed WX7_isClosed 1 23 Y [.ref (Y.ad b), .int p1, .int p2] μ Q := by
  refine mI_of (ty := .boolean) (cc := cX7_isClosed) (maxL := 6) (by decide +kernel) rfl hI (Nat.le_of_ble_eq_true rfl) (fun X C hr => ?_)
  replace C : Cx X Y 6 cX7_isClosed RX7 WX7_isClosed (rmB 1 23) l0 := C
  refine g_lv (lv2 := [(0, .ref (Y.ad b)), (1, .int p1), (2, .int p2)]) [0, 1, 2] ?_ rfl
  unfold PX7_isClosed at h
  replace h := h (SX7_isClosed_29 X Y b p1 p2) (SX7_isClosed_42 X Y b p1 p2) (fun v3 v4 μ z => tX7_isClosed_29 C hr hI h0 v3 v4 μ z) (fun v4 v5 μ z => tX7_isClosed_42 C hr hI h0 v4 v5 μ z)
  refine g_aload_n C 0 dX7_isClosed_0 rfl ?_
  refine gf_RX7_49 C h0 dX7_isClosed_1 ?_
  refine g_iload_n C 1 dX7_isClosed_4 rfl ?_
  refine g_bipush C (v := (34 : Int32)) dX7_isClosed_5 (by decide) ?_
  refine g_iadd C dX7_isClosed_7 ?_
  refine g_iald C (isX7_st h0).1 (isX7_st h0).2 h.1 dX7_isClosed_8 ?_
  replace h := h.2
  refine g_if_ne C 24 dX7_isClosed_9 (by decide) (fun c1 => ?_) (fun c1 => ?_)
  · replace h := h.1 c1
    exact tX7_isClosed_24 C hr hI h0 _ h
  · replace h := h.2 c1
    refine g_aload_n C 0 dX7_isClosed_12 rfl ?_
    refine g_iload_n C 1 dX7_isClosed_13 rfl ?_
    refine g_callVI C [.int p1] [] (ok_X7_isSameLarder hI h0 h) (cw_RX7_335 _) rfl dc_X7_isSameLarder ⟨Nat.le_of_ble_eq_true rfl, Nat.le_of_ble_eq_true rfl⟩ (isX7_lt h0) (isX7_sh h0) rfl rfl rfl rfl (Nat.le_of_ble_eq_true rfl) dX7_isClosed_14 (fun r3 m2 h => ?_)
    refine g_if_eq C 24 dX7_isClosed_17 (by decide) (fun c4 => ?_) (fun c4 => ?_)
    · replace h := h.1 c4
      exact tX7_isClosed_24 C hr hI h0 _ h
    · replace h := h.2 c4
      refine g_iconst C (v := (1 : Int32)) dX7_isClosed_20 (by decide) ?_
      refine g_goto C 25 dX7_isClosed_21 (by decide) ?_
      exact tX7_isClosed_25 C hr hI h0 _ _ h
def SX7_isRowClosed_29 (X : XT) (Y : YT) (b : Nat) (p1 : Int32) : Int32 → Int32 → Mem → Prop := fun v2 v3 μ => G X Y 4 29 [(0, .ref (Y.ad b)), (1, .int p1), (2, .int v2), (3, .int v3)] [] μ
set_option maxRecDepth 20000 in
set_option maxHeartbeats 4000000 in
theorem tX7_isRowClosed_93 {X : XT} {Y : YT} {l0 : Launch} {b : Nat} {p1 : Int32} {Q : Int32 → Mem → Prop} (C : Cx X Y 4 cX7_isRowClosed RX7 WX7_isRowClosed (rmB 2 48) l0) (hr : RI X Y cX7_isRowClosed .boolean Q) (hI : YI Y) (h0 : isX7 Y b) (v3 : Int32) (w0 : Int32) (μ : Mem) (h : nX7_isRowClosed_93 b p1 Q (SX7_isRowClosed_29 X Y b p1) v3 w0 μ) : G X Y 4 93 [(0, .ref (Y.ad b)), (1, .int p1), (3, .int v3)] [.int w0] μ := by
  unfold nX7_isRowClosed_93 at h
  refine g_istore_n C [(2, .int w0), (0, .ref (Y.ad b)), (1, .int p1), (3, .int v3)] dX7_isRowClosed_93 (by decide) rfl ?_
  refine g_iinc C (v := v3 + 1) 3 [(3, .int (v3 + 1)), (2, .int w0), (0, .ref (Y.ad b)), (1, .int p1)] dX7_isRowClosed_94 rfl rfl (by decide) rfl ?_
  refine g_goto C 29 dX7_isRowClosed_97 (by decide) ?_
  refine g_lv (lv2 := [(0, .ref (Y.ad b)), (1, .int p1), (2, .int w0), (3, .int (v3 + 1))]) [2, 3, 1, 0] ?_ rfl
  exact h
set_option maxRecDepth 20000 in
set_option maxHeartbeats 4000000 in
theorem tX7_isRowClosed_88 {X : XT} {Y : YT} {l0 : Launch} {b : Nat} {p1 : Int32} {Q : Int32 → Mem → Prop} (C : Cx X Y 4 cX7_isRowClosed RX7 WX7_isRowClosed (rmB 2 48) l0) (hr : RI X Y cX7_isRowClosed .boolean Q) (hI : YI Y) (h0 : isX7 Y b) (v3 : Int32) (μ : Mem) (h : nX7_isRowClosed_88 b p1 Q (SX7_isRowClosed_29 X Y b p1) v3 μ) : G X Y 4 88 [(0, .ref (Y.ad b)), (1, .int p1), (3, .int v3)] [] μ := by
  unfold nX7_isRowClosed_88 at h
  refine g_iconst C (v := (1 : Int32)) dX7_isRowClosed_88 (by decide) ?_
  refine g_goto C 93 dX7_isRowClosed_89 (by decide) ?_
  exact tX7_isRowClosed_93 C hr hI h0 _ _ _ h
set_option maxRecDepth 20000 in
set_option maxHeartbeats 4000000 in
theorem tX7_isRowClosed_92 {X : XT} {Y : YT} {l0 : Launch} {b : Nat} {p1 : Int32} {Q : Int32 → Mem → Prop} (C : Cx X Y 4 cX7_isRowClosed RX7 WX7_isRowClosed (rmB 2 48) l0) (hr : RI X Y cX7_isRowClosed .boolean Q) (hI : YI Y) (h0 : isX7 Y b) (v3 : Int32) (μ : Mem) (h : nX7_isRowClosed_92 b p1 Q (SX7_isRowClosed_29 X Y b p1) v3 μ) : G X Y 4 92 [(0, .ref (Y.ad b)), (1, .int p1), (3, .int v3)] [] μ := by
  unfold nX7_isRowClosed_92 at h
  refine g_iconst C (v := (0 : Int32)) dX7_isRowClosed_92 (by decide) ?_
  exact tX7_isRowClosed_93 C hr hI h0 _ _ _ h
set_option maxRecDepth 20000 in
set_option maxHeartbeats 4000000 in
theorem tX7_isRowClosed_122 {X : XT} {Y : YT} {l0 : Launch} {b : Nat} {p1 : Int32} {Q : Int32 → Mem → Prop} (C : Cx X Y 4 cX7_isRowClosed RX7 WX7_isRowClosed (rmB 2 48) l0) (hr : RI X Y cX7_isRowClosed .boolean Q) (hI : YI Y) (h0 : isX7 Y b) (μ : Mem) (h : nX7_isRowClosed_122 b p1 Q (SX7_isRowClosed_29 X Y b p1) μ) : G X Y 4 122 [(0, .ref (Y.ad b)), (1, .int p1)] [] μ := by
  unfold nX7_isRowClosed_122 at h
  refine g_iconst C (v := (0 : Int32)) dX7_isRowClosed_122 (by decide) ?_
  exact hr _ _ _ _ _ dX7_isRowClosed_123 rfl h
set_option maxRecDepth 20000 in
set_option maxHeartbeats 4000000 in
theorem tX7_isRowClosed_29 {X : XT} {Y : YT} {l0 : Launch} {b : Nat} {p1 : Int32} {Q : Int32 → Mem → Prop} (C : Cx X Y 4 cX7_isRowClosed RX7 WX7_isRowClosed (rmB 2 48) l0) (hr : RI X Y cX7_isRowClosed .boolean Q) (hI : YI Y) (h0 : isX7 Y b) (v2 : Int32) (v3 : Int32) (μ : Mem) (h : nX7_isRowClosed_29 b p1 Q (SX7_isRowClosed_29 X Y b p1) v2 v3 μ) : G X Y 4 29 [(0, .ref (Y.ad b)), (1, .int p1), (2, .int v2), (3, .int v3)] [] μ := by
  unfold nX7_isRowClosed_29 at h
  refine g_iload_n C 3 dX7_isRowClosed_29 rfl ?_
  refine g_aload_n C 0 dX7_isRowClosed_30 rfl ?_
  refine gf_RX7_138 C h0 dX7_isRowClosed_31 ?_
  refine g_icmp_ge C 100 dX7_isRowClosed_34 (by decide) (fun c5 => ?_) (fun c5 => ?_)
  · replace h := h.1 c5
    refine g_iload_n C 2 dX7_isRowClosed_100 rfl ?_
    refine g_if_eq C 122 dX7_isRowClosed_101 (by decide) (fun c6 => ?_) (fun c6 => ?_)
    · replace h := h.1 c6
      refine g_lv (lv2 := [(0, .ref (Y.ad b)), (1, .int p1)]) [0, 1] ?_ rfl
      exact tX7_isRowClosed_122 C hr hI h0 _ h
    · replace h := h.2 c6
      refine g_aload_n C 0 dX7_isRowClosed_104 rfl ?_
      refine g_sipush C (v := (240 : Int32)) dX7_isRowClosed_105 (by decide) ?_
      refine g_aload_n C 0 dX7_isRowClosed_108 rfl ?_
      refine gf_RX7_138 C h0 dX7_isRowClosed_109 ?_
      refine g_callVI C [.int ((240 : Int32)), .int (μ.1 b 37)] [] (ok_X7_isClosed hI h0 h) (cw_RX7_338 _) rfl dc_X7_isClosed ⟨Nat.le_of_ble_eq_true rfl, Nat.le_of_ble_eq_true rfl⟩ (isX7_lt h0) (isX7_sh h0) rfl rfl rfl rfl (Nat.le_of_ble_eq_true rfl) dX7_isRowClosed_112 (fun r8 m7 h => ?_)
      refine g_if_eq C 122 dX7_isRowClosed_115 (by decide) (fun c9 => ?_) (fun c9 => ?_)
      · replace h := h.1 c9
        refine g_lv (lv2 := [(0, .ref (Y.ad b)), (1, .int p1)]) [0, 1] ?_ rfl
        exact tX7_isRowClosed_122 C hr hI h0 _ h
      · replace h := h.2 c9
        refine g_iconst C (v := (1 : Int32)) dX7_isRowClosed_118 (by decide) ?_
        refine g_goto C 123 dX7_isRowClosed_119 (by decide) ?_
        exact hr _ _ _ _ _ dX7_isRowClosed_123 rfl h
  · replace h := h.2 c5
    refine g_aload_n C 0 dX7_isRowClosed_37 rfl ?_
    refine gf_RX7_65 C h0 dX7_isRowClosed_38 ?_
    refine g_iload_n C 3 dX7_isRowClosed_41 rfl ?_
    refine g_aload_n C 0 dX7_isRowClosed_42 rfl ?_
    refine gf_RX7_62 C h0 dX7_isRowClosed_43 ?_
    refine g_iload_n C 3 dX7_isRowClosed_46 rfl ?_
    refine g_iald C (isX7_row h0).1 (isX7_row h0).2 h.1 dX7_isRowClosed_47 ?_
    replace h := h.2
    refine g_iast C (isX7_pick h0).1 (isX7_pick h0).2 h.1 dX7_isRowClosed_48 ?_
    replace h := h.2
    refine g_iload_n C 2 dX7_isRowClosed_49 rfl ?_
    refine g_if_eq C 92 dX7_isRowClosed_50 (by decide) (fun c10 => ?_) (fun c10 => ?_)
    · replace h := h.1 c10
      refine g_lv (lv2 := [(0, .ref (Y.ad b)), (1, .int p1), (3, .int v3)]) [0, 1, 3] ?_ rfl
      exact tX7_isRowClosed_92 C hr hI h0 _ _ h
    · replace h := h.2 c10
      refine g_aload_n C 0 dX7_isRowClosed_53 rfl ?_
      refine gf_RX7_62 C h0 dX7_isRowClosed_54 ?_
      refine g_iload_n C 3 dX7_isRowClosed_57 rfl ?_
      refine g_iald C (isX7_row h0).1 (isX7_row h0).2 h.1 dX7_isRowClosed_58 ?_
      replace h := h.2
      refine g_bipush C (v := (-4 : Int32)) dX7_isRowClosed_59 (by decide) ?_
      refine g_icmp_ne C 88 dX7_isRowClosed_61 (by decide) (fun c11 => ?_) (fun c11 => ?_)
      · replace h := h.1 c11
        refine g_lv (lv2 := [(0, .ref (Y.ad b)), (1, .int p1), (3, .int v3)]) [0, 1, 3] ?_ rfl
        exact tX7_isRowClosed_88 C hr hI h0 _ _ h
      · replace h := h.2 c11
        refine g_aload_n C 0 dX7_isRowClosed_64 rfl ?_
        refine gf_RX7_127 C h0 dX7_isRowClosed_65 ?_
        refine g_aload_n C 0 dX7_isRowClosed_68 rfl ?_
        refine gf_RX7_49 C h0 dX7_isRowClosed_69 ?_
        refine g_sipush C (v := (316 : Int32)) dX7_isRowClosed_72 (by decide) ?_
        refine g_iald C (isX7_st h0).1 (isX7_st h0).2 h.1 dX7_isRowClosed_75 ?_
        replace h := h.2
        refine g_iload_n C 3 dX7_isRowClosed_76 rfl ?_
        refine g_iadd C dX7_isRowClosed_77 ?_
        refine g_bipush C (v := (7 : Int32)) dX7_isRowClosed_78 (by decide) ?_
        refine g_irem C dX7_isRowClosed_80 (by decide) ?_
        refine g_ishr C dX7_isRowClosed_81 ?_
        refine g_iconst C (v := (1 : Int32)) dX7_isRowClosed_82 (by decide) ?_
        refine g_iand C dX7_isRowClosed_83 ?_
        refine g_iconst C (v := (1 : Int32)) dX7_isRowClosed_84 (by decide) ?_
        refine g_icmp_ne C 92 dX7_isRowClosed_85 (by decide) (fun c12 => ?_) (fun c12 => ?_)
        · replace h := h.1 c12
          refine g_lv (lv2 := [(0, .ref (Y.ad b)), (1, .int p1), (3, .int v3)]) [0, 1, 3] ?_ rfl
          exact tX7_isRowClosed_92 C hr hI h0 _ _ h
        · replace h := h.2 c12
          refine g_lv (lv2 := [(0, .ref (Y.ad b)), (1, .int p1), (3, .int v3)]) [0, 1, 3] ?_ rfl
          exact tX7_isRowClosed_88 C hr hI h0 _ _ h
set_option maxRecDepth 20000 in
set_option maxHeartbeats 4000000 in
theorem ok_X7_isRowClosed {Y : YT} {l0 : Launch} {b : Nat} {p1 : Int32} {μ : Mem} {Q : Int32 → Mem → Prop} (hI : YI Y) (h0 : isX7 Y b) (h : PX7_isRowClosed b p1 μ Q) : MI l0 yX7_isRowClosed WX7_isRowClosed 2 48 Y [.ref (Y.ad b), .int p1] μ Q := by
  refine mI_of (ty := .boolean) (cc := cX7_isRowClosed) (maxL := 4) (by decide +kernel) rfl hI (Nat.le_of_ble_eq_true rfl) (fun X C hr => ?_)
  replace C : Cx X Y 4 cX7_isRowClosed RX7 WX7_isRowClosed (rmB 2 48) l0 := C
  refine g_lv (lv2 := [(0, .ref (Y.ad b)), (1, .int p1)]) [0, 1] ?_ rfl
  unfold PX7_isRowClosed at h
  replace h := h (SX7_isRowClosed_29 X Y b p1) (fun v2 v3 μ z => tX7_isRowClosed_29 C hr hI h0 v2 v3 μ z)
  refine g_iload_n C 1 dX7_isRowClosed_0 rfl ?_
  refine g_aload_n C 0 dX7_isRowClosed_1 rfl ?_
  refine gf_RX7_138 C h0 dX7_isRowClosed_2 ?_
  refine g_icmp_lt C 23 dX7_isRowClosed_5 (by decide) (fun c1 => ?_) (fun c1 => ?_)
  · replace h := h.1 c1
    refine g_iconst C (v := (0 : Int32)) dX7_isRowClosed_23 (by decide) ?_
    exact hr _ _ _ _ _ dX7_isRowClosed_24 rfl h
  · replace h := h.2 c1
    refine g_aload_n C 0 dX7_isRowClosed_8 rfl ?_
    refine gf_RX7_138 C h0 dX7_isRowClosed_9 ?_
    refine g_i2l C dX7_isRowClosed_12 ?_
    refine g_lconst C (v := (1 : Int64)) dX7_isRowClosed_13 (by decide) ?_
    refine g_ldc2 C (v := (5 : Int64)) (List.mem_cons_of_mem _ mL_RX7_203) dX7_isRowClosed_14 ?_
    refine g_callSI C [.long ((μ.1 b 37).toInt64), .long ((1 : Int64)), .long ((5 : Int64))] [] (ok_X7_in hI  h) (cw_RX7_134 _) rfl dc_X7_in ⟨Nat.le_of_ble_eq_true rfl, Nat.le_of_ble_eq_true rfl⟩ rfl (Nat.le_of_ble_eq_true rfl) dX7_isRowClosed_17 (fun r3 m2 h => ?_)
    refine g_if_ne C 25 dX7_isRowClosed_20 (by decide) (fun c4 => ?_) (fun c4 => ?_)
    · replace h := h.1 c4
      refine g_iconst C (v := (1 : Int32)) dX7_isRowClosed_25 (by decide) ?_
      refine g_istore_n C [(2, .int ((1 : Int32))), (0, .ref (Y.ad b)), (1, .int p1)] dX7_isRowClosed_26 (by decide) rfl ?_
      refine g_iconst C (v := (0 : Int32)) dX7_isRowClosed_27 (by decide) ?_
      refine g_istore_n C [(3, .int ((0 : Int32))), (2, .int ((1 : Int32))), (0, .ref (Y.ad b)), (1, .int p1)] dX7_isRowClosed_28 (by decide) rfl ?_
      refine g_lv (lv2 := [(0, .ref (Y.ad b)), (1, .int p1), (2, .int ((1 : Int32))), (3, .int ((0 : Int32)))]) [2, 3, 1, 0] ?_ rfl
      exact h
    · replace h := h.2 c4
      refine g_iconst C (v := (0 : Int32)) dX7_isRowClosed_23 (by decide) ?_
      exact hr _ _ _ _ _ dX7_isRowClosed_24 rfl h
def SX7_fedOf_5 (X : XT) (Y : YT) (b : Nat) (p1 : Int32) (p2 : Int32) : Int32 → Int32 → Mem → Prop := fun v3 v4 μ => G X Y 5 5 [(0, .ref (Y.ad b)), (1, .int p1), (2, .int p2), (3, .int v3), (4, .int v4)] [] μ
set_option maxRecDepth 20000 in
set_option maxHeartbeats 4000000 in
theorem tX7_fedOf_52 {X : XT} {Y : YT} {l0 : Launch} {b : Nat} {p1 : Int32} {p2 : Int32} {Q : Int32 → Mem → Prop} (C : Cx X Y 5 cX7_fedOf RX7 WX7_fedOf (rmB 0 0) l0) (hr : RI X Y cX7_fedOf .int Q) (hI : YI Y) (h0 : isX7 Y b) (v4 : Int32) (w0 : Int32) (w1 : Int32) (μ : Mem) (h : nX7_fedOf_52 b p1 p2 Q (SX7_fedOf_5 X Y b p1 p2) v4 w0 w1 μ) : G X Y 5 52 [(0, .ref (Y.ad b)), (1, .int p1), (2, .int p2), (4, .int v4)] [.int w0, .int w1] μ := by
  unfold nX7_fedOf_52 at h
  refine g_iadd C dX7_fedOf_52 ?_
  refine g_istore_n C [(3, .int (w1 + w0)), (0, .ref (Y.ad b)), (1, .int p1), (2, .int p2), (4, .int v4)] dX7_fedOf_53 (by decide) rfl ?_
  refine g_iinc C (v := v4 + 1) 4 [(4, .int (v4 + 1)), (3, .int (w1 + w0)), (0, .ref (Y.ad b)), (1, .int p1), (2, .int p2)] dX7_fedOf_54 rfl rfl (by decide) rfl ?_
  refine g_goto C 5 dX7_fedOf_57 (by decide) ?_
  refine g_lv (lv2 := [(0, .ref (Y.ad b)), (1, .int p1), (2, .int p2), (3, .int (w1 + w0)), (4, .int (v4 + 1))]) [2, 3, 4, 1, 0] ?_ rfl
  exact h
set_option maxRecDepth 20000 in
set_option maxHeartbeats 4000000 in
theorem tX7_fedOf_51 {X : XT} {Y : YT} {l0 : Launch} {b : Nat} {p1 : Int32} {p2 : Int32} {Q : Int32 → Mem → Prop} (C : Cx X Y 5 cX7_fedOf RX7 WX7_fedOf (rmB 0 0) l0) (hr : RI X Y cX7_fedOf .int Q) (hI : YI Y) (h0 : isX7 Y b) (v4 : Int32) (w0 : Int32) (μ : Mem) (h : nX7_fedOf_51 b p1 p2 Q (SX7_fedOf_5 X Y b p1 p2) v4 w0 μ) : G X Y 5 51 [(0, .ref (Y.ad b)), (1, .int p1), (2, .int p2), (4, .int v4)] [.int w0] μ := by
  unfold nX7_fedOf_51 at h
  refine g_iconst C (v := (0 : Int32)) dX7_fedOf_51 (by decide) ?_
  exact tX7_fedOf_52 C hr hI h0 _ _ _ _ h
set_option maxRecDepth 20000 in
set_option maxHeartbeats 4000000 in
theorem tX7_fedOf_5 {X : XT} {Y : YT} {l0 : Launch} {b : Nat} {p1 : Int32} {p2 : Int32} {Q : Int32 → Mem → Prop} (C : Cx X Y 5 cX7_fedOf RX7 WX7_fedOf (rmB 0 0) l0) (hr : RI X Y cX7_fedOf .int Q) (hI : YI Y) (h0 : isX7 Y b) (v3 : Int32) (v4 : Int32) (μ : Mem) (h : nX7_fedOf_5 b p1 p2 Q (SX7_fedOf_5 X Y b p1 p2) v3 v4 μ) : G X Y 5 5 [(0, .ref (Y.ad b)), (1, .int p1), (2, .int p2), (3, .int v3), (4, .int v4)] [] μ := by
  unfold nX7_fedOf_5 at h
  refine g_iload C 4 dX7_fedOf_5 rfl ?_
  refine g_iload_n C 2 dX7_fedOf_7 rfl ?_
  refine g_icmp_ge C 60 dX7_fedOf_8 (by decide) (fun c1 => ?_) (fun c1 => ?_)
  · replace h := h.1 c1
    refine g_iload_n C 3 dX7_fedOf_60 rfl ?_
    exact hr _ _ _ _ _ dX7_fedOf_61 rfl h
  · replace h := h.2 c1
    refine g_iload_n C 3 dX7_fedOf_11 rfl ?_
    refine g_aload_n C 0 dX7_fedOf_12 rfl ?_
    refine gf_RX7_65 C h0 dX7_fedOf_13 ?_
    refine g_iload C 4 dX7_fedOf_16 rfl ?_
    refine g_iald C (isX7_pick h0).1 (isX7_pick h0).2 h.1 dX7_fedOf_18 ?_
    replace h := h.2
    refine g_bipush C (v := (-4 : Int32)) dX7_fedOf_19 (by decide) ?_
    refine g_icmp_eq C 51 dX7_fedOf_21 (by decide) (fun c2 => ?_) (fun c2 => ?_)
    · replace h := h.1 c2
      refine g_lv (lv2 := [(0, .ref (Y.ad b)), (1, .int p1), (2, .int p2), (4, .int v4)]) [0, 1, 2, 4] ?_ rfl
      exact tX7_fedOf_51 C hr hI h0 _ _ _ h
    · replace h := h.2 c2
      refine g_aload_n C 0 dX7_fedOf_24 rfl ?_
      refine gf_RX7_13 C h0 dX7_fedOf_25 ?_
      refine g_iconst C (v := (5 : Int32)) dX7_fedOf_28 (by decide) ?_
      refine g_aload_n C 0 dX7_fedOf_29 rfl ?_
      refine gf_RX7_65 C h0 dX7_fedOf_30 ?_
      refine g_iload C 4 dX7_fedOf_33 rfl ?_
      refine g_iald C (isX7_pick h0).1 (isX7_pick h0).2 h.1 dX7_fedOf_35 ?_
      replace h := h.2
      refine g_imul C dX7_fedOf_36 ?_
      refine g_iconst C (v := (2 : Int32)) dX7_fedOf_37 (by decide) ?_
      refine g_iadd C dX7_fedOf_38 ?_
      refine g_iald C (isX7_supper h0).1 (isX7_supper h0).2 h.1 dX7_fedOf_39 ?_
      replace h := h.2
      refine g_iload_n C 1 dX7_fedOf_40 rfl ?_
      refine g_ishr C dX7_fedOf_41 ?_
      refine g_iconst C (v := (1 : Int32)) dX7_fedOf_42 (by decide) ?_
      refine g_iand C dX7_fedOf_43 ?_
      refine g_if_ne C 51 dX7_fedOf_44 (by decide) (fun c3 => ?_) (fun c3 => ?_)
      · replace h := h.1 c3
        refine g_lv (lv2 := [(0, .ref (Y.ad b)), (1, .int p1), (2, .int p2), (4, .int v4)]) [0, 1, 2, 4] ?_ rfl
        exact tX7_fedOf_51 C hr hI h0 _ _ _ h
      · replace h := h.2 c3
        refine g_iconst C (v := (1 : Int32)) dX7_fedOf_47 (by decide) ?_
        refine g_goto C 52 dX7_fedOf_48 (by decide) ?_
        refine g_lv (lv2 := [(0, .ref (Y.ad b)), (1, .int p1), (2, .int p2), (4, .int v4)]) [0, 1, 2, 4] ?_ rfl
        exact tX7_fedOf_52 C hr hI h0 _ _ _ _ h
set_option maxRecDepth 20000 in
set_option maxHeartbeats 4000000 in
theorem ok_X7_fedOf {Y : YT} {l0 : Launch} {b : Nat} {p1 : Int32} {p2 : Int32} {μ : Mem} {Q : Int32 → Mem → Prop} (hI : YI Y) (h0 : isX7 Y b) (h : PX7_fedOf b p1 p2 μ Q) : MI l0 yX7_fedOf WX7_fedOf 0 0 Y [.ref (Y.ad b), .int p1, .int p2] μ Q := by
  refine mI_of (ty := .int) (cc := cX7_fedOf) (maxL := 5) (by decide +kernel) rfl hI (Nat.le_of_ble_eq_true rfl) (fun X C hr => ?_)
  replace C : Cx X Y 5 cX7_fedOf RX7 WX7_fedOf (rmB 0 0) l0 := C
  refine g_lv (lv2 := [(0, .ref (Y.ad b)), (1, .int p1), (2, .int p2)]) [0, 1, 2] ?_ rfl
  unfold PX7_fedOf at h
  replace h := h (SX7_fedOf_5 X Y b p1 p2) (fun v3 v4 μ z => tX7_fedOf_5 C hr hI h0 v3 v4 μ z)
  refine g_iconst C (v := (0 : Int32)) dX7_fedOf_0 (by decide) ?_
  refine g_istore_n C [(3, .int ((0 : Int32))), (0, .ref (Y.ad b)), (1, .int p1), (2, .int p2)] dX7_fedOf_1 (by decide) rfl ?_
  refine g_iconst C (v := (0 : Int32)) dX7_fedOf_2 (by decide) ?_
  refine g_istore C [(4, .int ((0 : Int32))), (3, .int ((0 : Int32))), (0, .ref (Y.ad b)), (1, .int p1), (2, .int p2)] dX7_fedOf_3 (by decide) rfl ?_
  refine g_lv (lv2 := [(0, .ref (Y.ad b)), (1, .int p1), (2, .int p2), (3, .int ((0 : Int32))), (4, .int ((0 : Int32)))]) [2, 3, 4, 1, 0] ?_ rfl
  exact h
def SX7_row_36 (X : XT) (Y : YT) (b : Nat) (p1 : Int32) : Int32 → Int32 → Mem → Prop := fun v2 v3 μ => G X Y 4 36 [(0, .ref (Y.ad b)), (1, .int p1), (2, .int v2), (3, .int v3)] [] μ
set_option maxRecDepth 20000 in
set_option maxHeartbeats 4000000 in
theorem tX7_row_28 {X : XT} {Y : YT} {l0 : Launch} {b : Nat} {p1 : Int32} {Q : Int32 → Mem → Prop} (C : Cx X Y 4 cX7_row RX7 WX7_row (rmB 6 147) l0) (hr : RI X Y cX7_row .int Q) (hI : YI Y) (h0 : isX7 Y b) (μ : Mem) (h : nX7_row_28 b p1 Q (SX7_row_36 X Y b p1) μ) : G X Y 4 28 [(0, .ref (Y.ad b)), (1, .int p1)] [] μ := by
  unfold nX7_row_28 at h
  refine g_aload_n C 0 dX7_row_28 rfl ?_
  refine g_iconst C (v := (0 : Int32)) dX7_row_29 (by decide) ?_
  refine g_callVI C [.int ((0 : Int32))] [] (ok_X7_runs hI h0 h) (cw_RX7_343 _) rfl dc_X7_runs ⟨Nat.le_of_ble_eq_true rfl, Nat.le_of_ble_eq_true rfl⟩ (isX7_lt h0) (isX7_sh h0) rfl rfl rfl rfl (Nat.le_of_ble_eq_true rfl) dX7_row_30 (fun r8 m7 h => ?_)
  refine g_istore_n C [(2, .int r8), (0, .ref (Y.ad b)), (1, .int p1)] dX7_row_33 (by decide) rfl ?_
  refine g_iconst C (v := (0 : Int32)) dX7_row_34 (by decide) ?_
  refine g_istore_n C [(3, .int ((0 : Int32))), (2, .int r8), (0, .ref (Y.ad b)), (1, .int p1)] dX7_row_35 (by decide) rfl ?_
  refine g_lv (lv2 := [(0, .ref (Y.ad b)), (1, .int p1), (2, .int r8), (3, .int ((0 : Int32)))]) [2, 3, 1, 0] ?_ rfl
  exact h
set_option maxRecDepth 20000 in
set_option maxHeartbeats 4000000 in
theorem tX7_row_36 {X : XT} {Y : YT} {l0 : Launch} {b : Nat} {p1 : Int32} {Q : Int32 → Mem → Prop} (C : Cx X Y 4 cX7_row RX7 WX7_row (rmB 6 147) l0) (hr : RI X Y cX7_row .int Q) (hI : YI Y) (h0 : isX7 Y b) (v2 : Int32) (v3 : Int32) (μ : Mem) (h : nX7_row_36 b p1 Q (SX7_row_36 X Y b p1) v2 v3 μ) : G X Y 4 36 [(0, .ref (Y.ad b)), (1, .int p1), (2, .int v2), (3, .int v3)] [] μ := by
  unfold nX7_row_36 at h
  refine g_iload_n C 3 dX7_row_36 rfl ?_
  refine g_aload_n C 0 dX7_row_37 rfl ?_
  refine gf_RX7_138 C h0 dX7_row_38 ?_
  refine g_icmp_ge C 62 dX7_row_41 (by decide) (fun c9 => ?_) (fun c9 => ?_)
  · replace h := h.1 c9
    refine g_iload_n C 1 dX7_row_62 rfl ?_
    by_cases c10 : p1 = 0
    · refine g_tableIn C 100 dX7_row_63 (by rw [c10]; decide) (by rw [c10]; decide) (by rw [c10]; rfl) (by decide) ?_
      replace h := h.1 c10
      refine g_iload_n C 2 dX7_row_100 rfl ?_
      refine g_aload_n C 0 dX7_row_101 rfl ?_
      refine gf_RX7_138 C h0 dX7_row_102 ?_
      refine g_icmp_ge C 112 dX7_row_105 (by decide) (fun c11 => ?_) (fun c11 => ?_)
      · replace h := h.1 c11
        refine g_bipush C (v := (-4 : Int32)) dX7_row_112 (by decide) ?_
        exact hr _ _ _ _ _ dX7_row_114 rfl h
      · replace h := h.2 c11
        refine g_iload_n C 2 dX7_row_108 rfl ?_
        refine g_goto C 114 dX7_row_109 (by decide) ?_
        exact hr _ _ _ _ _ dX7_row_114 rfl h
    by_cases c12 : p1 = 1
    · refine g_tableIn C 115 dX7_row_63 (by rw [c12]; decide) (by rw [c12]; decide) (by rw [c12]; rfl) (by decide) ?_
      replace h := h.2.1 c12
      refine g_aload_n C 0 dX7_row_115 rfl ?_
      refine gf_RX7_332 C h0 dX7_row_116 ?_
      exact hr _ _ _ _ _ dX7_row_119 rfl h
    by_cases c13 : p1 = 2
    · refine g_tableIn C 120 dX7_row_63 (by rw [c13]; decide) (by rw [c13]; decide) (by rw [c13]; rfl) (by decide) ?_
      replace h := h.2.2.1 c13
      refine g_aload_n C 0 dX7_row_120 rfl ?_
      refine gf_RX7_49 C h0 dX7_row_121 ?_
      refine g_sipush C (v := (273 : Int32)) dX7_row_124 (by decide) ?_
      refine g_iald C (isX7_st h0).1 (isX7_st h0).2 h.1 dX7_row_127 ?_
      replace h := h.2
      exact hr _ _ _ _ _ dX7_row_128 rfl h
    by_cases c14 : p1 = 3
    · refine g_tableIn C 129 dX7_row_63 (by rw [c14]; decide) (by rw [c14]; decide) (by rw [c14]; rfl) (by decide) ?_
      replace h := h.2.2.2.1 c14
      refine g_aload_n C 0 dX7_row_129 rfl ?_
      refine gf_RX7_49 C h0 dX7_row_130 ?_
      refine g_sipush C (v := (274 : Int32)) dX7_row_133 (by decide) ?_
      refine g_iald C (isX7_st h0).1 (isX7_st h0).2 h.1 dX7_row_136 ?_
      replace h := h.2
      exact hr _ _ _ _ _ dX7_row_137 rfl h
    by_cases c15 : p1 = 4
    · refine g_tableIn C 138 dX7_row_63 (by rw [c15]; decide) (by rw [c15]; decide) (by rw [c15]; rfl) (by decide) ?_
      replace h := h.2.2.2.2.1 c15
      refine g_aload_n C 0 dX7_row_138 rfl ?_
      refine gf_RX7_49 C h0 dX7_row_139 ?_
      refine g_sipush C (v := (275 : Int32)) dX7_row_142 (by decide) ?_
      refine g_iald C (isX7_st h0).1 (isX7_st h0).2 h.1 dX7_row_145 ?_
      replace h := h.2
      exact hr _ _ _ _ _ dX7_row_146 rfl h
    by_cases c16 : p1 = 5
    · refine g_tableIn C 147 dX7_row_63 (by rw [c16]; decide) (by rw [c16]; decide) (by rw [c16]; rfl) (by decide) ?_
      replace h := h.2.2.2.2.2.1 c16
      refine g_aload_n C 0 dX7_row_147 rfl ?_
      refine g_iload_n C 2 dX7_row_148 rfl ?_
      refine g_callVI C [.int v2] [] (ok_X7_isRowClosed hI h0 h) (cw_RX7_346 _) rfl dc_X7_isRowClosed ⟨Nat.le_of_ble_eq_true rfl, Nat.le_of_ble_eq_true rfl⟩ (isX7_lt h0) (isX7_sh h0) rfl rfl rfl rfl (Nat.le_of_ble_eq_true rfl) dX7_row_149 (fun r18 m17 h => ?_)
      refine g_callSI C [.int r18] [] (ok_X7_flag hI  h) (cw_RX7_270 _) rfl dc_X7_flag ⟨Nat.le_of_ble_eq_true rfl, Nat.le_of_ble_eq_true rfl⟩ rfl (Nat.le_of_ble_eq_true rfl) dX7_row_152 (fun r20 m19 h => ?_)
      exact hr _ _ _ _ _ dX7_row_155 rfl h
    have c23 : p1.toInt < 0 ∨ 5 < p1.toInt := by
      have z := (And.intro True.intro ⟨lv_neT (a := 0) c10 rfl, lv_neT (a := 1) c12 rfl, lv_neT (a := 2) c13 rfl, lv_neT (a := 3) c14 rfl, lv_neT (a := 4) c15 rfl, lv_neT (a := 5) c16 rfl⟩ : True ∧ ¬ p1.toInt = 0 ∧ ¬ p1.toInt = 1 ∧ ¬ p1.toInt = 2 ∧ ¬ p1.toInt = 3 ∧ ¬ p1.toInt = 4 ∧ ¬ p1.toInt = 5)
      omega
    refine g_tableOut C 156 dX7_row_63 c23 (by decide) ?_
    replace h := h.2.2.2.2.2.2 c23
    refine g_aload_n C 0 dX7_row_156 rfl ?_
    refine g_iload_n C 1 dX7_row_157 rfl ?_
    refine g_bipush C (v := (10 : Int32)) dX7_row_158 (by decide) ?_
    refine g_isub C dX7_row_160 ?_
    refine g_iload_n C 2 dX7_row_161 rfl ?_
    refine g_callVI C [.int (p1 - ((10 : Int32))), .int v2] [] (ok_X7_fedOf hI h0 h) (cw_RX7_349 _) rfl dc_X7_fedOf ⟨Nat.le_of_ble_eq_true rfl, Nat.le_of_ble_eq_true rfl⟩ (isX7_lt h0) (isX7_sh h0) rfl rfl rfl rfl (Nat.le_of_ble_eq_true rfl) dX7_row_162 (fun r22 m21 h => ?_)
    exact hr _ _ _ _ _ dX7_row_165 rfl h
  · replace h := h.2 c9
    refine g_aload_n C 0 dX7_row_44 rfl ?_
    refine gf_RX7_65 C h0 dX7_row_45 ?_
    refine g_iload_n C 3 dX7_row_48 rfl ?_
    refine g_aload_n C 0 dX7_row_49 rfl ?_
    refine gf_RX7_62 C h0 dX7_row_50 ?_
    refine g_iload_n C 3 dX7_row_53 rfl ?_
    refine g_iald C (isX7_row h0).1 (isX7_row h0).2 h.1 dX7_row_54 ?_
    replace h := h.2
    refine g_iast C (isX7_pick h0).1 (isX7_pick h0).2 h.1 dX7_row_55 ?_
    replace h := h.2
    refine g_iinc C (v := v3 + 1) 3 [(3, .int (v3 + 1)), (0, .ref (Y.ad b)), (1, .int p1), (2, .int v2)] dX7_row_56 rfl rfl (by decide) rfl ?_
    refine g_goto C 36 dX7_row_59 (by decide) ?_
    refine g_lv (lv2 := [(0, .ref (Y.ad b)), (1, .int p1), (2, .int v2), (3, .int (v3 + 1))]) [1, 2, 3, 0] ?_ rfl
    exact h
set_option maxRecDepth 20000 in
set_option maxHeartbeats 4000000 in
theorem ok_X7_row {Y : YT} {l0 : Launch} {b : Nat} {p1 : Int32} {μ : Mem} {Q : Int32 → Mem → Prop} (hI : YI Y) (h0 : isX7 Y b) (h : PX7_row b p1 μ Q) : MI l0 yX7_row WX7_row 6 147 Y [.ref (Y.ad b), .int p1] μ Q := by
  refine mI_of (ty := .int) (cc := cX7_row) (maxL := 4) (by decide +kernel) rfl hI (Nat.le_of_ble_eq_true rfl) (fun X C hr => ?_)
  replace C : Cx X Y 4 cX7_row RX7 WX7_row (rmB 6 147) l0 := C
  refine g_lv (lv2 := [(0, .ref (Y.ad b)), (1, .int p1)]) [0, 1] ?_ rfl
  unfold PX7_row at h
  replace h := h (SX7_row_36 X Y b p1) (fun v2 v3 μ z => tX7_row_36 C hr hI h0 v2 v3 μ z)
  refine g_iload_n C 1 dX7_row_0 rfl ?_
  refine g_i2l C dX7_row_1 ?_
  refine g_lconst C (v := (0 : Int64)) dX7_row_2 (by decide) ?_
  refine g_ldc2 C (v := (5 : Int64)) (List.mem_cons_of_mem _ mL_RX7_203) dX7_row_3 ?_
  refine g_callSI C [.long p1.toInt64, .long ((0 : Int64)), .long ((5 : Int64))] [] (ok_X7_in hI  h) (cw_RX7_134 _) rfl dc_X7_in ⟨Nat.le_of_ble_eq_true rfl, Nat.le_of_ble_eq_true rfl⟩ rfl (Nat.le_of_ble_eq_true rfl) dX7_row_6 (fun r2 m1 h => ?_)
  refine g_if_ne C 28 dX7_row_9 (by decide) (fun c3 => ?_) (fun c3 => ?_)
  · replace h := h.1 c3
    exact tX7_row_28 C hr hI h0 _ h
  · replace h := h.2 c3
    refine g_iload_n C 1 dX7_row_12 rfl ?_
    refine g_i2l C dX7_row_13 ?_
    refine g_ldc2 C (v := (10 : Int64)) (List.mem_cons_of_mem _ mL_RX7_227) dX7_row_14 ?_
    refine g_ldc2 C (v := (13 : Int64)) (List.mem_cons_of_mem _ mL_RX7_341) dX7_row_17 ?_
    refine g_callSI C [.long p1.toInt64, .long ((10 : Int64)), .long ((13 : Int64))] [] (ok_X7_in hI  h) (cw_RX7_134 _) rfl dc_X7_in ⟨Nat.le_of_ble_eq_true rfl, Nat.le_of_ble_eq_true rfl⟩ rfl (Nat.le_of_ble_eq_true rfl) dX7_row_20 (fun r5 m4 h => ?_)
    refine g_if_ne C 28 dX7_row_23 (by decide) (fun c6 => ?_) (fun c6 => ?_)
    · replace h := h.1 c6
      exact tX7_row_28 C hr hI h0 _ h
    · replace h := h.2 c6
      refine g_iconst C (v := (-1 : Int32)) dX7_row_26 (by decide) ?_
      exact hr _ _ _ _ _ dX7_row_27 rfl h
def SX7_told_5 (X : XT) (Y : YT) (p0 : Int32) (p1 : Int32) (p2 : Int32) : Int32 → Int32 → Mem → Prop := fun v3 v4 μ => G X Y 6 5 [(0, .int p0), (1, .int p1), (2, .int p2), (3, .int v3), (4, .int v4)] [] μ
set_option maxRecDepth 20000 in
set_option maxHeartbeats 4000000 in
theorem tX7_told_5 {X : XT} {Y : YT} {l0 : Launch} {p0 : Int32} {p1 : Int32} {p2 : Int32} {Q : Int32 → Mem → Prop} (C : Cx X Y 6 cX7_told RX7 WX7_told (rmB 0 0) l0) (hr : RI X Y cX7_told .int Q) (hI : YI Y) (v3 : Int32) (v4 : Int32) (μ : Mem) (h : nX7_told_5 p0 p1 p2 Q (SX7_told_5 X Y p0 p1 p2) v3 v4 μ) : G X Y 6 5 [(0, .int p0), (1, .int p1), (2, .int p2), (3, .int v3), (4, .int v4)] [] μ := by
  unfold nX7_told_5 at h
  refine g_iload C 4 dX7_told_5 rfl ?_
  refine g_if_eq C 26 dX7_told_7 (by decide) (fun c1 => ?_) (fun c1 => ?_)
  · replace h := h.1 c1
    refine g_iload_n C 2 dX7_told_26 rfl ?_
    refine g_if_ne C 36 dX7_told_27 (by decide) (fun c2 => ?_) (fun c2 => ?_)
    · replace h := h.1 c2
      refine g_iload_n C 1 dX7_told_36 rfl ?_
      refine g_iload_n C 3 dX7_told_37 rfl ?_
      refine g_idiv C dX7_told_38 h.1 ?_
      replace h := h.2
      exact hr _ _ _ _ _ dX7_told_39 rfl h
    · replace h := h.2 c2
      refine g_iload_n C 0 dX7_told_30 rfl ?_
      refine g_iload_n C 3 dX7_told_31 rfl ?_
      refine g_idiv C dX7_told_32 h.1 ?_
      replace h := h.2
      refine g_goto C 39 dX7_told_33 (by decide) ?_
      exact hr _ _ _ _ _ dX7_told_39 rfl h
  · replace h := h.2 c1
    refine g_iload_n C 3 dX7_told_10 rfl ?_
    refine g_iload C 4 dX7_told_11 rfl ?_
    refine g_irem C dX7_told_13 h.1 ?_
    replace h := h.2
    refine g_istore C [(5, .int (v3 - v3 / v4 * v4)), (0, .int p0), (1, .int p1), (2, .int p2), (3, .int v3), (4, .int v4)] dX7_told_14 (by decide) rfl ?_
    refine g_iload C 5 dX7_told_16 rfl ?_
    refine g_istore_n C [(3, .int v4), (5, .int (v3 - v3 / v4 * v4)), (0, .int p0), (1, .int p1), (2, .int p2), (4, .int v4)] dX7_told_18 (by decide) rfl ?_
    refine g_iload C 1 dX7_told_19 rfl ?_
    refine g_istore C [(4, .int (v3 - v3 / v4 * v4)), (3, .int v4), (5, .int (v3 - v3 / v4 * v4)), (0, .int p0), (1, .int p1), (2, .int p2)] dX7_told_21 (by decide) rfl ?_
    refine g_goto C 5 dX7_told_23 (by decide) ?_
    refine g_lv (lv2 := [(0, .int p0), (1, .int p1), (2, .int p2), (3, .int v4), (4, .int (v3 - v3 / v4 * v4))]) [3, 4, 5, 1, 0] ?_ rfl
    exact h
set_option maxRecDepth 20000 in
set_option maxHeartbeats 4000000 in
theorem ok_X7_told {Y : YT} {l0 : Launch} {p0 : Int32} {p1 : Int32} {p2 : Int32} {μ : Mem} {Q : Int32 → Mem → Prop} (hI : YI Y) (h : PX7_told p0 p1 p2 μ Q) : MI l0 yX7_told WX7_told 0 0 Y [.int p0, .int p1, .int p2] μ Q := by
  refine mI_of (ty := .int) (cc := cX7_told) (maxL := 6) (by decide +kernel) rfl hI (Nat.le_of_ble_eq_true rfl) (fun X C hr => ?_)
  replace C : Cx X Y 6 cX7_told RX7 WX7_told (rmB 0 0) l0 := C
  refine g_lv (lv2 := [(0, .int p0), (1, .int p1), (2, .int p2)]) [0, 1, 2] ?_ rfl
  unfold PX7_told at h
  replace h := h (SX7_told_5 X Y p0 p1 p2) (fun v3 v4 μ z => tX7_told_5 C hr hI  v3 v4 μ z)
  refine g_iload_n C 1 dX7_told_0 rfl ?_
  refine g_istore_n C [(3, .int p1), (0, .int p0), (1, .int p1), (2, .int p2)] dX7_told_1 (by decide) rfl ?_
  refine g_iload_n C 1 dX7_told_2 rfl ?_
  refine g_istore C [(4, .int p0), (3, .int p1), (0, .int p0), (1, .int p1), (2, .int p2)] dX7_told_3 (by decide) rfl ?_
  refine g_lv (lv2 := [(0, .int p0), (1, .int p1), (2, .int p2), (3, .int p1), (4, .int p0)]) [2, 3, 4, 1, 0] ?_ rfl
  exact h
def SX7_bearsNow_4 (X : XT) (Y : YT) (b : Nat) : Int32 → Int32 → Mem → Prop := fun v1 v2 μ => G X Y 6 4 [(0, .ref (Y.ad b)), (1, .int v1), (2, .int v2)] [] μ
def SX7_bearsNow_19 (X : XT) (Y : YT) (b : Nat) : Int32 → Int32 → Int32 → Int32 → Mem → Prop := fun v1 v2 v3 v4 μ => G X Y 6 19 [(0, .ref (Y.ad b)), (1, .int v1), (2, .int v2), (3, .int v3), (4, .int v4)] [] μ
set_option maxRecDepth 20000 in
set_option maxHeartbeats 4000000 in
theorem tX7_bearsNow_4 {X : XT} {Y : YT} {l0 : Launch} {b : Nat} {Q : Int32 → Mem → Prop} (C : Cx X Y 6 cX7_bearsNow RX7 WX7_bearsNow (rmB 6 147) l0) (hr : RI X Y cX7_bearsNow .int Q) (hI : YI Y) (h0 : isX7 Y b) (v1 : Int32) (v2 : Int32) (μ : Mem) (h : nX7_bearsNow_4 b Q (SX7_bearsNow_4 X Y b) (SX7_bearsNow_19 X Y b) v1 v2 μ) : G X Y 6 4 [(0, .ref (Y.ad b)), (1, .int v1), (2, .int v2)] [] μ := by
  unfold nX7_bearsNow_4 at h
  refine g_iload_n C 2 dX7_bearsNow_4 rfl ?_
  refine g_iconst C (v := (1 : Int32)) dX7_bearsNow_5 (by decide) ?_
  refine g_aload_n C 0 dX7_bearsNow_6 rfl ?_
  refine gf_RX7_138 C h0 dX7_bearsNow_7 ?_
  refine g_ishl C dX7_bearsNow_10 ?_
  refine g_icmp_ge C 123 dX7_bearsNow_11 (by decide) (fun c1 => ?_) (fun c1 => ?_)
  · replace h := h.1 c1
    refine g_iload_n C 1 dX7_bearsNow_123 rfl ?_
    exact hr _ _ _ _ _ dX7_bearsNow_124 rfl h
  · replace h := h.2 c1
    refine g_iconst C (v := (1 : Int32)) dX7_bearsNow_14 (by decide) ?_
    refine g_istore_n C [(3, .int ((1 : Int32))), (0, .ref (Y.ad b)), (1, .int v1), (2, .int v2)] dX7_bearsNow_15 (by decide) rfl ?_
    refine g_iconst C (v := (0 : Int32)) dX7_bearsNow_16 (by decide) ?_
    refine g_istore C [(4, .int ((0 : Int32))), (3, .int ((1 : Int32))), (0, .ref (Y.ad b)), (1, .int v1), (2, .int v2)] dX7_bearsNow_17 (by decide) rfl ?_
    refine g_lv (lv2 := [(0, .ref (Y.ad b)), (1, .int v1), (2, .int v2), (3, .int ((1 : Int32))), (4, .int ((0 : Int32)))]) [2, 3, 4, 1, 0] ?_ rfl
    exact h
set_option maxRecDepth 20000 in
set_option maxHeartbeats 4000000 in
theorem tX7_bearsNow_85 {X : XT} {Y : YT} {l0 : Launch} {b : Nat} {Q : Int32 → Mem → Prop} (C : Cx X Y 6 cX7_bearsNow RX7 WX7_bearsNow (rmB 6 147) l0) (hr : RI X Y cX7_bearsNow .int Q) (hI : YI Y) (h0 : isX7 Y b) (v1 : Int32) (v2 : Int32) (v4 : Int32) (w0 : Int32) (w1 : Int32) (μ : Mem) (h : nX7_bearsNow_85 b Q (SX7_bearsNow_4 X Y b) (SX7_bearsNow_19 X Y b) v1 v2 v4 w0 w1 μ) : G X Y 6 85 [(0, .ref (Y.ad b)), (1, .int v1), (2, .int v2), (4, .int v4)] [.int w0, .int w1] μ := by
  unfold nX7_bearsNow_85 at h
  refine g_imul C dX7_bearsNow_85 ?_
  refine g_istore_n C [(3, .int (w1 * w0)), (0, .ref (Y.ad b)), (1, .int v1), (2, .int v2), (4, .int v4)] dX7_bearsNow_86 (by decide) rfl ?_
  refine g_iinc C (v := v4 + 1) 4 [(4, .int (v4 + 1)), (3, .int (w1 * w0)), (0, .ref (Y.ad b)), (1, .int v1), (2, .int v2)] dX7_bearsNow_87 rfl rfl (by decide) rfl ?_
  refine g_goto C 19 dX7_bearsNow_90 (by decide) ?_
  refine g_lv (lv2 := [(0, .ref (Y.ad b)), (1, .int v1), (2, .int v2), (3, .int (w1 * w0)), (4, .int (v4 + 1))]) [2, 3, 4, 1, 0] ?_ rfl
  exact h
set_option maxRecDepth 20000 in
set_option maxHeartbeats 4000000 in
theorem tX7_bearsNow_63 {X : XT} {Y : YT} {l0 : Launch} {b : Nat} {Q : Int32 → Mem → Prop} (C : Cx X Y 6 cX7_bearsNow RX7 WX7_bearsNow (rmB 6 147) l0) (hr : RI X Y cX7_bearsNow .int Q) (hI : YI Y) (h0 : isX7 Y b) (v1 : Int32) (v2 : Int32) (v3 : Int32) (v4 : Int32) (w0 : Int32) (μ : Mem) (h : nX7_bearsNow_63 b Q (SX7_bearsNow_4 X Y b) (SX7_bearsNow_19 X Y b) v1 v2 v3 v4 w0 μ) : G X Y 6 63 [(0, .ref (Y.ad b)), (1, .int v1), (2, .int v2), (3, .int v3), (4, .int v4)] [.int w0] μ := by
  unfold nX7_bearsNow_63 at h
  refine g_istore C [(5, .int w0), (0, .ref (Y.ad b)), (1, .int v1), (2, .int v2), (3, .int v3), (4, .int v4)] dX7_bearsNow_63 (by decide) rfl ?_
  refine g_iload_n C 4 dX7_bearsNow_65 rfl ?_
  refine g_iload_n C 3 dX7_bearsNow_66 rfl ?_
  refine g_iload C 5 dX7_bearsNow_67 rfl ?_
  refine g_ishr C dX7_bearsNow_69 ?_
  refine g_iconst C (v := (1 : Int32)) dX7_bearsNow_70 (by decide) ?_
  refine g_iand C dX7_bearsNow_71 ?_
  refine g_iconst C (v := (1 : Int32)) dX7_bearsNow_72 (by decide) ?_
  refine g_icmp_ne C 81 dX7_bearsNow_73 (by decide) (fun c8 => ?_) (fun c8 => ?_)
  · replace h := h.1 c8
    refine g_iconst C (v := (4 : Int32)) dX7_bearsNow_81 (by decide) ?_
    refine g_iload C 0 dX7_bearsNow_82 rfl ?_
    refine g_isub C dX7_bearsNow_84 ?_
    refine g_lv (lv2 := [(0, .ref (Y.ad b)), (1, .int v1), (2, .int v2), (4, .int v4)]) [1, 2, 3, 5] ?_ rfl
    exact tX7_bearsNow_85 C hr hI h0 _ _ _ _ _ _ h
  · replace h := h.2 c8
    refine g_iload C 0 dX7_bearsNow_76 rfl ?_
    refine g_goto C 85 dX7_bearsNow_78 (by decide) ?_
    refine g_lv (lv2 := [(0, .ref (Y.ad b)), (1, .int v1), (2, .int v2), (4, .int v4)]) [1, 2, 3, 5] ?_ rfl
    exact tX7_bearsNow_85 C hr hI h0 _ _ _ _ _ _ h
set_option maxRecDepth 20000 in
set_option maxHeartbeats 4000000 in
theorem tX7_bearsNow_115 {X : XT} {Y : YT} {l0 : Launch} {b : Nat} {Q : Int32 → Mem → Prop} (C : Cx X Y 6 cX7_bearsNow RX7 WX7_bearsNow (rmB 6 147) l0) (hr : RI X Y cX7_bearsNow .int Q) (hI : YI Y) (h0 : isX7 Y b) (v2 : Int32) (w0 : Int32) (w1 : Int32) (μ : Mem) (h : nX7_bearsNow_115 b Q (SX7_bearsNow_4 X Y b) (SX7_bearsNow_19 X Y b) v2 w0 w1 μ) : G X Y 6 115 [(0, .ref (Y.ad b)), (2, .int v2)] [.int w0, .int w1] μ := by
  unfold nX7_bearsNow_115 at h
  refine g_iadd C dX7_bearsNow_115 ?_
  refine g_istore_n C [(1, .int (w1 + w0)), (0, .ref (Y.ad b)), (2, .int v2)] dX7_bearsNow_116 (by decide) rfl ?_
  refine g_iinc C (v := v2 + 1) 2 [(2, .int (v2 + 1)), (1, .int (w1 + w0)), (0, .ref (Y.ad b))] dX7_bearsNow_117 rfl rfl (by decide) rfl ?_
  refine g_goto C 4 dX7_bearsNow_120 (by decide) ?_
  refine g_lv (lv2 := [(0, .ref (Y.ad b)), (1, .int (w1 + w0)), (2, .int (v2 + 1))]) [2, 1, 0] ?_ rfl
  exact h
set_option maxRecDepth 20000 in
set_option maxHeartbeats 4000000 in
theorem tX7_bearsNow_114 {X : XT} {Y : YT} {l0 : Launch} {b : Nat} {Q : Int32 → Mem → Prop} (C : Cx X Y 6 cX7_bearsNow RX7 WX7_bearsNow (rmB 6 147) l0) (hr : RI X Y cX7_bearsNow .int Q) (hI : YI Y) (h0 : isX7 Y b) (v2 : Int32) (w0 : Int32) (μ : Mem) (h : nX7_bearsNow_114 b Q (SX7_bearsNow_4 X Y b) (SX7_bearsNow_19 X Y b) v2 w0 μ) : G X Y 6 114 [(0, .ref (Y.ad b)), (2, .int v2)] [.int w0] μ := by
  unfold nX7_bearsNow_114 at h
  refine g_iconst C (v := (0 : Int32)) dX7_bearsNow_114 (by decide) ?_
  exact tX7_bearsNow_115 C hr hI h0 _ _ _ _ h
set_option maxRecDepth 20000 in
set_option maxHeartbeats 4000000 in
theorem tX7_bearsNow_19 {X : XT} {Y : YT} {l0 : Launch} {b : Nat} {Q : Int32 → Mem → Prop} (C : Cx X Y 6 cX7_bearsNow RX7 WX7_bearsNow (rmB 6 147) l0) (hr : RI X Y cX7_bearsNow .int Q) (hI : YI Y) (h0 : isX7 Y b) (v1 : Int32) (v2 : Int32) (v3 : Int32) (v4 : Int32) (μ : Mem) (h : nX7_bearsNow_19 b Q (SX7_bearsNow_4 X Y b) (SX7_bearsNow_19 X Y b) v1 v2 v3 v4 μ) : G X Y 6 19 [(0, .ref (Y.ad b)), (1, .int v1), (2, .int v2), (3, .int v3), (4, .int v4)] [] μ := by
  unfold nX7_bearsNow_19 at h
  refine g_iload C 4 dX7_bearsNow_19 rfl ?_
  refine g_aload_n C 0 dX7_bearsNow_21 rfl ?_
  refine gf_RX7_138 C h0 dX7_bearsNow_22 ?_
  refine g_icmp_ge C 93 dX7_bearsNow_25 (by decide) (fun c2 => ?_) (fun c2 => ?_)
  · replace h := h.1 c2
    refine g_iload_n C 1 dX7_bearsNow_93 rfl ?_
    refine g_iload_n C 3 dX7_bearsNow_94 rfl ?_
    refine g_if_le C 114 dX7_bearsNow_95 (by decide) (fun c3 => ?_) (fun c3 => ?_)
    · replace h := h.1 c3
      refine g_lv (lv2 := [(0, .ref (Y.ad b)), (2, .int v2)]) [0, 2] ?_ rfl
      exact tX7_bearsNow_114 C hr hI h0 _ _ _ h
    · replace h := h.2 c3
      refine g_aload_n C 0 dX7_bearsNow_98 rfl ?_
      refine g_iload_n C 2 dX7_bearsNow_99 rfl ?_
      refine g_callVI C [.int v2] [.int v1] (ok_X7_runs hI h0 h) (cw_RX7_343 _) rfl dc_X7_runs ⟨Nat.le_of_ble_eq_true rfl, Nat.le_of_ble_eq_true rfl⟩ (isX7_lt h0) (isX7_sh h0) rfl rfl rfl rfl (Nat.le_of_ble_eq_true rfl) dX7_bearsNow_100 (fun r5 m4 h => ?_)
      refine g_aload_n C 0 dX7_bearsNow_103 rfl ?_
      refine gf_RX7_138 C h0 dX7_bearsNow_104 ?_
      refine g_icmp_ne C 114 dX7_bearsNow_107 (by decide) (fun c6 => ?_) (fun c6 => ?_)
      · replace h := h.1 c6
        refine g_lv (lv2 := [(0, .ref (Y.ad b)), (2, .int v2)]) [0, 2] ?_ rfl
        exact tX7_bearsNow_114 C hr hI h0 _ _ _ h
      · replace h := h.2 c6
        refine g_iload_n C 3 dX7_bearsNow_110 rfl ?_
        refine g_goto C 115 dX7_bearsNow_111 (by decide) ?_
        refine g_lv (lv2 := [(0, .ref (Y.ad b)), (2, .int v2)]) [0, 2] ?_ rfl
        exact tX7_bearsNow_115 C hr hI h0 _ _ _ _ h
  · replace h := h.2 c2
    refine g_aload_n C 0 dX7_bearsNow_28 rfl ?_
    refine gf_RX7_62 C h0 dX7_bearsNow_29 ?_
    refine g_iload C 4 dX7_bearsNow_32 rfl ?_
    refine g_iald C (isX7_row h0).1 (isX7_row h0).2 h.1 dX7_bearsNow_34 ?_
    replace h := h.2
    refine g_bipush C (v := (-4 : Int32)) dX7_bearsNow_35 (by decide) ?_
    refine g_icmp_ne C 44 dX7_bearsNow_37 (by decide) (fun c7 => ?_) (fun c7 => ?_)
    · replace h := h.1 c7
      refine g_aload_n C 0 dX7_bearsNow_44 rfl ?_
      refine gf_RX7_22 C h0 dX7_bearsNow_45 ?_
      refine g_aload_n C 0 dX7_bearsNow_48 rfl ?_
      refine gf_RX7_49 C h0 dX7_bearsNow_49 ?_
      refine g_sipush C (v := (316 : Int32)) dX7_bearsNow_52 (by decide) ?_
      refine g_iald C (isX7_st h0).1 (isX7_st h0).2 h.1 dX7_bearsNow_55 ?_
      replace h := h.2
      refine g_iload C 4 dX7_bearsNow_56 rfl ?_
      refine g_iadd C dX7_bearsNow_58 ?_
      refine g_bipush C (v := (7 : Int32)) dX7_bearsNow_59 (by decide) ?_
      refine g_irem C dX7_bearsNow_61 (by decide) ?_
      refine g_iald C (isX7_chance h0).1 (isX7_chance h0).2 h.1 dX7_bearsNow_62 ?_
      replace h := h.2
      exact tX7_bearsNow_63 C hr hI h0 _ _ _ _ _ _ h
    · replace h := h.2 c7
      refine g_iconst C (v := (0 : Int32)) dX7_bearsNow_40 (by decide) ?_
      refine g_goto C 63 dX7_bearsNow_41 (by decide) ?_
      exact tX7_bearsNow_63 C hr hI h0 _ _ _ _ _ _ h
set_option maxRecDepth 20000 in
set_option maxHeartbeats 4000000 in
theorem ok_X7_bearsNow {Y : YT} {l0 : Launch} {b : Nat} {μ : Mem} {Q : Int32 → Mem → Prop} (hI : YI Y) (h0 : isX7 Y b) (h : PX7_bearsNow b μ Q) : MI l0 yX7_bearsNow WX7_bearsNow 6 147 Y [.ref (Y.ad b)] μ Q := by
  refine mI_of (ty := .int) (cc := cX7_bearsNow) (maxL := 6) (by decide +kernel) rfl hI (Nat.le_of_ble_eq_true rfl) (fun X C hr => ?_)
  replace C : Cx X Y 6 cX7_bearsNow RX7 WX7_bearsNow (rmB 6 147) l0 := C
  refine g_lv (lv2 := [(0, .ref (Y.ad b))]) [0] ?_ rfl
  unfold PX7_bearsNow at h
  replace h := h (SX7_bearsNow_4 X Y b) (SX7_bearsNow_19 X Y b) (fun v1 v2 μ z => tX7_bearsNow_4 C hr hI h0 v1 v2 μ z) (fun v1 v2 v3 v4 μ z => tX7_bearsNow_19 C hr hI h0 v1 v2 v3 v4 μ z)
  refine g_iconst C (v := (0 : Int32)) dX7_bearsNow_0 (by decide) ?_
  refine g_istore_n C [(1, .int ((0 : Int32))), (0, .ref (Y.ad b))] dX7_bearsNow_1 (by decide) rfl ?_
  refine g_iconst C (v := (0 : Int32)) dX7_bearsNow_2 (by decide) ?_
  refine g_istore_n C [(2, .int ((0 : Int32))), (1, .int ((0 : Int32))), (0, .ref (Y.ad b))] dX7_bearsNow_3 (by decide) rfl ?_
  refine g_lv (lv2 := [(0, .ref (Y.ad b)), (1, .int ((0 : Int32))), (2, .int ((0 : Int32)))]) [2, 1, 0] ?_ rfl
  exact h
set_option maxRecDepth 20000 in
set_option maxHeartbeats 4000000 in
theorem ok_X7_bears {Y : YT} {l0 : Launch} {b : Nat} {p1 : Int32} {μ : Mem} {Q : Int32 → Mem → Prop} (hI : YI Y) (h0 : isX7 Y b) (h : PX7_bears b p1 μ Q) : MI l0 yX7_bears WX7_bears 7 172 Y [.ref (Y.ad b), .int p1] μ Q := by
  refine mI_of (ty := .int) (cc := cX7_bears) (maxL := 2) (by decide +kernel) rfl hI (Nat.le_of_ble_eq_true rfl) (fun X C hr => ?_)
  replace C : Cx X Y 2 cX7_bears RX7 WX7_bears (rmB 7 172) l0 := C
  refine g_lv (lv2 := [(0, .ref (Y.ad b)), (1, .int p1)]) [0, 1] ?_ rfl
  unfold PX7_bears at h
  refine g_iload_n C 1 dX7_bears_0 rfl ?_
  refine g_i2l C dX7_bears_1 ?_
  refine g_lconst C (v := (0 : Int64)) dX7_bears_2 (by decide) ?_
  refine g_lconst C (v := (1 : Int64)) dX7_bears_3 (by decide) ?_
  refine g_callSI C [.long p1.toInt64, .long ((0 : Int64)), .long ((1 : Int64))] [] (ok_X7_in hI  h) (cw_RX7_134 _) rfl dc_X7_in ⟨Nat.le_of_ble_eq_true rfl, Nat.le_of_ble_eq_true rfl⟩ rfl (Nat.le_of_ble_eq_true rfl) dX7_bears_4 (fun r2 m1 h => ?_)
  refine g_if_eq C 29 dX7_bears_7 (by decide) (fun c3 => ?_) (fun c3 => ?_)
  · replace h := h.1 c3
    refine g_iconst C (v := (-1 : Int32)) dX7_bears_29 (by decide) ?_
    exact hr _ _ _ _ _ dX7_bears_30 rfl h
  · replace h := h.2 c3
    refine g_aload_n C 0 dX7_bears_10 rfl ?_
    refine g_callVI C [] [] (ok_X7_bearsNow hI h0 h) (cw_RX7_352 _) rfl dc_X7_bearsNow ⟨Nat.le_of_ble_eq_true rfl, Nat.le_of_ble_eq_true rfl⟩ (isX7_lt h0) (isX7_sh h0) rfl rfl rfl rfl (Nat.le_of_ble_eq_true rfl) dX7_bears_11 (fun r5 m4 h => ?_)
    refine g_iconst C (v := (1 : Int32)) dX7_bears_14 (by decide) ?_
    refine g_iconst C (v := (2 : Int32)) dX7_bears_15 (by decide) ?_
    refine g_aload_n C 0 dX7_bears_16 rfl ?_
    refine gf_RX7_138 C h0 dX7_bears_17 ?_
    refine g_imul C dX7_bears_20 ?_
    refine g_ishl C dX7_bears_21 ?_
    refine g_iload_n C 1 dX7_bears_22 rfl ?_
    refine g_callSI C [.int r5, .int (((1 : Int32)) <<< ((((2 : Int32)) * (m4.1 b 37)) &&& 31)), .int p1] [] (ok_X7_told hI  h) (cw_RX7_355 _) rfl dc_X7_told ⟨Nat.le_of_ble_eq_true rfl, Nat.le_of_ble_eq_true rfl⟩ rfl (Nat.le_of_ble_eq_true rfl) dX7_bears_23 (fun r7 m6 h => ?_)
    refine g_goto C 30 dX7_bears_26 (by decide) ?_
    exact hr _ _ _ _ _ dX7_bears_30 rfl h
def SX7_picks_92 (X : XT) (Y : YT) (b : Nat) (p1 : Int32) : Int32 → Mem → Prop := fun v2 μ => G X Y 5 92 [(0, .ref (Y.ad b)), (1, .int p1), (2, .int v2)] [] μ
set_option maxRecDepth 20000 in
set_option maxHeartbeats 4000000 in
theorem tX7_picks_46 {X : XT} {Y : YT} {l0 : Launch} {b : Nat} {p1 : Int32} {Q : Int32 → Mem → Prop} (C : Cx X Y 5 cX7_picks RX7 WX7_picks (rmB 5 125) l0) (hr : RI X Y cX7_picks .boolean Q) (hI : YI Y) (h0 : isX7 Y b) (v2 : Int32) (w0 : Int32) (μ : Mem) (h : nX7_picks_46 b p1 Q (SX7_picks_92 X Y b p1) v2 w0 μ) : G X Y 5 46 [(0, .ref (Y.ad b)), (1, .int p1), (2, .int v2)] [.int w0] μ := by
  unfold nX7_picks_46 at h
  refine g_istore C [(4, .int w0), (0, .ref (Y.ad b)), (1, .int p1), (2, .int v2)] dX7_picks_46 (by decide) rfl ?_
  refine g_aload_n C 1 dX7_picks_48 rfl ?_
  refine gf_RX7_65 C h0 dX7_picks_49 ?_
  refine g_iload_n C 2 dX7_picks_52 rfl ?_
  refine g_bipush C (v := (-4 : Int32)) dX7_picks_53 (by decide) ?_
  refine g_iast C (isX7_pick h0).1 (isX7_pick h0).2 h.1 dX7_picks_55 ?_
  replace h := h.2
  refine g_iload C 0 dX7_picks_56 rfl ?_
  refine g_if_eq C 79 dX7_picks_58 (by decide) (fun c6 => ?_) (fun c6 => ?_)
  · replace h := h.1 c6
    refine g_iload C 0 dX7_picks_79 rfl ?_
    exact hr _ _ _ _ _ dX7_picks_81 h.1.1 h.2
  · replace h := h.2 c6
    refine g_aload_n C 1 dX7_picks_61 rfl ?_
    refine g_iload_n C 3 dX7_picks_62 rfl ?_
    refine g_bipush C (v := (40 : Int32)) dX7_picks_63 (by decide) ?_
    refine g_iadd C dX7_picks_65 ?_
    refine g_iload_n C 3 dX7_picks_66 rfl ?_
    refine g_callVV C [.int (v2 + ((40 : Int32))), .int v2] [] (ok_X7_copies hI h0 h) (cw_RX7_326 _) rfl dc_X7_copies ⟨Nat.le_of_ble_eq_true rfl, Nat.le_of_ble_eq_true rfl⟩ (isX7_lt h0) (isX7_sh h0) rfl rfl rfl rfl (Nat.le_of_ble_eq_true rfl) dX7_picks_67 (fun m7 h => ?_)
    refine g_aload_n C 1 dX7_picks_70 rfl ?_
    refine g_iload_n C 3 dX7_picks_71 rfl ?_
    refine g_bipush C (v := (40 : Int32)) dX7_picks_72 (by decide) ?_
    refine g_iadd C dX7_picks_74 ?_
    refine g_callVI C [.int (v2 + ((40 : Int32)))] [] (ok_X7_nights hI h0 h) (cw_RX7_323 _) rfl dc_X7_nights ⟨Nat.le_of_ble_eq_true rfl, Nat.le_of_ble_eq_true rfl⟩ (isX7_lt h0) (isX7_sh h0) rfl rfl rfl rfl (Nat.le_of_ble_eq_true rfl) dX7_picks_75 (fun r10 m9 h => ?_)
    refine g_pop C dX7_picks_78 rfl ?_
    refine g_iload C 0 dX7_picks_79 rfl ?_
    exact hr _ _ _ _ _ dX7_picks_81 h.1.1 h.2
set_option maxRecDepth 20000 in
set_option maxHeartbeats 4000000 in
theorem tX7_picks_26 {X : XT} {Y : YT} {l0 : Launch} {b : Nat} {p1 : Int32} {Q : Int32 → Mem → Prop} (C : Cx X Y 5 cX7_picks RX7 WX7_picks (rmB 5 125) l0) (hr : RI X Y cX7_picks .boolean Q) (hI : YI Y) (h0 : isX7 Y b) (v2 : Int32) (w0 : Int32) (μ : Mem) (h : nX7_picks_26 b p1 Q (SX7_picks_92 X Y b p1) v2 w0 μ) : G X Y 5 26 [(0, .ref (Y.ad b)), (1, .int p1), (2, .int v2)] [.int w0] μ := by
  unfold nX7_picks_26 at h
  refine g_istore_n C [(3, .int w0), (0, .ref (Y.ad b)), (1, .int p1), (2, .int v2)] dX7_picks_26 (by decide) rfl ?_
  refine g_iload_n C 0 dX7_picks_27 rfl ?_
  refine g_if_eq C 82 dX7_picks_28 (by decide) (fun c4 => ?_) (fun c4 => ?_)
  · replace h := h.1 c4
    refine g_aload_n C 1 dX7_picks_82 rfl ?_
    refine gf_RX7_65 C h0 dX7_picks_83 ?_
    refine g_iload_n C 2 dX7_picks_86 rfl ?_
    refine g_dup2 C dX7_picks_87 rfl rfl ?_
    refine g_iald C (isX7_pick h0).1 (isX7_pick h0).2 h.1 dX7_picks_88 ?_
    replace h := h.2
    refine g_iconst C (v := (1 : Int32)) dX7_picks_89 (by decide) ?_
    refine g_iadd C dX7_picks_90 ?_
    refine g_iast C (isX7_pick h0).1 (isX7_pick h0).2 h.1 dX7_picks_91 ?_
    replace h := h.2
    refine g_lv (lv2 := [(0, .ref (Y.ad b)), (1, .int p1), (2, .int v2)]) [1, 2, 3] ?_ rfl
    exact h
  · replace h := h.2 c4
    refine g_aload_n C 1 dX7_picks_31 rfl ?_
    refine gf_RX7_65 C h0 dX7_picks_32 ?_
    refine g_iload_n C 2 dX7_picks_35 rfl ?_
    refine g_iald C (isX7_pick h0).1 (isX7_pick h0).2 h.1 dX7_picks_36 ?_
    replace h := h.2
    refine g_iconst C (v := (-1 : Int32)) dX7_picks_37 (by decide) ?_
    refine g_icmp_ne C 45 dX7_picks_38 (by decide) (fun c5 => ?_) (fun c5 => ?_)
    · replace h := h.1 c5
      refine g_iconst C (v := (0 : Int32)) dX7_picks_45 (by decide) ?_
      refine g_lv (lv2 := [(0, .ref (Y.ad b)), (1, .int p1), (2, .int v2)]) [1, 2, 3] ?_ rfl
      exact tX7_picks_46 C hr hI h0 _ _ _ h
    · replace h := h.2 c5
      refine g_iconst C (v := (1 : Int32)) dX7_picks_41 (by decide) ?_
      refine g_goto C 46 dX7_picks_42 (by decide) ?_
      refine g_lv (lv2 := [(0, .ref (Y.ad b)), (1, .int p1), (2, .int v2)]) [1, 2, 3] ?_ rfl
      exact tX7_picks_46 C hr hI h0 _ _ _ h
set_option maxRecDepth 20000 in
set_option maxHeartbeats 4000000 in
theorem tX7_picks_180 {X : XT} {Y : YT} {l0 : Launch} {b : Nat} {p1 : Int32} {Q : Int32 → Mem → Prop} (C : Cx X Y 5 cX7_picks RX7 WX7_picks (rmB 5 125) l0) (hr : RI X Y cX7_picks .boolean Q) (hI : YI Y) (h0 : isX7 Y b) (μ : Mem) (h : nX7_picks_180 b p1 Q (SX7_picks_92 X Y b p1) μ) : G X Y 5 180 [(0, .ref (Y.ad b)), (1, .int p1)] [] μ := by
  unfold nX7_picks_180 at h
  refine g_aload_n C 0 dX7_picks_180 rfl ?_
  refine gf_RX7_65 C h0 dX7_picks_181 ?_
  refine g_iload_n C 1 dX7_picks_184 rfl ?_
  refine g_iald C (isX7_pick h0).1 (isX7_pick h0).2 h.1 dX7_picks_185 ?_
  replace h := h.2
  refine g_aload_n C 0 dX7_picks_186 rfl ?_
  refine gf_RX7_118 C h0 dX7_picks_187 ?_
  refine g_icmp_ge C 197 dX7_picks_190 (by decide) (fun c23 => ?_) (fun c23 => ?_)
  · replace h := h.1 c23
    refine g_iconst C (v := (0 : Int32)) dX7_picks_197 (by decide) ?_
    exact hr _ _ _ _ _ dX7_picks_198 rfl h
  · replace h := h.2 c23
    refine g_iconst C (v := (1 : Int32)) dX7_picks_193 (by decide) ?_
    refine g_goto C 198 dX7_picks_194 (by decide) ?_
    exact hr _ _ _ _ _ dX7_picks_198 rfl h
set_option maxRecDepth 20000 in
set_option maxHeartbeats 4000000 in
theorem tX7_picks_133 {X : XT} {Y : YT} {l0 : Launch} {b : Nat} {p1 : Int32} {Q : Int32 → Mem → Prop} (C : Cx X Y 5 cX7_picks RX7 WX7_picks (rmB 5 125) l0) (hr : RI X Y cX7_picks .boolean Q) (hI : YI Y) (h0 : isX7 Y b) (v2 : Int32) (μ : Mem) (h : nX7_picks_133 b p1 Q (SX7_picks_92 X Y b p1) v2 μ) : G X Y 5 133 [(0, .ref (Y.ad b)), (1, .int p1), (2, .int v2)] [] μ := by
  unfold nX7_picks_133 at h
  refine g_aload_n C 0 dX7_picks_133 rfl ?_
  refine gf_RX7_65 C h0 dX7_picks_134 ?_
  refine g_iload_n C 1 dX7_picks_137 rfl ?_
  refine g_iald C (isX7_pick h0).1 (isX7_pick h0).2 h.1 dX7_picks_138 ?_
  replace h := h.2
  refine g_aload_n C 0 dX7_picks_139 rfl ?_
  refine gf_RX7_118 C h0 dX7_picks_140 ?_
  refine g_icmp_ge C 180 dX7_picks_143 (by decide) (fun c16 => ?_) (fun c16 => ?_)
  · replace h := h.1 c16
    refine g_lv (lv2 := [(0, .ref (Y.ad b)), (1, .int p1)]) [0, 1] ?_ rfl
    exact tX7_picks_180 C hr hI h0 _ h
  · replace h := h.2 c16
    refine g_aload_n C 0 dX7_picks_146 rfl ?_
    refine g_iload_n C 2 dX7_picks_147 rfl ?_
    refine g_bipush C (v := (40 : Int32)) dX7_picks_148 (by decide) ?_
    refine g_iadd C dX7_picks_150 ?_
    refine g_iload_n C 2 dX7_picks_151 rfl ?_
    refine g_callVV C [.int (v2 + ((40 : Int32))), .int v2] [] (ok_X7_copies hI h0 h) (cw_RX7_326 _) rfl dc_X7_copies ⟨Nat.le_of_ble_eq_true rfl, Nat.le_of_ble_eq_true rfl⟩ (isX7_lt h0) (isX7_sh h0) rfl rfl rfl rfl (Nat.le_of_ble_eq_true rfl) dX7_picks_152 (fun m17 h => ?_)
    refine g_aload_n C 0 dX7_picks_155 rfl ?_
    refine g_iload_n C 2 dX7_picks_156 rfl ?_
    refine g_bipush C (v := (40 : Int32)) dX7_picks_157 (by decide) ?_
    refine g_iadd C dX7_picks_159 ?_
    refine g_aload_n C 0 dX7_picks_160 rfl ?_
    refine gf_RX7_65 C h0 dX7_picks_161 ?_
    refine g_iload_n C 1 dX7_picks_164 rfl ?_
    refine g_iald C (isX7_pick h0).1 (isX7_pick h0).2 h.1 dX7_picks_165 ?_
    replace h := h.2
    refine g_iconst C (v := (0 : Int32)) dX7_picks_166 (by decide) ?_
    refine g_callVI C [.int (v2 + ((40 : Int32))), .int (m17.1 (b + 19) p1.toNatClampNeg), .int ((0 : Int32))] [] (ok_X7_eats hI h0 h) (cw_RX7_320 _) rfl dc_X7_eats ⟨Nat.le_of_ble_eq_true rfl, Nat.le_of_ble_eq_true rfl⟩ (isX7_lt h0) (isX7_sh h0) rfl rfl rfl rfl (Nat.le_of_ble_eq_true rfl) dX7_picks_167 (fun r20 m19 h => ?_)
    refine g_pop C dX7_picks_170 rfl ?_
    refine g_aload_n C 0 dX7_picks_171 rfl ?_
    refine g_iload_n C 2 dX7_picks_172 rfl ?_
    refine g_bipush C (v := (40 : Int32)) dX7_picks_173 (by decide) ?_
    refine g_iadd C dX7_picks_175 ?_
    refine g_callVI C [.int (v2 + ((40 : Int32)))] [] (ok_X7_nights hI h0 h) (cw_RX7_323 _) rfl dc_X7_nights ⟨Nat.le_of_ble_eq_true rfl, Nat.le_of_ble_eq_true rfl⟩ (isX7_lt h0) (isX7_sh h0) rfl rfl rfl rfl (Nat.le_of_ble_eq_true rfl) dX7_picks_176 (fun r22 m21 h => ?_)
    refine g_pop C dX7_picks_179 rfl ?_
    refine g_lv (lv2 := [(0, .ref (Y.ad b)), (1, .int p1)]) [0, 1] ?_ rfl
    exact tX7_picks_180 C hr hI h0 _ h
set_option maxRecDepth 20000 in
set_option maxHeartbeats 4000000 in
theorem tX7_picks_92 {X : XT} {Y : YT} {l0 : Launch} {b : Nat} {p1 : Int32} {Q : Int32 → Mem → Prop} (C : Cx X Y 5 cX7_picks RX7 WX7_picks (rmB 5 125) l0) (hr : RI X Y cX7_picks .boolean Q) (hI : YI Y) (h0 : isX7 Y b) (v2 : Int32) (μ : Mem) (h : nX7_picks_92 b p1 Q (SX7_picks_92 X Y b p1) v2 μ) : G X Y 5 92 [(0, .ref (Y.ad b)), (1, .int p1), (2, .int v2)] [] μ := by
  unfold nX7_picks_92 at h
  refine g_aload_n C 0 dX7_picks_92 rfl ?_
  refine gf_RX7_65 C h0 dX7_picks_93 ?_
  refine g_iload_n C 1 dX7_picks_96 rfl ?_
  refine g_iald C (isX7_pick h0).1 (isX7_pick h0).2 h.1 dX7_picks_97 ?_
  replace h := h.2
  refine g_aload_n C 0 dX7_picks_98 rfl ?_
  refine gf_RX7_118 C h0 dX7_picks_99 ?_
  refine g_icmp_ge C 133 dX7_picks_102 (by decide) (fun c11 => ?_) (fun c11 => ?_)
  · replace h := h.1 c11
    exact tX7_picks_133 C hr hI h0 _ _ h
  · replace h := h.2 c11
    refine g_aload_n C 0 dX7_picks_105 rfl ?_
    refine g_iload_n C 2 dX7_picks_106 rfl ?_
    refine g_aload_n C 0 dX7_picks_107 rfl ?_
    refine gf_RX7_65 C h0 dX7_picks_108 ?_
    refine g_iload_n C 1 dX7_picks_111 rfl ?_
    refine g_iald C (isX7_pick h0).1 (isX7_pick h0).2 h.1 dX7_picks_112 ?_
    replace h := h.2
    refine g_iconst C (v := (0 : Int32)) dX7_picks_113 (by decide) ?_
    refine g_callVI C [.int v2, .int (μ.1 (b + 19) p1.toNatClampNeg), .int ((0 : Int32))] [] (ok_X7_whyNot hI h0 h) (cw_RX7_316 _) rfl dc_X7_whyNot ⟨Nat.le_of_ble_eq_true rfl, Nat.le_of_ble_eq_true rfl⟩ (isX7_lt h0) (isX7_sh h0) rfl rfl rfl rfl (Nat.le_of_ble_eq_true rfl) dX7_picks_114 (fun r13 m12 h => ?_)
    refine g_if_le C 133 dX7_picks_117 (by decide) (fun c14 => ?_) (fun c14 => ?_)
    · replace h := h.1 c14
      exact tX7_picks_133 C hr hI h0 _ _ h
    · replace h := h.2 c14
      refine g_aload_n C 0 dX7_picks_120 rfl ?_
      refine gf_RX7_65 C h0 dX7_picks_121 ?_
      refine g_iload_n C 1 dX7_picks_124 rfl ?_
      refine g_dup2 C dX7_picks_125 rfl rfl ?_
      refine g_iald C (isX7_pick h0).1 (isX7_pick h0).2 h.1 dX7_picks_126 ?_
      replace h := h.2
      refine g_iconst C (v := (1 : Int32)) dX7_picks_127 (by decide) ?_
      refine g_iadd C dX7_picks_128 ?_
      refine g_iast C (isX7_pick h0).1 (isX7_pick h0).2 h.1 dX7_picks_129 ?_
      replace h := h.2
      refine g_mem (fun m15 em15 => ?_)
      replace h := h m15 em15
      refine g_goto C 92 dX7_picks_130 (by decide) ?_
      exact h
set_option maxRecDepth 20000 in
set_option maxHeartbeats 4000000 in
theorem ok_X7_picks {Y : YT} {l0 : Launch} {b : Nat} {p1 : Int32} {μ : Mem} {Q : Int32 → Mem → Prop} (hI : YI Y) (h0 : isX7 Y b) (h : PX7_picks b p1 μ Q) : MI l0 yX7_picks WX7_picks 5 125 Y [.ref (Y.ad b), .int p1] μ Q := by
  refine mI_of (ty := .boolean) (cc := cX7_picks) (maxL := 5) (by decide +kernel) rfl hI (Nat.le_of_ble_eq_true rfl) (fun X C hr => ?_)
  replace C : Cx X Y 5 cX7_picks RX7 WX7_picks (rmB 5 125) l0 := C
  refine g_lv (lv2 := [(0, .ref (Y.ad b)), (1, .int p1)]) [0, 1] ?_ rfl
  unfold PX7_picks at h
  replace h := h (SX7_picks_92 X Y b p1) (fun v2 μ z => tX7_picks_92 C hr hI h0 v2 μ z)
  refine g_bipush C (v := (40 : Int32)) dX7_picks_0 (by decide) ?_
  refine g_iload_n C 1 dX7_picks_2 rfl ?_
  refine g_imul C dX7_picks_3 ?_
  refine g_istore_n C [(2, .int (((40 : Int32)) * p1)), (0, .ref (Y.ad b)), (1, .int p1)] dX7_picks_4 (by decide) rfl ?_
  refine g_aload_n C 1 dX7_picks_5 rfl ?_
  refine gf_RX7_127 C h0 dX7_picks_6 ?_
  refine g_aload_n C 1 dX7_picks_9 rfl ?_
  refine g_iload_n C 0 dX7_picks_10 rfl ?_
  refine g_callVI C [.int (((40 : Int32)) * p1)] [.int (μ.1 b 8)] (ok_X7_weekDay hI h0 h) (cw_RX7_290 _) rfl dc_X7_weekDay ⟨Nat.le_of_ble_eq_true rfl, Nat.le_of_ble_eq_true rfl⟩ (isX7_lt h0) (isX7_sh h0) rfl rfl rfl rfl (Nat.le_of_ble_eq_true rfl) dX7_picks_11 (fun r2 m1 h => ?_)
  refine g_ishr C dX7_picks_14 ?_
  refine g_iconst C (v := (1 : Int32)) dX7_picks_15 (by decide) ?_
  refine g_iand C dX7_picks_16 ?_
  refine g_iconst C (v := (1 : Int32)) dX7_picks_17 (by decide) ?_
  refine g_icmp_ne C 25 dX7_picks_18 (by decide) (fun c3 => ?_) (fun c3 => ?_)
  · replace h := h.1 c3
    refine g_iconst C (v := (0 : Int32)) dX7_picks_25 (by decide) ?_
    refine g_lv (lv2 := [(0, .ref (Y.ad b)), (1, .int p1), (2, .int (((40 : Int32)) * p1))]) [1, 2, 0] ?_ rfl
    exact tX7_picks_26 C hr hI h0 _ _ _ h
  · replace h := h.2 c3
    refine g_iconst C (v := (1 : Int32)) dX7_picks_21 (by decide) ?_
    refine g_goto C 26 dX7_picks_22 (by decide) ?_
    refine g_lv (lv2 := [(0, .ref (Y.ad b)), (1, .int p1), (2, .int (((40 : Int32)) * p1))]) [1, 2, 0] ?_ rfl
    exact tX7_picks_26 C hr hI h0 _ _ _ h
