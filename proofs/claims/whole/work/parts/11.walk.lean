set_option maxRecDepth 20000 in
set_option maxHeartbeats 4000000 in
theorem tX1_readNumber_55 {X : XT} {Y : YT} {l0 : Launch} {b : Nat} {p1 : Int32} {p2 : Int32} {Q : Int32 → Mem → Prop} (C : Cx X Y 3 cX1_readNumber RX1 WX1_readNumber (rmB 2 43) l0) (hr : RI X Y cX1_readNumber .boolean Q) (hI : YI Y) (h0 : isX1 Y b) (μ : Mem) (h : nX1_readNumber_55 b p1 p2 Q  μ) : G X Y 3 55 [(0, .ref (Y.ad b)), (1, .int p1), (2, .int p2)] [] μ := by
  unfold nX1_readNumber_55 at h
  refine g_iconst C (v := (1 : Int32)) dX1_readNumber_55 (by decide) ?_
  refine g_goto C 60 dX1_readNumber_56 (by decide) ?_
  exact hr _ _ _ _ _ dX1_readNumber_60 rfl h
set_option maxRecDepth 20000 in
set_option maxHeartbeats 4000000 in
theorem tX1_readNumber_43 {X : XT} {Y : YT} {l0 : Launch} {b : Nat} {p1 : Int32} {p2 : Int32} {Q : Int32 → Mem → Prop} (C : Cx X Y 3 cX1_readNumber RX1 WX1_readNumber (rmB 2 43) l0) (hr : RI X Y cX1_readNumber .boolean Q) (hI : YI Y) (h0 : isX1 Y b) (μ : Mem) (h : nX1_readNumber_43 b p1 p2 Q  μ) : G X Y 3 43 [(0, .ref (Y.ad b)), (1, .int p1), (2, .int p2)] [] μ := by
  unfold nX1_readNumber_43 at h
  refine g_aload_n C 0 dX1_readNumber_43 rfl ?_
  refine g_iconst C (v := (3 : Int32)) dX1_readNumber_44 (by decide) ?_
  refine g_aload_n C 0 dX1_readNumber_45 rfl ?_
  refine gf_RX1_72 C h0 dX1_readNumber_46 ?_
  refine g_callVI C [.int ((3 : Int32)), .int (μ.1 b 7)] [] (ok_X1_refuse hI h0 h) (cw_RX1_65 _) rfl dc_X1_refuse ⟨Nat.le_of_ble_eq_true rfl, Nat.le_of_ble_eq_true rfl⟩ (isX1_lt h0) (isX1_sh h0) rfl rfl rfl rfl (Nat.le_of_ble_eq_true rfl) dX1_readNumber_49 (fun r10 m9 h => ?_)
  refine g_if_eq C 59 dX1_readNumber_52 (by decide) (fun c11 => ?_) (fun c11 => ?_)
  · replace h := h.1 c11
    refine g_iconst C (v := (0 : Int32)) dX1_readNumber_59 (by decide) ?_
    exact hr _ _ _ _ _ dX1_readNumber_60 rfl h
  · replace h := h.2 c11
    exact tX1_readNumber_55 C hr hI h0 _ h
set_option maxRecDepth 20000 in
set_option maxHeartbeats 4000000 in
theorem ok_X1_readNumber {Y : YT} {l0 : Launch} {b : Nat} {p1 : Int32} {p2 : Int32} {μ : Mem} {Q : Int32 → Mem → Prop} (hI : YI Y) (h0 : isX1 Y b) (h : PX1_readNumber b p1 p2 μ Q) : MI l0 yX1_readNumber WX1_readNumber 2 43 Y [.ref (Y.ad b), .int p1, .int p2] μ Q := by
  refine mI_of (ty := .boolean) (cc := cX1_readNumber) (maxL := 3) (by decide +kernel) rfl hI (Nat.le_of_ble_eq_true rfl) (fun X C hr => ?_)
  replace C : Cx X Y 3 cX1_readNumber RX1 WX1_readNumber (rmB 2 43) l0 := C
  refine g_lv (lv2 := [(0, .ref (Y.ad b)), (1, .int p1), (2, .int p2)]) [0, 1, 2] ?_ rfl
  unfold PX1_readNumber at h
  refine g_aload_n C 0 dX1_readNumber_0 rfl ?_
  refine g_callVI C [] [] (ok_X1_readToken hI h0 h) (cw_RX1_29 _) rfl dc_X1_readToken ⟨Nat.le_of_ble_eq_true rfl, Nat.le_of_ble_eq_true rfl⟩ (isX1_lt h0) (isX1_sh h0) rfl rfl rfl rfl (Nat.le_of_ble_eq_true rfl) dX1_readNumber_1 (fun r2 m1 h => ?_)
  refine g_if_ne C 9 dX1_readNumber_4 (by decide) (fun c3 => ?_) (fun c3 => ?_)
  · replace h := h.1 c3
    refine g_aload_n C 0 dX1_readNumber_9 rfl ?_
    refine gf_RX1_33 C h0 dX1_readNumber_10 ?_
    refine g_iconst C (v := (2 : Int32)) dX1_readNumber_13 (by decide) ?_
    refine g_icmp_eq C 27 dX1_readNumber_14 (by decide) (fun c4 => ?_) (fun c4 => ?_)
    · replace h := h.1 c4
      refine g_aload_n C 0 dX1_readNumber_27 rfl ?_
      refine gf_RX1_75 C h0 dX1_readNumber_28 ?_
      refine g_iload_n C 1 dX1_readNumber_31 rfl ?_
      refine g_icmp_lt C 43 dX1_readNumber_32 (by decide) (fun c5 => ?_) (fun c5 => ?_)
      · replace h := h.1 c5
        exact tX1_readNumber_43 C hr hI h0 _ h
      · replace h := h.2 c5
        refine g_aload_n C 0 dX1_readNumber_35 rfl ?_
        refine gf_RX1_75 C h0 dX1_readNumber_36 ?_
        refine g_iload_n C 2 dX1_readNumber_39 rfl ?_
        refine g_icmp_le C 55 dX1_readNumber_40 (by decide) (fun c6 => ?_) (fun c6 => ?_)
        · replace h := h.1 c6
          exact tX1_readNumber_55 C hr hI h0 _ h
        · replace h := h.2 c6
          exact tX1_readNumber_43 C hr hI h0 _ h
    · replace h := h.2 c4
      refine g_aload_n C 0 dX1_readNumber_17 rfl ?_
      refine g_iconst C (v := (2 : Int32)) dX1_readNumber_18 (by decide) ?_
      refine g_aload_n C 0 dX1_readNumber_19 rfl ?_
      refine gf_RX1_72 C h0 dX1_readNumber_20 ?_
      refine g_callVI C [.int ((2 : Int32)), .int (m1.1 b 7)] [] (ok_X1_refuse hI h0 h) (cw_RX1_65 _) rfl dc_X1_refuse ⟨Nat.le_of_ble_eq_true rfl, Nat.le_of_ble_eq_true rfl⟩ (isX1_lt h0) (isX1_sh h0) rfl rfl rfl rfl (Nat.le_of_ble_eq_true rfl) dX1_readNumber_23 (fun r8 m7 h => ?_)
      exact hr _ _ _ _ _ dX1_readNumber_26 h.1.1 h.2
  · replace h := h.2 c3
    refine g_iconst C (v := (0 : Int32)) dX1_readNumber_7 (by decide) ?_
    exact hr _ _ _ _ _ dX1_readNumber_8 rfl h
set_option maxRecDepth 20000 in
set_option maxHeartbeats 4000000 in
theorem tX1_isPoint_20 {X : XT} {Y : YT} {l0 : Launch} {b : Nat} {Q : Int32 → Mem → Prop} (C : Cx X Y 1 cX1_isPoint RX1 WX1_isPoint (rmB 1 22) l0) (hr : RI X Y cX1_isPoint .boolean Q) (hI : YI Y) (h0 : isX1 Y b) (μ : Mem) (h : nX1_isPoint_20 b Q  μ) : G X Y 1 20 [(0, .ref (Y.ad b))] [] μ := by
  unfold nX1_isPoint_20 at h
  refine g_iconst C (v := (1 : Int32)) dX1_isPoint_20 (by decide) ?_
  refine g_goto C 25 dX1_isPoint_21 (by decide) ?_
  exact hr _ _ _ _ _ dX1_isPoint_25 rfl h
set_option maxRecDepth 20000 in
set_option maxHeartbeats 4000000 in
theorem ok_X1_isPoint {Y : YT} {l0 : Launch} {b : Nat} {μ : Mem} {Q : Int32 → Mem → Prop} (hI : YI Y) (h0 : isX1 Y b) (h : PX1_isPoint b μ Q) : MI l0 yX1_isPoint WX1_isPoint 1 22 Y [.ref (Y.ad b)] μ Q := by
  refine mI_of (ty := .boolean) (cc := cX1_isPoint) (maxL := 1) (by decide +kernel) rfl hI (Nat.le_of_ble_eq_true rfl) (fun X C hr => ?_)
  replace C : Cx X Y 1 cX1_isPoint RX1 WX1_isPoint (rmB 1 22) l0 := C
  refine g_lv (lv2 := [(0, .ref (Y.ad b))]) [0] ?_ rfl
  unfold PX1_isPoint at h
  refine g_aload_n C 0 dX1_isPoint_0 rfl ?_
  refine gf_RX1_33 C h0 dX1_isPoint_1 ?_
  refine g_iconst C (v := (3 : Int32)) dX1_isPoint_4 (by decide) ?_
  refine g_icmp_eq C 20 dX1_isPoint_5 (by decide) (fun c1 => ?_) (fun c1 => ?_)
  · replace h := h.1 c1
    exact tX1_isPoint_20 C hr hI h0 _ h
  · replace h := h.2 c1
    refine g_aload_n C 0 dX1_isPoint_8 rfl ?_
    refine g_iconst C (v := (2 : Int32)) dX1_isPoint_9 (by decide) ?_
    refine g_aload_n C 0 dX1_isPoint_10 rfl ?_
    refine gf_RX1_72 C h0 dX1_isPoint_11 ?_
    refine g_callVI C [.int ((2 : Int32)), .int (μ.1 b 7)] [] (ok_X1_refuse hI h0 h) (cw_RX1_65 _) rfl dc_X1_refuse ⟨Nat.le_of_ble_eq_true rfl, Nat.le_of_ble_eq_true rfl⟩ (isX1_lt h0) (isX1_sh h0) rfl rfl rfl rfl (Nat.le_of_ble_eq_true rfl) dX1_isPoint_14 (fun r3 m2 h => ?_)
    refine g_if_eq C 24 dX1_isPoint_17 (by decide) (fun c4 => ?_) (fun c4 => ?_)
    · replace h := h.1 c4
      refine g_iconst C (v := (0 : Int32)) dX1_isPoint_24 (by decide) ?_
      exact hr _ _ _ _ _ dX1_isPoint_25 rfl h
    · replace h := h.2 c4
      exact tX1_isPoint_20 C hr hI h0 _ h
set_option maxRecDepth 20000 in
set_option maxHeartbeats 4000000 in
theorem tX1_readPoint_18 {X : XT} {Y : YT} {l0 : Launch} {b : Nat} {Q : Int32 → Mem → Prop} (C : Cx X Y 1 cX1_readPoint RX1 WX1_readPoint (rmB 2 43) l0) (hr : RI X Y cX1_readPoint .boolean Q) (hI : YI Y) (h0 : isX1 Y b) (μ : Mem) (h : nX1_readPoint_18 b Q  μ) : G X Y 1 18 [(0, .ref (Y.ad b))] [] μ := by
  unfold nX1_readPoint_18 at h
  refine g_iconst C (v := (0 : Int32)) dX1_readPoint_18 (by decide) ?_
  exact hr _ _ _ _ _ dX1_readPoint_19 rfl h
set_option maxRecDepth 20000 in
set_option maxHeartbeats 4000000 in
theorem ok_X1_readPoint {Y : YT} {l0 : Launch} {b : Nat} {μ : Mem} {Q : Int32 → Mem → Prop} (hI : YI Y) (h0 : isX1 Y b) (h : PX1_readPoint b μ Q) : MI l0 yX1_readPoint WX1_readPoint 2 43 Y [.ref (Y.ad b)] μ Q := by
  refine mI_of (ty := .boolean) (cc := cX1_readPoint) (maxL := 1) (by decide +kernel) rfl hI (Nat.le_of_ble_eq_true rfl) (fun X C hr => ?_)
  replace C : Cx X Y 1 cX1_readPoint RX1 WX1_readPoint (rmB 2 43) l0 := C
  refine g_lv (lv2 := [(0, .ref (Y.ad b))]) [0] ?_ rfl
  unfold PX1_readPoint at h
  refine g_aload_n C 0 dX1_readPoint_0 rfl ?_
  refine g_callVI C [] [] (ok_X1_readToken hI h0 h) (cw_RX1_29 _) rfl dc_X1_readToken ⟨Nat.le_of_ble_eq_true rfl, Nat.le_of_ble_eq_true rfl⟩ (isX1_lt h0) (isX1_sh h0) rfl rfl rfl rfl (Nat.le_of_ble_eq_true rfl) dX1_readPoint_1 (fun r2 m1 h => ?_)
  refine g_if_eq C 18 dX1_readPoint_4 (by decide) (fun c3 => ?_) (fun c3 => ?_)
  · replace h := h.1 c3
    exact tX1_readPoint_18 C hr hI h0 _ h
  · replace h := h.2 c3
    refine g_aload_n C 0 dX1_readPoint_7 rfl ?_
    refine g_callVI C [] [] (ok_X1_isPoint hI h0 h) (cw_RX1_94 _) rfl dc_X1_isPoint ⟨Nat.le_of_ble_eq_true rfl, Nat.le_of_ble_eq_true rfl⟩ (isX1_lt h0) (isX1_sh h0) rfl rfl rfl rfl (Nat.le_of_ble_eq_true rfl) dX1_readPoint_8 (fun r5 m4 h => ?_)
    refine g_if_eq C 18 dX1_readPoint_11 (by decide) (fun c6 => ?_) (fun c6 => ?_)
    · replace h := h.1 c6
      exact tX1_readPoint_18 C hr hI h0 _ h
    · replace h := h.2 c6
      refine g_iconst C (v := (1 : Int32)) dX1_readPoint_14 (by decide) ?_
      refine g_goto C 19 dX1_readPoint_15 (by decide) ?_
      exact hr _ _ _ _ _ dX1_readPoint_19 rfl h
set_option maxRecDepth 20000 in
set_option maxHeartbeats 4000000 in
theorem ok_X1_readThing {Y : YT} {l0 : Launch} {b : Nat} {μ : Mem} {Q : Int32 → Mem → Prop} (hI : YI Y) (h0 : isX1 Y b) (h : PX1_readThing b μ Q) : MI l0 yX1_readThing WX1_readThing 3 65 Y [.ref (Y.ad b)] μ Q := by
  refine mI_of (ty := .boolean) (cc := cX1_readThing) (maxL := 2) (by decide +kernel) rfl hI (Nat.le_of_ble_eq_true rfl) (fun X C hr => ?_)
  replace C : Cx X Y 2 cX1_readThing RX1 WX1_readThing (rmB 3 65) l0 := C
  refine g_lv (lv2 := [(0, .ref (Y.ad b))]) [0] ?_ rfl
  unfold PX1_readThing at h
  refine g_aload_n C 0 dX1_readThing_0 rfl ?_
  refine gf_RX1_18 C h0 dX1_readThing_1 ?_
  refine gf_RX1_62 C (isX1_told h0) dX1_readThing_4 ?_
  refine g_istore_n C [(1, .int (μ.1 (b + 2) 0)), (0, .ref (Y.ad b))] dX1_readThing_7 (by decide) rfl ?_
  refine g_iload_n C 0 dX1_readThing_8 rfl ?_
  refine g_bipush C (v := (6 : Int32)) dX1_readThing_9 (by decide) ?_
  refine g_icmp_lt C 24 dX1_readThing_11 (by decide) (fun c1 => ?_) (fun c1 => ?_)
  · replace h := h.1 c1
    refine g_aload_n C 1 dX1_readThing_24 rfl ?_
    refine gf_RX1_18 C h0 dX1_readThing_25 ?_
    refine g_iload_n C 0 dX1_readThing_28 rfl ?_
    refine g_iconst C (v := (1 : Int32)) dX1_readThing_29 (by decide) ?_
    refine g_iadd C dX1_readThing_30 ?_
    refine gp_RX1_62 C (isX1_told h0) dX1_readThing_31 ?_
    refine g_aload_n C 1 dX1_readThing_34 rfl ?_
    refine g_iconst C (v := (1 : Int32)) dX1_readThing_35 (by decide) ?_
    refine g_iconst C (v := (4 : Int32)) dX1_readThing_36 (by decide) ?_
    refine g_callVI C [.int ((1 : Int32)), .int ((4 : Int32))] [] (ok_X1_readNumber hI h0 h) (cw_RX1_137 _) rfl dc_X1_readNumber ⟨Nat.le_of_ble_eq_true rfl, Nat.le_of_ble_eq_true rfl⟩ (isX1_lt h0) (isX1_sh h0) rfl rfl rfl rfl (Nat.le_of_ble_eq_true rfl) dX1_readThing_37 (fun r3 m2 h => ?_)
    refine g_if_ne C 45 dX1_readThing_40 (by decide) (fun c4 => ?_) (fun c4 => ?_)
    · replace h := h.1 c4
      refine g_aload_n C 1 dX1_readThing_45 rfl ?_
      refine gf_RX1_18 C h0 dX1_readThing_46 ?_
      refine gf_RX1_140 C (isX1_told h0) dX1_readThing_49 ?_
      refine g_iload_n C 0 dX1_readThing_52 rfl ?_
      refine g_aload_n C 1 dX1_readThing_53 rfl ?_
      refine gf_RX1_75 C h0 dX1_readThing_54 ?_
      refine g_iast C (isX2_keeps (isX1_told h0)).1 (isX2_keeps (isX1_told h0)).2 h.1 dX1_readThing_57 ?_
      replace h := h.2
      refine g_aload_n C 1 dX1_readThing_58 rfl ?_
      refine g_iconst C (v := (1 : Int32)) dX1_readThing_59 (by decide) ?_
      refine g_iconst C (v := (4 : Int32)) dX1_readThing_60 (by decide) ?_
      refine g_callVI C [.int ((1 : Int32)), .int ((4 : Int32))] [] (ok_X1_readNumber hI h0 h) (cw_RX1_137 _) rfl dc_X1_readNumber ⟨Nat.le_of_ble_eq_true rfl, Nat.le_of_ble_eq_true rfl⟩ (isX1_lt h0) (isX1_sh h0) rfl rfl rfl rfl (Nat.le_of_ble_eq_true rfl) dX1_readThing_61 (fun r6 m5 h => ?_)
      refine g_if_ne C 69 dX1_readThing_64 (by decide) (fun c7 => ?_) (fun c7 => ?_)
      · replace h := h.1 c7
        refine g_aload_n C 1 dX1_readThing_69 rfl ?_
        refine gf_RX1_18 C h0 dX1_readThing_70 ?_
        refine gf_RX1_143 C (isX1_told h0) dX1_readThing_73 ?_
        refine g_iload_n C 0 dX1_readThing_76 rfl ?_
        refine g_aload_n C 1 dX1_readThing_77 rfl ?_
        refine gf_RX1_75 C h0 dX1_readThing_78 ?_
        refine g_iast C (isX2_pack (isX1_told h0)).1 (isX2_pack (isX1_told h0)).2 h.1 dX1_readThing_81 ?_
        replace h := h.2
        refine g_aload_n C 1 dX1_readThing_82 rfl ?_
        refine g_iconst C (v := (0 : Int32)) dX1_readThing_83 (by decide) ?_
        refine g_bipush C (v := (60 : Int32)) dX1_readThing_84 (by decide) ?_
        refine g_callVI C [.int ((0 : Int32)), .int ((60 : Int32))] [] (ok_X1_readNumber hI h0 h) (cw_RX1_137 _) rfl dc_X1_readNumber ⟨Nat.le_of_ble_eq_true rfl, Nat.le_of_ble_eq_true rfl⟩ (isX1_lt h0) (isX1_sh h0) rfl rfl rfl rfl (Nat.le_of_ble_eq_true rfl) dX1_readThing_86 (fun r9 m8 h => ?_)
        refine g_if_ne C 94 dX1_readThing_89 (by decide) (fun c10 => ?_) (fun c10 => ?_)
        · replace h := h.1 c10
          refine g_aload_n C 1 dX1_readThing_94 rfl ?_
          refine gf_RX1_18 C h0 dX1_readThing_95 ?_
          refine gf_RX1_146 C (isX1_told h0) dX1_readThing_98 ?_
          refine g_iload_n C 0 dX1_readThing_101 rfl ?_
          refine g_aload_n C 1 dX1_readThing_102 rfl ?_
          refine gf_RX1_75 C h0 dX1_readThing_103 ?_
          refine g_iast C (isX2_price (isX1_told h0)).1 (isX2_price (isX1_told h0)).2 h.1 dX1_readThing_106 ?_
          replace h := h.2
          refine g_aload_n C 1 dX1_readThing_107 rfl ?_
          refine g_callVI C [] [] (ok_X1_readPoint hI h0 h) (cw_RX1_149 _) rfl dc_X1_readPoint ⟨Nat.le_of_ble_eq_true rfl, Nat.le_of_ble_eq_true rfl⟩ (isX1_lt h0) (isX1_sh h0) rfl rfl rfl rfl (Nat.le_of_ble_eq_true rfl) dX1_readThing_108 (fun r12 m11 h => ?_)
          exact hr _ _ _ _ _ dX1_readThing_111 h.1.1 h.2
        · replace h := h.2 c10
          refine g_iconst C (v := (0 : Int32)) dX1_readThing_92 (by decide) ?_
          exact hr _ _ _ _ _ dX1_readThing_93 rfl h
      · replace h := h.2 c7
        refine g_iconst C (v := (0 : Int32)) dX1_readThing_67 (by decide) ?_
        exact hr _ _ _ _ _ dX1_readThing_68 rfl h
    · replace h := h.2 c4
      refine g_iconst C (v := (0 : Int32)) dX1_readThing_43 (by decide) ?_
      exact hr _ _ _ _ _ dX1_readThing_44 rfl h
  · replace h := h.2 c1
    refine g_aload_n C 1 dX1_readThing_14 rfl ?_
    refine g_iconst C (v := (5 : Int32)) dX1_readThing_15 (by decide) ?_
    refine g_aload_n C 1 dX1_readThing_16 rfl ?_
    refine gf_RX1_72 C h0 dX1_readThing_17 ?_
    refine g_callVI C [.int ((5 : Int32)), .int (μ.1 b 7)] [] (ok_X1_refuse hI h0 h) (cw_RX1_65 _) rfl dc_X1_refuse ⟨Nat.le_of_ble_eq_true rfl, Nat.le_of_ble_eq_true rfl⟩ (isX1_lt h0) (isX1_sh h0) rfl rfl rfl rfl (Nat.le_of_ble_eq_true rfl) dX1_readThing_20 (fun r14 m13 h => ?_)
    exact hr _ _ _ _ _ dX1_readThing_23 h.1.1 h.2
set_option maxRecDepth 20000 in
set_option maxHeartbeats 4000000 in
theorem tX1_readName_27 {X : XT} {Y : YT} {l0 : Launch} {b : Nat} {Q : Int32 → Mem → Prop} (C : Cx X Y 1 cX1_readName RX1 WX1_readName (rmB 2 43) l0) (hr : RI X Y cX1_readName .boolean Q) (hI : YI Y) (h0 : isX1 Y b) (μ : Mem) (h : nX1_readName_27 b Q  μ) : G X Y 1 27 [(0, .ref (Y.ad b))] [] μ := by
  unfold nX1_readName_27 at h
  refine g_iconst C (v := (1 : Int32)) dX1_readName_27 (by decide) ?_
  refine g_goto C 32 dX1_readName_28 (by decide) ?_
  exact hr _ _ _ _ _ dX1_readName_32 rfl h
set_option maxRecDepth 20000 in
set_option maxHeartbeats 4000000 in
theorem tX1_readName_31 {X : XT} {Y : YT} {l0 : Launch} {b : Nat} {Q : Int32 → Mem → Prop} (C : Cx X Y 1 cX1_readName RX1 WX1_readName (rmB 2 43) l0) (hr : RI X Y cX1_readName .boolean Q) (hI : YI Y) (h0 : isX1 Y b) (μ : Mem) (h : nX1_readName_31 b Q  μ) : G X Y 1 31 [(0, .ref (Y.ad b))] [] μ := by
  unfold nX1_readName_31 at h
  refine g_iconst C (v := (0 : Int32)) dX1_readName_31 (by decide) ?_
  exact hr _ _ _ _ _ dX1_readName_32 rfl h
set_option maxRecDepth 20000 in
set_option maxHeartbeats 4000000 in
theorem ok_X1_readName {Y : YT} {l0 : Launch} {b : Nat} {μ : Mem} {Q : Int32 → Mem → Prop} (hI : YI Y) (h0 : isX1 Y b) (h : PX1_readName b μ Q) : MI l0 yX1_readName WX1_readName 2 43 Y [.ref (Y.ad b)] μ Q := by
  refine mI_of (ty := .boolean) (cc := cX1_readName) (maxL := 1) (by decide +kernel) rfl hI (Nat.le_of_ble_eq_true rfl) (fun X C hr => ?_)
  replace C : Cx X Y 1 cX1_readName RX1 WX1_readName (rmB 2 43) l0 := C
  refine g_lv (lv2 := [(0, .ref (Y.ad b))]) [0] ?_ rfl
  unfold PX1_readName at h
  refine g_aload_n C 0 dX1_readName_0 rfl ?_
  refine g_callVI C [] [] (ok_X1_readToken hI h0 h) (cw_RX1_29 _) rfl dc_X1_readToken ⟨Nat.le_of_ble_eq_true rfl, Nat.le_of_ble_eq_true rfl⟩ (isX1_lt h0) (isX1_sh h0) rfl rfl rfl rfl (Nat.le_of_ble_eq_true rfl) dX1_readName_1 (fun r2 m1 h => ?_)
  refine g_if_eq C 31 dX1_readName_4 (by decide) (fun c3 => ?_) (fun c3 => ?_)
  · replace h := h.1 c3
    exact tX1_readName_31 C hr hI h0 _ h
  · replace h := h.2 c3
    refine g_aload_n C 0 dX1_readName_7 rfl ?_
    refine gf_RX1_33 C h0 dX1_readName_8 ?_
    refine g_iconst C (v := (1 : Int32)) dX1_readName_11 (by decide) ?_
    refine g_icmp_eq C 27 dX1_readName_12 (by decide) (fun c4 => ?_) (fun c4 => ?_)
    · replace h := h.1 c4
      exact tX1_readName_27 C hr hI h0 _ h
    · replace h := h.2 c4
      refine g_aload_n C 0 dX1_readName_15 rfl ?_
      refine g_iconst C (v := (2 : Int32)) dX1_readName_16 (by decide) ?_
      refine g_aload_n C 0 dX1_readName_17 rfl ?_
      refine gf_RX1_72 C h0 dX1_readName_18 ?_
      refine g_callVI C [.int ((2 : Int32)), .int (m1.1 b 7)] [] (ok_X1_refuse hI h0 h) (cw_RX1_65 _) rfl dc_X1_refuse ⟨Nat.le_of_ble_eq_true rfl, Nat.le_of_ble_eq_true rfl⟩ (isX1_lt h0) (isX1_sh h0) rfl rfl rfl rfl (Nat.le_of_ble_eq_true rfl) dX1_readName_21 (fun r6 m5 h => ?_)
      refine g_if_eq C 31 dX1_readName_24 (by decide) (fun c7 => ?_) (fun c7 => ?_)
      · replace h := h.1 c7
        exact tX1_readName_31 C hr hI h0 _ h
      · replace h := h.2 c7
        exact tX1_readName_27 C hr hI h0 _ h
def SX1_lettersOnce_8 (X : XT) (Y : YT) (b : Nat) (p1 : Int32) (p2 : Int32) : Int32 → Int32 → Mem → Prop := fun v3 v4 μ => G X Y 6 8 [(0, .ref (Y.ad b)), (1, .int p1), (2, .int p2), (3, .int v3), (4, .int v4)] [] μ
set_option maxRecDepth 20000 in
set_option maxHeartbeats 4000000 in
theorem tX1_lettersOnce_8 {X : XT} {Y : YT} {l0 : Launch} {b : Nat} {p1 : Int32} {p2 : Int32} {Q : Int32 → Mem → Prop} (C : Cx X Y 6 cX1_lettersOnce RX1 WX1_lettersOnce (rmB 0 0) l0) (hr : RI X Y cX1_lettersOnce .int Q) (hI : YI Y) (h0 : isX1 Y b) (v3 : Int32) (v4 : Int32) (μ : Mem) (h : nX1_lettersOnce_8 b p1 p2 Q (SX1_lettersOnce_8 X Y b p1 p2) v3 v4 μ) : G X Y 6 8 [(0, .ref (Y.ad b)), (1, .int p1), (2, .int p2), (3, .int v3), (4, .int v4)] [] μ := by
  unfold nX1_lettersOnce_8 at h
  refine g_iload C 4 dX1_lettersOnce_8 rfl ?_
  refine g_aload_n C 0 dX1_lettersOnce_10 rfl ?_
  refine gf_RX1_46 C h0 dX1_lettersOnce_11 ?_
  refine g_icmp_ge C 63 dX1_lettersOnce_14 (by decide) (fun c1 => ?_) (fun c1 => ?_)
  · replace h := h.1 c1
    refine g_iload_n C 3 dX1_lettersOnce_63 rfl ?_
    exact hr _ _ _ _ _ dX1_lettersOnce_64 rfl h
  · replace h := h.2 c1
    refine g_aload_n C 0 dX1_lettersOnce_17 rfl ?_
    refine gf_RX1_9 C h0 dX1_lettersOnce_18 ?_
    refine g_iload C 4 dX1_lettersOnce_21 rfl ?_
    refine g_bald C (isX1_tape h0).1 (isX1_tape h0).2 h.1 dX1_lettersOnce_23 ?_
    replace h := h.2
    refine g_iload_n C 1 dX1_lettersOnce_24 rfl ?_
    refine g_isub C dX1_lettersOnce_25 ?_
    refine g_istore C [(5, .int ((μ.1 (b + 1) v4.toNatClampNeg) - p1)), (0, .ref (Y.ad b)), (1, .int p1), (2, .int p2), (3, .int v3), (4, .int v4)] dX1_lettersOnce_26 (by decide) rfl ?_
    refine g_iload C 0 dX1_lettersOnce_28 rfl ?_
    refine g_if_lt C 48 dX1_lettersOnce_30 (by decide) (fun c2 => ?_) (fun c2 => ?_)
    · replace h := h.1 c2
      refine g_iconst C (v := (0 : Int32)) dX1_lettersOnce_48 (by decide) ?_
      exact hr _ _ _ _ _ dX1_lettersOnce_49 rfl h
    · replace h := h.2 c2
      refine g_iload C 0 dX1_lettersOnce_33 rfl ?_
      refine g_iload_n C 3 dX1_lettersOnce_35 rfl ?_
      refine g_icmp_ge C 48 dX1_lettersOnce_36 (by decide) (fun c3 => ?_) (fun c3 => ?_)
      · replace h := h.1 c3
        refine g_iconst C (v := (0 : Int32)) dX1_lettersOnce_48 (by decide) ?_
        exact hr _ _ _ _ _ dX1_lettersOnce_49 rfl h
      · replace h := h.2 c3
        refine g_iload_n C 4 dX1_lettersOnce_39 rfl ?_
        refine g_iload C 0 dX1_lettersOnce_40 rfl ?_
        refine g_ishr C dX1_lettersOnce_42 ?_
        refine g_iconst C (v := (1 : Int32)) dX1_lettersOnce_43 (by decide) ?_
        refine g_iand C dX1_lettersOnce_44 ?_
        refine g_if_eq C 50 dX1_lettersOnce_45 (by decide) (fun c4 => ?_) (fun c4 => ?_)
        · replace h := h.1 c4
          refine g_iload_n C 4 dX1_lettersOnce_50 rfl ?_
          refine g_iconst C (v := (1 : Int32)) dX1_lettersOnce_51 (by decide) ?_
          refine g_iload C 0 dX1_lettersOnce_52 rfl ?_
          refine g_ishl C dX1_lettersOnce_54 ?_
          refine g_ior C dX1_lettersOnce_55 ?_
          refine g_topi (fun x5 ex5 => ?_)
          replace h := h x5 ex5
          refine g_istore_n C [(3, .int x5), (5, .int ((μ.1 (b + 1) v4.toNatClampNeg) - p1)), (0, .ref (Y.ad b)), (1, .int p1), (2, .int p2), (4, .int v4)] dX1_lettersOnce_56 (by decide) rfl ?_
          refine g_iinc C (v := v4 + 1) 5 [(4, .int (v4 + 1)), (3, .int x5), (5, .int ((μ.1 (b + 1) v4.toNatClampNeg) - p1)), (0, .ref (Y.ad b)), (1, .int p1), (2, .int p2)] dX1_lettersOnce_57 rfl rfl (by decide) rfl ?_
          refine g_goto C 8 dX1_lettersOnce_60 (by decide) ?_
          refine g_lv (lv2 := [(0, .ref (Y.ad b)), (1, .int p1), (2, .int p2), (3, .int x5), (4, .int (v4 + 1))]) [3, 4, 5, 1, 0] ?_ rfl
          exact h
        · replace h := h.2 c4
          refine g_iconst C (v := (0 : Int32)) dX1_lettersOnce_48 (by decide) ?_
          exact hr _ _ _ _ _ dX1_lettersOnce_49 rfl h
set_option maxRecDepth 20000 in
set_option maxHeartbeats 4000000 in
theorem ok_X1_lettersOnce {Y : YT} {l0 : Launch} {b : Nat} {p1 : Int32} {p2 : Int32} {μ : Mem} {Q : Int32 → Mem → Prop} (hI : YI Y) (h0 : isX1 Y b) (h : PX1_lettersOnce b p1 p2 μ Q) : MI l0 yX1_lettersOnce WX1_lettersOnce 0 0 Y [.ref (Y.ad b), .int p1, .int p2] μ Q := by
  refine mI_of (ty := .int) (cc := cX1_lettersOnce) (maxL := 6) (by decide +kernel) rfl hI (Nat.le_of_ble_eq_true rfl) (fun X C hr => ?_)
  replace C : Cx X Y 6 cX1_lettersOnce RX1 WX1_lettersOnce (rmB 0 0) l0 := C
  refine g_lv (lv2 := [(0, .ref (Y.ad b)), (1, .int p1), (2, .int p2)]) [0, 1, 2] ?_ rfl
  unfold PX1_lettersOnce at h
  replace h := h (SX1_lettersOnce_8 X Y b p1 p2) (fun v3 v4 μ z => tX1_lettersOnce_8 C hr hI h0 v3 v4 μ z)
  refine g_iconst C (v := (0 : Int32)) dX1_lettersOnce_0 (by decide) ?_
  refine g_istore_n C [(3, .int ((0 : Int32))), (0, .ref (Y.ad b)), (1, .int p1), (2, .int p2)] dX1_lettersOnce_1 (by decide) rfl ?_
  refine g_aload_n C 1 dX1_lettersOnce_2 rfl ?_
  refine gf_RX1_72 C h0 dX1_lettersOnce_3 ?_
  refine g_istore C [(4, .int (μ.1 b 7)), (3, .int ((0 : Int32))), (0, .ref (Y.ad b)), (1, .int p1), (2, .int p2)] dX1_lettersOnce_6 (by decide) rfl ?_
  refine g_lv (lv2 := [(0, .ref (Y.ad b)), (1, .int p1), (2, .int p2), (3, .int ((0 : Int32))), (4, .int (μ.1 b 7))]) [2, 3, 4, 1, 0] ?_ rfl
  exact h
set_option maxRecDepth 20000 in
set_option maxHeartbeats 4000000 in
theorem ok_X1_noteUse {Y : YT} {l0 : Launch} {b : Nat} {p1 : Int32} {μ : Mem} {Q : Mem → Prop} (hI : YI Y) (h0 : isX1 Y b) (h : PX1_noteUse b p1 μ Q) : MV l0 yX1_noteUse WX1_noteUse 0 0 Y [.ref (Y.ad b), .int p1] μ Q := by
  refine mV_of (cc := cX1_noteUse) (maxL := 2) (by decide +kernel) rfl hI (Nat.le_of_ble_eq_true rfl) (fun X C hr => ?_)
  replace C : Cx X Y 2 cX1_noteUse RX1 WX1_noteUse (rmB 0 0) l0 := C
  refine g_lv (lv2 := [(0, .ref (Y.ad b)), (1, .int p1)]) [0, 1] ?_ rfl
  unfold PX1_noteUse at h
  refine g_aload_n C 0 dX1_noteUse_0 rfl ?_
  refine gf_RX1_22 C h0 dX1_noteUse_1 ?_
  refine g_iload_n C 1 dX1_noteUse_4 rfl ?_
  refine g_iald C (isX1_firstUse h0).1 (isX1_firstUse h0).2 h.1 dX1_noteUse_5 ?_
  replace h := h.2
  refine g_iconst C (v := (-1 : Int32)) dX1_noteUse_6 (by decide) ?_
  refine g_icmp_ne C 20 dX1_noteUse_7 (by decide) (fun c1 => ?_) (fun c1 => ?_)
  · replace h := h.1 c1
    exact hr _ _ _ _ dX1_noteUse_20 h
  · replace h := h.2 c1
    refine g_aload_n C 0 dX1_noteUse_10 rfl ?_
    refine gf_RX1_22 C h0 dX1_noteUse_11 ?_
    refine g_iload_n C 1 dX1_noteUse_14 rfl ?_
    refine g_aload_n C 0 dX1_noteUse_15 rfl ?_
    refine gf_RX1_72 C h0 dX1_noteUse_16 ?_
    refine g_iast C (isX1_firstUse h0).1 (isX1_firstUse h0).2 h.1 dX1_noteUse_19 ?_
    replace h := h.2
    exact hr _ _ _ _ dX1_noteUse_20 h
def SX1_readSoup_75 (X : XT) (Y : YT) (b : Nat) (p1 : Int32) : Int32 → Mem → Prop := fun v2 μ => G X Y 3 75 [(0, .ref (Y.ad b)), (1, .int p1), (2, .int v2)] [] μ
set_option maxRecDepth 20000 in
set_option maxHeartbeats 4000000 in
theorem tX1_readSoup_98 {X : XT} {Y : YT} {l0 : Launch} {b : Nat} {p1 : Int32} {Q : Int32 → Mem → Prop} (C : Cx X Y 3 cX1_readSoup RX1 WX1_readSoup (rmB 3 65) l0) (hr : RI X Y cX1_readSoup .boolean Q) (hI : YI Y) (h0 : isX1 Y b) (v2 : Int32) (μ : Mem) (h : nX1_readSoup_98 b p1 Q (SX1_readSoup_75 X Y b p1) v2 μ) : G X Y 3 98 [(0, .ref (Y.ad b)), (1, .int p1), (2, .int v2)] [] μ := by
  unfold nX1_readSoup_98 at h
  refine g_iinc C (v := v2 + 1) 2 [(2, .int (v2 + 1)), (0, .ref (Y.ad b)), (1, .int p1)] dX1_readSoup_98 rfl rfl (by decide) rfl ?_
  refine g_goto C 75 dX1_readSoup_101 (by decide) ?_
  refine g_lv (lv2 := [(0, .ref (Y.ad b)), (1, .int p1), (2, .int (v2 + 1))]) [1, 2, 0] ?_ rfl
  exact h
set_option maxRecDepth 20000 in
set_option maxHeartbeats 4000000 in
theorem tX1_readSoup_75 {X : XT} {Y : YT} {l0 : Launch} {b : Nat} {p1 : Int32} {Q : Int32 → Mem → Prop} (C : Cx X Y 3 cX1_readSoup RX1 WX1_readSoup (rmB 3 65) l0) (hr : RI X Y cX1_readSoup .boolean Q) (hI : YI Y) (h0 : isX1 Y b) (v2 : Int32) (μ : Mem) (h : nX1_readSoup_75 b p1 Q (SX1_readSoup_75 X Y b p1) v2 μ) : G X Y 3 75 [(0, .ref (Y.ad b)), (1, .int p1), (2, .int v2)] [] μ := by
  unfold nX1_readSoup_75 at h
  refine g_iload_n C 2 dX1_readSoup_75 rfl ?_
  refine g_bipush C (v := (6 : Int32)) dX1_readSoup_76 (by decide) ?_
  refine g_icmp_ge C 104 dX1_readSoup_78 (by decide) (fun c12 => ?_) (fun c12 => ?_)
  · replace h := h.1 c12
    refine g_aload_n C 0 dX1_readSoup_104 rfl ?_
    refine g_callVI C [] [] (ok_X1_readToken hI h0 h) (cw_RX1_29 _) rfl dc_X1_readToken ⟨Nat.le_of_ble_eq_true rfl, Nat.le_of_ble_eq_true rfl⟩ (isX1_lt h0) (isX1_sh h0) rfl rfl rfl rfl (Nat.le_of_ble_eq_true rfl) dX1_readSoup_105 (fun r14 m13 h => ?_)
    exact hr _ _ _ _ _ dX1_readSoup_108 h.1.1 h.2
  · replace h := h.2 c12
    refine g_aload_n C 0 dX1_readSoup_81 rfl ?_
    refine gf_RX1_18 C h0 dX1_readSoup_82 ?_
    refine g_iload_n C 1 dX1_readSoup_85 rfl ?_
    refine g_iload_n C 2 dX1_readSoup_86 rfl ?_
    refine g_callVI C [.int p1, .int v2] [] (ok_X2_isInSoup hI (isX1_told h0) h) (cw_RX1_195 _) rfl dc_X2_isInSoup ⟨Nat.le_of_ble_eq_true rfl, Nat.le_of_ble_eq_true rfl⟩ (isX2_lt (isX1_told h0)) (isX2_sh (isX1_told h0)) rfl rfl rfl rfl (Nat.le_of_ble_eq_true rfl) dX1_readSoup_87 (fun r16 m15 h => ?_)
    refine g_if_eq C 98 dX1_readSoup_90 (by decide) (fun c17 => ?_) (fun c17 => ?_)
    · replace h := h.1 c17
      exact tX1_readSoup_98 C hr hI h0 _ _ h
    · replace h := h.2 c17
      refine g_aload_n C 0 dX1_readSoup_93 rfl ?_
      refine g_iload_n C 2 dX1_readSoup_94 rfl ?_
      refine g_callVV C [.int v2] [] (ok_X1_noteUse hI h0 h) (cw_RX1_198 _) rfl dc_X1_noteUse ⟨Nat.le_of_ble_eq_true rfl, Nat.le_of_ble_eq_true rfl⟩ (isX1_lt h0) (isX1_sh h0) rfl rfl rfl rfl (Nat.le_of_ble_eq_true rfl) dX1_readSoup_95 (fun m18 h => ?_)
      exact tX1_readSoup_98 C hr hI h0 _ _ h
set_option maxRecDepth 20000 in
set_option maxHeartbeats 4000000 in
theorem ok_X1_readSoup {Y : YT} {l0 : Launch} {b : Nat} {p1 : Int32} {μ : Mem} {Q : Int32 → Mem → Prop} (hI : YI Y) (h0 : isX1 Y b) (h : PX1_readSoup b p1 μ Q) : MI l0 yX1_readSoup WX1_readSoup 3 65 Y [.ref (Y.ad b), .int p1] μ Q := by
  refine mI_of (ty := .boolean) (cc := cX1_readSoup) (maxL := 3) (by decide +kernel) rfl hI (Nat.le_of_ble_eq_true rfl) (fun X C hr => ?_)
  replace C : Cx X Y 3 cX1_readSoup RX1 WX1_readSoup (rmB 3 65) l0 := C
  refine g_lv (lv2 := [(0, .ref (Y.ad b)), (1, .int p1)]) [0, 1] ?_ rfl
  unfold PX1_readSoup at h
  replace h := h (SX1_readSoup_75 X Y b p1) (fun v2 μ z => tX1_readSoup_75 C hr hI h0 v2 μ z)
  refine g_aload_n C 0 dX1_readSoup_0 rfl ?_
  refine g_iconst C (v := (1 : Int32)) dX1_readSoup_1 (by decide) ?_
  refine g_bipush C (v := (9 : Int32)) dX1_readSoup_2 (by decide) ?_
  refine g_callVI C [.int ((1 : Int32)), .int ((9 : Int32))] [] (ok_X1_readNumber hI h0 h) (cw_RX1_137 _) rfl dc_X1_readNumber ⟨Nat.le_of_ble_eq_true rfl, Nat.le_of_ble_eq_true rfl⟩ (isX1_lt h0) (isX1_sh h0) rfl rfl rfl rfl (Nat.le_of_ble_eq_true rfl) dX1_readSoup_4 (fun r2 m1 h => ?_)
  refine g_if_ne C 12 dX1_readSoup_7 (by decide) (fun c3 => ?_) (fun c3 => ?_)
  · replace h := h.1 c3
    refine g_aload_n C 0 dX1_readSoup_12 rfl ?_
    refine gf_RX1_18 C h0 dX1_readSoup_13 ?_
    refine gf_RX1_182 C (isX1_told h0) dX1_readSoup_16 ?_
    refine g_iload_n C 1 dX1_readSoup_19 rfl ?_
    refine g_aload_n C 0 dX1_readSoup_20 rfl ?_
    refine gf_RX1_75 C h0 dX1_readSoup_21 ?_
    refine g_iast C (isX2_soupUnits (isX1_told h0)).1 (isX2_soupUnits (isX1_told h0)).2 h.1 dX1_readSoup_24 ?_
    replace h := h.2
    refine g_aload_n C 0 dX1_readSoup_25 rfl ?_
    refine g_callVI C [] [] (ok_X1_readName hI h0 h) (cw_RX1_185 _) rfl dc_X1_readName ⟨Nat.le_of_ble_eq_true rfl, Nat.le_of_ble_eq_true rfl⟩ (isX1_lt h0) (isX1_sh h0) rfl rfl rfl rfl (Nat.le_of_ble_eq_true rfl) dX1_readSoup_26 (fun r5 m4 h => ?_)
    refine g_if_ne C 34 dX1_readSoup_29 (by decide) (fun c6 => ?_) (fun c6 => ?_)
    · replace h := h.1 c6
      refine g_aload_n C 0 dX1_readSoup_34 rfl ?_
      refine gf_RX1_18 C h0 dX1_readSoup_35 ?_
      refine gf_RX1_188 C (isX1_told h0) dX1_readSoup_38 ?_
      refine g_iload_n C 1 dX1_readSoup_41 rfl ?_
      refine g_aload_n C 0 dX1_readSoup_42 rfl ?_
      refine g_bipush C (v := (97 : Int32)) dX1_readSoup_43 (by decide) ?_
      refine g_bipush C (v := (6 : Int32)) dX1_readSoup_45 (by decide) ?_
      refine g_callVI C [.int ((97 : Int32)), .int ((6 : Int32))] [.int p1, .ref (Y.ad (b + 2 + 8))] (ok_X1_lettersOnce hI h0 h) (cw_RX1_191 _) rfl dc_X1_lettersOnce ⟨Nat.le_of_ble_eq_true rfl, Nat.le_of_ble_eq_true rfl⟩ (isX1_lt h0) (isX1_sh h0) rfl rfl rfl rfl (Nat.le_of_ble_eq_true rfl) dX1_readSoup_47 (fun r8 m7 h => ?_)
      refine g_iast C (isX2_soupThings (isX1_told h0)).1 (isX2_soupThings (isX1_told h0)).2 h.1 dX1_readSoup_50 ?_
      replace h := h.2
      refine g_aload_n C 0 dX1_readSoup_51 rfl ?_
      refine gf_RX1_18 C h0 dX1_readSoup_52 ?_
      refine gf_RX1_188 C (isX1_told h0) dX1_readSoup_55 ?_
      refine g_iload_n C 1 dX1_readSoup_58 rfl ?_
      refine g_iald C (isX2_soupThings (isX1_told h0)).1 (isX2_soupThings (isX1_told h0)).2 h.1 dX1_readSoup_59 ?_
      replace h := h.2
      refine g_if_ne C 73 dX1_readSoup_60 (by decide) (fun c9 => ?_) (fun c9 => ?_)
      · replace h := h.1 c9
        refine g_iconst C (v := (0 : Int32)) dX1_readSoup_73 (by decide) ?_
        refine g_istore_n C [(2, .int ((0 : Int32))), (0, .ref (Y.ad b)), (1, .int p1)] dX1_readSoup_74 (by decide) rfl ?_
        refine g_lv (lv2 := [(0, .ref (Y.ad b)), (1, .int p1), (2, .int ((0 : Int32)))]) [1, 2, 0] ?_ rfl
        exact h
      · replace h := h.2 c9
        refine g_aload_n C 0 dX1_readSoup_63 rfl ?_
        refine g_iconst C (v := (3 : Int32)) dX1_readSoup_64 (by decide) ?_
        refine g_aload_n C 0 dX1_readSoup_65 rfl ?_
        refine gf_RX1_72 C h0 dX1_readSoup_66 ?_
        refine g_callVI C [.int ((3 : Int32)), .int ((ms m7 (b + 2 + 8) p1.toNatClampNeg r8).1 b 7)] [] (ok_X1_refuse hI h0 h) (cw_RX1_65 _) rfl dc_X1_refuse ⟨Nat.le_of_ble_eq_true rfl, Nat.le_of_ble_eq_true rfl⟩ (isX1_lt h0) (isX1_sh h0) rfl rfl rfl rfl (Nat.le_of_ble_eq_true rfl) dX1_readSoup_69 (fun r11 m10 h => ?_)
        exact hr _ _ _ _ _ dX1_readSoup_72 h.1.1 h.2
    · replace h := h.2 c6
      refine g_iconst C (v := (0 : Int32)) dX1_readSoup_32 (by decide) ?_
      exact hr _ _ _ _ _ dX1_readSoup_33 rfl h
  · replace h := h.2 c3
    refine g_iconst C (v := (0 : Int32)) dX1_readSoup_10 (by decide) ?_
    exact hr _ _ _ _ _ dX1_readSoup_11 rfl h
set_option maxRecDepth 20000 in
set_option maxHeartbeats 4000000 in
theorem ok_X1_readLike {Y : YT} {l0 : Launch} {b : Nat} {p1 : Int32} {μ : Mem} {Q : Int32 → Mem → Prop} (hI : YI Y) (h0 : isX1 Y b) (h : PX1_readLike b p1 μ Q) : MI l0 yX1_readLike WX1_readLike 3 65 Y [.ref (Y.ad b), .int p1] μ Q := by
  refine mI_of (ty := .boolean) (cc := cX1_readLike) (maxL := 2) (by decide +kernel) rfl hI (Nat.le_of_ble_eq_true rfl) (fun X C hr => ?_)
  replace C : Cx X Y 2 cX1_readLike RX1 WX1_readLike (rmB 3 65) l0 := C
  refine g_lv (lv2 := [(0, .ref (Y.ad b)), (1, .int p1)]) [0, 1] ?_ rfl
  unfold PX1_readLike at h
  refine g_aload_n C 0 dX1_readLike_0 rfl ?_
  refine g_iconst C (v := (0 : Int32)) dX1_readLike_1 (by decide) ?_
  refine g_bipush C (v := (9 : Int32)) dX1_readLike_2 (by decide) ?_
  refine g_callVI C [.int ((0 : Int32)), .int ((9 : Int32))] [] (ok_X1_readNumber hI h0 h) (cw_RX1_137 _) rfl dc_X1_readNumber ⟨Nat.le_of_ble_eq_true rfl, Nat.le_of_ble_eq_true rfl⟩ (isX1_lt h0) (isX1_sh h0) rfl rfl rfl rfl (Nat.le_of_ble_eq_true rfl) dX1_readLike_4 (fun r2 m1 h => ?_)
  refine g_if_ne C 12 dX1_readLike_7 (by decide) (fun c3 => ?_) (fun c3 => ?_)
  · replace h := h.1 c3
    refine g_aload_n C 0 dX1_readLike_12 rfl ?_
    refine gf_RX1_18 C h0 dX1_readLike_13 ?_
    refine gf_RX1_202 C (isX1_told h0) dX1_readLike_16 ?_
    refine g_iload_n C 1 dX1_readLike_19 rfl ?_
    refine g_aload_n C 0 dX1_readLike_20 rfl ?_
    refine gf_RX1_75 C h0 dX1_readLike_21 ?_
    refine g_iast C (isX2_likes (isX1_told h0)).1 (isX2_likes (isX1_told h0)).2 h.1 dX1_readLike_24 ?_
    replace h := h.2
    refine g_aload_n C 0 dX1_readLike_25 rfl ?_
    refine g_callVI C [] [] (ok_X1_readToken hI h0 h) (cw_RX1_29 _) rfl dc_X1_readToken ⟨Nat.le_of_ble_eq_true rfl, Nat.le_of_ble_eq_true rfl⟩ (isX1_lt h0) (isX1_sh h0) rfl rfl rfl rfl (Nat.le_of_ble_eq_true rfl) dX1_readLike_26 (fun r5 m4 h => ?_)
    exact hr _ _ _ _ _ dX1_readLike_29 h.1.1 h.2
  · replace h := h.2 c3
    refine g_iconst C (v := (0 : Int32)) dX1_readLike_10 (by decide) ?_
    exact hr _ _ _ _ _ dX1_readLike_11 rfl h
set_option maxRecDepth 20000 in
set_option maxHeartbeats 4000000 in
theorem ok_X1_readWont {Y : YT} {l0 : Launch} {b : Nat} {p1 : Int32} {μ : Mem} {Q : Int32 → Mem → Prop} (hI : YI Y) (h0 : isX1 Y b) (h : PX1_readWont b p1 μ Q) : MI l0 yX1_readWont WX1_readWont 3 63 Y [.ref (Y.ad b), .int p1] μ Q := by
  refine mI_of (ty := .boolean) (cc := cX1_readWont) (maxL := 2) (by decide +kernel) rfl hI (Nat.le_of_ble_eq_true rfl) (fun X C hr => ?_)
  replace C : Cx X Y 2 cX1_readWont RX1 WX1_readWont (rmB 3 63) l0 := C
  refine g_lv (lv2 := [(0, .ref (Y.ad b)), (1, .int p1)]) [0, 1] ?_ rfl
  unfold PX1_readWont at h
  refine g_aload_n C 0 dX1_readWont_0 rfl ?_
  refine g_callVI C [] [] (ok_X1_readName hI h0 h) (cw_RX1_185 _) rfl dc_X1_readName ⟨Nat.le_of_ble_eq_true rfl, Nat.le_of_ble_eq_true rfl⟩ (isX1_lt h0) (isX1_sh h0) rfl rfl rfl rfl (Nat.le_of_ble_eq_true rfl) dX1_readWont_1 (fun r2 m1 h => ?_)
  refine g_if_ne C 9 dX1_readWont_4 (by decide) (fun c3 => ?_) (fun c3 => ?_)
  · replace h := h.1 c3
    refine g_aload_n C 0 dX1_readWont_9 rfl ?_
    refine gf_RX1_18 C h0 dX1_readWont_10 ?_
    refine gf_RX1_205 C (isX1_told h0) dX1_readWont_13 ?_
    refine g_iload_n C 1 dX1_readWont_16 rfl ?_
    refine g_aload_n C 0 dX1_readWont_17 rfl ?_
    refine g_bipush C (v := (112 : Int32)) dX1_readWont_18 (by decide) ?_
    refine g_iconst C (v := (4 : Int32)) dX1_readWont_20 (by decide) ?_
    refine g_callVI C [.int ((112 : Int32)), .int ((4 : Int32))] [.int p1, .ref (Y.ad (b + 2 + 6))] (ok_X1_lettersOnce hI h0 h) (cw_RX1_191 _) rfl dc_X1_lettersOnce ⟨Nat.le_of_ble_eq_true rfl, Nat.le_of_ble_eq_true rfl⟩ (isX1_lt h0) (isX1_sh h0) rfl rfl rfl rfl (Nat.le_of_ble_eq_true rfl) dX1_readWont_21 (fun r5 m4 h => ?_)
    refine g_iast C (isX2_wont (isX1_told h0)).1 (isX2_wont (isX1_told h0)).2 h.1 dX1_readWont_24 ?_
    replace h := h.2
    refine g_aload_n C 0 dX1_readWont_25 rfl ?_
    refine gf_RX1_18 C h0 dX1_readWont_26 ?_
    refine gf_RX1_205 C (isX1_told h0) dX1_readWont_29 ?_
    refine g_iload_n C 1 dX1_readWont_32 rfl ?_
    refine g_iald C (isX2_wont (isX1_told h0)).1 (isX2_wont (isX1_told h0)).2 h.1 dX1_readWont_33 ?_
    replace h := h.2
    refine g_if_ne C 47 dX1_readWont_34 (by decide) (fun c6 => ?_) (fun c6 => ?_)
    · replace h := h.1 c6
      refine g_aload_n C 0 dX1_readWont_47 rfl ?_
      refine g_callVI C [] [] (ok_X1_readToken hI h0 h) (cw_RX1_29 _) rfl dc_X1_readToken ⟨Nat.le_of_ble_eq_true rfl, Nat.le_of_ble_eq_true rfl⟩ (isX1_lt h0) (isX1_sh h0) rfl rfl rfl rfl (Nat.le_of_ble_eq_true rfl) dX1_readWont_48 (fun r8 m7 h => ?_)
      exact hr _ _ _ _ _ dX1_readWont_51 h.1.1 h.2
    · replace h := h.2 c6
      refine g_aload_n C 0 dX1_readWont_37 rfl ?_
      refine g_iconst C (v := (3 : Int32)) dX1_readWont_38 (by decide) ?_
      refine g_aload_n C 0 dX1_readWont_39 rfl ?_
      refine gf_RX1_72 C h0 dX1_readWont_40 ?_
      refine g_callVI C [.int ((3 : Int32)), .int ((ms m4 (b + 2 + 6) p1.toNatClampNeg r5).1 b 7)] [] (ok_X1_refuse hI h0 h) (cw_RX1_65 _) rfl dc_X1_refuse ⟨Nat.le_of_ble_eq_true rfl, Nat.le_of_ble_eq_true rfl⟩ (isX1_lt h0) (isX1_sh h0) rfl rfl rfl rfl (Nat.le_of_ble_eq_true rfl) dX1_readWont_43 (fun r10 m9 h => ?_)
      exact hr _ _ _ _ _ dX1_readWont_46 h.1.1 h.2
  · replace h := h.2 c3
    refine g_iconst C (v := (0 : Int32)) dX1_readWont_7 (by decide) ?_
    exact hr _ _ _ _ _ dX1_readWont_8 rfl h
set_option maxRecDepth 20000 in
set_option maxHeartbeats 4000000 in
theorem ok_X1_readAgain {Y : YT} {l0 : Launch} {b : Nat} {μ : Mem} {Q : Int32 → Mem → Prop} (hI : YI Y) (h0 : isX1 Y b) (h : PX1_readAgain b μ Q) : MI l0 yX1_readAgain WX1_readAgain 3 65 Y [.ref (Y.ad b)] μ Q := by
  refine mI_of (ty := .boolean) (cc := cX1_readAgain) (maxL := 1) (by decide +kernel) rfl hI (Nat.le_of_ble_eq_true rfl) (fun X C hr => ?_)
  replace C : Cx X Y 1 cX1_readAgain RX1 WX1_readAgain (rmB 3 65) l0 := C
  refine g_lv (lv2 := [(0, .ref (Y.ad b))]) [0] ?_ rfl
  unfold PX1_readAgain at h
  refine g_aload_n C 0 dX1_readAgain_0 rfl ?_
  refine gf_RX1_49 C h0 dX1_readAgain_1 ?_
  refine g_if_eq C 17 dX1_readAgain_4 (by decide) (fun c1 => ?_) (fun c1 => ?_)
  · replace h := h.1 c1
    refine g_aload_n C 0 dX1_readAgain_17 rfl ?_
    refine g_iconst C (v := (1 : Int32)) dX1_readAgain_18 (by decide) ?_
    refine gp_RX1_49 C h0 nz1 dX1_readAgain_19 ?_
    refine g_aload_n C 0 dX1_readAgain_22 rfl ?_
    refine g_iconst C (v := (0 : Int32)) dX1_readAgain_23 (by decide) ?_
    refine g_bipush C (v := (7 : Int32)) dX1_readAgain_24 (by decide) ?_
    refine g_callVI C [.int ((0 : Int32)), .int ((7 : Int32))] [] (ok_X1_readNumber hI h0 h) (cw_RX1_137 _) rfl dc_X1_readNumber ⟨Nat.le_of_ble_eq_true rfl, Nat.le_of_ble_eq_true rfl⟩ (isX1_lt h0) (isX1_sh h0) rfl rfl rfl rfl (Nat.le_of_ble_eq_true rfl) dX1_readAgain_26 (fun r3 m2 h => ?_)
    refine g_if_ne C 34 dX1_readAgain_29 (by decide) (fun c4 => ?_) (fun c4 => ?_)
    · replace h := h.1 c4
      refine g_aload_n C 0 dX1_readAgain_34 rfl ?_
      refine gf_RX1_18 C h0 dX1_readAgain_35 ?_
      refine g_aload_n C 0 dX1_readAgain_38 rfl ?_
      refine gf_RX1_75 C h0 dX1_readAgain_39 ?_
      refine gp_RX1_207 C (isX1_told h0) dX1_readAgain_42 ?_
      refine g_aload_n C 0 dX1_readAgain_45 rfl ?_
      refine g_callVI C [] [] (ok_X1_readPoint hI h0 h) (cw_RX1_149 _) rfl dc_X1_readPoint ⟨Nat.le_of_ble_eq_true rfl, Nat.le_of_ble_eq_true rfl⟩ (isX1_lt h0) (isX1_sh h0) rfl rfl rfl rfl (Nat.le_of_ble_eq_true rfl) dX1_readAgain_46 (fun r6 m5 h => ?_)
      exact hr _ _ _ _ _ dX1_readAgain_49 h.1.1 h.2
    · replace h := h.2 c4
      refine g_iconst C (v := (0 : Int32)) dX1_readAgain_32 (by decide) ?_
      exact hr _ _ _ _ _ dX1_readAgain_33 rfl h
  · replace h := h.2 c1
    refine g_aload_n C 0 dX1_readAgain_7 rfl ?_
    refine g_iconst C (v := (4 : Int32)) dX1_readAgain_8 (by decide) ?_
    refine g_aload_n C 0 dX1_readAgain_9 rfl ?_
    refine gf_RX1_72 C h0 dX1_readAgain_10 ?_
    refine g_callVI C [.int ((4 : Int32)), .int (μ.1 b 7)] [] (ok_X1_refuse hI h0 h) (cw_RX1_65 _) rfl dc_X1_refuse ⟨Nat.le_of_ble_eq_true rfl, Nat.le_of_ble_eq_true rfl⟩ (isX1_lt h0) (isX1_sh h0) rfl rfl rfl rfl (Nat.le_of_ble_eq_true rfl) dX1_readAgain_13 (fun r8 m7 h => ?_)
    exact hr _ _ _ _ _ dX1_readAgain_16 h.1.1 h.2
def SX1_readShop_34 (X : XT) (Y : YT) (b : Nat) : Int32 → Int32 → Mem → Prop := fun v1 v2 μ => G X Y 3 34 [(0, .ref (Y.ad b)), (1, .int v1), (2, .int v2)] [] μ
set_option maxRecDepth 20000 in
set_option maxHeartbeats 4000000 in
theorem tX1_readShop_79 {X : XT} {Y : YT} {l0 : Launch} {b : Nat} {Q : Int32 → Mem → Prop} (C : Cx X Y 3 cX1_readShop RX1 WX1_readShop (rmB 2 43) l0) (hr : RI X Y cX1_readShop .boolean Q) (hI : YI Y) (h0 : isX1 Y b) (μ : Mem) (h : nX1_readShop_79 b Q (SX1_readShop_34 X Y b) μ) : G X Y 3 79 [(0, .ref (Y.ad b))] [] μ := by
  unfold nX1_readShop_79 at h
  refine g_aload_n C 0 dX1_readShop_79 rfl ?_
  refine g_iconst C (v := (3 : Int32)) dX1_readShop_80 (by decide) ?_
  refine g_aload_n C 0 dX1_readShop_81 rfl ?_
  refine gf_RX1_72 C h0 dX1_readShop_82 ?_
  refine g_callVI C [.int ((3 : Int32)), .int (μ.1 b 7)] [] (ok_X1_refuse hI h0 h) (cw_RX1_65 _) rfl dc_X1_refuse ⟨Nat.le_of_ble_eq_true rfl, Nat.le_of_ble_eq_true rfl⟩ (isX1_lt h0) (isX1_sh h0) rfl rfl rfl rfl (Nat.le_of_ble_eq_true rfl) dX1_readShop_85 (fun r16 m15 h => ?_)
  exact hr _ _ _ _ _ dX1_readShop_88 h.1.1 h.2
set_option maxRecDepth 20000 in
set_option maxHeartbeats 4000000 in
theorem tX1_readShop_34 {X : XT} {Y : YT} {l0 : Launch} {b : Nat} {Q : Int32 → Mem → Prop} (C : Cx X Y 3 cX1_readShop RX1 WX1_readShop (rmB 2 43) l0) (hr : RI X Y cX1_readShop .boolean Q) (hI : YI Y) (h0 : isX1 Y b) (v1 : Int32) (v2 : Int32) (μ : Mem) (h : nX1_readShop_34 b Q (SX1_readShop_34 X Y b) v1 v2 μ) : G X Y 3 34 [(0, .ref (Y.ad b)), (1, .int v1), (2, .int v2)] [] μ := by
  unfold nX1_readShop_34 at h
  refine g_iload_n C 2 dX1_readShop_34 rfl ?_
  refine g_bipush C (v := (7 : Int32)) dX1_readShop_35 (by decide) ?_
  refine g_icmp_gt C 120 dX1_readShop_37 (by decide) (fun c5 => ?_) (fun c5 => ?_)
  · replace h := h.1 c5
    refine g_iconst C (v := (0 : Int32)) dX1_readShop_120 (by decide) ?_
    exact hr _ _ _ _ _ dX1_readShop_121 rfl h
  · replace h := h.2 c5
    refine g_aload_n C 0 dX1_readShop_40 rfl ?_
    refine g_callVI C [] [] (ok_X1_readToken hI h0 h) (cw_RX1_29 _) rfl dc_X1_readToken ⟨Nat.le_of_ble_eq_true rfl, Nat.le_of_ble_eq_true rfl⟩ (isX1_lt h0) (isX1_sh h0) rfl rfl rfl rfl (Nat.le_of_ble_eq_true rfl) dX1_readShop_41 (fun r7 m6 h => ?_)
    refine g_if_ne C 49 dX1_readShop_44 (by decide) (fun c8 => ?_) (fun c8 => ?_)
    · replace h := h.1 c8
      refine g_aload_n C 0 dX1_readShop_49 rfl ?_
      refine gf_RX1_33 C h0 dX1_readShop_50 ?_
      refine g_iconst C (v := (2 : Int32)) dX1_readShop_53 (by decide) ?_
      refine g_icmp_eq C 62 dX1_readShop_54 (by decide) (fun c9 => ?_) (fun c9 => ?_)
      · replace h := h.1 c9
        refine g_aload_n C 0 dX1_readShop_62 rfl ?_
        refine gf_RX1_75 C h0 dX1_readShop_63 ?_
        refine g_iload_n C 1 dX1_readShop_66 rfl ?_
        refine g_icmp_lt C 79 dX1_readShop_67 (by decide) (fun c10 => ?_) (fun c10 => ?_)
        · replace h := h.1 c10
          refine g_lv (lv2 := [(0, .ref (Y.ad b))]) [0] ?_ rfl
          exact tX1_readShop_79 C hr hI h0 _ h
        · replace h := h.2 c10
          refine g_aload_n C 0 dX1_readShop_70 rfl ?_
          refine gf_RX1_75 C h0 dX1_readShop_71 ?_
          refine g_bipush C (v := (7 : Int32)) dX1_readShop_74 (by decide) ?_
          refine g_icmp_lt C 89 dX1_readShop_76 (by decide) (fun c11 => ?_) (fun c11 => ?_)
          · replace h := h.1 c11
            refine g_aload_n C 0 dX1_readShop_89 rfl ?_
            refine gf_RX1_18 C h0 dX1_readShop_90 ?_
            refine g_dup C dX1_readShop_93 rfl ?_
            refine gf_RX1_210 C (isX1_told h0) dX1_readShop_94 ?_
            refine g_iconst C (v := (1 : Int32)) dX1_readShop_97 (by decide) ?_
            refine g_aload_n C 0 dX1_readShop_98 rfl ?_
            refine gf_RX1_75 C h0 dX1_readShop_99 ?_
            refine g_ishl C dX1_readShop_102 ?_
            refine g_ior C dX1_readShop_103 ?_
            refine gp_RX1_210 C (isX1_told h0) dX1_readShop_104 ?_
            refine g_aload_n C 0 dX1_readShop_107 rfl ?_
            refine gf_RX1_75 C h0 dX1_readShop_108 ?_
            refine g_iconst C (v := (1 : Int32)) dX1_readShop_111 (by decide) ?_
            refine g_iadd C dX1_readShop_112 ?_
            refine g_topi (fun x12 ex12 => ?_)
            replace h := h x12 ex12
            refine g_istore_n C [(1, .int x12), (0, .ref (Y.ad b)), (2, .int v2)] dX1_readShop_113 (by decide) rfl ?_
            refine g_iinc C (v := v2 + 1) 2 [(2, .int (v2 + 1)), (1, .int x12), (0, .ref (Y.ad b))] dX1_readShop_114 rfl rfl (by decide) rfl ?_
            refine g_goto C 34 dX1_readShop_117 (by decide) ?_
            refine g_lv (lv2 := [(0, .ref (Y.ad b)), (1, .int x12), (2, .int (v2 + 1))]) [2, 1, 0] ?_ rfl
            exact h
          · replace h := h.2 c11
            refine g_lv (lv2 := [(0, .ref (Y.ad b))]) [0] ?_ rfl
            exact tX1_readShop_79 C hr hI h0 _ h
      · replace h := h.2 c9
        refine g_aload_n C 0 dX1_readShop_57 rfl ?_
        refine g_callVI C [] [] (ok_X1_isPoint hI h0 h) (cw_RX1_94 _) rfl dc_X1_isPoint ⟨Nat.le_of_ble_eq_true rfl, Nat.le_of_ble_eq_true rfl⟩ (isX1_lt h0) (isX1_sh h0) rfl rfl rfl rfl (Nat.le_of_ble_eq_true rfl) dX1_readShop_58 (fun r14 m13 h => ?_)
        exact hr _ _ _ _ _ dX1_readShop_61 h.1.1 h.2
    · replace h := h.2 c8
      refine g_iconst C (v := (0 : Int32)) dX1_readShop_47 (by decide) ?_
      exact hr _ _ _ _ _ dX1_readShop_48 rfl h
set_option maxRecDepth 20000 in
set_option maxHeartbeats 4000000 in
theorem ok_X1_readShop {Y : YT} {l0 : Launch} {b : Nat} {μ : Mem} {Q : Int32 → Mem → Prop} (hI : YI Y) (h0 : isX1 Y b) (h : PX1_readShop b μ Q) : MI l0 yX1_readShop WX1_readShop 2 43 Y [.ref (Y.ad b)] μ Q := by
  refine mI_of (ty := .boolean) (cc := cX1_readShop) (maxL := 3) (by decide +kernel) rfl hI (Nat.le_of_ble_eq_true rfl) (fun X C hr => ?_)
  replace C : Cx X Y 3 cX1_readShop RX1 WX1_readShop (rmB 2 43) l0 := C
  refine g_lv (lv2 := [(0, .ref (Y.ad b))]) [0] ?_ rfl
  unfold PX1_readShop at h
  replace h := h (SX1_readShop_34 X Y b) (fun v1 v2 μ z => tX1_readShop_34 C hr hI h0 v1 v2 μ z)
  refine g_aload_n C 0 dX1_readShop_0 rfl ?_
  refine gf_RX1_53 C h0 dX1_readShop_1 ?_
  refine g_if_eq C 17 dX1_readShop_4 (by decide) (fun c1 => ?_) (fun c1 => ?_)
  · replace h := h.1 c1
    refine g_aload_n C 0 dX1_readShop_17 rfl ?_
    refine g_iconst C (v := (1 : Int32)) dX1_readShop_18 (by decide) ?_
    refine gp_RX1_53 C h0 nz1 dX1_readShop_19 ?_
    refine g_aload_n C 0 dX1_readShop_22 rfl ?_
    refine gf_RX1_18 C h0 dX1_readShop_23 ?_
    refine g_iconst C (v := (0 : Int32)) dX1_readShop_26 (by decide) ?_
    refine gp_RX1_210 C (isX1_told h0) dX1_readShop_27 ?_
    refine g_mem (fun m2 em2 => ?_)
    replace h := h m2 em2
    refine g_iconst C (v := (0 : Int32)) dX1_readShop_30 (by decide) ?_
    refine g_istore_n C [(1, .int ((0 : Int32))), (0, .ref (Y.ad b))] dX1_readShop_31 (by decide) rfl ?_
    refine g_iconst C (v := (0 : Int32)) dX1_readShop_32 (by decide) ?_
    refine g_istore_n C [(2, .int ((0 : Int32))), (1, .int ((0 : Int32))), (0, .ref (Y.ad b))] dX1_readShop_33 (by decide) rfl ?_
    refine g_lv (lv2 := [(0, .ref (Y.ad b)), (1, .int ((0 : Int32))), (2, .int ((0 : Int32)))]) [2, 1, 0] ?_ rfl
    exact h
  · replace h := h.2 c1
    refine g_aload_n C 0 dX1_readShop_7 rfl ?_
    refine g_iconst C (v := (4 : Int32)) dX1_readShop_8 (by decide) ?_
    refine g_aload_n C 0 dX1_readShop_9 rfl ?_
    refine gf_RX1_72 C h0 dX1_readShop_10 ?_
    refine g_callVI C [.int ((4 : Int32)), .int (μ.1 b 7)] [] (ok_X1_refuse hI h0 h) (cw_RX1_65 _) rfl dc_X1_refuse ⟨Nat.le_of_ble_eq_true rfl, Nat.le_of_ble_eq_true rfl⟩ (isX1_lt h0) (isX1_sh h0) rfl rfl rfl rfl (Nat.le_of_ble_eq_true rfl) dX1_readShop_13 (fun r4 m3 h => ?_)
    exact hr _ _ _ _ _ dX1_readShop_16 h.1.1 h.2
set_option maxRecDepth 20000 in
set_option maxHeartbeats 4000000 in
theorem ok_X1_readOut {Y : YT} {l0 : Launch} {b : Nat} {μ : Mem} {Q : Int32 → Mem → Prop} (hI : YI Y) (h0 : isX1 Y b) (h : PX1_readOut b μ Q) : MI l0 yX1_readOut WX1_readOut 3 65 Y [.ref (Y.ad b)] μ Q := by
  refine mI_of (ty := .boolean) (cc := cX1_readOut) (maxL := 1) (by decide +kernel) rfl hI (Nat.le_of_ble_eq_true rfl) (fun X C hr => ?_)
  replace C : Cx X Y 1 cX1_readOut RX1 WX1_readOut (rmB 3 65) l0 := C
  refine g_lv (lv2 := [(0, .ref (Y.ad b))]) [0] ?_ rfl
  unfold PX1_readOut at h
  refine g_aload_n C 0 dX1_readOut_0 rfl ?_
  refine g_iconst C (v := (0 : Int32)) dX1_readOut_1 (by decide) ?_
  refine g_bipush C (v := (6 : Int32)) dX1_readOut_2 (by decide) ?_
  refine g_callVI C [.int ((0 : Int32)), .int ((6 : Int32))] [] (ok_X1_readNumber hI h0 h) (cw_RX1_137 _) rfl dc_X1_readNumber ⟨Nat.le_of_ble_eq_true rfl, Nat.le_of_ble_eq_true rfl⟩ (isX1_lt h0) (isX1_sh h0) rfl rfl rfl rfl (Nat.le_of_ble_eq_true rfl) dX1_readOut_4 (fun r2 m1 h => ?_)
  refine g_if_ne C 12 dX1_readOut_7 (by decide) (fun c3 => ?_) (fun c3 => ?_)
  · replace h := h.1 c3
    refine g_aload_n C 0 dX1_readOut_12 rfl ?_
    refine gf_RX1_18 C h0 dX1_readOut_13 ?_
    refine g_aload_n C 0 dX1_readOut_16 rfl ?_
    refine gf_RX1_75 C h0 dX1_readOut_17 ?_
    refine g_callVI C [.int (m1.1 b 8)] [] (ok_X2_isOut hI (isX1_told h0) h) (cw_RX1_213 _) rfl dc_X2_isOut ⟨Nat.le_of_ble_eq_true rfl, Nat.le_of_ble_eq_true rfl⟩ (isX2_lt (isX1_told h0)) (isX2_sh (isX1_told h0)) rfl rfl rfl rfl (Nat.le_of_ble_eq_true rfl) dX1_readOut_20 (fun r5 m4 h => ?_)
    refine g_if_eq C 36 dX1_readOut_23 (by decide) (fun c6 => ?_) (fun c6 => ?_)
    · replace h := h.1 c6
      refine g_aload_n C 0 dX1_readOut_36 rfl ?_
      refine gf_RX1_18 C h0 dX1_readOut_37 ?_
      refine g_dup C dX1_readOut_40 rfl ?_
      refine gf_RX1_216 C (isX1_told h0) dX1_readOut_41 ?_
      refine g_iconst C (v := (1 : Int32)) dX1_readOut_44 (by decide) ?_
      refine g_aload_n C 0 dX1_readOut_45 rfl ?_
      refine gf_RX1_75 C h0 dX1_readOut_46 ?_
      refine g_ishl C dX1_readOut_49 ?_
      refine g_ior C dX1_readOut_50 ?_
      refine gp_RX1_216 C (isX1_told h0) dX1_readOut_51 ?_
      refine g_aload_n C 0 dX1_readOut_54 rfl ?_
      refine g_callVI C [] [] (ok_X1_readPoint hI h0 h) (cw_RX1_149 _) rfl dc_X1_readPoint ⟨Nat.le_of_ble_eq_true rfl, Nat.le_of_ble_eq_true rfl⟩ (isX1_lt h0) (isX1_sh h0) rfl rfl rfl rfl (Nat.le_of_ble_eq_true rfl) dX1_readOut_55 (fun r8 m7 h => ?_)
      exact hr _ _ _ _ _ dX1_readOut_58 h.1.1 h.2
    · replace h := h.2 c6
      refine g_aload_n C 0 dX1_readOut_26 rfl ?_
      refine g_iconst C (v := (4 : Int32)) dX1_readOut_27 (by decide) ?_
      refine g_aload_n C 0 dX1_readOut_28 rfl ?_
      refine gf_RX1_72 C h0 dX1_readOut_29 ?_
      refine g_callVI C [.int ((4 : Int32)), .int (m4.1 b 7)] [] (ok_X1_refuse hI h0 h) (cw_RX1_65 _) rfl dc_X1_refuse ⟨Nat.le_of_ble_eq_true rfl, Nat.le_of_ble_eq_true rfl⟩ (isX1_lt h0) (isX1_sh h0) rfl rfl rfl rfl (Nat.le_of_ble_eq_true rfl) dX1_readOut_32 (fun r10 m9 h => ?_)
      exact hr _ _ _ _ _ dX1_readOut_35 h.1.1 h.2
  · replace h := h.2 c3
    refine g_iconst C (v := (0 : Int32)) dX1_readOut_10 (by decide) ?_
    exact hr _ _ _ _ _ dX1_readOut_11 rfl h
set_option maxRecDepth 20000 in
set_option maxHeartbeats 4000000 in
theorem ok_X1_readGuest {Y : YT} {l0 : Launch} {b : Nat} {μ : Mem} {Q : Int32 → Mem → Prop} (hI : YI Y) (h0 : isX1 Y b) (h : PX1_readGuest b μ Q) : MI l0 yX1_readGuest WX1_readGuest 3 65 Y [.ref (Y.ad b)] μ Q := by
  refine mI_of (ty := .boolean) (cc := cX1_readGuest) (maxL := 2) (by decide +kernel) rfl hI (Nat.le_of_ble_eq_true rfl) (fun X C hr => ?_)
  replace C : Cx X Y 2 cX1_readGuest RX1 WX1_readGuest (rmB 3 65) l0 := C
  refine g_lv (lv2 := [(0, .ref (Y.ad b))]) [0] ?_ rfl
  unfold PX1_readGuest at h
  refine g_aload_n C 0 dX1_readGuest_0 rfl ?_
  refine g_iconst C (v := (0 : Int32)) dX1_readGuest_1 (by decide) ?_
  refine g_bipush C (v := (6 : Int32)) dX1_readGuest_2 (by decide) ?_
  refine g_callVI C [.int ((0 : Int32)), .int ((6 : Int32))] [] (ok_X1_readNumber hI h0 h) (cw_RX1_137 _) rfl dc_X1_readNumber ⟨Nat.le_of_ble_eq_true rfl, Nat.le_of_ble_eq_true rfl⟩ (isX1_lt h0) (isX1_sh h0) rfl rfl rfl rfl (Nat.le_of_ble_eq_true rfl) dX1_readGuest_4 (fun r2 m1 h => ?_)
  refine g_if_ne C 12 dX1_readGuest_7 (by decide) (fun c3 => ?_) (fun c3 => ?_)
  · replace h := h.1 c3
    refine g_aload_n C 0 dX1_readGuest_12 rfl ?_
    refine gf_RX1_75 C h0 dX1_readGuest_13 ?_
    refine g_istore_n C [(1, .int (m1.1 b 8)), (0, .ref (Y.ad b))] dX1_readGuest_16 (by decide) rfl ?_
    refine g_aload_n C 1 dX1_readGuest_17 rfl ?_
    refine gf_RX1_18 C h0 dX1_readGuest_18 ?_
    refine gf_RX1_219 C (isX1_told h0) dX1_readGuest_21 ?_
    refine g_iload_n C 0 dX1_readGuest_24 rfl ?_
    refine g_iald C (isX2_chances (isX1_told h0)).1 (isX2_chances (isX1_told h0)).2 h.1 dX1_readGuest_25 ?_
    replace h := h.2
    refine g_if_eq C 39 dX1_readGuest_26 (by decide) (fun c4 => ?_) (fun c4 => ?_)
    · replace h := h.1 c4
      refine g_aload_n C 1 dX1_readGuest_39 rfl ?_
      refine g_iconst C (v := (1 : Int32)) dX1_readGuest_40 (by decide) ?_
      refine g_iconst C (v := (4 : Int32)) dX1_readGuest_41 (by decide) ?_
      refine g_callVI C [.int ((1 : Int32)), .int ((4 : Int32))] [] (ok_X1_readNumber hI h0 h) (cw_RX1_137 _) rfl dc_X1_readNumber ⟨Nat.le_of_ble_eq_true rfl, Nat.le_of_ble_eq_true rfl⟩ (isX1_lt h0) (isX1_sh h0) rfl rfl rfl rfl (Nat.le_of_ble_eq_true rfl) dX1_readGuest_42 (fun r6 m5 h => ?_)
      refine g_if_ne C 50 dX1_readGuest_45 (by decide) (fun c7 => ?_) (fun c7 => ?_)
      · replace h := h.1 c7
        refine g_aload_n C 1 dX1_readGuest_50 rfl ?_
        refine gf_RX1_18 C h0 dX1_readGuest_51 ?_
        refine gf_RX1_219 C (isX1_told h0) dX1_readGuest_54 ?_
        refine g_iload_n C 0 dX1_readGuest_57 rfl ?_
        refine g_aload_n C 1 dX1_readGuest_58 rfl ?_
        refine gf_RX1_75 C h0 dX1_readGuest_59 ?_
        refine g_iast C (isX2_chances (isX1_told h0)).1 (isX2_chances (isX1_told h0)).2 h.1 dX1_readGuest_62 ?_
        replace h := h.2
        refine g_aload_n C 1 dX1_readGuest_63 rfl ?_
        refine g_callVI C [] [] (ok_X1_readPoint hI h0 h) (cw_RX1_149 _) rfl dc_X1_readPoint ⟨Nat.le_of_ble_eq_true rfl, Nat.le_of_ble_eq_true rfl⟩ (isX1_lt h0) (isX1_sh h0) rfl rfl rfl rfl (Nat.le_of_ble_eq_true rfl) dX1_readGuest_64 (fun r9 m8 h => ?_)
        exact hr _ _ _ _ _ dX1_readGuest_67 h.1.1 h.2
      · replace h := h.2 c7
        refine g_iconst C (v := (0 : Int32)) dX1_readGuest_48 (by decide) ?_
        exact hr _ _ _ _ _ dX1_readGuest_49 rfl h
    · replace h := h.2 c4
      refine g_aload_n C 1 dX1_readGuest_29 rfl ?_
      refine g_iconst C (v := (4 : Int32)) dX1_readGuest_30 (by decide) ?_
      refine g_aload_n C 1 dX1_readGuest_31 rfl ?_
      refine gf_RX1_72 C h0 dX1_readGuest_32 ?_
      refine g_callVI C [.int ((4 : Int32)), .int (m1.1 b 7)] [] (ok_X1_refuse hI h0 h) (cw_RX1_65 _) rfl dc_X1_refuse ⟨Nat.le_of_ble_eq_true rfl, Nat.le_of_ble_eq_true rfl⟩ (isX1_lt h0) (isX1_sh h0) rfl rfl rfl rfl (Nat.le_of_ble_eq_true rfl) dX1_readGuest_35 (fun r11 m10 h => ?_)
      exact hr _ _ _ _ _ dX1_readGuest_38 h.1.1 h.2
  · replace h := h.2 c3
    refine g_iconst C (v := (0 : Int32)) dX1_readGuest_10 (by decide) ?_
    exact hr _ _ _ _ _ dX1_readGuest_11 rfl h
def SX1_findThingNotTold_10 (X : XT) (Y : YT) (b : Nat) : Int32 → Int32 → Mem → Prop := fun v1 v2 μ => G X Y 3 10 [(0, .ref (Y.ad b)), (1, .int v1), (2, .int v2)] [] μ
set_option maxRecDepth 20000 in
set_option maxHeartbeats 4000000 in
theorem tX1_findThingNotTold_48 {X : XT} {Y : YT} {l0 : Launch} {b : Nat} {Q : Mem → Prop} (C : Cx X Y 3 cX1_findThingNotTold RX1 WX1_findThingNotTold (rmB 1 22) l0) (hr : RV X Y cX1_findThingNotTold Q) (hI : YI Y) (h0 : isX1 Y b) (v1 : Int32) (v2 : Int32) (μ : Mem) (h : nX1_findThingNotTold_48 b Q (SX1_findThingNotTold_10 X Y b) v1 v2 μ) : G X Y 3 48 [(0, .ref (Y.ad b)), (1, .int v1), (2, .int v2)] [] μ := by
  unfold nX1_findThingNotTold_48 at h
  refine g_iinc C (v := v2 + 1) 2 [(2, .int (v2 + 1)), (0, .ref (Y.ad b)), (1, .int v1)] dX1_findThingNotTold_48 rfl rfl (by decide) rfl ?_
  refine g_goto C 10 dX1_findThingNotTold_51 (by decide) ?_
  refine g_lv (lv2 := [(0, .ref (Y.ad b)), (1, .int v1), (2, .int (v2 + 1))]) [1, 2, 0] ?_ rfl
  exact h
set_option maxRecDepth 20000 in
set_option maxHeartbeats 4000000 in
theorem tX1_findThingNotTold_41 {X : XT} {Y : YT} {l0 : Launch} {b : Nat} {Q : Mem → Prop} (C : Cx X Y 3 cX1_findThingNotTold RX1 WX1_findThingNotTold (rmB 1 22) l0) (hr : RV X Y cX1_findThingNotTold Q) (hI : YI Y) (h0 : isX1 Y b) (v2 : Int32) (μ : Mem) (h : nX1_findThingNotTold_41 b Q (SX1_findThingNotTold_10 X Y b) v2 μ) : G X Y 3 41 [(0, .ref (Y.ad b)), (2, .int v2)] [] μ := by
  unfold nX1_findThingNotTold_41 at h
  refine g_aload_n C 0 dX1_findThingNotTold_41 rfl ?_
  refine gf_RX1_22 C h0 dX1_findThingNotTold_42 ?_
  refine g_iload_n C 1 dX1_findThingNotTold_45 rfl ?_
  refine g_iald C (isX1_firstUse h0).1 (isX1_firstUse h0).2 h.1 dX1_findThingNotTold_46 ?_
  replace h := h.2
  refine g_istore_n C [(1, .int (μ.1 (b + 14) v2.toNatClampNeg)), (0, .ref (Y.ad b)), (2, .int v2)] dX1_findThingNotTold_47 (by decide) rfl ?_
  refine g_lv (lv2 := [(0, .ref (Y.ad b)), (1, .int (μ.1 (b + 14) v2.toNatClampNeg)), (2, .int v2)]) [1, 0, 2] ?_ rfl
  exact tX1_findThingNotTold_48 C hr hI h0 _ _ _ h
set_option maxRecDepth 20000 in
set_option maxHeartbeats 4000000 in
theorem tX1_findThingNotTold_10 {X : XT} {Y : YT} {l0 : Launch} {b : Nat} {Q : Mem → Prop} (C : Cx X Y 3 cX1_findThingNotTold RX1 WX1_findThingNotTold (rmB 1 22) l0) (hr : RV X Y cX1_findThingNotTold Q) (hI : YI Y) (h0 : isX1 Y b) (v1 : Int32) (v2 : Int32) (μ : Mem) (h : nX1_findThingNotTold_10 b Q (SX1_findThingNotTold_10 X Y b) v1 v2 μ) : G X Y 3 10 [(0, .ref (Y.ad b)), (1, .int v1), (2, .int v2)] [] μ := by
  unfold nX1_findThingNotTold_10 at h
  refine g_iload_n C 2 dX1_findThingNotTold_10 rfl ?_
  refine g_bipush C (v := (6 : Int32)) dX1_findThingNotTold_11 (by decide) ?_
  refine g_icmp_ge C 54 dX1_findThingNotTold_13 (by decide) (fun c1 => ?_) (fun c1 => ?_)
  · replace h := h.1 c1
    refine g_iload_n C 1 dX1_findThingNotTold_54 rfl ?_
    refine g_iconst C (v := (-1 : Int32)) dX1_findThingNotTold_55 (by decide) ?_
    refine g_icmp_eq C 67 dX1_findThingNotTold_56 (by decide) (fun c2 => ?_) (fun c2 => ?_)
    · replace h := h.1 c2
      exact hr _ _ _ _ dX1_findThingNotTold_67 h
    · replace h := h.2 c2
      refine g_aload_n C 0 dX1_findThingNotTold_59 rfl ?_
      refine g_bipush C (v := (6 : Int32)) dX1_findThingNotTold_60 (by decide) ?_
      refine g_iload_n C 1 dX1_findThingNotTold_62 rfl ?_
      refine g_callVI C [.int ((6 : Int32)), .int v1] [] (ok_X1_refuse hI h0 h) (cw_RX1_65 _) rfl dc_X1_refuse ⟨Nat.le_of_ble_eq_true rfl, Nat.le_of_ble_eq_true rfl⟩ (isX1_lt h0) (isX1_sh h0) rfl rfl rfl rfl (Nat.le_of_ble_eq_true rfl) dX1_findThingNotTold_63 (fun r4 m3 h => ?_)
      refine g_pop C dX1_findThingNotTold_66 rfl ?_
      exact hr _ _ _ _ dX1_findThingNotTold_67 h
  · replace h := h.2 c1
    refine g_aload_n C 0 dX1_findThingNotTold_16 rfl ?_
    refine gf_RX1_22 C h0 dX1_findThingNotTold_17 ?_
    refine g_iload_n C 2 dX1_findThingNotTold_20 rfl ?_
    refine g_iald C (isX1_firstUse h0).1 (isX1_firstUse h0).2 h.1 dX1_findThingNotTold_21 ?_
    replace h := h.2
    refine g_iconst C (v := (-1 : Int32)) dX1_findThingNotTold_22 (by decide) ?_
    refine g_icmp_eq C 48 dX1_findThingNotTold_23 (by decide) (fun c5 => ?_) (fun c5 => ?_)
    · replace h := h.1 c5
      exact tX1_findThingNotTold_48 C hr hI h0 _ _ _ h
    · replace h := h.2 c5
      refine g_iload_n C 1 dX1_findThingNotTold_26 rfl ?_
      refine g_iconst C (v := (-1 : Int32)) dX1_findThingNotTold_27 (by decide) ?_
      refine g_icmp_eq C 41 dX1_findThingNotTold_28 (by decide) (fun c6 => ?_) (fun c6 => ?_)
      · replace h := h.1 c6
        refine g_lv (lv2 := [(0, .ref (Y.ad b)), (2, .int v2)]) [0, 2] ?_ rfl
        exact tX1_findThingNotTold_41 C hr hI h0 _ _ h
      · replace h := h.2 c6
        refine g_aload_n C 0 dX1_findThingNotTold_31 rfl ?_
        refine gf_RX1_22 C h0 dX1_findThingNotTold_32 ?_
        refine g_iload_n C 2 dX1_findThingNotTold_35 rfl ?_
        refine g_iald C (isX1_firstUse h0).1 (isX1_firstUse h0).2 h.1 dX1_findThingNotTold_36 ?_
        replace h := h.2
        refine g_iload_n C 1 dX1_findThingNotTold_37 rfl ?_
        refine g_icmp_ge C 48 dX1_findThingNotTold_38 (by decide) (fun c7 => ?_) (fun c7 => ?_)
        · replace h := h.1 c7
          exact tX1_findThingNotTold_48 C hr hI h0 _ _ _ h
        · replace h := h.2 c7
          refine g_lv (lv2 := [(0, .ref (Y.ad b)), (2, .int v2)]) [0, 2] ?_ rfl
          exact tX1_findThingNotTold_41 C hr hI h0 _ _ h
set_option maxRecDepth 20000 in
set_option maxHeartbeats 4000000 in
theorem ok_X1_findThingNotTold {Y : YT} {l0 : Launch} {b : Nat} {μ : Mem} {Q : Mem → Prop} (hI : YI Y) (h0 : isX1 Y b) (h : PX1_findThingNotTold b μ Q) : MV l0 yX1_findThingNotTold WX1_findThingNotTold 1 22 Y [.ref (Y.ad b)] μ Q := by
  refine mV_of (cc := cX1_findThingNotTold) (maxL := 3) (by decide +kernel) rfl hI (Nat.le_of_ble_eq_true rfl) (fun X C hr => ?_)
  replace C : Cx X Y 3 cX1_findThingNotTold RX1 WX1_findThingNotTold (rmB 1 22) l0 := C
  refine g_lv (lv2 := [(0, .ref (Y.ad b))]) [0] ?_ rfl
  unfold PX1_findThingNotTold at h
  replace h := h (SX1_findThingNotTold_10 X Y b) (fun v1 v2 μ z => tX1_findThingNotTold_10 C hr hI h0 v1 v2 μ z)
  refine g_iconst C (v := (-1 : Int32)) dX1_findThingNotTold_0 (by decide) ?_
  refine g_istore_n C [(1, .int ((-1 : Int32))), (0, .ref (Y.ad b))] dX1_findThingNotTold_1 (by decide) rfl ?_
  refine g_aload_n C 1 dX1_findThingNotTold_2 rfl ?_
  refine gf_RX1_18 C h0 dX1_findThingNotTold_3 ?_
  refine gf_RX1_62 C (isX1_told h0) dX1_findThingNotTold_6 ?_
  refine g_istore_n C [(2, .int (μ.1 (b + 2) 0)), (1, .int ((-1 : Int32))), (0, .ref (Y.ad b))] dX1_findThingNotTold_9 (by decide) rfl ?_
  refine g_lv (lv2 := [(0, .ref (Y.ad b)), (1, .int ((-1 : Int32))), (2, .int (μ.1 (b + 2) 0))]) [2, 1, 0] ?_ rfl
  exact h
set_option maxRecDepth 20000 in
set_option maxHeartbeats 4000000 in
theorem ok_X2_copyFrom {Y : YT} {l0 : Launch} {b : Nat} {r1 : Nat} {μ : Mem} {Q : Mem → Prop} (hI : YI Y) (h0 : isX2 Y b) (h1 : isX2 Y r1) (h : PX2_copyFrom b r1 μ Q) : MV l0 yX2_copyFrom WX2_copyFrom 1 18 Y [.ref (Y.ad b), .ref (Y.ad r1)] μ Q := by
  refine mV_of (cc := cX2_copyFrom) (maxL := 2) (by decide +kernel) rfl hI (Nat.le_of_ble_eq_true rfl) (fun X C hr => ?_)
  replace C : Cx X Y 2 cX2_copyFrom RX2 WX2_copyFrom (rmB 1 18) l0 := C
  refine g_lv (lv2 := [(0, .ref (Y.ad b)), (1, .ref (Y.ad r1))]) [0, 1] ?_ rfl
  unfold PX2_copyFrom at h
  refine g_aload_n C 0 dX2_copyFrom_0 rfl ?_
  refine g_aload_n C 1 dX2_copyFrom_1 rfl ?_
  refine gf_RX2_48 C h1 dX2_copyFrom_2 ?_
  refine gp_RX2_48 C h0 dX2_copyFrom_5 ?_
  refine g_aload_n C 1 dX2_copyFrom_8 rfl ?_
  refine gf_RX2_9 C h1 dX2_copyFrom_9 ?_
  refine g_iconst C (v := (0 : Int32)) dX2_copyFrom_12 (by decide) ?_
  refine g_aload_n C 0 dX2_copyFrom_13 rfl ?_
  refine gf_RX2_9 C h0 dX2_copyFrom_14 ?_
  refine g_iconst C (v := (0 : Int32)) dX2_copyFrom_17 (by decide) ?_
  refine g_bipush C (v := (6 : Int32)) dX2_copyFrom_18 (by decide) ?_
  refine g_copy C (List.mem_cons_of_mem _ mM_RX2_68) (List.mem_cons_of_mem _ mLib_copy_n) (List.mem_cons_of_mem _ mLib_copy_s) (List.mem_cons_of_mem _ mLib_sys) (isX2_keeps h1).1 (isX2_keeps h0).1 (isX2_keeps h1).2 (isX2_keeps h0).2 (by decide) (by decide) (by decide) (by decide) (by decide) (Nat.le_of_ble_eq_true rfl) (Nat.le_of_ble_eq_true rfl) dX2_copyFrom_20 ?_
  refine g_mem (fun m1 em1 => ?_)
  replace h := h m1 em1
  refine g_aload_n C 1 dX2_copyFrom_23 rfl ?_
  refine gf_RX2_15 C h1 dX2_copyFrom_24 ?_
  refine g_iconst C (v := (0 : Int32)) dX2_copyFrom_27 (by decide) ?_
  refine g_aload_n C 0 dX2_copyFrom_28 rfl ?_
  refine gf_RX2_15 C h0 dX2_copyFrom_29 ?_
  refine g_iconst C (v := (0 : Int32)) dX2_copyFrom_32 (by decide) ?_
  refine g_bipush C (v := (6 : Int32)) dX2_copyFrom_33 (by decide) ?_
  refine g_copy C (List.mem_cons_of_mem _ mM_RX2_68) (List.mem_cons_of_mem _ mLib_copy_n) (List.mem_cons_of_mem _ mLib_copy_s) (List.mem_cons_of_mem _ mLib_sys) (isX2_pack h1).1 (isX2_pack h0).1 (isX2_pack h1).2 (isX2_pack h0).2 (by decide) (by decide) (by decide) (by decide) (by decide) (Nat.le_of_ble_eq_true rfl) (Nat.le_of_ble_eq_true rfl) dX2_copyFrom_35 ?_
  refine g_mem (fun m2 em2 => ?_)
  replace h := h m2 em2
  refine g_aload_n C 1 dX2_copyFrom_38 rfl ?_
  refine gf_RX2_18 C h1 dX2_copyFrom_39 ?_
  refine g_iconst C (v := (0 : Int32)) dX2_copyFrom_42 (by decide) ?_
  refine g_aload_n C 0 dX2_copyFrom_43 rfl ?_
  refine gf_RX2_18 C h0 dX2_copyFrom_44 ?_
  refine g_iconst C (v := (0 : Int32)) dX2_copyFrom_47 (by decide) ?_
  refine g_bipush C (v := (6 : Int32)) dX2_copyFrom_48 (by decide) ?_
  refine g_copy C (List.mem_cons_of_mem _ mM_RX2_68) (List.mem_cons_of_mem _ mLib_copy_n) (List.mem_cons_of_mem _ mLib_copy_s) (List.mem_cons_of_mem _ mLib_sys) (isX2_price h1).1 (isX2_price h0).1 (isX2_price h1).2 (isX2_price h0).2 (by decide) (by decide) (by decide) (by decide) (by decide) (Nat.le_of_ble_eq_true rfl) (Nat.le_of_ble_eq_true rfl) dX2_copyFrom_50 ?_
  refine g_mem (fun m3 em3 => ?_)
  replace h := h m3 em3
  refine g_aload_n C 0 dX2_copyFrom_53 rfl ?_
  refine g_aload_n C 1 dX2_copyFrom_54 rfl ?_
  refine gf_RX2_52 C h1 dX2_copyFrom_55 ?_
  refine gp_RX2_52 C h0 dX2_copyFrom_58 ?_
  refine g_aload_n C 1 dX2_copyFrom_61 rfl ?_
  refine gf_RX2_21 C h1 dX2_copyFrom_62 ?_
  refine g_iconst C (v := (0 : Int32)) dX2_copyFrom_65 (by decide) ?_
  refine g_aload_n C 0 dX2_copyFrom_66 rfl ?_
  refine gf_RX2_21 C h0 dX2_copyFrom_67 ?_
  refine g_iconst C (v := (0 : Int32)) dX2_copyFrom_70 (by decide) ?_
  refine g_bipush C (v := (9 : Int32)) dX2_copyFrom_71 (by decide) ?_
  refine g_copy C (List.mem_cons_of_mem _ mM_RX2_68) (List.mem_cons_of_mem _ mLib_copy_n) (List.mem_cons_of_mem _ mLib_copy_s) (List.mem_cons_of_mem _ mLib_sys) (isX2_kind h1).1 (isX2_kind h0).1 (isX2_kind h1).2 (isX2_kind h0).2 (by decide) (by decide) (by decide) (by decide) (by decide) (Nat.le_of_ble_eq_true rfl) (Nat.le_of_ble_eq_true rfl) dX2_copyFrom_73 ?_
  refine g_mem (fun m4 em4 => ?_)
  replace h := h m4 em4
  refine g_aload_n C 1 dX2_copyFrom_76 rfl ?_
  refine gf_RX2_24 C h1 dX2_copyFrom_77 ?_
  refine g_iconst C (v := (0 : Int32)) dX2_copyFrom_80 (by decide) ?_
  refine g_aload_n C 0 dX2_copyFrom_81 rfl ?_
  refine gf_RX2_24 C h0 dX2_copyFrom_82 ?_
  refine g_iconst C (v := (0 : Int32)) dX2_copyFrom_85 (by decide) ?_
  refine g_bipush C (v := (9 : Int32)) dX2_copyFrom_86 (by decide) ?_
  refine g_copy C (List.mem_cons_of_mem _ mM_RX2_68) (List.mem_cons_of_mem _ mLib_copy_n) (List.mem_cons_of_mem _ mLib_copy_s) (List.mem_cons_of_mem _ mLib_sys) (isX2_likes h1).1 (isX2_likes h0).1 (isX2_likes h1).2 (isX2_likes h0).2 (by decide) (by decide) (by decide) (by decide) (by decide) (Nat.le_of_ble_eq_true rfl) (Nat.le_of_ble_eq_true rfl) dX2_copyFrom_88 ?_
  refine g_mem (fun m5 em5 => ?_)
  replace h := h m5 em5
  refine g_aload_n C 1 dX2_copyFrom_91 rfl ?_
  refine gf_RX2_27 C h1 dX2_copyFrom_92 ?_
  refine g_iconst C (v := (0 : Int32)) dX2_copyFrom_95 (by decide) ?_
  refine g_aload_n C 0 dX2_copyFrom_96 rfl ?_
  refine gf_RX2_27 C h0 dX2_copyFrom_97 ?_
  refine g_iconst C (v := (0 : Int32)) dX2_copyFrom_100 (by decide) ?_
  refine g_bipush C (v := (9 : Int32)) dX2_copyFrom_101 (by decide) ?_
  refine g_copy C (List.mem_cons_of_mem _ mM_RX2_68) (List.mem_cons_of_mem _ mLib_copy_n) (List.mem_cons_of_mem _ mLib_copy_s) (List.mem_cons_of_mem _ mLib_sys) (isX2_wont h1).1 (isX2_wont h0).1 (isX2_wont h1).2 (isX2_wont h0).2 (by decide) (by decide) (by decide) (by decide) (by decide) (Nat.le_of_ble_eq_true rfl) (Nat.le_of_ble_eq_true rfl) dX2_copyFrom_103 ?_
  refine g_mem (fun m6 em6 => ?_)
  replace h := h m6 em6
  refine g_aload_n C 1 dX2_copyFrom_106 rfl ?_
  refine gf_RX2_30 C h1 dX2_copyFrom_107 ?_
  refine g_iconst C (v := (0 : Int32)) dX2_copyFrom_110 (by decide) ?_
  refine g_aload_n C 0 dX2_copyFrom_111 rfl ?_
  refine gf_RX2_30 C h0 dX2_copyFrom_112 ?_
  refine g_iconst C (v := (0 : Int32)) dX2_copyFrom_115 (by decide) ?_
  refine g_bipush C (v := (9 : Int32)) dX2_copyFrom_116 (by decide) ?_
  refine g_copy C (List.mem_cons_of_mem _ mM_RX2_68) (List.mem_cons_of_mem _ mLib_copy_n) (List.mem_cons_of_mem _ mLib_copy_s) (List.mem_cons_of_mem _ mLib_sys) (isX2_soupUnits h1).1 (isX2_soupUnits h0).1 (isX2_soupUnits h1).2 (isX2_soupUnits h0).2 (by decide) (by decide) (by decide) (by decide) (by decide) (Nat.le_of_ble_eq_true rfl) (Nat.le_of_ble_eq_true rfl) dX2_copyFrom_118 ?_
  refine g_mem (fun m7 em7 => ?_)
  replace h := h m7 em7
  refine g_aload_n C 1 dX2_copyFrom_121 rfl ?_
  refine gf_RX2_33 C h1 dX2_copyFrom_122 ?_
  refine g_iconst C (v := (0 : Int32)) dX2_copyFrom_125 (by decide) ?_
  refine g_aload_n C 0 dX2_copyFrom_126 rfl ?_
  refine gf_RX2_33 C h0 dX2_copyFrom_127 ?_
  refine g_iconst C (v := (0 : Int32)) dX2_copyFrom_130 (by decide) ?_
  refine g_bipush C (v := (9 : Int32)) dX2_copyFrom_131 (by decide) ?_
  refine g_copy C (List.mem_cons_of_mem _ mM_RX2_68) (List.mem_cons_of_mem _ mLib_copy_n) (List.mem_cons_of_mem _ mLib_copy_s) (List.mem_cons_of_mem _ mLib_sys) (isX2_soupThings h1).1 (isX2_soupThings h0).1 (isX2_soupThings h1).2 (isX2_soupThings h0).2 (by decide) (by decide) (by decide) (by decide) (by decide) (Nat.le_of_ble_eq_true rfl) (Nat.le_of_ble_eq_true rfl) dX2_copyFrom_133 ?_
  refine g_mem (fun m8 em8 => ?_)
  replace h := h m8 em8
  refine g_aload_n C 1 dX2_copyFrom_136 rfl ?_
  refine gf_RX2_36 C h1 dX2_copyFrom_137 ?_
  refine g_iconst C (v := (0 : Int32)) dX2_copyFrom_140 (by decide) ?_
  refine g_aload_n C 0 dX2_copyFrom_141 rfl ?_
  refine gf_RX2_36 C h0 dX2_copyFrom_142 ?_
  refine g_iconst C (v := (0 : Int32)) dX2_copyFrom_145 (by decide) ?_
  refine g_bipush C (v := (54 : Int32)) dX2_copyFrom_146 (by decide) ?_
  refine g_copy C (List.mem_cons_of_mem _ mM_RX2_68) (List.mem_cons_of_mem _ mLib_copy_n) (List.mem_cons_of_mem _ mLib_copy_s) (List.mem_cons_of_mem _ mLib_sys) (isX2_wants h1).1 (isX2_wants h0).1 (isX2_wants h1).2 (isX2_wants h0).2 (by decide) (by decide) (by decide) (by decide) (by decide) (Nat.le_of_ble_eq_true rfl) (Nat.le_of_ble_eq_true rfl) dX2_copyFrom_148 ?_
  refine g_mem (fun m9 em9 => ?_)
  replace h := h m9 em9
  refine g_aload_n C 1 dX2_copyFrom_151 rfl ?_
  refine gf_RX2_39 C h1 dX2_copyFrom_152 ?_
  refine g_iconst C (v := (0 : Int32)) dX2_copyFrom_155 (by decide) ?_
  refine g_aload_n C 0 dX2_copyFrom_156 rfl ?_
  refine gf_RX2_39 C h0 dX2_copyFrom_157 ?_
  refine g_iconst C (v := (0 : Int32)) dX2_copyFrom_160 (by decide) ?_
  refine g_bipush C (v := (54 : Int32)) dX2_copyFrom_161 (by decide) ?_
  refine g_copy C (List.mem_cons_of_mem _ mM_RX2_68) (List.mem_cons_of_mem _ mLib_copy_n) (List.mem_cons_of_mem _ mLib_copy_s) (List.mem_cons_of_mem _ mLib_sys) (isX2_leaves h1).1 (isX2_leaves h0).1 (isX2_leaves h1).2 (isX2_leaves h0).2 (by decide) (by decide) (by decide) (by decide) (by decide) (Nat.le_of_ble_eq_true rfl) (Nat.le_of_ble_eq_true rfl) dX2_copyFrom_163 ?_
  refine g_mem (fun m10 em10 => ?_)
  replace h := h m10 em10
  refine g_aload_n C 0 dX2_copyFrom_166 rfl ?_
  refine g_aload_n C 1 dX2_copyFrom_167 rfl ?_
  refine gf_RX2_59 C h1 dX2_copyFrom_168 ?_
  refine gp_RX2_59 C h0 dX2_copyFrom_171 ?_
  refine g_aload_n C 0 dX2_copyFrom_174 rfl ?_
  refine g_aload_n C 1 dX2_copyFrom_175 rfl ?_
  refine gf_RX2_62 C h1 dX2_copyFrom_176 ?_
  refine gp_RX2_62 C h0 dX2_copyFrom_179 ?_
  refine g_mem (fun m11 em11 => ?_)
  replace h := h m11 em11
  refine g_aload_n C 0 dX2_copyFrom_182 rfl ?_
  refine g_aload_n C 1 dX2_copyFrom_183 rfl ?_
  refine gf_RX2_65 C h1 dX2_copyFrom_184 ?_
  refine gp_RX2_65 C h0 dX2_copyFrom_187 ?_
  refine g_aload_n C 1 dX2_copyFrom_190 rfl ?_
  refine gf_RX2_42 C h1 dX2_copyFrom_191 ?_
  refine g_iconst C (v := (0 : Int32)) dX2_copyFrom_194 (by decide) ?_
  refine g_aload_n C 0 dX2_copyFrom_195 rfl ?_
  refine gf_RX2_42 C h0 dX2_copyFrom_196 ?_
  refine g_iconst C (v := (0 : Int32)) dX2_copyFrom_199 (by decide) ?_
  refine g_bipush C (v := (7 : Int32)) dX2_copyFrom_200 (by decide) ?_
  refine g_copy C (List.mem_cons_of_mem _ mM_RX2_68) (List.mem_cons_of_mem _ mLib_copy_n) (List.mem_cons_of_mem _ mLib_copy_s) (List.mem_cons_of_mem _ mLib_sys) (isX2_chances h1).1 (isX2_chances h0).1 (isX2_chances h1).2 (isX2_chances h0).2 (by decide) (by decide) (by decide) (by decide) (by decide) (Nat.le_of_ble_eq_true rfl) (Nat.le_of_ble_eq_true rfl) dX2_copyFrom_202 ?_
  refine g_mem (fun m12 em12 => ?_)
  replace h := h m12 em12
  exact hr _ _ _ _ dX2_copyFrom_205 h
set_option maxRecDepth 20000 in
set_option maxHeartbeats 4000000 in
theorem ok_X2_addSmallDish {Y : YT} {l0 : Launch} {b : Nat} {p1 : Int32} {μ : Mem} {Q : Mem → Prop} (hI : YI Y) (h0 : isX2 Y b) (h : PX2_addSmallDish b p1 μ Q) : MV l0 yX2_addSmallDish WX2_addSmallDish 0 0 Y [.ref (Y.ad b), .int p1] μ Q := by
  refine mV_of (cc := cX2_addSmallDish) (maxL := 2) (by decide +kernel) rfl hI (Nat.le_of_ble_eq_true rfl) (fun X C hr => ?_)
  replace C : Cx X Y 2 cX2_addSmallDish RX2 WX2_addSmallDish (rmB 0 0) l0 := C
  refine g_lv (lv2 := [(0, .ref (Y.ad b)), (1, .int p1)]) [0, 1] ?_ rfl
  unfold PX2_addSmallDish at h
  refine g_aload_n C 0 dX2_addSmallDish_0 rfl ?_
  refine gf_RX2_52 C h0 dX2_addSmallDish_1 ?_
  refine g_bipush C (v := (8 : Int32)) dX2_addSmallDish_4 (by decide) ?_
  refine g_icmp_le C 10 dX2_addSmallDish_6 (by decide) (fun c1 => ?_) (fun c1 => ?_)
  · replace h := h.1 c1
    refine g_aload_n C 0 dX2_addSmallDish_10 rfl ?_
    refine gf_RX2_21 C h0 dX2_addSmallDish_11 ?_
    refine g_aload_n C 0 dX2_addSmallDish_14 rfl ?_
    refine gf_RX2_52 C h0 dX2_addSmallDish_15 ?_
    refine g_iconst C (v := (1 : Int32)) dX2_addSmallDish_18 (by decide) ?_
    refine g_iast C (isX2_kind h0).1 (isX2_kind h0).2 h.1 dX2_addSmallDish_19 ?_
    replace h := h.2
    refine g_aload_n C 0 dX2_addSmallDish_20 rfl ?_
    refine gf_RX2_36 C h0 dX2_addSmallDish_21 ?_
    refine g_aload_n C 0 dX2_addSmallDish_24 rfl ?_
    refine gf_RX2_52 C h0 dX2_addSmallDish_25 ?_
    refine g_bipush C (v := (6 : Int32)) dX2_addSmallDish_28 (by decide) ?_
    refine g_imul C dX2_addSmallDish_30 ?_
    refine g_iload_n C 1 dX2_addSmallDish_31 rfl ?_
    refine g_iadd C dX2_addSmallDish_32 ?_
    refine g_iconst C (v := (1 : Int32)) dX2_addSmallDish_33 (by decide) ?_
    refine g_iast C (isX2_wants h0).1 (isX2_wants h0).2 h.1 dX2_addSmallDish_34 ?_
    replace h := h.2
    refine g_mem (fun m2 em2 => ?_)
    replace h := h m2 em2
    refine g_aload_n C 0 dX2_addSmallDish_35 rfl ?_
    refine g_dup C dX2_addSmallDish_36 rfl ?_
    refine gf_RX2_52 C h0 dX2_addSmallDish_37 ?_
    refine g_iconst C (v := (1 : Int32)) dX2_addSmallDish_40 (by decide) ?_
    refine g_iadd C dX2_addSmallDish_41 ?_
    refine gp_RX2_52 C h0 dX2_addSmallDish_42 ?_
    exact hr _ _ _ _ dX2_addSmallDish_45 h
  · replace h := h.2 c1
    exact hr _ _ _ _ dX2_addSmallDish_9 h
set_option maxRecDepth 20000 in
set_option maxHeartbeats 4000000 in
theorem tX2_hasThing_16 {X : XT} {Y : YT} {l0 : Launch} {b : Nat} {p1 : Int32} {Q : Int32 → Mem → Prop} (C : Cx X Y 2 cX2_hasThing RX2 WX2_hasThing (rmB 0 0) l0) (hr : RI X Y cX2_hasThing .boolean Q) (hI : YI Y) (h0 : isX2 Y b) (μ : Mem) (h : nX2_hasThing_16 b p1 Q  μ) : G X Y 2 16 [(0, .ref (Y.ad b)), (1, .int p1)] [] μ := by
  unfold nX2_hasThing_16 at h
  refine g_iconst C (v := (0 : Int32)) dX2_hasThing_16 (by decide) ?_
  exact hr _ _ _ _ _ dX2_hasThing_17 rfl h
set_option maxRecDepth 20000 in
set_option maxHeartbeats 4000000 in
theorem ok_X2_hasThing {Y : YT} {l0 : Launch} {b : Nat} {p1 : Int32} {μ : Mem} {Q : Int32 → Mem → Prop} (hI : YI Y) (h0 : isX2 Y b) (h : PX2_hasThing b p1 μ Q) : MI l0 yX2_hasThing WX2_hasThing 0 0 Y [.ref (Y.ad b), .int p1] μ Q := by
  refine mI_of (ty := .boolean) (cc := cX2_hasThing) (maxL := 2) (by decide +kernel) rfl hI (Nat.le_of_ble_eq_true rfl) (fun X C hr => ?_)
  replace C : Cx X Y 2 cX2_hasThing RX2 WX2_hasThing (rmB 0 0) l0 := C
  refine g_lv (lv2 := [(0, .ref (Y.ad b)), (1, .int p1)]) [0, 1] ?_ rfl
  unfold PX2_hasThing at h
  refine g_iload_n C 1 dX2_hasThing_0 rfl ?_
  refine g_if_lt C 16 dX2_hasThing_1 (by decide) (fun c1 => ?_) (fun c1 => ?_)
  · replace h := h.1 c1
    exact tX2_hasThing_16 C hr hI h0 _ h
  · replace h := h.2 c1
    refine g_iload_n C 1 dX2_hasThing_4 rfl ?_
    refine g_aload_n C 0 dX2_hasThing_5 rfl ?_
    refine gf_RX2_48 C h0 dX2_hasThing_6 ?_
    refine g_icmp_ge C 16 dX2_hasThing_9 (by decide) (fun c2 => ?_) (fun c2 => ?_)
    · replace h := h.1 c2
      exact tX2_hasThing_16 C hr hI h0 _ h
    · replace h := h.2 c2
      refine g_iconst C (v := (1 : Int32)) dX2_hasThing_12 (by decide) ?_
      refine g_goto C 17 dX2_hasThing_13 (by decide) ?_
      exact hr _ _ _ _ _ dX2_hasThing_17 rfl h
set_option maxRecDepth 20000 in
set_option maxHeartbeats 4000000 in
theorem tX2_hasSupper_16 {X : XT} {Y : YT} {l0 : Launch} {b : Nat} {p1 : Int32} {Q : Int32 → Mem → Prop} (C : Cx X Y 2 cX2_hasSupper RX2 WX2_hasSupper (rmB 0 0) l0) (hr : RI X Y cX2_hasSupper .boolean Q) (hI : YI Y) (h0 : isX2 Y b) (μ : Mem) (h : nX2_hasSupper_16 b p1 Q  μ) : G X Y 2 16 [(0, .ref (Y.ad b)), (1, .int p1)] [] μ := by
  unfold nX2_hasSupper_16 at h
  refine g_iconst C (v := (0 : Int32)) dX2_hasSupper_16 (by decide) ?_
  exact hr _ _ _ _ _ dX2_hasSupper_17 rfl h
set_option maxRecDepth 20000 in
set_option maxHeartbeats 4000000 in
theorem ok_X2_hasSupper {Y : YT} {l0 : Launch} {b : Nat} {p1 : Int32} {μ : Mem} {Q : Int32 → Mem → Prop} (hI : YI Y) (h0 : isX2 Y b) (h : PX2_hasSupper b p1 μ Q) : MI l0 yX2_hasSupper WX2_hasSupper 0 0 Y [.ref (Y.ad b), .int p1] μ Q := by
  refine mI_of (ty := .boolean) (cc := cX2_hasSupper) (maxL := 2) (by decide +kernel) rfl hI (Nat.le_of_ble_eq_true rfl) (fun X C hr => ?_)
  replace C : Cx X Y 2 cX2_hasSupper RX2 WX2_hasSupper (rmB 0 0) l0 := C
  refine g_lv (lv2 := [(0, .ref (Y.ad b)), (1, .int p1)]) [0, 1] ?_ rfl
  unfold PX2_hasSupper at h
  refine g_iload_n C 1 dX2_hasSupper_0 rfl ?_
  refine g_if_lt C 16 dX2_hasSupper_1 (by decide) (fun c1 => ?_) (fun c1 => ?_)
  · replace h := h.1 c1
    exact tX2_hasSupper_16 C hr hI h0 _ h
  · replace h := h.2 c1
    refine g_iload_n C 1 dX2_hasSupper_4 rfl ?_
    refine g_aload_n C 0 dX2_hasSupper_5 rfl ?_
    refine gf_RX2_52 C h0 dX2_hasSupper_6 ?_
    refine g_icmp_ge C 16 dX2_hasSupper_9 (by decide) (fun c2 => ?_) (fun c2 => ?_)
    · replace h := h.1 c2
      exact tX2_hasSupper_16 C hr hI h0 _ h
    · replace h := h.2 c2
      refine g_iconst C (v := (1 : Int32)) dX2_hasSupper_12 (by decide) ?_
      refine g_goto C 17 dX2_hasSupper_13 (by decide) ?_
      exact hr _ _ _ _ _ dX2_hasSupper_17 rfl h
set_option maxRecDepth 20000 in
set_option maxHeartbeats 4000000 in
theorem ok_X2_chanceOfGuests {Y : YT} {l0 : Launch} {b : Nat} {p1 : Int32} {μ : Mem} {Q : Int32 → Mem → Prop} (hI : YI Y) (h0 : isX2 Y b) (h : PX2_chanceOfGuests b p1 μ Q) : MI l0 yX2_chanceOfGuests WX2_chanceOfGuests 1 22 Y [.ref (Y.ad b), .int p1] μ Q := by
  refine mI_of (ty := .int) (cc := cX2_chanceOfGuests) (maxL := 2) (by decide +kernel) rfl hI (Nat.le_of_ble_eq_true rfl) (fun X C hr => ?_)
  replace C : Cx X Y 2 cX2_chanceOfGuests RX2 WX2_chanceOfGuests (rmB 1 22) l0 := C
  refine g_lv (lv2 := [(0, .ref (Y.ad b)), (1, .int p1)]) [0, 1] ?_ rfl
  unfold PX2_chanceOfGuests at h
  refine g_aload_n C 0 dX2_chanceOfGuests_0 rfl ?_
  refine gf_RX2_42 C h0 dX2_chanceOfGuests_1 ?_
  refine g_iload_n C 1 dX2_chanceOfGuests_4 rfl ?_
  refine g_bipush C (v := (7 : Int32)) dX2_chanceOfGuests_5 (by decide) ?_
  refine g_callSI C [.int p1, .int ((7 : Int32))] [.ref (Y.ad (b + 11))] (ok_J9_floorMod_7cf53 hI  h) (cw_RX2_74 _) rfl dc_J9_floorMod_7cf53 ⟨Nat.le_of_ble_eq_true rfl, Nat.le_of_ble_eq_true rfl⟩ rfl (Nat.le_of_ble_eq_true rfl) dX2_chanceOfGuests_7 (fun r2 m1 h => ?_)
  refine g_iald C (isX2_chances h0).1 (isX2_chances h0).2 h.1 dX2_chanceOfGuests_10 ?_
  replace h := h.2
  exact hr _ _ _ _ _ dX2_chanceOfGuests_11 rfl h
def SX2_thingsOf_9 (X : XT) (Y : YT) (b : Nat) (p1 : Int32) : Int32 → Int32 → Mem → Prop := fun v2 v3 μ => G X Y 4 9 [(0, .ref (Y.ad b)), (1, .int p1), (2, .int v2), (3, .int v3)] [] μ
set_option maxRecDepth 20000 in
set_option maxHeartbeats 4000000 in
theorem tX2_thingsOf_37 {X : XT} {Y : YT} {l0 : Launch} {b : Nat} {p1 : Int32} {Q : Int32 → Mem → Prop} (C : Cx X Y 4 cX2_thingsOf RX2 WX2_thingsOf (rmB 0 0) l0) (hr : RI X Y cX2_thingsOf .int Q) (hI : YI Y) (h0 : isX2 Y b) (v2 : Int32) (v3 : Int32) (μ : Mem) (h : nX2_thingsOf_37 b p1 Q (SX2_thingsOf_9 X Y b p1) v2 v3 μ) : G X Y 4 37 [(0, .ref (Y.ad b)), (1, .int p1), (2, .int v2), (3, .int v3)] [] μ := by
  unfold nX2_thingsOf_37 at h
  refine g_iinc C (v := v3 + 1) 3 [(3, .int (v3 + 1)), (0, .ref (Y.ad b)), (1, .int p1), (2, .int v2)] dX2_thingsOf_37 rfl rfl (by decide) rfl ?_
  refine g_goto C 9 dX2_thingsOf_40 (by decide) ?_
  refine g_lv (lv2 := [(0, .ref (Y.ad b)), (1, .int p1), (2, .int v2), (3, .int (v3 + 1))]) [1, 2, 3, 0] ?_ rfl
  exact h
set_option maxRecDepth 20000 in
set_option maxHeartbeats 4000000 in
theorem tX2_thingsOf_9 {X : XT} {Y : YT} {l0 : Launch} {b : Nat} {p1 : Int32} {Q : Int32 → Mem → Prop} (C : Cx X Y 4 cX2_thingsOf RX2 WX2_thingsOf (rmB 0 0) l0) (hr : RI X Y cX2_thingsOf .int Q) (hI : YI Y) (h0 : isX2 Y b) (v2 : Int32) (v3 : Int32) (μ : Mem) (h : nX2_thingsOf_9 b p1 Q (SX2_thingsOf_9 X Y b p1) v2 v3 μ) : G X Y 4 9 [(0, .ref (Y.ad b)), (1, .int p1), (2, .int v2), (3, .int v3)] [] μ := by
  unfold nX2_thingsOf_9 at h
  refine g_iload_n C 3 dX2_thingsOf_9 rfl ?_
  refine g_aload_n C 0 dX2_thingsOf_10 rfl ?_
  refine gf_RX2_48 C h0 dX2_thingsOf_11 ?_
  refine g_icmp_ge C 43 dX2_thingsOf_14 (by decide) (fun c1 => ?_) (fun c1 => ?_)
  · replace h := h.1 c1
    refine g_iload_n C 2 dX2_thingsOf_43 rfl ?_
    exact hr _ _ _ _ _ dX2_thingsOf_44 rfl h
  · replace h := h.2 c1
    refine g_aload_n C 0 dX2_thingsOf_17 rfl ?_
    refine gf_RX2_36 C h0 dX2_thingsOf_18 ?_
    refine g_iload_n C 1 dX2_thingsOf_21 rfl ?_
    refine g_bipush C (v := (6 : Int32)) dX2_thingsOf_22 (by decide) ?_
    refine g_imul C dX2_thingsOf_24 ?_
    refine g_iload_n C 3 dX2_thingsOf_25 rfl ?_
    refine g_iadd C dX2_thingsOf_26 ?_
    refine g_iald C (isX2_wants h0).1 (isX2_wants h0).2 h.1 dX2_thingsOf_27 ?_
    replace h := h.2
    refine g_if_le C 37 dX2_thingsOf_28 (by decide) (fun c2 => ?_) (fun c2 => ?_)
    · replace h := h.1 c2
      exact tX2_thingsOf_37 C hr hI h0 _ _ _ h
    · replace h := h.2 c2
      refine g_iload_n C 2 dX2_thingsOf_31 rfl ?_
      refine g_iconst C (v := (1 : Int32)) dX2_thingsOf_32 (by decide) ?_
      refine g_iload_n C 3 dX2_thingsOf_33 rfl ?_
      refine g_ishl C dX2_thingsOf_34 ?_
      refine g_ior C dX2_thingsOf_35 ?_
      refine g_istore_n C [(2, .int (v2 ||| (((1 : Int32)) <<< (v3 &&& 31)))), (0, .ref (Y.ad b)), (1, .int p1), (3, .int v3)] dX2_thingsOf_36 (by decide) rfl ?_
      refine g_lv (lv2 := [(0, .ref (Y.ad b)), (1, .int p1), (2, .int (v2 ||| (((1 : Int32)) <<< (v3 &&& 31)))), (3, .int v3)]) [1, 2, 0, 3] ?_ rfl
      exact tX2_thingsOf_37 C hr hI h0 _ _ _ h
set_option maxRecDepth 20000 in
set_option maxHeartbeats 4000000 in
theorem ok_X2_thingsOf {Y : YT} {l0 : Launch} {b : Nat} {p1 : Int32} {μ : Mem} {Q : Int32 → Mem → Prop} (hI : YI Y) (h0 : isX2 Y b) (h : PX2_thingsOf b p1 μ Q) : MI l0 yX2_thingsOf WX2_thingsOf 0 0 Y [.ref (Y.ad b), .int p1] μ Q := by
  refine mI_of (ty := .int) (cc := cX2_thingsOf) (maxL := 4) (by decide +kernel) rfl hI (Nat.le_of_ble_eq_true rfl) (fun X C hr => ?_)
  replace C : Cx X Y 4 cX2_thingsOf RX2 WX2_thingsOf (rmB 0 0) l0 := C
  refine g_lv (lv2 := [(0, .ref (Y.ad b)), (1, .int p1)]) [0, 1] ?_ rfl
  unfold PX2_thingsOf at h
  replace h := h (SX2_thingsOf_9 X Y b p1) (fun v2 v3 μ z => tX2_thingsOf_9 C hr hI h0 v2 v3 μ z)
  refine g_aload_n C 0 dX2_thingsOf_0 rfl ?_
  refine gf_RX2_33 C h0 dX2_thingsOf_1 ?_
  refine g_iload_n C 1 dX2_thingsOf_4 rfl ?_
  refine g_iald C (isX2_soupThings h0).1 (isX2_soupThings h0).2 h.1 dX2_thingsOf_5 ?_
  replace h := h.2
  refine g_istore_n C [(2, .int (μ.1 (b + 8) p1.toNatClampNeg)), (0, .ref (Y.ad b)), (1, .int p1)] dX2_thingsOf_6 (by decide) rfl ?_
  refine g_iconst C (v := (0 : Int32)) dX2_thingsOf_7 (by decide) ?_
  refine g_istore_n C [(3, .int ((0 : Int32))), (2, .int (μ.1 (b + 8) p1.toNatClampNeg)), (0, .ref (Y.ad b)), (1, .int p1)] dX2_thingsOf_8 (by decide) rfl ?_
  refine g_lv (lv2 := [(0, .ref (Y.ad b)), (1, .int p1), (2, .int (μ.1 (b + 8) p1.toNatClampNeg)), (3, .int ((0 : Int32)))]) [2, 3, 1, 0] ?_ rfl
  exact h
def SX2_timesFed_6 (X : XT) (Y : YT) (b : Nat) (a1 : Nat) (n1 : Nat) (p2 : Int32) (p3 : Int32) : Int32 → Int32 → Mem → Prop := fun v4 v5 μ => G X Y 6 6 [(0, .ref (Y.ad b)), (1, .ref (Y.ad a1)), (2, .int p2), (3, .int p3), (4, .int v4), (5, .int v5)] [] μ
set_option maxRecDepth 20000 in
set_option maxHeartbeats 4000000 in
theorem tX2_timesFed_40 {X : XT} {Y : YT} {l0 : Launch} {b : Nat} {a1 : Nat} {n1 : Nat} {p2 : Int32} {p3 : Int32} {Q : Int32 → Mem → Prop} (C : Cx X Y 6 cX2_timesFed RX2 WX2_timesFed (rmB 0 0) l0) (hr : RI X Y cX2_timesFed .int Q) (hI : YI Y) (h0 : isX2 Y b) (h1 : isI Y a1 n1) (v4 : Int32) (v5 : Int32) (μ : Mem) (h : nX2_timesFed_40 b a1 n1 p2 p3 Q (SX2_timesFed_6 X Y b a1 n1 p2 p3) v4 v5 μ) : G X Y 6 40 [(0, .ref (Y.ad b)), (1, .ref (Y.ad a1)), (2, .int p2), (3, .int p3), (4, .int v4), (5, .int v5)] [] μ := by
  unfold nX2_timesFed_40 at h
  refine g_iinc C (v := v5 + 1) 5 [(5, .int (v5 + 1)), (0, .ref (Y.ad b)), (1, .ref (Y.ad a1)), (2, .int p2), (3, .int p3), (4, .int v4)] dX2_timesFed_40 rfl rfl (by decide) rfl ?_
  refine g_goto C 6 dX2_timesFed_43 (by decide) ?_
  refine g_lv (lv2 := [(0, .ref (Y.ad b)), (1, .ref (Y.ad a1)), (2, .int p2), (3, .int p3), (4, .int v4), (5, .int (v5 + 1))]) [1, 2, 3, 4, 5, 0] ?_ rfl
  exact h
set_option maxRecDepth 20000 in
set_option maxHeartbeats 4000000 in
theorem tX2_timesFed_6 {X : XT} {Y : YT} {l0 : Launch} {b : Nat} {a1 : Nat} {n1 : Nat} {p2 : Int32} {p3 : Int32} {Q : Int32 → Mem → Prop} (C : Cx X Y 6 cX2_timesFed RX2 WX2_timesFed (rmB 0 0) l0) (hr : RI X Y cX2_timesFed .int Q) (hI : YI Y) (h0 : isX2 Y b) (h1 : isI Y a1 n1) (v4 : Int32) (v5 : Int32) (μ : Mem) (h : nX2_timesFed_6 b a1 n1 p2 p3 Q (SX2_timesFed_6 X Y b a1 n1 p2 p3) v4 v5 μ) : G X Y 6 6 [(0, .ref (Y.ad b)), (1, .ref (Y.ad a1)), (2, .int p2), (3, .int p3), (4, .int v4), (5, .int v5)] [] μ := by
  unfold nX2_timesFed_6 at h
  refine g_iload C 5 dX2_timesFed_6 rfl ?_
  refine g_iload_n C 2 dX2_timesFed_8 rfl ?_
  refine g_icmp_ge C 46 dX2_timesFed_9 (by decide) (fun c1 => ?_) (fun c1 => ?_)
  · replace h := h.1 c1
    refine g_iload C 4 dX2_timesFed_46 rfl ?_
    exact hr _ _ _ _ _ dX2_timesFed_48 rfl h
  · replace h := h.2 c1
    refine g_aload_n C 1 dX2_timesFed_12 rfl ?_
    refine g_iload C 5 dX2_timesFed_13 rfl ?_
    refine g_iald C h1.1 h1.2 h.1 dX2_timesFed_15 ?_
    replace h := h.2
    refine g_bipush C (v := (-4 : Int32)) dX2_timesFed_16 (by decide) ?_
    refine g_icmp_eq C 40 dX2_timesFed_18 (by decide) (fun c2 => ?_) (fun c2 => ?_)
    · replace h := h.1 c2
      exact tX2_timesFed_40 C hr hI h0 h1 _ _ _ h
    · replace h := h.2 c2
      refine g_aload_n C 0 dX2_timesFed_21 rfl ?_
      refine gf_RX2_27 C h0 dX2_timesFed_22 ?_
      refine g_aload_n C 1 dX2_timesFed_25 rfl ?_
      refine g_iload C 5 dX2_timesFed_26 rfl ?_
      refine g_iald C h1.1 h1.2 h.1 dX2_timesFed_28 ?_
      replace h := h.2
      refine g_iald C (isX2_wont h0).1 (isX2_wont h0).2 h.1 dX2_timesFed_29 ?_
      replace h := h.2
      refine g_iload_n C 3 dX2_timesFed_30 rfl ?_
      refine g_ishr C dX2_timesFed_31 ?_
      refine g_iconst C (v := (1 : Int32)) dX2_timesFed_32 (by decide) ?_
      refine g_iand C dX2_timesFed_33 ?_
      refine g_if_ne C 40 dX2_timesFed_34 (by decide) (fun c3 => ?_) (fun c3 => ?_)
      · replace h := h.1 c3
        exact tX2_timesFed_40 C hr hI h0 h1 _ _ _ h
      · replace h := h.2 c3
        refine g_iinc C (v := v4 + 1) 4 [(4, .int (v4 + 1)), (0, .ref (Y.ad b)), (1, .ref (Y.ad a1)), (2, .int p2), (3, .int p3), (5, .int v5)] dX2_timesFed_37 rfl rfl (by decide) rfl ?_
        refine g_lv (lv2 := [(0, .ref (Y.ad b)), (1, .ref (Y.ad a1)), (2, .int p2), (3, .int p3), (4, .int (v4 + 1)), (5, .int v5)]) [1, 2, 3, 4, 0, 5] ?_ rfl
        exact tX2_timesFed_40 C hr hI h0 h1 _ _ _ h
set_option maxRecDepth 20000 in
set_option maxHeartbeats 4000000 in
theorem ok_X2_timesFed {Y : YT} {l0 : Launch} {b : Nat} {a1 : Nat} {n1 : Nat} {p2 : Int32} {p3 : Int32} {μ : Mem} {Q : Int32 → Mem → Prop} (hI : YI Y) (h0 : isX2 Y b) (h1 : isI Y a1 n1) (h : PX2_timesFed b a1 n1 p2 p3 μ Q) : MI l0 yX2_timesFed WX2_timesFed 0 0 Y [.ref (Y.ad b), .ref (Y.ad a1), .int p2, .int p3] μ Q := by
  refine mI_of (ty := .int) (cc := cX2_timesFed) (maxL := 6) (by decide +kernel) rfl hI (Nat.le_of_ble_eq_true rfl) (fun X C hr => ?_)
  replace C : Cx X Y 6 cX2_timesFed RX2 WX2_timesFed (rmB 0 0) l0 := C
  refine g_lv (lv2 := [(0, .ref (Y.ad b)), (1, .ref (Y.ad a1)), (2, .int p2), (3, .int p3)]) [0, 1, 2, 3] ?_ rfl
  unfold PX2_timesFed at h
  replace h := h (SX2_timesFed_6 X Y b a1 n1 p2 p3) (fun v4 v5 μ z => tX2_timesFed_6 C hr hI h0 h1 v4 v5 μ z)
  refine g_iconst C (v := (0 : Int32)) dX2_timesFed_0 (by decide) ?_
  refine g_istore C [(4, .int ((0 : Int32))), (0, .ref (Y.ad b)), (1, .ref (Y.ad a1)), (2, .int p2), (3, .int p3)] dX2_timesFed_1 (by decide) rfl ?_
  refine g_iconst C (v := (0 : Int32)) dX2_timesFed_3 (by decide) ?_
  refine g_istore C [(5, .int ((0 : Int32))), (4, .int ((0 : Int32))), (0, .ref (Y.ad b)), (1, .ref (Y.ad a1)), (2, .int p2), (3, .int p3)] dX2_timesFed_4 (by decide) rfl ?_
  refine g_lv (lv2 := [(0, .ref (Y.ad b)), (1, .ref (Y.ad a1)), (2, .int p2), (3, .int p3), (4, .int ((0 : Int32))), (5, .int ((0 : Int32)))]) [2, 3, 4, 5, 1, 0] ?_ rfl
  exact h
def SX2_timesFedLeast_5 (X : XT) (Y : YT) (b : Nat) (a1 : Nat) (n1 : Nat) (p2 : Int32) : Int32 → Int32 → Mem → Prop := fun v3 v4 μ => G X Y 5 5 [(0, .ref (Y.ad b)), (1, .ref (Y.ad a1)), (2, .int p2), (3, .int v3), (4, .int v4)] [] μ
set_option maxRecDepth 20000 in
set_option maxHeartbeats 4000000 in
theorem tX2_timesFedLeast_5 {X : XT} {Y : YT} {l0 : Launch} {b : Nat} {a1 : Nat} {n1 : Nat} {p2 : Int32} {Q : Int32 → Mem → Prop} (C : Cx X Y 5 cX2_timesFedLeast RX2 WX2_timesFedLeast (rmB 1 25) l0) (hr : RI X Y cX2_timesFedLeast .int Q) (hI : YI Y) (h0 : isX2 Y b) (h1 : isI Y a1 n1) (v3 : Int32) (v4 : Int32) (μ : Mem) (h : nX2_timesFedLeast_5 b a1 n1 p2 Q (SX2_timesFedLeast_5 X Y b a1 n1 p2) v3 v4 μ) : G X Y 5 5 [(0, .ref (Y.ad b)), (1, .ref (Y.ad a1)), (2, .int p2), (3, .int v3), (4, .int v4)] [] μ := by
  unfold nX2_timesFedLeast_5 at h
  refine g_iload C 4 dX2_timesFedLeast_5 rfl ?_
  refine g_iconst C (v := (4 : Int32)) dX2_timesFedLeast_7 (by decide) ?_
  refine g_icmp_ge C 30 dX2_timesFedLeast_8 (by decide) (fun c1 => ?_) (fun c1 => ?_)
  · replace h := h.1 c1
    refine g_iload_n C 3 dX2_timesFedLeast_30 rfl ?_
    exact hr _ _ _ _ _ dX2_timesFedLeast_31 rfl h
  · replace h := h.2 c1
    refine g_iload_n C 3 dX2_timesFedLeast_11 rfl ?_
    refine g_aload_n C 0 dX2_timesFedLeast_12 rfl ?_
    refine g_aload_n C 1 dX2_timesFedLeast_13 rfl ?_
    refine g_iload_n C 2 dX2_timesFedLeast_14 rfl ?_
    refine g_iload C 4 dX2_timesFedLeast_15 rfl ?_
    refine g_callVI C [.ref (Y.ad a1), .int p2, .int v4] [.int v3] (ok_X2_timesFed hI h0 h1 h) (cw_RX2_80 _) rfl dc_X2_timesFed ⟨Nat.le_of_ble_eq_true rfl, Nat.le_of_ble_eq_true rfl⟩ (isX2_lt h0) (isX2_sh h0) rfl rfl rfl rfl (Nat.le_of_ble_eq_true rfl) dX2_timesFedLeast_17 (fun r3 m2 h => ?_)
    refine g_min C (List.mem_cons_of_mem _ mM_RX2_84) (List.mem_cons_of_mem _ mLib_min_s) (List.mem_cons_of_mem _ mLib_math) (List.mem_cons_of_mem _ mLib_min_c) (Nat.le_of_ble_eq_true rfl) (Nat.le_of_ble_eq_true rfl) dX2_timesFedLeast_20 ?_
    refine g_topi (fun x4 ex4 => ?_)
    replace h := h x4 ex4
    refine g_istore_n C [(3, .int x4), (0, .ref (Y.ad b)), (1, .ref (Y.ad a1)), (2, .int p2), (4, .int v4)] dX2_timesFedLeast_23 (by decide) rfl ?_
    refine g_iinc C (v := v4 + 1) 4 [(4, .int (v4 + 1)), (3, .int x4), (0, .ref (Y.ad b)), (1, .ref (Y.ad a1)), (2, .int p2)] dX2_timesFedLeast_24 rfl rfl (by decide) rfl ?_
    refine g_goto C 5 dX2_timesFedLeast_27 (by decide) ?_
    refine g_lv (lv2 := [(0, .ref (Y.ad b)), (1, .ref (Y.ad a1)), (2, .int p2), (3, .int x4), (4, .int (v4 + 1))]) [2, 3, 4, 1, 0] ?_ rfl
    exact h
set_option maxRecDepth 20000 in
set_option maxHeartbeats 4000000 in
theorem ok_X2_timesFedLeast {Y : YT} {l0 : Launch} {b : Nat} {a1 : Nat} {n1 : Nat} {p2 : Int32} {μ : Mem} {Q : Int32 → Mem → Prop} (hI : YI Y) (h0 : isX2 Y b) (h1 : isI Y a1 n1) (h : PX2_timesFedLeast b a1 n1 p2 μ Q) : MI l0 yX2_timesFedLeast WX2_timesFedLeast 1 25 Y [.ref (Y.ad b), .ref (Y.ad a1), .int p2] μ Q := by
  refine mI_of (ty := .int) (cc := cX2_timesFedLeast) (maxL := 5) (by decide +kernel) rfl hI (Nat.le_of_ble_eq_true rfl) (fun X C hr => ?_)
  replace C : Cx X Y 5 cX2_timesFedLeast RX2 WX2_timesFedLeast (rmB 1 25) l0 := C
  refine g_lv (lv2 := [(0, .ref (Y.ad b)), (1, .ref (Y.ad a1)), (2, .int p2)]) [0, 1, 2] ?_ rfl
  unfold PX2_timesFedLeast at h
  replace h := h (SX2_timesFedLeast_5 X Y b a1 n1 p2) (fun v3 v4 μ z => tX2_timesFedLeast_5 C hr hI h0 h1 v3 v4 μ z)
  refine g_iload_n C 2 dX2_timesFedLeast_0 rfl ?_
  refine g_istore_n C [(3, .int p2), (0, .ref (Y.ad b)), (1, .ref (Y.ad a1)), (2, .int p2)] dX2_timesFedLeast_1 (by decide) rfl ?_
  refine g_iconst C (v := (0 : Int32)) dX2_timesFedLeast_2 (by decide) ?_
  refine g_istore C [(4, .int ((0 : Int32))), (3, .int p2), (0, .ref (Y.ad b)), (1, .ref (Y.ad a1)), (2, .int p2)] dX2_timesFedLeast_3 (by decide) rfl ?_
  refine g_lv (lv2 := [(0, .ref (Y.ad b)), (1, .ref (Y.ad a1)), (2, .int p2), (3, .int p2), (4, .int ((0 : Int32)))]) [2, 3, 4, 1, 0] ?_ rfl
  exact h
def SX2_daysToNext_2 (X : XT) (Y : YT) (a0 : Nat) (n0 : Nat) (p1 : Int32) (p2 : Int32) : Int32 → Mem → Prop := fun v3 μ => G X Y 5 2 [(0, .ref (Y.ad a0)), (1, .int p1), (2, .int p2), (3, .int v3)] [] μ
set_option maxRecDepth 20000 in
set_option maxHeartbeats 4000000 in
theorem tX2_daysToNext_25 {X : XT} {Y : YT} {l0 : Launch} {a0 : Nat} {n0 : Nat} {p1 : Int32} {p2 : Int32} {Q : Int32 → Mem → Prop} (C : Cx X Y 5 cX2_daysToNext RX2 WX2_daysToNext (rmB 0 0) l0) (hr : RI X Y cX2_daysToNext .int Q) (hI : YI Y) (h0 : isI Y a0 n0) (v3 : Int32) (w0 : Int32) (μ : Mem) (h : nX2_daysToNext_25 a0 n0 p1 p2 Q (SX2_daysToNext_2 X Y a0 n0 p1 p2) v3 w0 μ) : G X Y 5 25 [(0, .ref (Y.ad a0)), (1, .int p1), (2, .int p2), (3, .int v3)] [.int w0] μ := by
  unfold nX2_daysToNext_25 at h
  refine g_istore C [(4, .int w0), (0, .ref (Y.ad a0)), (1, .int p1), (2, .int p2), (3, .int v3)] dX2_daysToNext_25 (by decide) rfl ?_
  refine g_aload_n C 1 dX2_daysToNext_27 rfl ?_
  refine g_iload C 0 dX2_daysToNext_28 rfl ?_
  refine g_iald C h0.1 h0.2 h.1 dX2_daysToNext_30 ?_
  replace h := h.2
  refine g_aload_n C 1 dX2_daysToNext_31 rfl ?_
  refine g_iload_n C 3 dX2_daysToNext_32 rfl ?_
  refine g_iald C h0.1 h0.2 h.1 dX2_daysToNext_33 ?_
  replace h := h.2
  refine g_icmp_ne C 39 dX2_daysToNext_34 (by decide) (fun c3 => ?_) (fun c3 => ?_)
  · replace h := h.1 c3
    refine g_iinc C (v := v3 + 1) 4 [(3, .int (v3 + 1)), (4, .int w0), (0, .ref (Y.ad a0)), (1, .int p1), (2, .int p2)] dX2_daysToNext_39 rfl rfl (by decide) rfl ?_
    refine g_goto C 2 dX2_daysToNext_42 (by decide) ?_
    refine g_lv (lv2 := [(0, .ref (Y.ad a0)), (1, .int p1), (2, .int p2), (3, .int (v3 + 1))]) [2, 3, 4, 0] ?_ rfl
    exact h
  · replace h := h.2 c3
    refine g_iload_n C 4 dX2_daysToNext_37 rfl ?_
    exact hr _ _ _ _ _ dX2_daysToNext_38 rfl h
set_option maxRecDepth 20000 in
set_option maxHeartbeats 4000000 in
theorem tX2_daysToNext_2 {X : XT} {Y : YT} {l0 : Launch} {a0 : Nat} {n0 : Nat} {p1 : Int32} {p2 : Int32} {Q : Int32 → Mem → Prop} (C : Cx X Y 5 cX2_daysToNext RX2 WX2_daysToNext (rmB 0 0) l0) (hr : RI X Y cX2_daysToNext .int Q) (hI : YI Y) (h0 : isI Y a0 n0) (v3 : Int32) (μ : Mem) (h : nX2_daysToNext_2 a0 n0 p1 p2 Q (SX2_daysToNext_2 X Y a0 n0 p1 p2) v3 μ) : G X Y 5 2 [(0, .ref (Y.ad a0)), (1, .int p1), (2, .int p2), (3, .int v3)] [] μ := by
  unfold nX2_daysToNext_2 at h
  refine g_iload_n C 3 dX2_daysToNext_2 rfl ?_
  refine g_iload_n C 1 dX2_daysToNext_3 rfl ?_
  refine g_icmp_ge C 45 dX2_daysToNext_4 (by decide) (fun c1 => ?_) (fun c1 => ?_)
  · replace h := h.1 c1
    refine g_iload_n C 1 dX2_daysToNext_45 rfl ?_
    exact hr _ _ _ _ _ dX2_daysToNext_46 rfl h
  · replace h := h.2 c1
    refine g_iload_n C 2 dX2_daysToNext_7 rfl ?_
    refine g_iload_n C 3 dX2_daysToNext_8 rfl ?_
    refine g_iadd C dX2_daysToNext_9 ?_
    refine g_iload_n C 1 dX2_daysToNext_10 rfl ?_
    refine g_icmp_ge C 20 dX2_daysToNext_11 (by decide) (fun c2 => ?_) (fun c2 => ?_)
    · replace h := h.1 c2
      refine g_iload_n C 2 dX2_daysToNext_20 rfl ?_
      refine g_iload_n C 3 dX2_daysToNext_21 rfl ?_
      refine g_iadd C dX2_daysToNext_22 ?_
      refine g_iload_n C 1 dX2_daysToNext_23 rfl ?_
      refine g_isub C dX2_daysToNext_24 ?_
      exact tX2_daysToNext_25 C hr hI h0 _ _ _ h
    · replace h := h.2 c2
      refine g_iload_n C 2 dX2_daysToNext_14 rfl ?_
      refine g_iload_n C 3 dX2_daysToNext_15 rfl ?_
      refine g_iadd C dX2_daysToNext_16 ?_
      refine g_goto C 25 dX2_daysToNext_17 (by decide) ?_
      exact tX2_daysToNext_25 C hr hI h0 _ _ _ h
set_option maxRecDepth 20000 in
set_option maxHeartbeats 4000000 in
theorem ok_X2_daysToNext {Y : YT} {l0 : Launch} {a0 : Nat} {n0 : Nat} {p1 : Int32} {p2 : Int32} {μ : Mem} {Q : Int32 → Mem → Prop} (hI : YI Y) (h0 : isI Y a0 n0) (h : PX2_daysToNext a0 n0 p1 p2 μ Q) : MI l0 yX2_daysToNext WX2_daysToNext 0 0 Y [.ref (Y.ad a0), .int p1, .int p2] μ Q := by
  refine mI_of (ty := .int) (cc := cX2_daysToNext) (maxL := 5) (by decide +kernel) rfl hI (Nat.le_of_ble_eq_true rfl) (fun X C hr => ?_)
  replace C : Cx X Y 5 cX2_daysToNext RX2 WX2_daysToNext (rmB 0 0) l0 := C
  refine g_lv (lv2 := [(0, .ref (Y.ad a0)), (1, .int p1), (2, .int p2)]) [0, 1, 2] ?_ rfl
  unfold PX2_daysToNext at h
  replace h := h (SX2_daysToNext_2 X Y a0 n0 p1 p2) (fun v3 μ z => tX2_daysToNext_2 C hr hI h0 v3 μ z)
  refine g_iconst C (v := (1 : Int32)) dX2_daysToNext_0 (by decide) ?_
  refine g_istore_n C [(3, .int ((1 : Int32))), (0, .ref (Y.ad a0)), (1, .int p1), (2, .int p2)] dX2_daysToNext_1 (by decide) rfl ?_
  refine g_lv (lv2 := [(0, .ref (Y.ad a0)), (1, .int p1), (2, .int p2), (3, .int ((1 : Int32)))]) [1, 2, 3, 0] ?_ rfl
  exact h
def SX2_mayFollowItself_2 (X : XT) (Y : YT) (b : Nat) (a1 : Nat) (n1 : Nat) (p2 : Int32) : Int32 → Mem → Prop := fun v3 μ => G X Y 4 2 [(0, .ref (Y.ad b)), (1, .ref (Y.ad a1)), (2, .int p2), (3, .int v3)] [] μ
set_option maxRecDepth 20000 in
set_option maxHeartbeats 4000000 in
theorem tX2_mayFollowItself_30 {X : XT} {Y : YT} {l0 : Launch} {b : Nat} {a1 : Nat} {n1 : Nat} {p2 : Int32} {Q : Int32 → Mem → Prop} (C : Cx X Y 4 cX2_mayFollowItself RX2 WX2_mayFollowItself (rmB 1 24) l0) (hr : RI X Y cX2_mayFollowItself .boolean Q) (hI : YI Y) (h0 : isX2 Y b) (h1 : isI Y a1 n1) (v3 : Int32) (μ : Mem) (h : nX2_mayFollowItself_30 b a1 n1 p2 Q (SX2_mayFollowItself_2 X Y b a1 n1 p2) v3 μ) : G X Y 4 30 [(0, .ref (Y.ad b)), (1, .ref (Y.ad a1)), (2, .int p2), (3, .int v3)] [] μ := by
  unfold nX2_mayFollowItself_30 at h
  refine g_iinc C (v := v3 + 1) 3 [(3, .int (v3 + 1)), (0, .ref (Y.ad b)), (1, .ref (Y.ad a1)), (2, .int p2)] dX2_mayFollowItself_30 rfl rfl (by decide) rfl ?_
  refine g_goto C 2 dX2_mayFollowItself_33 (by decide) ?_
  refine g_lv (lv2 := [(0, .ref (Y.ad b)), (1, .ref (Y.ad a1)), (2, .int p2), (3, .int (v3 + 1))]) [1, 2, 3, 0] ?_ rfl
  exact h
set_option maxRecDepth 20000 in
set_option maxHeartbeats 4000000 in
theorem tX2_mayFollowItself_2 {X : XT} {Y : YT} {l0 : Launch} {b : Nat} {a1 : Nat} {n1 : Nat} {p2 : Int32} {Q : Int32 → Mem → Prop} (C : Cx X Y 4 cX2_mayFollowItself RX2 WX2_mayFollowItself (rmB 1 24) l0) (hr : RI X Y cX2_mayFollowItself .boolean Q) (hI : YI Y) (h0 : isX2 Y b) (h1 : isI Y a1 n1) (v3 : Int32) (μ : Mem) (h : nX2_mayFollowItself_2 b a1 n1 p2 Q (SX2_mayFollowItself_2 X Y b a1 n1 p2) v3 μ) : G X Y 4 2 [(0, .ref (Y.ad b)), (1, .ref (Y.ad a1)), (2, .int p2), (3, .int v3)] [] μ := by
  unfold nX2_mayFollowItself_2 at h
  refine g_iload_n C 3 dX2_mayFollowItself_2 rfl ?_
  refine g_iload_n C 2 dX2_mayFollowItself_3 rfl ?_
  refine g_icmp_ge C 36 dX2_mayFollowItself_4 (by decide) (fun c1 => ?_) (fun c1 => ?_)
  · replace h := h.1 c1
    refine g_iconst C (v := (1 : Int32)) dX2_mayFollowItself_36 (by decide) ?_
    exact hr _ _ _ _ _ dX2_mayFollowItself_37 rfl h
  · replace h := h.2 c1
    refine g_aload_n C 1 dX2_mayFollowItself_7 rfl ?_
    refine g_iload_n C 3 dX2_mayFollowItself_8 rfl ?_
    refine g_iald C h1.1 h1.2 h.1 dX2_mayFollowItself_9 ?_
    replace h := h.2
    refine g_bipush C (v := (-4 : Int32)) dX2_mayFollowItself_10 (by decide) ?_
    refine g_icmp_eq C 30 dX2_mayFollowItself_12 (by decide) (fun c2 => ?_) (fun c2 => ?_)
    · replace h := h.1 c2
      exact tX2_mayFollowItself_30 C hr hI h0 h1 _ _ h
    · replace h := h.2 c2
      refine g_aload_n C 1 dX2_mayFollowItself_15 rfl ?_
      refine g_iload_n C 2 dX2_mayFollowItself_16 rfl ?_
      refine g_iload_n C 3 dX2_mayFollowItself_17 rfl ?_
      refine g_callSI C [.ref (Y.ad a1), .int p2, .int v3] [] (ok_X2_daysToNext hI h1 h) (cw_RX2_100 _) rfl dc_X2_daysToNext ⟨Nat.le_of_ble_eq_true rfl, Nat.le_of_ble_eq_true rfl⟩ rfl (Nat.le_of_ble_eq_true rfl) dX2_mayFollowItself_18 (fun r4 m3 h => ?_)
      refine g_aload_n C 0 dX2_mayFollowItself_21 rfl ?_
      refine gf_RX2_59 C h0 dX2_mayFollowItself_22 ?_
      refine g_icmp_ge C 30 dX2_mayFollowItself_25 (by decide) (fun c5 => ?_) (fun c5 => ?_)
      · replace h := h.1 c5
        exact tX2_mayFollowItself_30 C hr hI h0 h1 _ _ h
      · replace h := h.2 c5
        refine g_iconst C (v := (0 : Int32)) dX2_mayFollowItself_28 (by decide) ?_
        exact hr _ _ _ _ _ dX2_mayFollowItself_29 rfl h
set_option maxRecDepth 20000 in
set_option maxHeartbeats 4000000 in
theorem ok_X2_mayFollowItself {Y : YT} {l0 : Launch} {b : Nat} {a1 : Nat} {n1 : Nat} {p2 : Int32} {μ : Mem} {Q : Int32 → Mem → Prop} (hI : YI Y) (h0 : isX2 Y b) (h1 : isI Y a1 n1) (h : PX2_mayFollowItself b a1 n1 p2 μ Q) : MI l0 yX2_mayFollowItself WX2_mayFollowItself 1 24 Y [.ref (Y.ad b), .ref (Y.ad a1), .int p2] μ Q := by
  refine mI_of (ty := .boolean) (cc := cX2_mayFollowItself) (maxL := 4) (by decide +kernel) rfl hI (Nat.le_of_ble_eq_true rfl) (fun X C hr => ?_)
  replace C : Cx X Y 4 cX2_mayFollowItself RX2 WX2_mayFollowItself (rmB 1 24) l0 := C
  refine g_lv (lv2 := [(0, .ref (Y.ad b)), (1, .ref (Y.ad a1)), (2, .int p2)]) [0, 1, 2] ?_ rfl
  unfold PX2_mayFollowItself at h
  replace h := h (SX2_mayFollowItself_2 X Y b a1 n1 p2) (fun v3 μ z => tX2_mayFollowItself_2 C hr hI h0 h1 v3 μ z)
  refine g_iconst C (v := (0 : Int32)) dX2_mayFollowItself_0 (by decide) ?_
  refine g_istore_n C [(3, .int ((0 : Int32))), (0, .ref (Y.ad b)), (1, .ref (Y.ad a1)), (2, .int p2)] dX2_mayFollowItself_1 (by decide) rfl ?_
  refine g_lv (lv2 := [(0, .ref (Y.ad b)), (1, .ref (Y.ad a1)), (2, .int p2), (3, .int ((0 : Int32)))]) [1, 2, 3, 0] ?_ rfl
  exact h
set_option maxRecDepth 20000 in
set_option maxHeartbeats 4000000 in
theorem tX2_isClosed_29 {X : XT} {Y : YT} {l0 : Launch} {b : Nat} {r1 : Nat} {r2 : Nat} {a3 : Nat} {n3 : Nat} {p4 : Int32} {Q : Int32 → Mem → Prop} (C : Cx X Y 5 cX2_isClosed RX2 WX2_isClosed (rmB 2 47) l0) (hr : RI X Y cX2_isClosed .boolean Q) (hI : YI Y) (h0 : isX2 Y b) (h1 : isX0 Y r1) (h2 : isX0 Y r2) (h3 : isI Y a3 n3) (μ : Mem) (h : nX2_isClosed_29 b r1 r2 a3 n3 p4 Q  μ) : G X Y 5 29 [(0, .ref (Y.ad b)), (1, .ref (Y.ad r1)), (2, .ref (Y.ad r2)), (3, .ref (Y.ad a3)), (4, .int p4)] [] μ := by
  unfold nX2_isClosed_29 at h
  refine g_iconst C (v := (0 : Int32)) dX2_isClosed_29 (by decide) ?_
  exact hr _ _ _ _ _ dX2_isClosed_30 rfl h
set_option maxRecDepth 20000 in
set_option maxHeartbeats 4000000 in
theorem ok_X2_isClosed {Y : YT} {l0 : Launch} {b : Nat} {r1 : Nat} {r2 : Nat} {a3 : Nat} {n3 : Nat} {p4 : Int32} {μ : Mem} {Q : Int32 → Mem → Prop} (hI : YI Y) (h0 : isX2 Y b) (h1 : isX0 Y r1) (h2 : isX0 Y r2) (h3 : isI Y a3 n3) (h : PX2_isClosed b r1 r2 a3 n3 p4 μ Q) : MI l0 yX2_isClosed WX2_isClosed 2 47 Y [.ref (Y.ad b), .ref (Y.ad r1), .ref (Y.ad r2), .ref (Y.ad a3), .int p4] μ Q := by
  refine mI_of (ty := .boolean) (cc := cX2_isClosed) (maxL := 5) (by decide +kernel) rfl hI (Nat.le_of_ble_eq_true rfl) (fun X C hr => ?_)
  replace C : Cx X Y 5 cX2_isClosed RX2 WX2_isClosed (rmB 2 47) l0 := C
  refine g_lv (lv2 := [(0, .ref (Y.ad b)), (1, .ref (Y.ad r1)), (2, .ref (Y.ad r2)), (3, .ref (Y.ad a3)), (4, .int p4)]) [0, 1, 2, 3, 4] ?_ rfl
  unfold PX2_isClosed at h
  refine g_aload_n C 2 dX2_isClosed_0 rfl ?_
  refine gf_RX2_87 C h2 dX2_isClosed_1 ?_
  refine g_if_ne C 29 dX2_isClosed_4 (by decide) (fun c1 => ?_) (fun c1 => ?_)
  · replace h := h.1 c1
    exact tX2_isClosed_29 C hr hI h0 h1 h2 h3 _ h
  · replace h := h.2 c1
    refine g_aload_n C 2 dX2_isClosed_7 rfl ?_
    refine g_aload_n C 1 dX2_isClosed_8 rfl ?_
    refine g_callVI C [.ref (Y.ad r1)] [] (ok_X0_hasSameLarder hI h2 h1 h) (cw_RX2_92 _) rfl dc_X0_hasSameLarder ⟨Nat.le_of_ble_eq_true rfl, Nat.le_of_ble_eq_true rfl⟩ (isX0_lt h2) (isX0_sh h2) rfl rfl rfl rfl (Nat.le_of_ble_eq_true rfl) dX2_isClosed_9 (fun r3 m2 h => ?_)
    refine g_if_eq C 29 dX2_isClosed_12 (by decide) (fun c4 => ?_) (fun c4 => ?_)
    · replace h := h.1 c4
      exact tX2_isClosed_29 C hr hI h0 h1 h2 h3 _ h
    · replace h := h.2 c4
      refine g_aload_n C 0 dX2_isClosed_15 rfl ?_
      refine g_aload_n C 3 dX2_isClosed_16 rfl ?_
      refine g_iload C 4 dX2_isClosed_17 rfl ?_
      refine g_callVI C [.ref (Y.ad a3), .int p4] [] (ok_X2_mayFollowItself hI h0 h3 h) (cw_RX2_96 _) rfl dc_X2_mayFollowItself ⟨Nat.le_of_ble_eq_true rfl, Nat.le_of_ble_eq_true rfl⟩ (isX2_lt h0) (isX2_sh h0) rfl rfl rfl rfl (Nat.le_of_ble_eq_true rfl) dX2_isClosed_19 (fun r6 m5 h => ?_)
      refine g_if_eq C 29 dX2_isClosed_22 (by decide) (fun c7 => ?_) (fun c7 => ?_)
      · replace h := h.1 c7
        exact tX2_isClosed_29 C hr hI h0 h1 h2 h3 _ h
      · replace h := h.2 c7
        refine g_iconst C (v := (1 : Int32)) dX2_isClosed_25 (by decide) ?_
        refine g_goto C 30 dX2_isClosed_26 (by decide) ?_
        exact hr _ _ _ _ _ dX2_isClosed_30 rfl h
set_option maxRecDepth 20000 in
set_option maxHeartbeats 4000000 in
theorem ok_X3_forget {Y : YT} {l0 : Launch} {b : Nat} {μ : Mem} {Q : Mem → Prop} (hI : YI Y) (h0 : isX3 Y b) (h : PX3_forget b μ Q) : MV l0 yX3_forget WX3_forget 0 0 Y [.ref (Y.ad b)] μ Q := by
  refine mV_of (cc := cX3_forget) (maxL := 1) (by decide +kernel) rfl hI (Nat.le_of_ble_eq_true rfl) (fun X C hr => ?_)
  replace C : Cx X Y 1 cX3_forget RX3 WX3_forget (rmB 0 0) l0 := C
  refine g_lv (lv2 := [(0, .ref (Y.ad b))]) [0] ?_ rfl
  unfold PX3_forget at h
  refine g_aload_n C 0 dX3_forget_0 rfl ?_
  refine g_iconst C (v := (0 : Int32)) dX3_forget_1 (by decide) ?_
  refine gp_RX3_69 C h0 dX3_forget_2 ?_
  refine g_aload_n C 0 dX3_forget_5 rfl ?_
  refine g_iconst C (v := (-1 : Int32)) dX3_forget_6 (by decide) ?_
  refine gp_RX3_73 C h0 dX3_forget_7 ?_
  refine g_mem (fun m1 em1 => ?_)
  replace h := h m1 em1
  refine g_aload_n C 0 dX3_forget_10 rfl ?_
  refine g_iconst C (v := (0 : Int32)) dX3_forget_11 (by decide) ?_
  refine gp_RX3_76 C h0 dX3_forget_12 ?_
  refine g_aload_n C 0 dX3_forget_15 rfl ?_
  refine g_iconst C (v := (0 : Int32)) dX3_forget_16 (by decide) ?_
  refine gp_RX3_79 C h0 dX3_forget_17 ?_
  refine g_mem (fun m2 em2 => ?_)
  replace h := h m2 em2
  exact hr _ _ _ _ dX3_forget_20 h
def SX3_following_46 (X : XT) (Y : YT) (b : Nat) (r1 : Nat) (p2 : Int32) : Int32 → Mem → Prop := fun v4 μ => G X Y 5 46 [(0, .ref (Y.ad b)), (1, .ref (Y.ad r1)), (2, .int p2), (3, .ref (Y.ad (b + 1 + 1 + 4 * p2.toNatClampNeg))), (4, .int v4)] [] μ
set_option maxRecDepth 20000 in
set_option maxHeartbeats 4000000 in
theorem tX3_following_46 {X : XT} {Y : YT} {l0 : Launch} {b : Nat} {r1 : Nat} {p2 : Int32} {Q : Int32 → Mem → Prop} (C : Cx X Y 5 cX3_following RX3 WX3_following (rmB 3 74) l0) (hr : RI X Y cX3_following .int Q) (hI : YI Y) (h0 : isX3 Y b) (h1 : isX2 Y r1) (v4 : Int32) (μ : Mem) (h : nX3_following_46 b r1 p2 Q (SX3_following_46 X Y b r1 p2) v4 μ) : G X Y 5 46 [(0, .ref (Y.ad b)), (1, .ref (Y.ad r1)), (2, .int p2), (3, .ref (Y.ad (b + 1 + 1 + 4 * p2.toNatClampNeg))), (4, .int v4)] [] μ := by
  unfold nX3_following_46 at h
  have k1 := h.1
  replace h := h.2
  refine g_iload C 4 dX3_following_46 rfl ?_
  refine g_aload_n C 1 dX3_following_48 rfl ?_
  refine gf_RX3_91 C h1 dX3_following_49 ?_
  refine g_icmp_ge C 75 dX3_following_52 (by decide) (fun c6 => ?_) (fun c6 => ?_)
  · replace h := h.1 c6
    refine g_bipush C (v := (-2 : Int32)) dX3_following_75 (by decide) ?_
    exact hr _ _ _ _ _ dX3_following_77 rfl h
  · replace h := h.2 c6
    refine g_aload_n C 3 dX3_following_55 rfl ?_
    refine g_aload_n C 1 dX3_following_56 rfl ?_
    refine g_iload C 4 dX3_following_57 rfl ?_
    refine g_iconst C (v := (0 : Int32)) dX3_following_59 (by decide) ?_
    refine g_callVI C [.ref (Y.ad r1), .int v4, .int ((0 : Int32))] [] (ok_X0_whyNot hI ((isX3_steps h0).2.2 _ (vpin_lt k1)) h1 h) (cw_RX3_94 _) rfl dc_X0_whyNot ⟨Nat.le_of_ble_eq_true rfl, Nat.le_of_ble_eq_true rfl⟩ (isX0_lt ((isX3_steps h0).2.2 _ (vpin_lt k1))) (isX0_sh ((isX3_steps h0).2.2 _ (vpin_lt k1))) rfl rfl rfl rfl (Nat.le_of_ble_eq_true rfl) dX3_following_60 (fun r8 m7 h => ?_)
    refine g_if_ne C 69 dX3_following_63 (by decide) (fun c9 => ?_) (fun c9 => ?_)
    · replace h := h.1 c9
      refine g_iinc C (v := v4 + 1) 4 [(4, .int (v4 + 1)), (0, .ref (Y.ad b)), (1, .ref (Y.ad r1)), (2, .int p2), (3, .ref (Y.ad (b + 1 + 1 + 4 * p2.toNatClampNeg)))] dX3_following_69 rfl rfl (by decide) rfl ?_
      refine g_goto C 46 dX3_following_72 (by decide) ?_
      refine g_lv (lv2 := [(0, .ref (Y.ad b)), (1, .ref (Y.ad r1)), (2, .int p2), (3, .ref (Y.ad (b + 1 + 1 + 4 * p2.toNatClampNeg))), (4, .int (v4 + 1))]) [1, 2, 3, 4, 0] ?_ rfl
      exact h
    · replace h := h.2 c9
      refine g_iload C 4 dX3_following_66 rfl ?_
      exact hr _ _ _ _ _ dX3_following_68 rfl h
set_option maxRecDepth 20000 in
set_option maxHeartbeats 4000000 in
theorem ok_X3_following {Y : YT} {l0 : Launch} {b : Nat} {r1 : Nat} {p2 : Int32} {μ : Mem} {Q : Int32 → Mem → Prop} (hI : YI Y) (h0 : isX3 Y b) (h1 : isX2 Y r1) (h : PX3_following b r1 p2 μ Q) : MI l0 yX3_following WX3_following 3 74 Y [.ref (Y.ad b), .ref (Y.ad r1), .int p2] μ Q := by
  refine mI_of (ty := .int) (cc := cX3_following) (maxL := 5) (by decide +kernel) rfl hI (Nat.le_of_ble_eq_true rfl) (fun X C hr => ?_)
  replace C : Cx X Y 5 cX3_following RX3 WX3_following (rmB 3 74) l0 := C
  refine g_lv (lv2 := [(0, .ref (Y.ad b)), (1, .ref (Y.ad r1)), (2, .int p2)]) [0, 1, 2] ?_ rfl
  unfold PX3_following at h
  replace h := h (SX3_following_46 X Y b r1 p2) (fun v4 μ z => tX3_following_46 C hr hI h0 h1 v4 μ z)
  refine g_aload_n C 0 dX3_following_0 rfl ?_
  refine gf_RX3_12 C h0 dX3_following_1 ?_
  refine g_iload_n C 2 dX3_following_4 rfl ?_
  refine g_aald C (isX3_steps h0).1 (isX3_steps h0).2.1 h.1 dX3_following_5 ?_
  have k1 := h.1
  replace h := h.2
  refine g_astore_n C [(3, .ref (Y.ad (b + 1 + 1 + 4 * p2.toNatClampNeg))), (0, .ref (Y.ad b)), (1, .ref (Y.ad r1)), (2, .int p2)] dX3_following_6 (by decide) rfl ?_
  refine g_aload_n C 2 dX3_following_7 rfl ?_
  refine g_aload_n C 0 dX3_following_8 rfl ?_
  refine gf_RX3_82 C ((isX3_steps h0).2.2 _ (vpin_lt k1)) dX3_following_9 ?_
  refine g_callVI C [.int (μ.1 (b + 1 + 1 + 4 * p2.toNatClampNeg) 2)] [] (ok_X2_isOut hI h1 h) (cw_RX3_85 _) rfl dc_X2_isOut ⟨Nat.le_of_ble_eq_true rfl, Nat.le_of_ble_eq_true rfl⟩ (isX2_lt h1) (isX2_sh h1) rfl rfl rfl rfl (Nat.le_of_ble_eq_true rfl) dX3_following_12 (fun r3 m2 h => ?_)
  refine g_if_eq C 36 dX3_following_15 (by decide) (fun c4 => ?_) (fun c4 => ?_)
  · replace h := h.1 c4
    refine g_aload_n C 1 dX3_following_36 rfl ?_
    refine gf_RX3_18 C h0 dX3_following_37 ?_
    refine g_iload_n C 3 dX3_following_40 rfl ?_
    refine g_iald C (isX3_places h0).1 (isX3_places h0).2 h.1 dX3_following_41 ?_
    replace h := h.2
    refine g_iconst C (v := (1 : Int32)) dX3_following_42 (by decide) ?_
    refine g_iadd C dX3_following_43 ?_
    refine g_istore C [(4, .int ((m2.1 (b + 26) p2.toNatClampNeg) + ((1 : Int32)))), (3, .ref (Y.ad (b + 1 + 1 + 4 * p2.toNatClampNeg))), (0, .ref (Y.ad b)), (1, .ref (Y.ad r1)), (2, .int p2)] dX3_following_44 (by decide) rfl ?_
    refine g_lv (lv2 := [(0, .ref (Y.ad b)), (1, .ref (Y.ad r1)), (2, .int p2), (3, .ref (Y.ad (b + 1 + 1 + 4 * p2.toNatClampNeg))), (4, .int ((m2.1 (b + 26) p2.toNatClampNeg) + ((1 : Int32))))]) [2, 3, 4, 1, 0] ?_ rfl
    exact h
  · replace h := h.2 c4
    refine g_aload_n C 1 dX3_following_18 rfl ?_
    refine gf_RX3_18 C h0 dX3_following_19 ?_
    refine g_iload_n C 3 dX3_following_22 rfl ?_
    refine g_iald C (isX3_places h0).1 (isX3_places h0).2 h.1 dX3_following_23 ?_
    replace h := h.2
    refine g_iconst C (v := (-1 : Int32)) dX3_following_24 (by decide) ?_
    refine g_icmp_ne C 33 dX3_following_25 (by decide) (fun c5 => ?_) (fun c5 => ?_)
    · replace h := h.1 c5
      refine g_bipush C (v := (-2 : Int32)) dX3_following_33 (by decide) ?_
      exact hr _ _ _ _ _ dX3_following_35 rfl h
    · replace h := h.2 c5
      refine g_bipush C (v := (-4 : Int32)) dX3_following_28 (by decide) ?_
      refine g_goto C 35 dX3_following_30 (by decide) ?_
      exact hr _ _ _ _ _ dX3_following_35 rfl h
set_option maxRecDepth 20000 in
set_option maxHeartbeats 4000000 in
theorem tX3_takeDay_36 {X : XT} {Y : YT} {l0 : Launch} {b : Nat} {r1 : Nat} {p2 : Int32} {p3 : Int32} {Q : Mem → Prop} (C : Cx X Y 5 cX3_takeDay RX3 WX3_takeDay (rmB 4 101) l0) (hr : RV X Y cX3_takeDay Q) (hI : YI Y) (h0 : isX3 Y b) (h1 : isX2 Y r1) (μ : Mem) (h : nX3_takeDay_36 b r1 p2 p3 Q  μ) : G X Y 5 36 [(0, .ref (Y.ad b)), (1, .ref (Y.ad r1)), (2, .int p2), (3, .int p3), (4, .ref (Y.ad (b + 1 + 1 + 4 * (p2 + ((1 : Int32))).toNatClampNeg)))] [] μ := by
  unfold nX3_takeDay_36 at h
  have k1 := h.1
  replace h := h.2
  refine g_aload C 4 dX3_takeDay_36 rfl ?_
  refine g_aload_n C 1 dX3_takeDay_38 rfl ?_
  refine g_callVI C [.ref (Y.ad r1)] [] (ok_X0_passNight hI ((isX3_steps h0).2.2 _ (vpin_lt k1)) h1 h) (cw_RX3_104 _) rfl dc_X0_passNight ⟨Nat.le_of_ble_eq_true rfl, Nat.le_of_ble_eq_true rfl⟩ (isX0_lt ((isX3_steps h0).2.2 _ (vpin_lt k1))) (isX0_sh ((isX3_steps h0).2.2 _ (vpin_lt k1))) rfl rfl rfl rfl (Nat.le_of_ble_eq_true rfl) dX3_takeDay_39 (fun r9 m8 h => ?_)
  refine g_pop C dX3_takeDay_42 rfl ?_
  exact hr _ _ _ _ dX3_takeDay_43 h
set_option maxRecDepth 20000 in
set_option maxHeartbeats 4000000 in
theorem ok_X3_takeDay {Y : YT} {l0 : Launch} {b : Nat} {r1 : Nat} {p2 : Int32} {p3 : Int32} {μ : Mem} {Q : Mem → Prop} (hI : YI Y) (h0 : isX3 Y b) (h1 : isX2 Y r1) (h : PX3_takeDay b r1 p2 p3 μ Q) : MV l0 yX3_takeDay WX3_takeDay 4 101 Y [.ref (Y.ad b), .ref (Y.ad r1), .int p2, .int p3] μ Q := by
  refine mV_of (cc := cX3_takeDay) (maxL := 5) (by decide +kernel) rfl hI (Nat.le_of_ble_eq_true rfl) (fun X C hr => ?_)
  replace C : Cx X Y 5 cX3_takeDay RX3 WX3_takeDay (rmB 4 101) l0 := C
  refine g_lv (lv2 := [(0, .ref (Y.ad b)), (1, .ref (Y.ad r1)), (2, .int p2), (3, .int p3)]) [0, 1, 2, 3] ?_ rfl
  unfold PX3_takeDay at h
  refine g_aload_n C 0 dX3_takeDay_0 rfl ?_
  refine gf_RX3_12 C h0 dX3_takeDay_1 ?_
  refine g_iload_n C 2 dX3_takeDay_4 rfl ?_
  refine g_iconst C (v := (1 : Int32)) dX3_takeDay_5 (by decide) ?_
  refine g_iadd C dX3_takeDay_6 ?_
  refine g_aald C (isX3_steps h0).1 (isX3_steps h0).2.1 h.1 dX3_takeDay_7 ?_
  have k1 := h.1
  replace h := h.2
  refine g_astore C [(4, .ref (Y.ad (b + 1 + 1 + 4 * (p2 + ((1 : Int32))).toNatClampNeg))), (0, .ref (Y.ad b)), (1, .ref (Y.ad r1)), (2, .int p2), (3, .int p3)] dX3_takeDay_8 (by decide) rfl ?_
  refine g_aload C 0 dX3_takeDay_10 rfl ?_
  refine g_aload_n C 1 dX3_takeDay_12 rfl ?_
  refine gf_RX3_12 C h0 dX3_takeDay_13 ?_
  refine g_iload_n C 3 dX3_takeDay_16 rfl ?_
  refine g_aald C (isX3_steps h0).1 (isX3_steps h0).2.1 h.1 dX3_takeDay_17 ?_
  have k2 := h.1
  replace h := h.2
  refine g_callVV C [.ref (Y.ad (b + 1 + 1 + 4 * p2.toNatClampNeg))] [] (ok_X0_copyFrom hI ((isX3_steps h0).2.2 _ (vpin_lt k1)) ((isX3_steps h0).2.2 _ (vpin_lt k2)) h) (cw_RX3_98 _) rfl dc_X0_copyFrom ⟨Nat.le_of_ble_eq_true rfl, Nat.le_of_ble_eq_true rfl⟩ (isX0_lt ((isX3_steps h0).2.2 _ (vpin_lt k1))) (isX0_sh ((isX3_steps h0).2.2 _ (vpin_lt k1))) rfl rfl rfl rfl (Nat.le_of_ble_eq_true rfl) dX3_takeDay_18 (fun m3 h => ?_)
  refine g_iload_n C 4 dX3_takeDay_21 rfl ?_
  refine g_bipush C (v := (-4 : Int32)) dX3_takeDay_22 (by decide) ?_
  refine g_icmp_eq C 36 dX3_takeDay_24 (by decide) (fun c5 => ?_) (fun c5 => ?_)
  · replace h := h.1 c5
    refine g_lv (lv2 := [(0, .ref (Y.ad b)), (1, .ref (Y.ad r1)), (2, .int p2), (3, .int p3), (4, .ref (Y.ad (b + 1 + 1 + 4 * (p2 + ((1 : Int32))).toNatClampNeg)))]) [1, 2, 3, 4, 0] ?_ rfl
    exact tX3_takeDay_36 C hr hI h0 h1 _ h
  · replace h := h.2 c5
    refine g_aload C 0 dX3_takeDay_27 rfl ?_
    refine g_aload_n C 2 dX3_takeDay_29 rfl ?_
    refine g_iload_n C 4 dX3_takeDay_30 rfl ?_
    refine g_iconst C (v := (0 : Int32)) dX3_takeDay_31 (by decide) ?_
    refine g_callVI C [.ref (Y.ad r1), .int p3, .int ((0 : Int32))] [] (ok_X0_serve hI ((isX3_steps h0).2.2 _ (vpin_lt k1)) h1 h) (cw_RX3_101 _) rfl dc_X0_serve ⟨Nat.le_of_ble_eq_true rfl, Nat.le_of_ble_eq_true rfl⟩ (isX0_lt ((isX3_steps h0).2.2 _ (vpin_lt k1))) (isX0_sh ((isX3_steps h0).2.2 _ (vpin_lt k1))) rfl rfl rfl rfl (Nat.le_of_ble_eq_true rfl) dX3_takeDay_32 (fun r7 m6 h => ?_)
    refine g_pop C dX3_takeDay_35 rfl ?_
    refine g_lv (lv2 := [(0, .ref (Y.ad b)), (1, .ref (Y.ad r1)), (2, .int p2), (3, .int p3), (4, .ref (Y.ad (b + 1 + 1 + 4 * (p2 + ((1 : Int32))).toNatClampNeg)))]) [1, 2, 3, 4, 0] ?_ rfl
    exact tX3_takeDay_36 C hr hI h0 h1 _ h
set_option maxRecDepth 20000 in
set_option maxHeartbeats 4000000 in
theorem tX3_judgeBest_65 {X : XT} {Y : YT} {l0 : Launch} {b : Nat} {p1 : Int64} {r3 : Nat} {Q : Mem → Prop} (C : Cx X Y 4 cX3_judgeBest RX3 WX3_judgeBest (rmB 1 18) l0) (hr : RV X Y cX3_judgeBest Q) (hI : YI Y) (h0 : isX3 Y b) (h3 : isX0 Y r3) (μ : Mem) (h : nX3_judgeBest_65 b p1 r3 Q  μ) : G X Y 4 65 [(0, .ref (Y.ad b)), (1, .long p1), (3, .ref (Y.ad r3))] [] μ := by
  unfold nX3_judgeBest_65 at h
  refine g_lload_n C 1 dX3_judgeBest_65 rfl ?_
  refine g_aload_n C 0 dX3_judgeBest_66 rfl ?_
  refine gf_RX3_138 C h0 dX3_judgeBest_67 ?_
  refine g_lcmp C dX3_judgeBest_70 ?_
  refine g_if_ne C 84 dX3_judgeBest_71 (by decide) (fun c3 => ?_) (fun c3 => ?_)
  · replace h := h.1 c3
    exact hr _ _ _ _ dX3_judgeBest_84 h
  · replace h := h.2 c3
    refine g_aload_n C 0 dX3_judgeBest_74 rfl ?_
    refine g_dup C dX3_judgeBest_75 rfl ?_
    refine gf_RX3_142 C h0 dX3_judgeBest_76 ?_
    refine g_iconst C (v := (1 : Int32)) dX3_judgeBest_79 (by decide) ?_
    refine g_iadd C dX3_judgeBest_80 ?_
    refine gp_RX3_142 C h0 dX3_judgeBest_81 ?_
    exact hr _ _ _ _ dX3_judgeBest_84 h
set_option maxRecDepth 20000 in
set_option maxHeartbeats 4000000 in
theorem tX3_judgeBest_17 {X : XT} {Y : YT} {l0 : Launch} {b : Nat} {p1 : Int64} {r3 : Nat} {Q : Mem → Prop} (C : Cx X Y 4 cX3_judgeBest RX3 WX3_judgeBest (rmB 1 18) l0) (hr : RV X Y cX3_judgeBest Q) (hI : YI Y) (h0 : isX3 Y b) (h3 : isX0 Y r3) (μ : Mem) (h : nX3_judgeBest_17 b p1 r3 Q  μ) : G X Y 4 17 [(0, .ref (Y.ad b)), (1, .long p1), (3, .ref (Y.ad r3))] [] μ := by
  unfold nX3_judgeBest_17 at h
  refine g_aload_n C 0 dX3_judgeBest_17 rfl ?_
  refine g_lload_n C 1 dX3_judgeBest_18 rfl ?_
  refine gp_RX3_138 C h0 dX3_judgeBest_19 ?_
  refine g_aload_n C 0 dX3_judgeBest_22 rfl ?_
  refine g_iconst C (v := (0 : Int32)) dX3_judgeBest_23 (by decide) ?_
  refine gp_RX3_142 C h0 dX3_judgeBest_24 ?_
  refine g_mem (fun m4 em4 => ?_)
  replace h := h m4 em4
  refine g_aload_n C 0 dX3_judgeBest_27 rfl ?_
  refine g_aload_n C 2 dX3_judgeBest_28 rfl ?_
  refine gf_RX3_108 C h3 dX3_judgeBest_29 ?_
  refine gp_RX3_145 C h0 dX3_judgeBest_32 ?_
  refine g_aload_n C 0 dX3_judgeBest_35 rfl ?_
  refine g_aload_n C 2 dX3_judgeBest_36 rfl ?_
  refine gf_RX3_113 C h3 dX3_judgeBest_37 ?_
  refine gp_RX3_148 C h0 dX3_judgeBest_40 ?_
  refine g_mem (fun m5 em5 => ?_)
  replace h := h m5 em5
  refine g_aload_n C 0 dX3_judgeBest_43 rfl ?_
  refine g_aload_n C 2 dX3_judgeBest_44 rfl ?_
  refine gf_RX3_116 C h3 dX3_judgeBest_45 ?_
  refine gp_RX3_151 C h0 dX3_judgeBest_48 ?_
  refine g_aload_n C 0 dX3_judgeBest_51 rfl ?_
  refine gf_RX3_18 C h0 dX3_judgeBest_52 ?_
  refine g_iconst C (v := (0 : Int32)) dX3_judgeBest_55 (by decide) ?_
  refine g_aload_n C 0 dX3_judgeBest_56 rfl ?_
  refine gf_RX3_29 C h0 dX3_judgeBest_57 ?_
  refine g_iconst C (v := (0 : Int32)) dX3_judgeBest_60 (by decide) ?_
  refine g_iconst C (v := (5 : Int32)) dX3_judgeBest_61 (by decide) ?_
  refine g_copy C (List.mem_cons_of_mem _ mM_RX3_154) (List.mem_cons_of_mem _ mLib_copy_n) (List.mem_cons_of_mem _ mLib_copy_s) (List.mem_cons_of_mem _ mLib_sys) (isX3_places h0).1 (isX3_bestRow h0).1 (isX3_places h0).2 (isX3_bestRow h0).2 (by decide) (by decide) (by decide) (by decide) (by decide) (Nat.le_of_ble_eq_true rfl) (Nat.le_of_ble_eq_true rfl) dX3_judgeBest_62 ?_
  refine g_mem (fun m6 em6 => ?_)
  replace h := h m6 em6
  exact tX3_judgeBest_65 C hr hI h0 h3 _ h
set_option maxRecDepth 20000 in
set_option maxHeartbeats 4000000 in
theorem ok_X3_judgeBest {Y : YT} {l0 : Launch} {b : Nat} {p1 : Int64} {r3 : Nat} {μ : Mem} {Q : Mem → Prop} (hI : YI Y) (h0 : isX3 Y b) (h3 : isX0 Y r3) (h : PX3_judgeBest b p1 r3 μ Q) : MV l0 yX3_judgeBest WX3_judgeBest 1 18 Y [.ref (Y.ad b), .long p1, .ref (Y.ad r3)] μ Q := by
  refine mV_of (cc := cX3_judgeBest) (maxL := 4) (by decide +kernel) rfl hI (Nat.le_of_ble_eq_true rfl) (fun X C hr => ?_)
  replace C : Cx X Y 4 cX3_judgeBest RX3 WX3_judgeBest (rmB 1 18) l0 := C
  refine g_lv (lv2 := [(0, .ref (Y.ad b)), (1, .long p1), (3, .ref (Y.ad r3))]) [0, 1, 2] ?_ rfl
  unfold PX3_judgeBest at h
  refine g_aload_n C 0 dX3_judgeBest_0 rfl ?_
  refine gf_RX3_69 C h0 dX3_judgeBest_1 ?_
  refine g_iconst C (v := (1 : Int32)) dX3_judgeBest_4 (by decide) ?_
  refine g_icmp_eq C 17 dX3_judgeBest_5 (by decide) (fun c1 => ?_) (fun c1 => ?_)
  · replace h := h.1 c1
    exact tX3_judgeBest_17 C hr hI h0 h3 _ h
  · replace h := h.2 c1
    refine g_lload_n C 1 dX3_judgeBest_8 rfl ?_
    refine g_aload_n C 0 dX3_judgeBest_9 rfl ?_
    refine gf_RX3_138 C h0 dX3_judgeBest_10 ?_
    refine g_lcmp C dX3_judgeBest_13 ?_
    refine g_if_ge C 65 dX3_judgeBest_14 (by decide) (fun c2 => ?_) (fun c2 => ?_)
    · replace h := h.1 c2
      exact tX3_judgeBest_65 C hr hI h0 h3 _ h
    · replace h := h.2 c2
      exact tX3_judgeBest_17 C hr hI h0 h3 _ h
