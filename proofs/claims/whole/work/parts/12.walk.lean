set_option maxRecDepth 20000 in
set_option maxHeartbeats 4000000 in
theorem ok_X2_copyWithSmallDish {Y : YT} {l0 : Launch} {b : Nat} {r1 : Nat} {p2 : Int32} {μ : Mem} {Q : Mem → Prop} (hI : YI Y) (h0 : isX2 Y b) (h1 : isX2 Y r1) (h : PX2_copyWithSmallDish b r1 p2 μ Q) : MV l0 yX2_copyWithSmallDish WX2_copyWithSmallDish 2 39 Y [.ref (Y.ad b), .ref (Y.ad r1), .int p2] μ Q := by
  refine mV_of (cc := cX2_copyWithSmallDish) (maxL := 3) (by decide +kernel) rfl hI (Nat.le_of_ble_eq_true rfl) (fun X C hr => ?_)
  replace C : Cx X Y 3 cX2_copyWithSmallDish RX2 WX2_copyWithSmallDish (rmB 2 39) l0 := C
  refine g_lv (lv2 := [(0, .ref (Y.ad b)), (1, .ref (Y.ad r1)), (2, .int p2)]) [0, 1, 2] ?_ rfl
  unfold PX2_copyWithSmallDish at h
  refine g_aload_n C 0 dX2_copyWithSmallDish_0 rfl ?_
  refine g_aload_n C 1 dX2_copyWithSmallDish_1 rfl ?_
  refine g_callVV C [.ref (Y.ad r1)] [] (ok_X2_copyFrom hI h0 h1 h) (cw_RX2_74 _) rfl dc_X2_copyFrom ⟨Nat.le_of_ble_eq_true rfl, Nat.le_of_ble_eq_true rfl⟩ (isX2_lt h0) (isX2_sh h0) rfl rfl rfl rfl (Nat.le_of_ble_eq_true rfl) dX2_copyWithSmallDish_2 (fun m1 h => ?_)
  refine g_aload_n C 0 dX2_copyWithSmallDish_5 rfl ?_
  refine gf_RX2_52 C h0 dX2_copyWithSmallDish_6 ?_
  refine g_bipush C (v := (8 : Int32)) dX2_copyWithSmallDish_9 (by decide) ?_
  refine g_icmp_le C 15 dX2_copyWithSmallDish_11 (by decide) (fun c3 => ?_) (fun c3 => ?_)
  · replace h := h.1 c3
    refine g_aload_n C 0 dX2_copyWithSmallDish_15 rfl ?_
    refine gf_RX2_21 C h0 dX2_copyWithSmallDish_16 ?_
    refine g_aload_n C 0 dX2_copyWithSmallDish_19 rfl ?_
    refine gf_RX2_52 C h0 dX2_copyWithSmallDish_20 ?_
    refine g_iconst C (v := (1 : Int32)) dX2_copyWithSmallDish_23 (by decide) ?_
    refine g_iast C (isX2_kind h0).1 (isX2_kind h0).2 h.1 dX2_copyWithSmallDish_24 ?_
    replace h := h.2
    refine g_aload_n C 0 dX2_copyWithSmallDish_25 rfl ?_
    refine gf_RX2_36 C h0 dX2_copyWithSmallDish_26 ?_
    refine g_aload_n C 0 dX2_copyWithSmallDish_29 rfl ?_
    refine gf_RX2_52 C h0 dX2_copyWithSmallDish_30 ?_
    refine g_bipush C (v := (6 : Int32)) dX2_copyWithSmallDish_33 (by decide) ?_
    refine g_imul C dX2_copyWithSmallDish_35 ?_
    refine g_iload_n C 2 dX2_copyWithSmallDish_36 rfl ?_
    refine g_iadd C dX2_copyWithSmallDish_37 ?_
    refine g_iconst C (v := (1 : Int32)) dX2_copyWithSmallDish_38 (by decide) ?_
    refine g_iast C (isX2_wants h0).1 (isX2_wants h0).2 h.1 dX2_copyWithSmallDish_39 ?_
    replace h := h.2
    refine g_mem (fun m4 em4 => ?_)
    replace h := h m4 em4
    refine g_aload_n C 0 dX2_copyWithSmallDish_40 rfl ?_
    refine g_dup C dX2_copyWithSmallDish_41 rfl ?_
    refine gf_RX2_52 C h0 dX2_copyWithSmallDish_42 ?_
    refine g_iconst C (v := (1 : Int32)) dX2_copyWithSmallDish_45 (by decide) ?_
    refine g_iadd C dX2_copyWithSmallDish_46 ?_
    refine gp_RX2_52 C h0 dX2_copyWithSmallDish_47 ?_
    exact hr _ _ _ _ dX2_copyWithSmallDish_50 h
  · replace h := h.2 c3
    exact hr _ _ _ _ dX2_copyWithSmallDish_14 h
set_option maxRecDepth 20000 in
set_option maxHeartbeats 4000000 in
theorem tX2_hasThing_16 {X : XT} {Y : YT} {l0 : Launch} {b : Nat} {p1 : Int32} {Q : Int32 → Mem → Prop} (C : Cx X Y 2 cX2_hasThing RX2 WX2_hasThing (rmB 0 0) l0) (hr : RI X Y cX2_hasThing .boolean Q) (hI : YI Y) (h0 : isX2 Y b) (μ : Mem) (h : nX2_hasThing_16 b p1 Q  μ) : G X Y 2 16 [(0, .ref (Y.ad b)), (1, .int p1)] [] μ := by
  unfold nX2_hasThing_16 at h
  refine g_iconst C (v := (0 : Int32)) dX2_hasThing_16 (by decide) ?_
  exact hr _ _ _ _ _ dX2_hasThing_17 rfl h
set_option maxRecDepth 20000 in
set_option maxHeartbeats 4000000 in
theorem ok_X2_hasThing {Y : YT} {l0 : Launch} {b : Nat} {p1 : Int32} {μ : Mem} {Q : Int32 → Mem → Prop} (hI : YI Y) (h0 : isX2 Y b) (h : PX2_hasThing b p1 μ Q) : MI l0 yX2_hasThing WX2_hasThing 0 0 Y [.ref (Y.ad b), .int p1] μ Q := by
  refine mI_of (ty := .boolean) (cc := cX2_hasThing) (maxL := 2) (by decide +kernel) rfl hI (Nat.le_of_ble_eq_true rfl) (fun X C hr => ?_)
  replace C : Cx X Y 2 cX2_hasThing RX2 WX2_hasThing (rmB 0 0) l0 := C
  refine g_lv (lv2 := [(0, .ref (Y.ad b)), (1, .int p1)]) [0, 1] ?_ rfl
  unfold PX2_hasThing at h
  refine g_iload_n C 1 dX2_hasThing_0 rfl ?_
  refine g_if_lt C 16 dX2_hasThing_1 (by decide) (fun c1 => ?_) (fun c1 => ?_)
  · replace h := h.1 c1
    exact tX2_hasThing_16 C hr hI h0 _ h
  · replace h := h.2 c1
    refine g_iload_n C 1 dX2_hasThing_4 rfl ?_
    refine g_aload_n C 0 dX2_hasThing_5 rfl ?_
    refine gf_RX2_48 C h0 dX2_hasThing_6 ?_
    refine g_icmp_ge C 16 dX2_hasThing_9 (by decide) (fun c2 => ?_) (fun c2 => ?_)
    · replace h := h.1 c2
      exact tX2_hasThing_16 C hr hI h0 _ h
    · replace h := h.2 c2
      refine g_iconst C (v := (1 : Int32)) dX2_hasThing_12 (by decide) ?_
      refine g_goto C 17 dX2_hasThing_13 (by decide) ?_
      exact hr _ _ _ _ _ dX2_hasThing_17 rfl h
set_option maxRecDepth 20000 in
set_option maxHeartbeats 4000000 in
theorem tX2_hasSupper_16 {X : XT} {Y : YT} {l0 : Launch} {b : Nat} {p1 : Int32} {Q : Int32 → Mem → Prop} (C : Cx X Y 2 cX2_hasSupper RX2 WX2_hasSupper (rmB 0 0) l0) (hr : RI X Y cX2_hasSupper .boolean Q) (hI : YI Y) (h0 : isX2 Y b) (μ : Mem) (h : nX2_hasSupper_16 b p1 Q  μ) : G X Y 2 16 [(0, .ref (Y.ad b)), (1, .int p1)] [] μ := by
  unfold nX2_hasSupper_16 at h
  refine g_iconst C (v := (0 : Int32)) dX2_hasSupper_16 (by decide) ?_
  exact hr _ _ _ _ _ dX2_hasSupper_17 rfl h
set_option maxRecDepth 20000 in
set_option maxHeartbeats 4000000 in
theorem ok_X2_hasSupper {Y : YT} {l0 : Launch} {b : Nat} {p1 : Int32} {μ : Mem} {Q : Int32 → Mem → Prop} (hI : YI Y) (h0 : isX2 Y b) (h : PX2_hasSupper b p1 μ Q) : MI l0 yX2_hasSupper WX2_hasSupper 0 0 Y [.ref (Y.ad b), .int p1] μ Q := by
  refine mI_of (ty := .boolean) (cc := cX2_hasSupper) (maxL := 2) (by decide +kernel) rfl hI (Nat.le_of_ble_eq_true rfl) (fun X C hr => ?_)
  replace C : Cx X Y 2 cX2_hasSupper RX2 WX2_hasSupper (rmB 0 0) l0 := C
  refine g_lv (lv2 := [(0, .ref (Y.ad b)), (1, .int p1)]) [0, 1] ?_ rfl
  unfold PX2_hasSupper at h
  refine g_iload_n C 1 dX2_hasSupper_0 rfl ?_
  refine g_if_lt C 16 dX2_hasSupper_1 (by decide) (fun c1 => ?_) (fun c1 => ?_)
  · replace h := h.1 c1
    exact tX2_hasSupper_16 C hr hI h0 _ h
  · replace h := h.2 c1
    refine g_iload_n C 1 dX2_hasSupper_4 rfl ?_
    refine g_aload_n C 0 dX2_hasSupper_5 rfl ?_
    refine gf_RX2_52 C h0 dX2_hasSupper_6 ?_
    refine g_icmp_ge C 16 dX2_hasSupper_9 (by decide) (fun c2 => ?_) (fun c2 => ?_)
    · replace h := h.1 c2
      exact tX2_hasSupper_16 C hr hI h0 _ h
    · replace h := h.2 c2
      refine g_iconst C (v := (1 : Int32)) dX2_hasSupper_12 (by decide) ?_
      refine g_goto C 17 dX2_hasSupper_13 (by decide) ?_
      exact hr _ _ _ _ _ dX2_hasSupper_17 rfl h
set_option maxRecDepth 20000 in
set_option maxHeartbeats 4000000 in
theorem ok_X2_chanceOfGuests {Y : YT} {l0 : Launch} {b : Nat} {p1 : Int32} {μ : Mem} {Q : Int32 → Mem → Prop} (hI : YI Y) (h0 : isX2 Y b) (h : PX2_chanceOfGuests b p1 μ Q) : MI l0 yX2_chanceOfGuests WX2_chanceOfGuests 1 22 Y [.ref (Y.ad b), .int p1] μ Q := by
  refine mI_of (ty := .int) (cc := cX2_chanceOfGuests) (maxL := 2) (by decide +kernel) rfl hI (Nat.le_of_ble_eq_true rfl) (fun X C hr => ?_)
  replace C : Cx X Y 2 cX2_chanceOfGuests RX2 WX2_chanceOfGuests (rmB 1 22) l0 := C
  refine g_lv (lv2 := [(0, .ref (Y.ad b)), (1, .int p1)]) [0, 1] ?_ rfl
  unfold PX2_chanceOfGuests at h
  refine g_aload_n C 0 dX2_chanceOfGuests_0 rfl ?_
  refine gf_RX2_42 C h0 dX2_chanceOfGuests_1 ?_
  refine g_iload_n C 1 dX2_chanceOfGuests_4 rfl ?_
  refine g_bipush C (v := (7 : Int32)) dX2_chanceOfGuests_5 (by decide) ?_
  refine g_callSI C [.int p1, .int ((7 : Int32))] [.ref (Y.ad (b + 11))] (ok_J9_floorMod_7cf53 hI  h) (cw_RX2_78 _) rfl dc_J9_floorMod_7cf53 ⟨Nat.le_of_ble_eq_true rfl, Nat.le_of_ble_eq_true rfl⟩ rfl (Nat.le_of_ble_eq_true rfl) dX2_chanceOfGuests_7 (fun r2 m1 h => ?_)
  refine g_iald C (isX2_chances h0).1 (isX2_chances h0).2 h.1 dX2_chanceOfGuests_10 ?_
  replace h := h.2
  exact hr _ _ _ _ _ dX2_chanceOfGuests_11 rfl h
def SX2_thingsOf_9 (X : XT) (Y : YT) (b : Nat) (p1 : Int32) : Int32 → Int32 → Mem → Prop := fun v2 v3 μ => G X Y 4 9 [(0, .ref (Y.ad b)), (1, .int p1), (2, .int v2), (3, .int v3)] [] μ
set_option maxRecDepth 20000 in
set_option maxHeartbeats 4000000 in
theorem tX2_thingsOf_37 {X : XT} {Y : YT} {l0 : Launch} {b : Nat} {p1 : Int32} {Q : Int32 → Mem → Prop} (C : Cx X Y 4 cX2_thingsOf RX2 WX2_thingsOf (rmB 0 0) l0) (hr : RI X Y cX2_thingsOf .int Q) (hI : YI Y) (h0 : isX2 Y b) (v2 : Int32) (v3 : Int32) (μ : Mem) (h : nX2_thingsOf_37 b p1 Q (SX2_thingsOf_9 X Y b p1) v2 v3 μ) : G X Y 4 37 [(0, .ref (Y.ad b)), (1, .int p1), (2, .int v2), (3, .int v3)] [] μ := by
  unfold nX2_thingsOf_37 at h
  refine g_iinc C (v := v3 + 1) 3 [(3, .int (v3 + 1)), (0, .ref (Y.ad b)), (1, .int p1), (2, .int v2)] dX2_thingsOf_37 rfl rfl (by decide) rfl ?_
  refine g_goto C 9 dX2_thingsOf_40 (by decide) ?_
  refine g_lv (lv2 := [(0, .ref (Y.ad b)), (1, .int p1), (2, .int v2), (3, .int (v3 + 1))]) [1, 2, 3, 0] ?_ rfl
  exact h
set_option maxRecDepth 20000 in
set_option maxHeartbeats 4000000 in
theorem tX2_thingsOf_9 {X : XT} {Y : YT} {l0 : Launch} {b : Nat} {p1 : Int32} {Q : Int32 → Mem → Prop} (C : Cx X Y 4 cX2_thingsOf RX2 WX2_thingsOf (rmB 0 0) l0) (hr : RI X Y cX2_thingsOf .int Q) (hI : YI Y) (h0 : isX2 Y b) (v2 : Int32) (v3 : Int32) (μ : Mem) (h : nX2_thingsOf_9 b p1 Q (SX2_thingsOf_9 X Y b p1) v2 v3 μ) : G X Y 4 9 [(0, .ref (Y.ad b)), (1, .int p1), (2, .int v2), (3, .int v3)] [] μ := by
  unfold nX2_thingsOf_9 at h
  refine g_iload_n C 3 dX2_thingsOf_9 rfl ?_
  refine g_aload_n C 0 dX2_thingsOf_10 rfl ?_
  refine gf_RX2_48 C h0 dX2_thingsOf_11 ?_
  refine g_icmp_ge C 43 dX2_thingsOf_14 (by decide) (fun c1 => ?_) (fun c1 => ?_)
  · replace h := h.1 c1
    refine g_iload_n C 2 dX2_thingsOf_43 rfl ?_
    exact hr _ _ _ _ _ dX2_thingsOf_44 rfl h
  · replace h := h.2 c1
    refine g_aload_n C 0 dX2_thingsOf_17 rfl ?_
    refine gf_RX2_36 C h0 dX2_thingsOf_18 ?_
    refine g_iload_n C 1 dX2_thingsOf_21 rfl ?_
    refine g_bipush C (v := (6 : Int32)) dX2_thingsOf_22 (by decide) ?_
    refine g_imul C dX2_thingsOf_24 ?_
    refine g_iload_n C 3 dX2_thingsOf_25 rfl ?_
    refine g_iadd C dX2_thingsOf_26 ?_
    refine g_iald C (isX2_wants h0).1 (isX2_wants h0).2 h.1 dX2_thingsOf_27 ?_
    replace h := h.2
    refine g_if_le C 37 dX2_thingsOf_28 (by decide) (fun c2 => ?_) (fun c2 => ?_)
    · replace h := h.1 c2
      exact tX2_thingsOf_37 C hr hI h0 _ _ _ h
    · replace h := h.2 c2
      refine g_iload_n C 2 dX2_thingsOf_31 rfl ?_
      refine g_iconst C (v := (1 : Int32)) dX2_thingsOf_32 (by decide) ?_
      refine g_iload_n C 3 dX2_thingsOf_33 rfl ?_
      refine g_ishl C dX2_thingsOf_34 ?_
      refine g_ior C dX2_thingsOf_35 ?_
      refine g_istore_n C [(2, .int (v2 ||| (((1 : Int32)) <<< (v3 &&& 31)))), (0, .ref (Y.ad b)), (1, .int p1), (3, .int v3)] dX2_thingsOf_36 (by decide) rfl ?_
      refine g_lv (lv2 := [(0, .ref (Y.ad b)), (1, .int p1), (2, .int (v2 ||| (((1 : Int32)) <<< (v3 &&& 31)))), (3, .int v3)]) [1, 2, 0, 3] ?_ rfl
      exact tX2_thingsOf_37 C hr hI h0 _ _ _ h
set_option maxRecDepth 20000 in
set_option maxHeartbeats 4000000 in
theorem ok_X2_thingsOf {Y : YT} {l0 : Launch} {b : Nat} {p1 : Int32} {μ : Mem} {Q : Int32 → Mem → Prop} (hI : YI Y) (h0 : isX2 Y b) (h : PX2_thingsOf b p1 μ Q) : MI l0 yX2_thingsOf WX2_thingsOf 0 0 Y [.ref (Y.ad b), .int p1] μ Q := by
  refine mI_of (ty := .int) (cc := cX2_thingsOf) (maxL := 4) (by decide +kernel) rfl hI (Nat.le_of_ble_eq_true rfl) (fun X C hr => ?_)
  replace C : Cx X Y 4 cX2_thingsOf RX2 WX2_thingsOf (rmB 0 0) l0 := C
  refine g_lv (lv2 := [(0, .ref (Y.ad b)), (1, .int p1)]) [0, 1] ?_ rfl
  unfold PX2_thingsOf at h
  replace h := h (SX2_thingsOf_9 X Y b p1) (fun v2 v3 μ z => tX2_thingsOf_9 C hr hI h0 v2 v3 μ z)
  refine g_aload_n C 0 dX2_thingsOf_0 rfl ?_
  refine gf_RX2_33 C h0 dX2_thingsOf_1 ?_
  refine g_iload_n C 1 dX2_thingsOf_4 rfl ?_
  refine g_iald C (isX2_soupThings h0).1 (isX2_soupThings h0).2 h.1 dX2_thingsOf_5 ?_
  replace h := h.2
  refine g_istore_n C [(2, .int (μ.1 (b + 8) p1.toNatClampNeg)), (0, .ref (Y.ad b)), (1, .int p1)] dX2_thingsOf_6 (by decide) rfl ?_
  refine g_iconst C (v := (0 : Int32)) dX2_thingsOf_7 (by decide) ?_
  refine g_istore_n C [(3, .int ((0 : Int32))), (2, .int (μ.1 (b + 8) p1.toNatClampNeg)), (0, .ref (Y.ad b)), (1, .int p1)] dX2_thingsOf_8 (by decide) rfl ?_
  refine g_lv (lv2 := [(0, .ref (Y.ad b)), (1, .int p1), (2, .int (μ.1 (b + 8) p1.toNatClampNeg)), (3, .int ((0 : Int32)))]) [2, 3, 1, 0] ?_ rfl
  exact h
def SX2_timesFed_6 (X : XT) (Y : YT) (b : Nat) (a1 : Nat) (n1 : Nat) (p2 : Int32) (p3 : Int32) : Int32 → Int32 → Mem → Prop := fun v4 v5 μ => G X Y 6 6 [(0, .ref (Y.ad b)), (1, .ref (Y.ad a1)), (2, .int p2), (3, .int p3), (4, .int v4), (5, .int v5)] [] μ
set_option maxRecDepth 20000 in
set_option maxHeartbeats 4000000 in
theorem tX2_timesFed_40 {X : XT} {Y : YT} {l0 : Launch} {b : Nat} {a1 : Nat} {n1 : Nat} {p2 : Int32} {p3 : Int32} {Q : Int32 → Mem → Prop} (C : Cx X Y 6 cX2_timesFed RX2 WX2_timesFed (rmB 0 0) l0) (hr : RI X Y cX2_timesFed .int Q) (hI : YI Y) (h0 : isX2 Y b) (h1 : isI Y a1 n1) (v4 : Int32) (v5 : Int32) (μ : Mem) (h : nX2_timesFed_40 b a1 n1 p2 p3 Q (SX2_timesFed_6 X Y b a1 n1 p2 p3) v4 v5 μ) : G X Y 6 40 [(0, .ref (Y.ad b)), (1, .ref (Y.ad a1)), (2, .int p2), (3, .int p3), (4, .int v4), (5, .int v5)] [] μ := by
  unfold nX2_timesFed_40 at h
  refine g_iinc C (v := v5 + 1) 5 [(5, .int (v5 + 1)), (0, .ref (Y.ad b)), (1, .ref (Y.ad a1)), (2, .int p2), (3, .int p3), (4, .int v4)] dX2_timesFed_40 rfl rfl (by decide) rfl ?_
  refine g_goto C 6 dX2_timesFed_43 (by decide) ?_
  refine g_lv (lv2 := [(0, .ref (Y.ad b)), (1, .ref (Y.ad a1)), (2, .int p2), (3, .int p3), (4, .int v4), (5, .int (v5 + 1))]) [1, 2, 3, 4, 5, 0] ?_ rfl
  exact h
set_option maxRecDepth 20000 in
set_option maxHeartbeats 4000000 in
theorem tX2_timesFed_6 {X : XT} {Y : YT} {l0 : Launch} {b : Nat} {a1 : Nat} {n1 : Nat} {p2 : Int32} {p3 : Int32} {Q : Int32 → Mem → Prop} (C : Cx X Y 6 cX2_timesFed RX2 WX2_timesFed (rmB 0 0) l0) (hr : RI X Y cX2_timesFed .int Q) (hI : YI Y) (h0 : isX2 Y b) (h1 : isI Y a1 n1) (v4 : Int32) (v5 : Int32) (μ : Mem) (h : nX2_timesFed_6 b a1 n1 p2 p3 Q (SX2_timesFed_6 X Y b a1 n1 p2 p3) v4 v5 μ) : G X Y 6 6 [(0, .ref (Y.ad b)), (1, .ref (Y.ad a1)), (2, .int p2), (3, .int p3), (4, .int v4), (5, .int v5)] [] μ := by
  unfold nX2_timesFed_6 at h
  refine g_iload C 5 dX2_timesFed_6 rfl ?_
  refine g_iload_n C 2 dX2_timesFed_8 rfl ?_
  refine g_icmp_ge C 46 dX2_timesFed_9 (by decide) (fun c1 => ?_) (fun c1 => ?_)
  · replace h := h.1 c1
    refine g_iload C 4 dX2_timesFed_46 rfl ?_
    exact hr _ _ _ _ _ dX2_timesFed_48 rfl h
  · replace h := h.2 c1
    refine g_aload_n C 1 dX2_timesFed_12 rfl ?_
    refine g_iload C 5 dX2_timesFed_13 rfl ?_
    refine g_iald C h1.1 h1.2 h.1 dX2_timesFed_15 ?_
    replace h := h.2
    refine g_bipush C (v := (-4 : Int32)) dX2_timesFed_16 (by decide) ?_
    refine g_icmp_eq C 40 dX2_timesFed_18 (by decide) (fun c2 => ?_) (fun c2 => ?_)
    · replace h := h.1 c2
      exact tX2_timesFed_40 C hr hI h0 h1 _ _ _ h
    · replace h := h.2 c2
      refine g_aload_n C 0 dX2_timesFed_21 rfl ?_
      refine gf_RX2_27 C h0 dX2_timesFed_22 ?_
      refine g_aload_n C 1 dX2_timesFed_25 rfl ?_
      refine g_iload C 5 dX2_timesFed_26 rfl ?_
      refine g_iald C h1.1 h1.2 h.1 dX2_timesFed_28 ?_
      replace h := h.2
      refine g_iald C (isX2_wont h0).1 (isX2_wont h0).2 h.1 dX2_timesFed_29 ?_
      replace h := h.2
      refine g_iload_n C 3 dX2_timesFed_30 rfl ?_
      refine g_ishr C dX2_timesFed_31 ?_
      refine g_iconst C (v := (1 : Int32)) dX2_timesFed_32 (by decide) ?_
      refine g_iand C dX2_timesFed_33 ?_
      refine g_if_ne C 40 dX2_timesFed_34 (by decide) (fun c3 => ?_) (fun c3 => ?_)
      · replace h := h.1 c3
        exact tX2_timesFed_40 C hr hI h0 h1 _ _ _ h
      · replace h := h.2 c3
        refine g_iinc C (v := v4 + 1) 4 [(4, .int (v4 + 1)), (0, .ref (Y.ad b)), (1, .ref (Y.ad a1)), (2, .int p2), (3, .int p3), (5, .int v5)] dX2_timesFed_37 rfl rfl (by decide) rfl ?_
        refine g_lv (lv2 := [(0, .ref (Y.ad b)), (1, .ref (Y.ad a1)), (2, .int p2), (3, .int p3), (4, .int (v4 + 1)), (5, .int v5)]) [1, 2, 3, 4, 0, 5] ?_ rfl
        exact tX2_timesFed_40 C hr hI h0 h1 _ _ _ h
set_option maxRecDepth 20000 in
set_option maxHeartbeats 4000000 in
theorem ok_X2_timesFed {Y : YT} {l0 : Launch} {b : Nat} {a1 : Nat} {n1 : Nat} {p2 : Int32} {p3 : Int32} {μ : Mem} {Q : Int32 → Mem → Prop} (hI : YI Y) (h0 : isX2 Y b) (h1 : isI Y a1 n1) (h : PX2_timesFed b a1 n1 p2 p3 μ Q) : MI l0 yX2_timesFed WX2_timesFed 0 0 Y [.ref (Y.ad b), .ref (Y.ad a1), .int p2, .int p3] μ Q := by
  refine mI_of (ty := .int) (cc := cX2_timesFed) (maxL := 6) (by decide +kernel) rfl hI (Nat.le_of_ble_eq_true rfl) (fun X C hr => ?_)
  replace C : Cx X Y 6 cX2_timesFed RX2 WX2_timesFed (rmB 0 0) l0 := C
  refine g_lv (lv2 := [(0, .ref (Y.ad b)), (1, .ref (Y.ad a1)), (2, .int p2), (3, .int p3)]) [0, 1, 2, 3] ?_ rfl
  unfold PX2_timesFed at h
  replace h := h (SX2_timesFed_6 X Y b a1 n1 p2 p3) (fun v4 v5 μ z => tX2_timesFed_6 C hr hI h0 h1 v4 v5 μ z)
  refine g_iconst C (v := (0 : Int32)) dX2_timesFed_0 (by decide) ?_
  refine g_istore C [(4, .int ((0 : Int32))), (0, .ref (Y.ad b)), (1, .ref (Y.ad a1)), (2, .int p2), (3, .int p3)] dX2_timesFed_1 (by decide) rfl ?_
  refine g_iconst C (v := (0 : Int32)) dX2_timesFed_3 (by decide) ?_
  refine g_istore C [(5, .int ((0 : Int32))), (4, .int ((0 : Int32))), (0, .ref (Y.ad b)), (1, .ref (Y.ad a1)), (2, .int p2), (3, .int p3)] dX2_timesFed_4 (by decide) rfl ?_
  refine g_lv (lv2 := [(0, .ref (Y.ad b)), (1, .ref (Y.ad a1)), (2, .int p2), (3, .int p3), (4, .int ((0 : Int32))), (5, .int ((0 : Int32)))]) [2, 3, 4, 5, 1, 0] ?_ rfl
  exact h
def SX2_timesFedLeast_5 (X : XT) (Y : YT) (b : Nat) (a1 : Nat) (n1 : Nat) (p2 : Int32) : Int32 → Int32 → Mem → Prop := fun v3 v4 μ => G X Y 5 5 [(0, .ref (Y.ad b)), (1, .ref (Y.ad a1)), (2, .int p2), (3, .int v3), (4, .int v4)] [] μ
set_option maxRecDepth 20000 in
set_option maxHeartbeats 4000000 in
theorem tX2_timesFedLeast_5 {X : XT} {Y : YT} {l0 : Launch} {b : Nat} {a1 : Nat} {n1 : Nat} {p2 : Int32} {Q : Int32 → Mem → Prop} (C : Cx X Y 5 cX2_timesFedLeast RX2 WX2_timesFedLeast (rmB 1 25) l0) (hr : RI X Y cX2_timesFedLeast .int Q) (hI : YI Y) (h0 : isX2 Y b) (h1 : isI Y a1 n1) (v3 : Int32) (v4 : Int32) (μ : Mem) (h : nX2_timesFedLeast_5 b a1 n1 p2 Q (SX2_timesFedLeast_5 X Y b a1 n1 p2) v3 v4 μ) : G X Y 5 5 [(0, .ref (Y.ad b)), (1, .ref (Y.ad a1)), (2, .int p2), (3, .int v3), (4, .int v4)] [] μ := by
  unfold nX2_timesFedLeast_5 at h
  refine g_iload C 4 dX2_timesFedLeast_5 rfl ?_
  refine g_iconst C (v := (4 : Int32)) dX2_timesFedLeast_7 (by decide) ?_
  refine g_icmp_ge C 30 dX2_timesFedLeast_8 (by decide) (fun c1 => ?_) (fun c1 => ?_)
  · replace h := h.1 c1
    refine g_iload_n C 3 dX2_timesFedLeast_30 rfl ?_
    exact hr _ _ _ _ _ dX2_timesFedLeast_31 rfl h
  · replace h := h.2 c1
    refine g_iload_n C 3 dX2_timesFedLeast_11 rfl ?_
    refine g_aload_n C 0 dX2_timesFedLeast_12 rfl ?_
    refine g_aload_n C 1 dX2_timesFedLeast_13 rfl ?_
    refine g_iload_n C 2 dX2_timesFedLeast_14 rfl ?_
    refine g_iload C 4 dX2_timesFedLeast_15 rfl ?_
    refine g_callVI C [.ref (Y.ad a1), .int p2, .int v4] [.int v3] (ok_X2_timesFed hI h0 h1 h) (cw_RX2_84 _) rfl dc_X2_timesFed ⟨Nat.le_of_ble_eq_true rfl, Nat.le_of_ble_eq_true rfl⟩ (isX2_lt h0) (isX2_sh h0) rfl rfl rfl rfl (Nat.le_of_ble_eq_true rfl) dX2_timesFedLeast_17 (fun r3 m2 h => ?_)
    refine g_min C (List.mem_cons_of_mem _ mM_RX2_88) (List.mem_cons_of_mem _ mLib_min_s) (List.mem_cons_of_mem _ mLib_math) (List.mem_cons_of_mem _ mLib_min_c) (Nat.le_of_ble_eq_true rfl) (Nat.le_of_ble_eq_true rfl) dX2_timesFedLeast_20 ?_
    refine g_topi (fun x4 ex4 => ?_)
    replace h := h x4 ex4
    refine g_istore_n C [(3, .int x4), (0, .ref (Y.ad b)), (1, .ref (Y.ad a1)), (2, .int p2), (4, .int v4)] dX2_timesFedLeast_23 (by decide) rfl ?_
    refine g_iinc C (v := v4 + 1) 4 [(4, .int (v4 + 1)), (3, .int x4), (0, .ref (Y.ad b)), (1, .ref (Y.ad a1)), (2, .int p2)] dX2_timesFedLeast_24 rfl rfl (by decide) rfl ?_
    refine g_goto C 5 dX2_timesFedLeast_27 (by decide) ?_
    refine g_lv (lv2 := [(0, .ref (Y.ad b)), (1, .ref (Y.ad a1)), (2, .int p2), (3, .int x4), (4, .int (v4 + 1))]) [2, 3, 4, 1, 0] ?_ rfl
    exact h
set_option maxRecDepth 20000 in
set_option maxHeartbeats 4000000 in
theorem ok_X2_timesFedLeast {Y : YT} {l0 : Launch} {b : Nat} {a1 : Nat} {n1 : Nat} {p2 : Int32} {μ : Mem} {Q : Int32 → Mem → Prop} (hI : YI Y) (h0 : isX2 Y b) (h1 : isI Y a1 n1) (h : PX2_timesFedLeast b a1 n1 p2 μ Q) : MI l0 yX2_timesFedLeast WX2_timesFedLeast 1 25 Y [.ref (Y.ad b), .ref (Y.ad a1), .int p2] μ Q := by
  refine mI_of (ty := .int) (cc := cX2_timesFedLeast) (maxL := 5) (by decide +kernel) rfl hI (Nat.le_of_ble_eq_true rfl) (fun X C hr => ?_)
  replace C : Cx X Y 5 cX2_timesFedLeast RX2 WX2_timesFedLeast (rmB 1 25) l0 := C
  refine g_lv (lv2 := [(0, .ref (Y.ad b)), (1, .ref (Y.ad a1)), (2, .int p2)]) [0, 1, 2] ?_ rfl
  unfold PX2_timesFedLeast at h
  replace h := h (SX2_timesFedLeast_5 X Y b a1 n1 p2) (fun v3 v4 μ z => tX2_timesFedLeast_5 C hr hI h0 h1 v3 v4 μ z)
  refine g_iload_n C 2 dX2_timesFedLeast_0 rfl ?_
  refine g_istore_n C [(3, .int p2), (0, .ref (Y.ad b)), (1, .ref (Y.ad a1)), (2, .int p2)] dX2_timesFedLeast_1 (by decide) rfl ?_
  refine g_iconst C (v := (0 : Int32)) dX2_timesFedLeast_2 (by decide) ?_
  refine g_istore C [(4, .int ((0 : Int32))), (3, .int p2), (0, .ref (Y.ad b)), (1, .ref (Y.ad a1)), (2, .int p2)] dX2_timesFedLeast_3 (by decide) rfl ?_
  refine g_lv (lv2 := [(0, .ref (Y.ad b)), (1, .ref (Y.ad a1)), (2, .int p2), (3, .int p2), (4, .int ((0 : Int32)))]) [2, 3, 4, 1, 0] ?_ rfl
  exact h
def SX2_daysToNext_2 (X : XT) (Y : YT) (a0 : Nat) (n0 : Nat) (p1 : Int32) (p2 : Int32) : Int32 → Mem → Prop := fun v3 μ => G X Y 5 2 [(0, .ref (Y.ad a0)), (1, .int p1), (2, .int p2), (3, .int v3)] [] μ
set_option maxRecDepth 20000 in
set_option maxHeartbeats 4000000 in
theorem tX2_daysToNext_25 {X : XT} {Y : YT} {l0 : Launch} {a0 : Nat} {n0 : Nat} {p1 : Int32} {p2 : Int32} {Q : Int32 → Mem → Prop} (C : Cx X Y 5 cX2_daysToNext RX2 WX2_daysToNext (rmB 0 0) l0) (hr : RI X Y cX2_daysToNext .int Q) (hI : YI Y) (h0 : isI Y a0 n0) (v3 : Int32) (w0 : Int32) (μ : Mem) (h : nX2_daysToNext_25 a0 n0 p1 p2 Q (SX2_daysToNext_2 X Y a0 n0 p1 p2) v3 w0 μ) : G X Y 5 25 [(0, .ref (Y.ad a0)), (1, .int p1), (2, .int p2), (3, .int v3)] [.int w0] μ := by
  unfold nX2_daysToNext_25 at h
  refine g_istore C [(4, .int w0), (0, .ref (Y.ad a0)), (1, .int p1), (2, .int p2), (3, .int v3)] dX2_daysToNext_25 (by decide) rfl ?_
  refine g_aload_n C 1 dX2_daysToNext_27 rfl ?_
  refine g_iload C 0 dX2_daysToNext_28 rfl ?_
  refine g_iald C h0.1 h0.2 h.1 dX2_daysToNext_30 ?_
  replace h := h.2
  refine g_aload_n C 1 dX2_daysToNext_31 rfl ?_
  refine g_iload_n C 3 dX2_daysToNext_32 rfl ?_
  refine g_iald C h0.1 h0.2 h.1 dX2_daysToNext_33 ?_
  replace h := h.2
  refine g_icmp_ne C 39 dX2_daysToNext_34 (by decide) (fun c3 => ?_) (fun c3 => ?_)
  · replace h := h.1 c3
    refine g_iinc C (v := v3 + 1) 4 [(3, .int (v3 + 1)), (4, .int w0), (0, .ref (Y.ad a0)), (1, .int p1), (2, .int p2)] dX2_daysToNext_39 rfl rfl (by decide) rfl ?_
    refine g_goto C 2 dX2_daysToNext_42 (by decide) ?_
    refine g_lv (lv2 := [(0, .ref (Y.ad a0)), (1, .int p1), (2, .int p2), (3, .int (v3 + 1))]) [2, 3, 4, 0] ?_ rfl
    exact h
  · replace h := h.2 c3
    refine g_iload_n C 4 dX2_daysToNext_37 rfl ?_
    exact hr _ _ _ _ _ dX2_daysToNext_38 rfl h
set_option maxRecDepth 20000 in
set_option maxHeartbeats 4000000 in
theorem tX2_daysToNext_2 {X : XT} {Y : YT} {l0 : Launch} {a0 : Nat} {n0 : Nat} {p1 : Int32} {p2 : Int32} {Q : Int32 → Mem → Prop} (C : Cx X Y 5 cX2_daysToNext RX2 WX2_daysToNext (rmB 0 0) l0) (hr : RI X Y cX2_daysToNext .int Q) (hI : YI Y) (h0 : isI Y a0 n0) (v3 : Int32) (μ : Mem) (h : nX2_daysToNext_2 a0 n0 p1 p2 Q (SX2_daysToNext_2 X Y a0 n0 p1 p2) v3 μ) : G X Y 5 2 [(0, .ref (Y.ad a0)), (1, .int p1), (2, .int p2), (3, .int v3)] [] μ := by
  unfold nX2_daysToNext_2 at h
  refine g_iload_n C 3 dX2_daysToNext_2 rfl ?_
  refine g_iload_n C 1 dX2_daysToNext_3 rfl ?_
  refine g_icmp_ge C 45 dX2_daysToNext_4 (by decide) (fun c1 => ?_) (fun c1 => ?_)
  · replace h := h.1 c1
    refine g_iload_n C 1 dX2_daysToNext_45 rfl ?_
    exact hr _ _ _ _ _ dX2_daysToNext_46 rfl h
  · replace h := h.2 c1
    refine g_iload_n C 2 dX2_daysToNext_7 rfl ?_
    refine g_iload_n C 3 dX2_daysToNext_8 rfl ?_
    refine g_iadd C dX2_daysToNext_9 ?_
    refine g_iload_n C 1 dX2_daysToNext_10 rfl ?_
    refine g_icmp_ge C 20 dX2_daysToNext_11 (by decide) (fun c2 => ?_) (fun c2 => ?_)
    · replace h := h.1 c2
      refine g_iload_n C 2 dX2_daysToNext_20 rfl ?_
      refine g_iload_n C 3 dX2_daysToNext_21 rfl ?_
      refine g_iadd C dX2_daysToNext_22 ?_
      refine g_iload_n C 1 dX2_daysToNext_23 rfl ?_
      refine g_isub C dX2_daysToNext_24 ?_
      exact tX2_daysToNext_25 C hr hI h0 _ _ _ h
    · replace h := h.2 c2
      refine g_iload_n C 2 dX2_daysToNext_14 rfl ?_
      refine g_iload_n C 3 dX2_daysToNext_15 rfl ?_
      refine g_iadd C dX2_daysToNext_16 ?_
      refine g_goto C 25 dX2_daysToNext_17 (by decide) ?_
      exact tX2_daysToNext_25 C hr hI h0 _ _ _ h
set_option maxRecDepth 20000 in
set_option maxHeartbeats 4000000 in
theorem ok_X2_daysToNext {Y : YT} {l0 : Launch} {a0 : Nat} {n0 : Nat} {p1 : Int32} {p2 : Int32} {μ : Mem} {Q : Int32 → Mem → Prop} (hI : YI Y) (h0 : isI Y a0 n0) (h : PX2_daysToNext a0 n0 p1 p2 μ Q) : MI l0 yX2_daysToNext WX2_daysToNext 0 0 Y [.ref (Y.ad a0), .int p1, .int p2] μ Q := by
  refine mI_of (ty := .int) (cc := cX2_daysToNext) (maxL := 5) (by decide +kernel) rfl hI (Nat.le_of_ble_eq_true rfl) (fun X C hr => ?_)
  replace C : Cx X Y 5 cX2_daysToNext RX2 WX2_daysToNext (rmB 0 0) l0 := C
  refine g_lv (lv2 := [(0, .ref (Y.ad a0)), (1, .int p1), (2, .int p2)]) [0, 1, 2] ?_ rfl
  unfold PX2_daysToNext at h
  replace h := h (SX2_daysToNext_2 X Y a0 n0 p1 p2) (fun v3 μ z => tX2_daysToNext_2 C hr hI h0 v3 μ z)
  refine g_iconst C (v := (1 : Int32)) dX2_daysToNext_0 (by decide) ?_
  refine g_istore_n C [(3, .int ((1 : Int32))), (0, .ref (Y.ad a0)), (1, .int p1), (2, .int p2)] dX2_daysToNext_1 (by decide) rfl ?_
  refine g_lv (lv2 := [(0, .ref (Y.ad a0)), (1, .int p1), (2, .int p2), (3, .int ((1 : Int32)))]) [1, 2, 3, 0] ?_ rfl
  exact h
def SX2_mayFollowItself_2 (X : XT) (Y : YT) (b : Nat) (a1 : Nat) (n1 : Nat) (p2 : Int32) : Int32 → Mem → Prop := fun v3 μ => G X Y 4 2 [(0, .ref (Y.ad b)), (1, .ref (Y.ad a1)), (2, .int p2), (3, .int v3)] [] μ
set_option maxRecDepth 20000 in
set_option maxHeartbeats 4000000 in
theorem tX2_mayFollowItself_30 {X : XT} {Y : YT} {l0 : Launch} {b : Nat} {a1 : Nat} {n1 : Nat} {p2 : Int32} {Q : Int32 → Mem → Prop} (C : Cx X Y 4 cX2_mayFollowItself RX2 WX2_mayFollowItself (rmB 1 24) l0) (hr : RI X Y cX2_mayFollowItself .boolean Q) (hI : YI Y) (h0 : isX2 Y b) (h1 : isI Y a1 n1) (v3 : Int32) (μ : Mem) (h : nX2_mayFollowItself_30 b a1 n1 p2 Q (SX2_mayFollowItself_2 X Y b a1 n1 p2) v3 μ) : G X Y 4 30 [(0, .ref (Y.ad b)), (1, .ref (Y.ad a1)), (2, .int p2), (3, .int v3)] [] μ := by
  unfold nX2_mayFollowItself_30 at h
  refine g_iinc C (v := v3 + 1) 3 [(3, .int (v3 + 1)), (0, .ref (Y.ad b)), (1, .ref (Y.ad a1)), (2, .int p2)] dX2_mayFollowItself_30 rfl rfl (by decide) rfl ?_
  refine g_goto C 2 dX2_mayFollowItself_33 (by decide) ?_
  refine g_lv (lv2 := [(0, .ref (Y.ad b)), (1, .ref (Y.ad a1)), (2, .int p2), (3, .int (v3 + 1))]) [1, 2, 3, 0] ?_ rfl
  exact h
set_option maxRecDepth 20000 in
set_option maxHeartbeats 4000000 in
theorem tX2_mayFollowItself_2 {X : XT} {Y : YT} {l0 : Launch} {b : Nat} {a1 : Nat} {n1 : Nat} {p2 : Int32} {Q : Int32 → Mem → Prop} (C : Cx X Y 4 cX2_mayFollowItself RX2 WX2_mayFollowItself (rmB 1 24) l0) (hr : RI X Y cX2_mayFollowItself .boolean Q) (hI : YI Y) (h0 : isX2 Y b) (h1 : isI Y a1 n1) (v3 : Int32) (μ : Mem) (h : nX2_mayFollowItself_2 b a1 n1 p2 Q (SX2_mayFollowItself_2 X Y b a1 n1 p2) v3 μ) : G X Y 4 2 [(0, .ref (Y.ad b)), (1, .ref (Y.ad a1)), (2, .int p2), (3, .int v3)] [] μ := by
  unfold nX2_mayFollowItself_2 at h
  refine g_iload_n C 3 dX2_mayFollowItself_2 rfl ?_
  refine g_iload_n C 2 dX2_mayFollowItself_3 rfl ?_
  refine g_icmp_ge C 36 dX2_mayFollowItself_4 (by decide) (fun c1 => ?_) (fun c1 => ?_)
  · replace h := h.1 c1
    refine g_iconst C (v := (1 : Int32)) dX2_mayFollowItself_36 (by decide) ?_
    exact hr _ _ _ _ _ dX2_mayFollowItself_37 rfl h
  · replace h := h.2 c1
    refine g_aload_n C 1 dX2_mayFollowItself_7 rfl ?_
    refine g_iload_n C 3 dX2_mayFollowItself_8 rfl ?_
    refine g_iald C h1.1 h1.2 h.1 dX2_mayFollowItself_9 ?_
    replace h := h.2
    refine g_bipush C (v := (-4 : Int32)) dX2_mayFollowItself_10 (by decide) ?_
    refine g_icmp_eq C 30 dX2_mayFollowItself_12 (by decide) (fun c2 => ?_) (fun c2 => ?_)
    · replace h := h.1 c2
      exact tX2_mayFollowItself_30 C hr hI h0 h1 _ _ h
    · replace h := h.2 c2
      refine g_aload_n C 1 dX2_mayFollowItself_15 rfl ?_
      refine g_iload_n C 2 dX2_mayFollowItself_16 rfl ?_
      refine g_iload_n C 3 dX2_mayFollowItself_17 rfl ?_
      refine g_callSI C [.ref (Y.ad a1), .int p2, .int v3] [] (ok_X2_daysToNext hI h1 h) (cw_RX2_104 _) rfl dc_X2_daysToNext ⟨Nat.le_of_ble_eq_true rfl, Nat.le_of_ble_eq_true rfl⟩ rfl (Nat.le_of_ble_eq_true rfl) dX2_mayFollowItself_18 (fun r4 m3 h => ?_)
      refine g_aload_n C 0 dX2_mayFollowItself_21 rfl ?_
      refine gf_RX2_59 C h0 dX2_mayFollowItself_22 ?_
      refine g_icmp_ge C 30 dX2_mayFollowItself_25 (by decide) (fun c5 => ?_) (fun c5 => ?_)
      · replace h := h.1 c5
        exact tX2_mayFollowItself_30 C hr hI h0 h1 _ _ h
      · replace h := h.2 c5
        refine g_iconst C (v := (0 : Int32)) dX2_mayFollowItself_28 (by decide) ?_
        exact hr _ _ _ _ _ dX2_mayFollowItself_29 rfl h
set_option maxRecDepth 20000 in
set_option maxHeartbeats 4000000 in
theorem ok_X2_mayFollowItself {Y : YT} {l0 : Launch} {b : Nat} {a1 : Nat} {n1 : Nat} {p2 : Int32} {μ : Mem} {Q : Int32 → Mem → Prop} (hI : YI Y) (h0 : isX2 Y b) (h1 : isI Y a1 n1) (h : PX2_mayFollowItself b a1 n1 p2 μ Q) : MI l0 yX2_mayFollowItself WX2_mayFollowItself 1 24 Y [.ref (Y.ad b), .ref (Y.ad a1), .int p2] μ Q := by
  refine mI_of (ty := .boolean) (cc := cX2_mayFollowItself) (maxL := 4) (by decide +kernel) rfl hI (Nat.le_of_ble_eq_true rfl) (fun X C hr => ?_)
  replace C : Cx X Y 4 cX2_mayFollowItself RX2 WX2_mayFollowItself (rmB 1 24) l0 := C
  refine g_lv (lv2 := [(0, .ref (Y.ad b)), (1, .ref (Y.ad a1)), (2, .int p2)]) [0, 1, 2] ?_ rfl
  unfold PX2_mayFollowItself at h
  replace h := h (SX2_mayFollowItself_2 X Y b a1 n1 p2) (fun v3 μ z => tX2_mayFollowItself_2 C hr hI h0 h1 v3 μ z)
  refine g_iconst C (v := (0 : Int32)) dX2_mayFollowItself_0 (by decide) ?_
  refine g_istore_n C [(3, .int ((0 : Int32))), (0, .ref (Y.ad b)), (1, .ref (Y.ad a1)), (2, .int p2)] dX2_mayFollowItself_1 (by decide) rfl ?_
  refine g_lv (lv2 := [(0, .ref (Y.ad b)), (1, .ref (Y.ad a1)), (2, .int p2), (3, .int ((0 : Int32)))]) [1, 2, 3, 0] ?_ rfl
  exact h
set_option maxRecDepth 20000 in
set_option maxHeartbeats 4000000 in
theorem tX2_isClosed_29 {X : XT} {Y : YT} {l0 : Launch} {b : Nat} {r1 : Nat} {r2 : Nat} {a3 : Nat} {n3 : Nat} {p4 : Int32} {Q : Int32 → Mem → Prop} (C : Cx X Y 5 cX2_isClosed RX2 WX2_isClosed (rmB 2 47) l0) (hr : RI X Y cX2_isClosed .boolean Q) (hI : YI Y) (h0 : isX2 Y b) (h1 : isX0 Y r1) (h2 : isX0 Y r2) (h3 : isI Y a3 n3) (μ : Mem) (h : nX2_isClosed_29 b r1 r2 a3 n3 p4 Q  μ) : G X Y 5 29 [(0, .ref (Y.ad b)), (1, .ref (Y.ad r1)), (2, .ref (Y.ad r2)), (3, .ref (Y.ad a3)), (4, .int p4)] [] μ := by
  unfold nX2_isClosed_29 at h
  refine g_iconst C (v := (0 : Int32)) dX2_isClosed_29 (by decide) ?_
  exact hr _ _ _ _ _ dX2_isClosed_30 rfl h
set_option maxRecDepth 20000 in
set_option maxHeartbeats 4000000 in
theorem ok_X2_isClosed {Y : YT} {l0 : Launch} {b : Nat} {r1 : Nat} {r2 : Nat} {a3 : Nat} {n3 : Nat} {p4 : Int32} {μ : Mem} {Q : Int32 → Mem → Prop} (hI : YI Y) (h0 : isX2 Y b) (h1 : isX0 Y r1) (h2 : isX0 Y r2) (h3 : isI Y a3 n3) (h : PX2_isClosed b r1 r2 a3 n3 p4 μ Q) : MI l0 yX2_isClosed WX2_isClosed 2 47 Y [.ref (Y.ad b), .ref (Y.ad r1), .ref (Y.ad r2), .ref (Y.ad a3), .int p4] μ Q := by
  refine mI_of (ty := .boolean) (cc := cX2_isClosed) (maxL := 5) (by decide +kernel) rfl hI (Nat.le_of_ble_eq_true rfl) (fun X C hr => ?_)
  replace C : Cx X Y 5 cX2_isClosed RX2 WX2_isClosed (rmB 2 47) l0 := C
  refine g_lv (lv2 := [(0, .ref (Y.ad b)), (1, .ref (Y.ad r1)), (2, .ref (Y.ad r2)), (3, .ref (Y.ad a3)), (4, .int p4)]) [0, 1, 2, 3, 4] ?_ rfl
  unfold PX2_isClosed at h
  refine g_aload_n C 2 dX2_isClosed_0 rfl ?_
  refine gf_RX2_91 C h2 dX2_isClosed_1 ?_
  refine g_if_ne C 29 dX2_isClosed_4 (by decide) (fun c1 => ?_) (fun c1 => ?_)
  · replace h := h.1 c1
    exact tX2_isClosed_29 C hr hI h0 h1 h2 h3 _ h
  · replace h := h.2 c1
    refine g_aload_n C 2 dX2_isClosed_7 rfl ?_
    refine g_aload_n C 1 dX2_isClosed_8 rfl ?_
    refine g_callVI C [.ref (Y.ad r1)] [] (ok_X0_hasSameLarder hI h2 h1 h) (cw_RX2_96 _) rfl dc_X0_hasSameLarder ⟨Nat.le_of_ble_eq_true rfl, Nat.le_of_ble_eq_true rfl⟩ (isX0_lt h2) (isX0_sh h2) rfl rfl rfl rfl (Nat.le_of_ble_eq_true rfl) dX2_isClosed_9 (fun r3 m2 h => ?_)
    refine g_if_eq C 29 dX2_isClosed_12 (by decide) (fun c4 => ?_) (fun c4 => ?_)
    · replace h := h.1 c4
      exact tX2_isClosed_29 C hr hI h0 h1 h2 h3 _ h
    · replace h := h.2 c4
      refine g_aload_n C 0 dX2_isClosed_15 rfl ?_
      refine g_aload_n C 3 dX2_isClosed_16 rfl ?_
      refine g_iload C 4 dX2_isClosed_17 rfl ?_
      refine g_callVI C [.ref (Y.ad a3), .int p4] [] (ok_X2_mayFollowItself hI h0 h3 h) (cw_RX2_100 _) rfl dc_X2_mayFollowItself ⟨Nat.le_of_ble_eq_true rfl, Nat.le_of_ble_eq_true rfl⟩ (isX2_lt h0) (isX2_sh h0) rfl rfl rfl rfl (Nat.le_of_ble_eq_true rfl) dX2_isClosed_19 (fun r6 m5 h => ?_)
      refine g_if_eq C 29 dX2_isClosed_22 (by decide) (fun c7 => ?_) (fun c7 => ?_)
      · replace h := h.1 c7
        exact tX2_isClosed_29 C hr hI h0 h1 h2 h3 _ h
      · replace h := h.2 c7
        refine g_iconst C (v := (1 : Int32)) dX2_isClosed_25 (by decide) ?_
        refine g_goto C 30 dX2_isClosed_26 (by decide) ?_
        exact hr _ _ _ _ _ dX2_isClosed_30 rfl h
set_option maxRecDepth 20000 in
set_option maxHeartbeats 4000000 in
theorem ok_X3_forget {Y : YT} {l0 : Launch} {b : Nat} {μ : Mem} {Q : Mem → Prop} (hI : YI Y) (h0 : isX3 Y b) (h : PX3_forget b μ Q) : MV l0 yX3_forget WX3_forget 0 0 Y [.ref (Y.ad b)] μ Q := by
  refine mV_of (cc := cX3_forget) (maxL := 1) (by decide +kernel) rfl hI (Nat.le_of_ble_eq_true rfl) (fun X C hr => ?_)
  replace C : Cx X Y 1 cX3_forget RX3 WX3_forget (rmB 0 0) l0 := C
  refine g_lv (lv2 := [(0, .ref (Y.ad b))]) [0] ?_ rfl
  unfold PX3_forget at h
  refine g_aload_n C 0 dX3_forget_0 rfl ?_
  refine g_iconst C (v := (0 : Int32)) dX3_forget_1 (by decide) ?_
  refine gp_RX3_69 C h0 dX3_forget_2 ?_
  refine g_aload_n C 0 dX3_forget_5 rfl ?_
  refine g_iconst C (v := (-1 : Int32)) dX3_forget_6 (by decide) ?_
  refine gp_RX3_73 C h0 dX3_forget_7 ?_
  refine g_mem (fun m1 em1 => ?_)
  replace h := h m1 em1
  refine g_aload_n C 0 dX3_forget_10 rfl ?_
  refine g_iconst C (v := (0 : Int32)) dX3_forget_11 (by decide) ?_
  refine gp_RX3_76 C h0 dX3_forget_12 ?_
  refine g_aload_n C 0 dX3_forget_15 rfl ?_
  refine g_iconst C (v := (0 : Int32)) dX3_forget_16 (by decide) ?_
  refine gp_RX3_79 C h0 dX3_forget_17 ?_
  refine g_mem (fun m2 em2 => ?_)
  replace h := h m2 em2
  exact hr _ _ _ _ dX3_forget_20 h
def SX3_following_46 (X : XT) (Y : YT) (b : Nat) (r1 : Nat) (p2 : Int32) : Int32 → Mem → Prop := fun v4 μ => G X Y 5 46 [(0, .ref (Y.ad b)), (1, .ref (Y.ad r1)), (2, .int p2), (3, .ref (Y.ad (b + 1 + 1 + 4 * p2.toNatClampNeg))), (4, .int v4)] [] μ
set_option maxRecDepth 20000 in
set_option maxHeartbeats 4000000 in
theorem tX3_following_46 {X : XT} {Y : YT} {l0 : Launch} {b : Nat} {r1 : Nat} {p2 : Int32} {Q : Int32 → Mem → Prop} (C : Cx X Y 5 cX3_following RX3 WX3_following (rmB 3 74) l0) (hr : RI X Y cX3_following .int Q) (hI : YI Y) (h0 : isX3 Y b) (h1 : isX2 Y r1) (v4 : Int32) (μ : Mem) (h : nX3_following_46 b r1 p2 Q (SX3_following_46 X Y b r1 p2) v4 μ) : G X Y 5 46 [(0, .ref (Y.ad b)), (1, .ref (Y.ad r1)), (2, .int p2), (3, .ref (Y.ad (b + 1 + 1 + 4 * p2.toNatClampNeg))), (4, .int v4)] [] μ := by
  unfold nX3_following_46 at h
  have k1 := h.1
  replace h := h.2
  refine g_iload C 4 dX3_following_46 rfl ?_
  refine g_aload_n C 1 dX3_following_48 rfl ?_
  refine gf_RX3_91 C h1 dX3_following_49 ?_
  refine g_icmp_ge C 75 dX3_following_52 (by decide) (fun c6 => ?_) (fun c6 => ?_)
  · replace h := h.1 c6
    refine g_bipush C (v := (-2 : Int32)) dX3_following_75 (by decide) ?_
    exact hr _ _ _ _ _ dX3_following_77 rfl h
  · replace h := h.2 c6
    refine g_aload_n C 3 dX3_following_55 rfl ?_
    refine g_aload_n C 1 dX3_following_56 rfl ?_
    refine g_iload C 4 dX3_following_57 rfl ?_
    refine g_iconst C (v := (0 : Int32)) dX3_following_59 (by decide) ?_
    refine g_callVI C [.ref (Y.ad r1), .int v4, .int ((0 : Int32))] [] (ok_X0_whyNot hI ((isX3_steps h0).2.2 _ (vpin_lt k1)) h1 h) (cw_RX3_94 _) rfl dc_X0_whyNot ⟨Nat.le_of_ble_eq_true rfl, Nat.le_of_ble_eq_true rfl⟩ (isX0_lt ((isX3_steps h0).2.2 _ (vpin_lt k1))) (isX0_sh ((isX3_steps h0).2.2 _ (vpin_lt k1))) rfl rfl rfl rfl (Nat.le_of_ble_eq_true rfl) dX3_following_60 (fun r8 m7 h => ?_)
    refine g_if_ne C 69 dX3_following_63 (by decide) (fun c9 => ?_) (fun c9 => ?_)
    · replace h := h.1 c9
      refine g_iinc C (v := v4 + 1) 4 [(4, .int (v4 + 1)), (0, .ref (Y.ad b)), (1, .ref (Y.ad r1)), (2, .int p2), (3, .ref (Y.ad (b + 1 + 1 + 4 * p2.toNatClampNeg)))] dX3_following_69 rfl rfl (by decide) rfl ?_
      refine g_goto C 46 dX3_following_72 (by decide) ?_
      refine g_lv (lv2 := [(0, .ref (Y.ad b)), (1, .ref (Y.ad r1)), (2, .int p2), (3, .ref (Y.ad (b + 1 + 1 + 4 * p2.toNatClampNeg))), (4, .int (v4 + 1))]) [1, 2, 3, 4, 0] ?_ rfl
      exact h
    · replace h := h.2 c9
      refine g_iload C 4 dX3_following_66 rfl ?_
      exact hr _ _ _ _ _ dX3_following_68 rfl h
set_option maxRecDepth 20000 in
set_option maxHeartbeats 4000000 in
theorem ok_X3_following {Y : YT} {l0 : Launch} {b : Nat} {r1 : Nat} {p2 : Int32} {μ : Mem} {Q : Int32 → Mem → Prop} (hI : YI Y) (h0 : isX3 Y b) (h1 : isX2 Y r1) (h : PX3_following b r1 p2 μ Q) : MI l0 yX3_following WX3_following 3 74 Y [.ref (Y.ad b), .ref (Y.ad r1), .int p2] μ Q := by
  refine mI_of (ty := .int) (cc := cX3_following) (maxL := 5) (by decide +kernel) rfl hI (Nat.le_of_ble_eq_true rfl) (fun X C hr => ?_)
  replace C : Cx X Y 5 cX3_following RX3 WX3_following (rmB 3 74) l0 := C
  refine g_lv (lv2 := [(0, .ref (Y.ad b)), (1, .ref (Y.ad r1)), (2, .int p2)]) [0, 1, 2] ?_ rfl
  unfold PX3_following at h
  replace h := h (SX3_following_46 X Y b r1 p2) (fun v4 μ z => tX3_following_46 C hr hI h0 h1 v4 μ z)
  refine g_aload_n C 0 dX3_following_0 rfl ?_
  refine gf_RX3_12 C h0 dX3_following_1 ?_
  refine g_iload_n C 2 dX3_following_4 rfl ?_
  refine g_aald C (isX3_steps h0).1 (isX3_steps h0).2.1 h.1 dX3_following_5 ?_
  have k1 := h.1
  replace h := h.2
  refine g_astore_n C [(3, .ref (Y.ad (b + 1 + 1 + 4 * p2.toNatClampNeg))), (0, .ref (Y.ad b)), (1, .ref (Y.ad r1)), (2, .int p2)] dX3_following_6 (by decide) rfl ?_
  refine g_aload_n C 2 dX3_following_7 rfl ?_
  refine g_aload_n C 0 dX3_following_8 rfl ?_
  refine gf_RX3_82 C ((isX3_steps h0).2.2 _ (vpin_lt k1)) dX3_following_9 ?_
  refine g_callVI C [.int (μ.1 (b + 1 + 1 + 4 * p2.toNatClampNeg) 2)] [] (ok_X2_isOut hI h1 h) (cw_RX3_85 _) rfl dc_X2_isOut ⟨Nat.le_of_ble_eq_true rfl, Nat.le_of_ble_eq_true rfl⟩ (isX2_lt h1) (isX2_sh h1) rfl rfl rfl rfl (Nat.le_of_ble_eq_true rfl) dX3_following_12 (fun r3 m2 h => ?_)
  refine g_if_eq C 36 dX3_following_15 (by decide) (fun c4 => ?_) (fun c4 => ?_)
  · replace h := h.1 c4
    refine g_aload_n C 1 dX3_following_36 rfl ?_
    refine gf_RX3_18 C h0 dX3_following_37 ?_
    refine g_iload_n C 3 dX3_following_40 rfl ?_
    refine g_iald C (isX3_places h0).1 (isX3_places h0).2 h.1 dX3_following_41 ?_
    replace h := h.2
    refine g_iconst C (v := (1 : Int32)) dX3_following_42 (by decide) ?_
    refine g_iadd C dX3_following_43 ?_
    refine g_istore C [(4, .int ((m2.1 (b + 26) p2.toNatClampNeg) + ((1 : Int32)))), (3, .ref (Y.ad (b + 1 + 1 + 4 * p2.toNatClampNeg))), (0, .ref (Y.ad b)), (1, .ref (Y.ad r1)), (2, .int p2)] dX3_following_44 (by decide) rfl ?_
    refine g_lv (lv2 := [(0, .ref (Y.ad b)), (1, .ref (Y.ad r1)), (2, .int p2), (3, .ref (Y.ad (b + 1 + 1 + 4 * p2.toNatClampNeg))), (4, .int ((m2.1 (b + 26) p2.toNatClampNeg) + ((1 : Int32))))]) [2, 3, 4, 1, 0] ?_ rfl
    exact h
  · replace h := h.2 c4
    refine g_aload_n C 1 dX3_following_18 rfl ?_
    refine gf_RX3_18 C h0 dX3_following_19 ?_
    refine g_iload_n C 3 dX3_following_22 rfl ?_
    refine g_iald C (isX3_places h0).1 (isX3_places h0).2 h.1 dX3_following_23 ?_
    replace h := h.2
    refine g_iconst C (v := (-1 : Int32)) dX3_following_24 (by decide) ?_
    refine g_icmp_ne C 33 dX3_following_25 (by decide) (fun c5 => ?_) (fun c5 => ?_)
    · replace h := h.1 c5
      refine g_bipush C (v := (-2 : Int32)) dX3_following_33 (by decide) ?_
      exact hr _ _ _ _ _ dX3_following_35 rfl h
    · replace h := h.2 c5
      refine g_bipush C (v := (-4 : Int32)) dX3_following_28 (by decide) ?_
      refine g_goto C 35 dX3_following_30 (by decide) ?_
      exact hr _ _ _ _ _ dX3_following_35 rfl h
set_option maxRecDepth 20000 in
set_option maxHeartbeats 4000000 in
theorem tX3_takeDay_36 {X : XT} {Y : YT} {l0 : Launch} {b : Nat} {r1 : Nat} {p2 : Int32} {p3 : Int32} {Q : Mem → Prop} (C : Cx X Y 5 cX3_takeDay RX3 WX3_takeDay (rmB 4 101) l0) (hr : RV X Y cX3_takeDay Q) (hI : YI Y) (h0 : isX3 Y b) (h1 : isX2 Y r1) (μ : Mem) (h : nX3_takeDay_36 b r1 p2 p3 Q  μ) : G X Y 5 36 [(0, .ref (Y.ad b)), (1, .ref (Y.ad r1)), (2, .int p2), (3, .int p3), (4, .ref (Y.ad (b + 1 + 1 + 4 * (p2 + ((1 : Int32))).toNatClampNeg)))] [] μ := by
  unfold nX3_takeDay_36 at h
  have k1 := h.1
  replace h := h.2
  refine g_aload C 4 dX3_takeDay_36 rfl ?_
  refine g_aload_n C 1 dX3_takeDay_38 rfl ?_
  refine g_callVI C [.ref (Y.ad r1)] [] (ok_X0_passNight hI ((isX3_steps h0).2.2 _ (vpin_lt k1)) h1 h) (cw_RX3_104 _) rfl dc_X0_passNight ⟨Nat.le_of_ble_eq_true rfl, Nat.le_of_ble_eq_true rfl⟩ (isX0_lt ((isX3_steps h0).2.2 _ (vpin_lt k1))) (isX0_sh ((isX3_steps h0).2.2 _ (vpin_lt k1))) rfl rfl rfl rfl (Nat.le_of_ble_eq_true rfl) dX3_takeDay_39 (fun r9 m8 h => ?_)
  refine g_pop C dX3_takeDay_42 rfl ?_
  exact hr _ _ _ _ dX3_takeDay_43 h
set_option maxRecDepth 20000 in
set_option maxHeartbeats 4000000 in
theorem ok_X3_takeDay {Y : YT} {l0 : Launch} {b : Nat} {r1 : Nat} {p2 : Int32} {p3 : Int32} {μ : Mem} {Q : Mem → Prop} (hI : YI Y) (h0 : isX3 Y b) (h1 : isX2 Y r1) (h : PX3_takeDay b r1 p2 p3 μ Q) : MV l0 yX3_takeDay WX3_takeDay 4 101 Y [.ref (Y.ad b), .ref (Y.ad r1), .int p2, .int p3] μ Q := by
  refine mV_of (cc := cX3_takeDay) (maxL := 5) (by decide +kernel) rfl hI (Nat.le_of_ble_eq_true rfl) (fun X C hr => ?_)
  replace C : Cx X Y 5 cX3_takeDay RX3 WX3_takeDay (rmB 4 101) l0 := C
  refine g_lv (lv2 := [(0, .ref (Y.ad b)), (1, .ref (Y.ad r1)), (2, .int p2), (3, .int p3)]) [0, 1, 2, 3] ?_ rfl
  unfold PX3_takeDay at h
  refine g_aload_n C 0 dX3_takeDay_0 rfl ?_
  refine gf_RX3_12 C h0 dX3_takeDay_1 ?_
  refine g_iload_n C 2 dX3_takeDay_4 rfl ?_
  refine g_iconst C (v := (1 : Int32)) dX3_takeDay_5 (by decide) ?_
  refine g_iadd C dX3_takeDay_6 ?_
  refine g_aald C (isX3_steps h0).1 (isX3_steps h0).2.1 h.1 dX3_takeDay_7 ?_
  have k1 := h.1
  replace h := h.2
  refine g_astore C [(4, .ref (Y.ad (b + 1 + 1 + 4 * (p2 + ((1 : Int32))).toNatClampNeg))), (0, .ref (Y.ad b)), (1, .ref (Y.ad r1)), (2, .int p2), (3, .int p3)] dX3_takeDay_8 (by decide) rfl ?_
  refine g_aload C 0 dX3_takeDay_10 rfl ?_
  refine g_aload_n C 1 dX3_takeDay_12 rfl ?_
  refine gf_RX3_12 C h0 dX3_takeDay_13 ?_
  refine g_iload_n C 3 dX3_takeDay_16 rfl ?_
  refine g_aald C (isX3_steps h0).1 (isX3_steps h0).2.1 h.1 dX3_takeDay_17 ?_
  have k2 := h.1
  replace h := h.2
  refine g_callVV C [.ref (Y.ad (b + 1 + 1 + 4 * p2.toNatClampNeg))] [] (ok_X0_copyFrom hI ((isX3_steps h0).2.2 _ (vpin_lt k1)) ((isX3_steps h0).2.2 _ (vpin_lt k2)) h) (cw_RX3_98 _) rfl dc_X0_copyFrom ⟨Nat.le_of_ble_eq_true rfl, Nat.le_of_ble_eq_true rfl⟩ (isX0_lt ((isX3_steps h0).2.2 _ (vpin_lt k1))) (isX0_sh ((isX3_steps h0).2.2 _ (vpin_lt k1))) rfl rfl rfl rfl (Nat.le_of_ble_eq_true rfl) dX3_takeDay_18 (fun m3 h => ?_)
  refine g_iload_n C 4 dX3_takeDay_21 rfl ?_
  refine g_bipush C (v := (-4 : Int32)) dX3_takeDay_22 (by decide) ?_
  refine g_icmp_eq C 36 dX3_takeDay_24 (by decide) (fun c5 => ?_) (fun c5 => ?_)
  · replace h := h.1 c5
    refine g_lv (lv2 := [(0, .ref (Y.ad b)), (1, .ref (Y.ad r1)), (2, .int p2), (3, .int p3), (4, .ref (Y.ad (b + 1 + 1 + 4 * (p2 + ((1 : Int32))).toNatClampNeg)))]) [1, 2, 3, 4, 0] ?_ rfl
    exact tX3_takeDay_36 C hr hI h0 h1 _ h
  · replace h := h.2 c5
    refine g_aload C 0 dX3_takeDay_27 rfl ?_
    refine g_aload_n C 2 dX3_takeDay_29 rfl ?_
    refine g_iload_n C 4 dX3_takeDay_30 rfl ?_
    refine g_iconst C (v := (0 : Int32)) dX3_takeDay_31 (by decide) ?_
    refine g_callVI C [.ref (Y.ad r1), .int p3, .int ((0 : Int32))] [] (ok_X0_serve hI ((isX3_steps h0).2.2 _ (vpin_lt k1)) h1 h) (cw_RX3_101 _) rfl dc_X0_serve ⟨Nat.le_of_ble_eq_true rfl, Nat.le_of_ble_eq_true rfl⟩ (isX0_lt ((isX3_steps h0).2.2 _ (vpin_lt k1))) (isX0_sh ((isX3_steps h0).2.2 _ (vpin_lt k1))) rfl rfl rfl rfl (Nat.le_of_ble_eq_true rfl) dX3_takeDay_32 (fun r7 m6 h => ?_)
    refine g_pop C dX3_takeDay_35 rfl ?_
    refine g_lv (lv2 := [(0, .ref (Y.ad b)), (1, .ref (Y.ad r1)), (2, .int p2), (3, .int p3), (4, .ref (Y.ad (b + 1 + 1 + 4 * (p2 + ((1 : Int32))).toNatClampNeg)))]) [1, 2, 3, 4, 0] ?_ rfl
    exact tX3_takeDay_36 C hr hI h0 h1 _ h
set_option maxRecDepth 20000 in
set_option maxHeartbeats 4000000 in
theorem tX3_judgeBest_65 {X : XT} {Y : YT} {l0 : Launch} {b : Nat} {p1 : Int64} {r3 : Nat} {Q : Mem → Prop} (C : Cx X Y 4 cX3_judgeBest RX3 WX3_judgeBest (rmB 1 18) l0) (hr : RV X Y cX3_judgeBest Q) (hI : YI Y) (h0 : isX3 Y b) (h3 : isX0 Y r3) (μ : Mem) (h : nX3_judgeBest_65 b p1 r3 Q  μ) : G X Y 4 65 [(0, .ref (Y.ad b)), (1, .long p1), (3, .ref (Y.ad r3))] [] μ := by
  unfold nX3_judgeBest_65 at h
  refine g_lload_n C 1 dX3_judgeBest_65 rfl ?_
  refine g_aload_n C 0 dX3_judgeBest_66 rfl ?_
  refine gf_RX3_138 C h0 dX3_judgeBest_67 ?_
  refine g_lcmp C dX3_judgeBest_70 ?_
  refine g_if_ne C 84 dX3_judgeBest_71 (by decide) (fun c3 => ?_) (fun c3 => ?_)
  · replace h := h.1 c3
    exact hr _ _ _ _ dX3_judgeBest_84 h
  · replace h := h.2 c3
    refine g_aload_n C 0 dX3_judgeBest_74 rfl ?_
    refine g_dup C dX3_judgeBest_75 rfl ?_
    refine gf_RX3_142 C h0 dX3_judgeBest_76 ?_
    refine g_iconst C (v := (1 : Int32)) dX3_judgeBest_79 (by decide) ?_
    refine g_iadd C dX3_judgeBest_80 ?_
    refine gp_RX3_142 C h0 dX3_judgeBest_81 ?_
    exact hr _ _ _ _ dX3_judgeBest_84 h
set_option maxRecDepth 20000 in
set_option maxHeartbeats 4000000 in
theorem tX3_judgeBest_17 {X : XT} {Y : YT} {l0 : Launch} {b : Nat} {p1 : Int64} {r3 : Nat} {Q : Mem → Prop} (C : Cx X Y 4 cX3_judgeBest RX3 WX3_judgeBest (rmB 1 18) l0) (hr : RV X Y cX3_judgeBest Q) (hI : YI Y) (h0 : isX3 Y b) (h3 : isX0 Y r3) (μ : Mem) (h : nX3_judgeBest_17 b p1 r3 Q  μ) : G X Y 4 17 [(0, .ref (Y.ad b)), (1, .long p1), (3, .ref (Y.ad r3))] [] μ := by
  unfold nX3_judgeBest_17 at h
  refine g_aload_n C 0 dX3_judgeBest_17 rfl ?_
  refine g_lload_n C 1 dX3_judgeBest_18 rfl ?_
  refine gp_RX3_138 C h0 dX3_judgeBest_19 ?_
  refine g_aload_n C 0 dX3_judgeBest_22 rfl ?_
  refine g_iconst C (v := (0 : Int32)) dX3_judgeBest_23 (by decide) ?_
  refine gp_RX3_142 C h0 dX3_judgeBest_24 ?_
  refine g_mem (fun m4 em4 => ?_)
  replace h := h m4 em4
  refine g_aload_n C 0 dX3_judgeBest_27 rfl ?_
  refine g_aload_n C 2 dX3_judgeBest_28 rfl ?_
  refine gf_RX3_108 C h3 dX3_judgeBest_29 ?_
  refine gp_RX3_145 C h0 dX3_judgeBest_32 ?_
  refine g_aload_n C 0 dX3_judgeBest_35 rfl ?_
  refine g_aload_n C 2 dX3_judgeBest_36 rfl ?_
  refine gf_RX3_113 C h3 dX3_judgeBest_37 ?_
  refine gp_RX3_148 C h0 dX3_judgeBest_40 ?_
  refine g_mem (fun m5 em5 => ?_)
  replace h := h m5 em5
  refine g_aload_n C 0 dX3_judgeBest_43 rfl ?_
  refine g_aload_n C 2 dX3_judgeBest_44 rfl ?_
  refine gf_RX3_116 C h3 dX3_judgeBest_45 ?_
  refine gp_RX3_151 C h0 dX3_judgeBest_48 ?_
  refine g_aload_n C 0 dX3_judgeBest_51 rfl ?_
  refine gf_RX3_18 C h0 dX3_judgeBest_52 ?_
  refine g_iconst C (v := (0 : Int32)) dX3_judgeBest_55 (by decide) ?_
  refine g_aload_n C 0 dX3_judgeBest_56 rfl ?_
  refine gf_RX3_29 C h0 dX3_judgeBest_57 ?_
  refine g_iconst C (v := (0 : Int32)) dX3_judgeBest_60 (by decide) ?_
  refine g_iconst C (v := (5 : Int32)) dX3_judgeBest_61 (by decide) ?_
  refine g_copy C (List.mem_cons_of_mem _ mM_RX3_154) (List.mem_cons_of_mem _ mLib_copy_n) (List.mem_cons_of_mem _ mLib_copy_s) (List.mem_cons_of_mem _ mLib_sys) (isX3_places h0).1 (isX3_bestRow h0).1 (isX3_places h0).2 (isX3_bestRow h0).2 (by decide) (by decide) (by decide) (by decide) (by decide) (Nat.le_of_ble_eq_true rfl) (Nat.le_of_ble_eq_true rfl) dX3_judgeBest_62 ?_
  refine g_mem (fun m6 em6 => ?_)
  replace h := h m6 em6
  exact tX3_judgeBest_65 C hr hI h0 h3 _ h
set_option maxRecDepth 20000 in
set_option maxHeartbeats 4000000 in
theorem ok_X3_judgeBest {Y : YT} {l0 : Launch} {b : Nat} {p1 : Int64} {r3 : Nat} {μ : Mem} {Q : Mem → Prop} (hI : YI Y) (h0 : isX3 Y b) (h3 : isX0 Y r3) (h : PX3_judgeBest b p1 r3 μ Q) : MV l0 yX3_judgeBest WX3_judgeBest 1 18 Y [.ref (Y.ad b), .long p1, .ref (Y.ad r3)] μ Q := by
  refine mV_of (cc := cX3_judgeBest) (maxL := 4) (by decide +kernel) rfl hI (Nat.le_of_ble_eq_true rfl) (fun X C hr => ?_)
  replace C : Cx X Y 4 cX3_judgeBest RX3 WX3_judgeBest (rmB 1 18) l0 := C
  refine g_lv (lv2 := [(0, .ref (Y.ad b)), (1, .long p1), (3, .ref (Y.ad r3))]) [0, 1, 2] ?_ rfl
  unfold PX3_judgeBest at h
  refine g_aload_n C 0 dX3_judgeBest_0 rfl ?_
  refine gf_RX3_69 C h0 dX3_judgeBest_1 ?_
  refine g_iconst C (v := (1 : Int32)) dX3_judgeBest_4 (by decide) ?_
  refine g_icmp_eq C 17 dX3_judgeBest_5 (by decide) (fun c1 => ?_) (fun c1 => ?_)
  · replace h := h.1 c1
    exact tX3_judgeBest_17 C hr hI h0 h3 _ h
  · replace h := h.2 c1
    refine g_lload_n C 1 dX3_judgeBest_8 rfl ?_
    refine g_aload_n C 0 dX3_judgeBest_9 rfl ?_
    refine gf_RX3_138 C h0 dX3_judgeBest_10 ?_
    refine g_lcmp C dX3_judgeBest_13 ?_
    refine g_if_ge C 65 dX3_judgeBest_14 (by decide) (fun c2 => ?_) (fun c2 => ?_)
    · replace h := h.1 c2
      exact tX3_judgeBest_65 C hr hI h0 h3 _ h
    · replace h := h.2 c2
      exact tX3_judgeBest_17 C hr hI h0 h3 _ h
set_option maxRecDepth 20000 in
set_option maxHeartbeats 4000000 in
theorem tX3_judgeFairest_45 {X : XT} {Y : YT} {l0 : Launch} {b : Nat} {p1 : Int64} {p3 : Int32} {Q : Mem → Prop} (C : Cx X Y 5 cX3_judgeFairest RX3 WX3_judgeFairest (rmB 1 18) l0) (hr : RV X Y cX3_judgeFairest Q) (hI : YI Y) (h0 : isX3 Y b) (μ : Mem) (h : nX3_judgeFairest_45 b p1 p3 Q  μ) : G X Y 5 45 [(0, .ref (Y.ad b)), (1, .long p1), (3, .int p3)] [] μ := by
  unfold nX3_judgeFairest_45 at h
  refine g_aload_n C 0 dX3_judgeFairest_45 rfl ?_
  refine g_iload_n C 2 dX3_judgeFairest_46 rfl ?_
  refine gp_RX3_160 C h0 dX3_judgeFairest_47 ?_
  refine g_aload_n C 0 dX3_judgeFairest_50 rfl ?_
  refine g_lload_n C 1 dX3_judgeFairest_51 rfl ?_
  refine gp_RX3_163 C h0 dX3_judgeFairest_52 ?_
  refine g_mem (fun m6 em6 => ?_)
  replace h := h m6 em6
  refine g_aload_n C 0 dX3_judgeFairest_55 rfl ?_
  refine gf_RX3_18 C h0 dX3_judgeFairest_56 ?_
  refine g_iconst C (v := (0 : Int32)) dX3_judgeFairest_59 (by decide) ?_
  refine g_aload_n C 0 dX3_judgeFairest_60 rfl ?_
  refine gf_RX3_32 C h0 dX3_judgeFairest_61 ?_
  refine g_iconst C (v := (0 : Int32)) dX3_judgeFairest_64 (by decide) ?_
  refine g_iconst C (v := (5 : Int32)) dX3_judgeFairest_65 (by decide) ?_
  refine g_copy C (List.mem_cons_of_mem _ mM_RX3_154) (List.mem_cons_of_mem _ mLib_copy_n) (List.mem_cons_of_mem _ mLib_copy_s) (List.mem_cons_of_mem _ mLib_sys) (isX3_places h0).1 (isX3_fairestRow h0).1 (isX3_places h0).2 (isX3_fairestRow h0).2 (by decide) (by decide) (by decide) (by decide) (by decide) (Nat.le_of_ble_eq_true rfl) (Nat.le_of_ble_eq_true rfl) dX3_judgeFairest_66 ?_
  refine g_mem (fun m7 em7 => ?_)
  replace h := h m7 em7
  exact hr _ _ _ _ dX3_judgeFairest_69 h
set_option maxRecDepth 20000 in
set_option maxHeartbeats 4000000 in
theorem tX3_judgeFairest_30 {X : XT} {Y : YT} {l0 : Launch} {b : Nat} {p1 : Int64} {p3 : Int32} {Q : Mem → Prop} (C : Cx X Y 5 cX3_judgeFairest RX3 WX3_judgeFairest (rmB 1 18) l0) (hr : RV X Y cX3_judgeFairest Q) (hI : YI Y) (h0 : isX3 Y b) (w0 : Int32) (μ : Mem) (h : nX3_judgeFairest_30 b p1 p3 Q w0 μ) : G X Y 5 30 [(0, .ref (Y.ad b)), (1, .long p1), (3, .int p3)] [.int w0] μ := by
  unfold nX3_judgeFairest_30 at h
  refine g_istore C [(4, .int w0), (0, .ref (Y.ad b)), (1, .long p1), (3, .int p3)] dX3_judgeFairest_30 (by decide) rfl ?_
  refine g_aload_n C 1 dX3_judgeFairest_32 rfl ?_
  refine gf_RX3_69 C h0 dX3_judgeFairest_33 ?_
  refine g_iconst C (v := (1 : Int32)) dX3_judgeFairest_36 (by decide) ?_
  refine g_icmp_eq C 45 dX3_judgeFairest_37 (by decide) (fun c4 => ?_) (fun c4 => ?_)
  · replace h := h.1 c4
    refine g_lv (lv2 := [(0, .ref (Y.ad b)), (1, .long p1), (3, .int p3)]) [1, 2, 3] ?_ rfl
    exact tX3_judgeFairest_45 C hr hI h0 _ h
  · replace h := h.2 c4
    refine g_iload C 0 dX3_judgeFairest_40 rfl ?_
    refine g_if_eq C 69 dX3_judgeFairest_42 (by decide) (fun c5 => ?_) (fun c5 => ?_)
    · replace h := h.1 c5
      exact hr _ _ _ _ dX3_judgeFairest_69 h
    · replace h := h.2 c5
      refine g_lv (lv2 := [(0, .ref (Y.ad b)), (1, .long p1), (3, .int p3)]) [1, 2, 3] ?_ rfl
      exact tX3_judgeFairest_45 C hr hI h0 _ h
set_option maxRecDepth 20000 in
set_option maxHeartbeats 4000000 in
theorem tX3_judgeFairest_25 {X : XT} {Y : YT} {l0 : Launch} {b : Nat} {p1 : Int64} {p3 : Int32} {Q : Mem → Prop} (C : Cx X Y 5 cX3_judgeFairest RX3 WX3_judgeFairest (rmB 1 18) l0) (hr : RV X Y cX3_judgeFairest Q) (hI : YI Y) (h0 : isX3 Y b) (μ : Mem) (h : nX3_judgeFairest_25 b p1 p3 Q  μ) : G X Y 5 25 [(0, .ref (Y.ad b)), (1, .long p1), (3, .int p3)] [] μ := by
  unfold nX3_judgeFairest_25 at h
  refine g_iconst C (v := (1 : Int32)) dX3_judgeFairest_25 (by decide) ?_
  refine g_goto C 30 dX3_judgeFairest_26 (by decide) ?_
  exact tX3_judgeFairest_30 C hr hI h0 _ _ h
set_option maxRecDepth 20000 in
set_option maxHeartbeats 4000000 in
theorem tX3_judgeFairest_29 {X : XT} {Y : YT} {l0 : Launch} {b : Nat} {p1 : Int64} {p3 : Int32} {Q : Mem → Prop} (C : Cx X Y 5 cX3_judgeFairest RX3 WX3_judgeFairest (rmB 1 18) l0) (hr : RV X Y cX3_judgeFairest Q) (hI : YI Y) (h0 : isX3 Y b) (μ : Mem) (h : nX3_judgeFairest_29 b p1 p3 Q  μ) : G X Y 5 29 [(0, .ref (Y.ad b)), (1, .long p1), (3, .int p3)] [] μ := by
  unfold nX3_judgeFairest_29 at h
  refine g_iconst C (v := (0 : Int32)) dX3_judgeFairest_29 (by decide) ?_
  exact tX3_judgeFairest_30 C hr hI h0 _ _ h
set_option maxRecDepth 20000 in
set_option maxHeartbeats 4000000 in
theorem ok_X3_judgeFairest {Y : YT} {l0 : Launch} {b : Nat} {p1 : Int64} {p3 : Int32} {μ : Mem} {Q : Mem → Prop} (hI : YI Y) (h0 : isX3 Y b) (h : PX3_judgeFairest b p1 p3 μ Q) : MV l0 yX3_judgeFairest WX3_judgeFairest 1 18 Y [.ref (Y.ad b), .long p1, .int p3] μ Q := by
  refine mV_of (cc := cX3_judgeFairest) (maxL := 5) (by decide +kernel) rfl hI (Nat.le_of_ble_eq_true rfl) (fun X C hr => ?_)
  replace C : Cx X Y 5 cX3_judgeFairest RX3 WX3_judgeFairest (rmB 1 18) l0 := C
  refine g_lv (lv2 := [(0, .ref (Y.ad b)), (1, .long p1), (3, .int p3)]) [0, 1, 2] ?_ rfl
  unfold PX3_judgeFairest at h
  refine g_iload_n C 2 dX3_judgeFairest_0 rfl ?_
  refine g_aload_n C 0 dX3_judgeFairest_1 rfl ?_
  refine gf_RX3_160 C h0 dX3_judgeFairest_2 ?_
  refine g_icmp_gt C 25 dX3_judgeFairest_5 (by decide) (fun c1 => ?_) (fun c1 => ?_)
  · replace h := h.1 c1
    exact tX3_judgeFairest_25 C hr hI h0 _ h
  · replace h := h.2 c1
    refine g_iload_n C 2 dX3_judgeFairest_8 rfl ?_
    refine g_aload_n C 0 dX3_judgeFairest_9 rfl ?_
    refine gf_RX3_160 C h0 dX3_judgeFairest_10 ?_
    refine g_icmp_ne C 29 dX3_judgeFairest_13 (by decide) (fun c2 => ?_) (fun c2 => ?_)
    · replace h := h.1 c2
      exact tX3_judgeFairest_29 C hr hI h0 _ h
    · replace h := h.2 c2
      refine g_lload_n C 1 dX3_judgeFairest_16 rfl ?_
      refine g_aload_n C 0 dX3_judgeFairest_17 rfl ?_
      refine gf_RX3_163 C h0 dX3_judgeFairest_18 ?_
      refine g_lcmp C dX3_judgeFairest_21 ?_
      refine g_if_ge C 29 dX3_judgeFairest_22 (by decide) (fun c3 => ?_) (fun c3 => ?_)
      · replace h := h.1 c3
        exact tX3_judgeFairest_29 C hr hI h0 _ h
      · replace h := h.2 c3
        exact tX3_judgeFairest_25 C hr hI h0 _ h
def SX3_addClosing_33 (X : XT) (Y : YT) (b : Nat) (p1 : Int32) : Int32 → Mem → Prop := fun v2 μ => G X Y 3 33 [(0, .ref (Y.ad b)), (1, .int p1), (2, .int v2)] [] μ
set_option maxRecDepth 20000 in
set_option maxHeartbeats 4000000 in
theorem tX3_addClosing_21 {X : XT} {Y : YT} {l0 : Launch} {b : Nat} {p1 : Int32} {Q : Mem → Prop} (C : Cx X Y 3 cX3_addClosing RX3 WX3_addClosing (rmB 1 18) l0) (hr : RV X Y cX3_addClosing Q) (hI : YI Y) (h0 : isX3 Y b) (μ : Mem) (h : nX3_addClosing_21 b p1 Q (SX3_addClosing_33 X Y b p1) μ) : G X Y 3 21 [(0, .ref (Y.ad b)), (1, .int p1)] [] μ := by
  unfold nX3_addClosing_21 at h
  refine g_aload_n C 0 dX3_addClosing_21 rfl ?_
  refine g_dup C dX3_addClosing_22 rfl ?_
  refine gf_RX3_76 C h0 dX3_addClosing_23 ?_
  refine g_iconst C (v := (1 : Int32)) dX3_addClosing_26 (by decide) ?_
  refine g_iadd C dX3_addClosing_27 ?_
  refine gp_RX3_76 C h0 dX3_addClosing_28 ?_
  refine g_iconst C (v := (0 : Int32)) dX3_addClosing_31 (by decide) ?_
  refine g_istore_n C [(2, .int ((0 : Int32))), (0, .ref (Y.ad b)), (1, .int p1)] dX3_addClosing_32 (by decide) rfl ?_
  refine g_lv (lv2 := [(0, .ref (Y.ad b)), (1, .int p1), (2, .int ((0 : Int32)))]) [1, 2, 0] ?_ rfl
  exact h
set_option maxRecDepth 20000 in
set_option maxHeartbeats 4000000 in
theorem tX3_addClosing_66 {X : XT} {Y : YT} {l0 : Launch} {b : Nat} {p1 : Int32} {Q : Mem → Prop} (C : Cx X Y 3 cX3_addClosing RX3 WX3_addClosing (rmB 1 18) l0) (hr : RV X Y cX3_addClosing Q) (hI : YI Y) (h0 : isX3 Y b) (v2 : Int32) (μ : Mem) (h : nX3_addClosing_66 b p1 Q (SX3_addClosing_33 X Y b p1) v2 μ) : G X Y 3 66 [(0, .ref (Y.ad b)), (1, .int p1), (2, .int v2)] [] μ := by
  unfold nX3_addClosing_66 at h
  refine g_iinc C (v := v2 + 1) 2 [(2, .int (v2 + 1)), (0, .ref (Y.ad b)), (1, .int p1)] dX3_addClosing_66 rfl rfl (by decide) rfl ?_
  refine g_goto C 33 dX3_addClosing_69 (by decide) ?_
  refine g_lv (lv2 := [(0, .ref (Y.ad b)), (1, .int p1), (2, .int (v2 + 1))]) [1, 2, 0] ?_ rfl
  exact h
set_option maxRecDepth 20000 in
set_option maxHeartbeats 4000000 in
theorem tX3_addClosing_33 {X : XT} {Y : YT} {l0 : Launch} {b : Nat} {p1 : Int32} {Q : Mem → Prop} (C : Cx X Y 3 cX3_addClosing RX3 WX3_addClosing (rmB 1 18) l0) (hr : RV X Y cX3_addClosing Q) (hI : YI Y) (h0 : isX3 Y b) (v2 : Int32) (μ : Mem) (h : nX3_addClosing_33 b p1 Q (SX3_addClosing_33 X Y b p1) v2 μ) : G X Y 3 33 [(0, .ref (Y.ad b)), (1, .int p1), (2, .int v2)] [] μ := by
  unfold nX3_addClosing_33 at h
  refine g_iload_n C 2 dX3_addClosing_33 rfl ?_
  refine g_iload_n C 1 dX3_addClosing_34 rfl ?_
  refine g_icmp_ge C 72 dX3_addClosing_35 (by decide) (fun c3 => ?_) (fun c3 => ?_)
  · replace h := h.1 c3
    exact hr _ _ _ _ dX3_addClosing_72 h
  · replace h := h.2 c3
    refine g_aload_n C 0 dX3_addClosing_38 rfl ?_
    refine gf_RX3_18 C h0 dX3_addClosing_39 ?_
    refine g_iload_n C 2 dX3_addClosing_42 rfl ?_
    refine g_iald C (isX3_places h0).1 (isX3_places h0).2 h.1 dX3_addClosing_43 ?_
    replace h := h.2
    refine g_bipush C (v := (-4 : Int32)) dX3_addClosing_44 (by decide) ?_
    refine g_icmp_eq C 66 dX3_addClosing_46 (by decide) (fun c4 => ?_) (fun c4 => ?_)
    · replace h := h.1 c4
      exact tX3_addClosing_66 C hr hI h0 _ _ h
    · replace h := h.2 c4
      refine g_aload_n C 0 dX3_addClosing_49 rfl ?_
      refine g_dup C dX3_addClosing_50 rfl ?_
      refine gf_RX3_79 C h0 dX3_addClosing_51 ?_
      refine g_iconst C (v := (1 : Int32)) dX3_addClosing_54 (by decide) ?_
      refine g_aload_n C 0 dX3_addClosing_55 rfl ?_
      refine gf_RX3_18 C h0 dX3_addClosing_56 ?_
      refine g_iload_n C 2 dX3_addClosing_59 rfl ?_
      refine g_iald C (isX3_places h0).1 (isX3_places h0).2 h.1 dX3_addClosing_60 ?_
      replace h := h.2
      refine g_ishl C dX3_addClosing_61 ?_
      refine g_ior C dX3_addClosing_62 ?_
      refine gp_RX3_79 C h0 dX3_addClosing_63 ?_
      refine g_mem (fun m5 em5 => ?_)
      replace h := h m5 em5
      exact tX3_addClosing_66 C hr hI h0 _ _ h
set_option maxRecDepth 20000 in
set_option maxHeartbeats 4000000 in
theorem ok_X3_addClosing {Y : YT} {l0 : Launch} {b : Nat} {p1 : Int32} {μ : Mem} {Q : Mem → Prop} (hI : YI Y) (h0 : isX3 Y b) (h : PX3_addClosing b p1 μ Q) : MV l0 yX3_addClosing WX3_addClosing 1 18 Y [.ref (Y.ad b), .int p1] μ Q := by
  refine mV_of (cc := cX3_addClosing) (maxL := 3) (by decide +kernel) rfl hI (Nat.le_of_ble_eq_true rfl) (fun X C hr => ?_)
  replace C : Cx X Y 3 cX3_addClosing RX3 WX3_addClosing (rmB 1 18) l0 := C
  refine g_lv (lv2 := [(0, .ref (Y.ad b)), (1, .int p1)]) [0, 1] ?_ rfl
  unfold PX3_addClosing at h
  replace h := h (SX3_addClosing_33 X Y b p1) (fun v2 μ z => tX3_addClosing_33 C hr hI h0 v2 μ z)
  refine g_aload_n C 0 dX3_addClosing_0 rfl ?_
  refine gf_RX3_76 C h0 dX3_addClosing_1 ?_
  refine g_if_ne C 21 dX3_addClosing_4 (by decide) (fun c1 => ?_) (fun c1 => ?_)
  · replace h := h.1 c1
    exact tX3_addClosing_21 C hr hI h0 _ h
  · replace h := h.2 c1
    refine g_aload_n C 0 dX3_addClosing_7 rfl ?_
    refine gf_RX3_18 C h0 dX3_addClosing_8 ?_
    refine g_iconst C (v := (0 : Int32)) dX3_addClosing_11 (by decide) ?_
    refine g_aload_n C 0 dX3_addClosing_12 rfl ?_
    refine gf_RX3_38 C h0 dX3_addClosing_13 ?_
    refine g_iconst C (v := (0 : Int32)) dX3_addClosing_16 (by decide) ?_
    refine g_iconst C (v := (5 : Int32)) dX3_addClosing_17 (by decide) ?_
    refine g_copy C (List.mem_cons_of_mem _ mM_RX3_154) (List.mem_cons_of_mem _ mLib_copy_n) (List.mem_cons_of_mem _ mLib_copy_s) (List.mem_cons_of_mem _ mLib_sys) (isX3_places h0).1 (isX3_closingRow h0).1 (isX3_places h0).2 (isX3_closingRow h0).2 (by decide) (by decide) (by decide) (by decide) (by decide) (Nat.le_of_ble_eq_true rfl) (Nat.le_of_ble_eq_true rfl) dX3_addClosing_18 ?_
    refine g_mem (fun m2 em2 => ?_)
    replace h := h m2 em2
    exact tX3_addClosing_21 C hr hI h0 _ h
set_option maxRecDepth 20000 in
set_option maxHeartbeats 4000000 in
theorem ok_X3_judge {Y : YT} {l0 : Launch} {b : Nat} {r1 : Nat} {r2 : Nat} {p3 : Int32} {μ : Mem} {Q : Mem → Prop} (hI : YI Y) (h0 : isX3 Y b) (h1 : isX2 Y r1) (h2 : isX0 Y r2) (h : PX3_judge b r1 r2 p3 μ Q) : MV l0 yX3_judge WX3_judge 3 71 Y [.ref (Y.ad b), .ref (Y.ad r1), .ref (Y.ad r2), .int p3] μ Q := by
  refine mV_of (cc := cX3_judge) (maxL := 7) (by decide +kernel) rfl hI (Nat.le_of_ble_eq_true rfl) (fun X C hr => ?_)
  replace C : Cx X Y 7 cX3_judge RX3 WX3_judge (rmB 3 71) l0 := C
  refine g_lv (lv2 := [(0, .ref (Y.ad b)), (1, .ref (Y.ad r1)), (2, .ref (Y.ad r2)), (3, .int p3)]) [0, 1, 2, 3] ?_ rfl
  unfold PX3_judge at h
  refine g_aload_n C 0 dX3_judge_0 rfl ?_
  refine gf_RX3_12 C h0 dX3_judge_1 ?_
  refine g_iload_n C 3 dX3_judge_4 rfl ?_
  refine g_aald C (isX3_steps h0).1 (isX3_steps h0).2.1 h.1 dX3_judge_5 ?_
  have k1 := h.1
  replace h := h.2
  refine g_astore C [(4, .ref (Y.ad (b + 1 + 1 + 4 * p3.toNatClampNeg))), (0, .ref (Y.ad b)), (1, .ref (Y.ad r1)), (2, .ref (Y.ad r2)), (3, .int p3)] dX3_judge_6 (by decide) rfl ?_
  refine g_aload_n C 1 dX3_judge_8 rfl ?_
  refine g_dup C dX3_judge_9 rfl ?_
  refine gf_RX3_69 C h0 dX3_judge_10 ?_
  refine g_iconst C (v := (1 : Int32)) dX3_judge_13 (by decide) ?_
  refine g_iadd C dX3_judge_14 ?_
  refine gp_RX3_69 C h0 dX3_judge_15 ?_
  refine g_aload C 0 dX3_judge_18 rfl ?_
  refine gf_RX3_108 C ((isX3_steps h0).2.2 _ (vpin_lt k1)) dX3_judge_20 ?_
  refine g_i2l C dX3_judge_23 ?_
  refine g_ldc2 C (v := (100000 : Int64)) (List.mem_cons_of_mem _ mL_RX3_111) dX3_judge_24 ?_
  refine g_lmul C dX3_judge_27 ?_
  refine g_aload C 0 dX3_judge_28 rfl ?_
  refine gf_RX3_113 C ((isX3_steps h0).2.2 _ (vpin_lt k1)) dX3_judge_30 ?_
  refine g_i2l C dX3_judge_33 ?_
  refine g_ladd C dX3_judge_34 ?_
  refine g_ldc2 C (v := (100000 : Int64)) (List.mem_cons_of_mem _ mL_RX3_111) dX3_judge_35 ?_
  refine g_lmul C dX3_judge_38 ?_
  refine g_aload C 0 dX3_judge_39 rfl ?_
  refine gf_RX3_116 C ((isX3_steps h0).2.2 _ (vpin_lt k1)) dX3_judge_41 ?_
  refine g_i2l C dX3_judge_44 ?_
  refine g_lsub C dX3_judge_45 ?_
  refine g_topl (fun x2 ex2 => ?_)
  replace h := h x2 ex2
  refine g_lstore C [(5, .long x2), (4, .ref (Y.ad (b + 1 + 1 + 4 * p3.toNatClampNeg))), (0, .ref (Y.ad b)), (1, .ref (Y.ad r1)), (2, .ref (Y.ad r2)), (3, .int p3)] dX3_judge_46 (by decide) rfl ?_
  refine g_aload_n C 2 dX3_judge_48 rfl ?_
  refine g_lload C 0 dX3_judge_49 rfl ?_
  refine g_aload C 1 dX3_judge_51 rfl ?_
  refine g_callVV C [.long x2, .ref (Y.ad (b + 1 + 1 + 4 * p3.toNatClampNeg))] [] (ok_X3_judgeBest hI h0 ((isX3_steps h0).2.2 _ (vpin_lt k1)) h) (cw_RX3_119 _) rfl dc_X3_judgeBest ⟨Nat.le_of_ble_eq_true rfl, Nat.le_of_ble_eq_true rfl⟩ (isX3_lt h0) (isX3_sh h0) rfl rfl rfl rfl (Nat.le_of_ble_eq_true rfl) dX3_judge_53 (fun m3 h => ?_)
  refine g_aload_n C 2 dX3_judge_56 rfl ?_
  refine g_lload C 0 dX3_judge_57 rfl ?_
  refine g_aload_n C 3 dX3_judge_59 rfl ?_
  refine g_aload_n C 2 dX3_judge_60 rfl ?_
  refine gf_RX3_18 C h0 dX3_judge_61 ?_
  refine g_iload_n C 5 dX3_judge_64 rfl ?_
  refine g_callVI C [.ref (Y.ad (b + 26)), .int p3] [.long x2, .ref (Y.ad b)] (ok_X2_timesFedLeast hI h1 (isX3_places h0) h) (cw_RX3_123 _) rfl dc_X2_timesFedLeast ⟨Nat.le_of_ble_eq_true rfl, Nat.le_of_ble_eq_true rfl⟩ (isX2_lt h1) (isX2_sh h1) rfl rfl rfl rfl (Nat.le_of_ble_eq_true rfl) dX3_judge_65 (fun r6 m5 h => ?_)
  refine g_callVV C [.long x2, .int r6] [] (ok_X3_judgeFairest hI h0 h) (cw_RX3_127 _) rfl dc_X3_judgeFairest ⟨Nat.le_of_ble_eq_true rfl, Nat.le_of_ble_eq_true rfl⟩ (isX3_lt h0) (isX3_sh h0) rfl rfl rfl rfl (Nat.le_of_ble_eq_true rfl) dX3_judge_68 (fun m7 h => ?_)
  refine g_aload_n C 3 dX3_judge_71 rfl ?_
  refine g_aload_n C 4 dX3_judge_72 rfl ?_
  refine g_aload C 1 dX3_judge_73 rfl ?_
  refine g_aload_n C 2 dX3_judge_75 rfl ?_
  refine gf_RX3_18 C h0 dX3_judge_76 ?_
  refine g_iload_n C 5 dX3_judge_79 rfl ?_
  refine g_callVI C [.ref (Y.ad r2), .ref (Y.ad (b + 1 + 1 + 4 * p3.toNatClampNeg)), .ref (Y.ad (b + 26)), .int p3] [] (ok_X2_isClosed hI h1 h2 ((isX3_steps h0).2.2 _ (vpin_lt k1)) (isX3_places h0) h) (cw_RX3_131 _) rfl dc_X2_isClosed ⟨Nat.le_of_ble_eq_true rfl, Nat.le_of_ble_eq_true rfl⟩ (isX2_lt h1) (isX2_sh h1) rfl rfl rfl rfl (Nat.le_of_ble_eq_true rfl) dX3_judge_80 (fun r10 m9 h => ?_)
  refine g_if_eq C 91 dX3_judge_83 (by decide) (fun c11 => ?_) (fun c11 => ?_)
  · replace h := h.1 c11
    exact hr _ _ _ _ dX3_judge_91 h
  · replace h := h.2 c11
    refine g_aload_n C 2 dX3_judge_86 rfl ?_
    refine g_iload_n C 5 dX3_judge_87 rfl ?_
    refine g_callVV C [.int p3] [] (ok_X3_addClosing hI h0 h) (cw_RX3_135 _) rfl dc_X3_addClosing ⟨Nat.le_of_ble_eq_true rfl, Nat.le_of_ble_eq_true rfl⟩ (isX3_lt h0) (isX3_sh h0) rfl rfl rfl rfl (Nat.le_of_ble_eq_true rfl) dX3_judge_88 (fun m12 h => ?_)
    exact hr _ _ _ _ dX3_judge_91 h
def SX5_weightOf_6 (X : XT) (Y : YT) (r0 : Nat) (p1 : Int32) (p2 : Int32) (p3 : Int32) : Int32 → Int32 → Mem → Prop := fun v4 v5 μ => G X Y 7 6 [(0, .ref (Y.ad r0)), (1, .int p1), (2, .int p2), (3, .int p3), (4, .int v4), (5, .int v5)] [] μ
set_option maxRecDepth 20000 in
set_option maxHeartbeats 4000000 in
theorem tX5_weightOf_42 {X : XT} {Y : YT} {l0 : Launch} {r0 : Nat} {p1 : Int32} {p2 : Int32} {p3 : Int32} {Q : Int32 → Mem → Prop} (C : Cx X Y 7 cX5_weightOf RX5 WX5_weightOf (rmB 2 43) l0) (hr : RI X Y cX5_weightOf .int Q) (hI : YI Y) (h0 : isX2 Y r0) (v5 : Int32) (w0 : Int32) (w1 : Int32) (μ : Mem) (h : nX5_weightOf_42 r0 p1 p2 p3 Q (SX5_weightOf_6 X Y r0 p1 p2 p3) v5 w0 w1 μ) : G X Y 7 42 [(0, .ref (Y.ad r0)), (1, .int p1), (2, .int p2), (3, .int p3), (5, .int v5)] [.int w0, .int w1] μ := by
  unfold nX5_weightOf_42 at h
  refine g_imul C dX5_weightOf_42 ?_
  refine g_istore C [(4, .int (w1 * w0)), (0, .ref (Y.ad r0)), (1, .int p1), (2, .int p2), (3, .int p3), (5, .int v5)] dX5_weightOf_43 (by decide) rfl ?_
  refine g_iinc C (v := v5 + 1) 5 [(5, .int (v5 + 1)), (4, .int (w1 * w0)), (0, .ref (Y.ad r0)), (1, .int p1), (2, .int p2), (3, .int p3)] dX5_weightOf_45 rfl rfl (by decide) rfl ?_
  refine g_goto C 6 dX5_weightOf_48 (by decide) ?_
  refine g_lv (lv2 := [(0, .ref (Y.ad r0)), (1, .int p1), (2, .int p2), (3, .int p3), (4, .int (w1 * w0)), (5, .int (v5 + 1))]) [2, 3, 4, 5, 1, 0] ?_ rfl
  exact h
set_option maxRecDepth 20000 in
set_option maxHeartbeats 4000000 in
theorem tX5_weightOf_6 {X : XT} {Y : YT} {l0 : Launch} {r0 : Nat} {p1 : Int32} {p2 : Int32} {p3 : Int32} {Q : Int32 → Mem → Prop} (C : Cx X Y 7 cX5_weightOf RX5 WX5_weightOf (rmB 2 43) l0) (hr : RI X Y cX5_weightOf .int Q) (hI : YI Y) (h0 : isX2 Y r0) (v4 : Int32) (v5 : Int32) (μ : Mem) (h : nX5_weightOf_6 r0 p1 p2 p3 Q (SX5_weightOf_6 X Y r0 p1 p2 p3) v4 v5 μ) : G X Y 7 6 [(0, .ref (Y.ad r0)), (1, .int p1), (2, .int p2), (3, .int p3), (4, .int v4), (5, .int v5)] [] μ := by
  unfold nX5_weightOf_6 at h
  refine g_iload C 5 dX5_weightOf_6 rfl ?_
  refine g_iload_n C 2 dX5_weightOf_8 rfl ?_
  refine g_icmp_ge C 51 dX5_weightOf_9 (by decide) (fun c1 => ?_) (fun c1 => ?_)
  · replace h := h.1 c1
    refine g_iload C 4 dX5_weightOf_51 rfl ?_
    exact hr _ _ _ _ _ dX5_weightOf_53 rfl h
  · replace h := h.2 c1
    refine g_aload_n C 0 dX5_weightOf_12 rfl ?_
    refine g_iload_n C 1 dX5_weightOf_13 rfl ?_
    refine g_iload C 5 dX5_weightOf_14 rfl ?_
    refine g_iadd C dX5_weightOf_16 ?_
    refine g_callVI C [.int (p1 + v5)] [] (ok_X2_chanceOfGuests hI h0 h) (cw_RX5_48 _) rfl dc_X2_chanceOfGuests ⟨Nat.le_of_ble_eq_true rfl, Nat.le_of_ble_eq_true rfl⟩ (isX2_lt h0) (isX2_sh h0) rfl rfl rfl rfl (Nat.le_of_ble_eq_true rfl) dX5_weightOf_17 (fun r3 m2 h => ?_)
    refine g_istore C [(6, .int r3), (0, .ref (Y.ad r0)), (1, .int p1), (2, .int p2), (3, .int p3), (4, .int v4), (5, .int v5)] dX5_weightOf_20 (by decide) rfl ?_
    refine g_iload C 5 dX5_weightOf_22 rfl ?_
    refine g_iload_n C 4 dX5_weightOf_24 rfl ?_
    refine g_iload C 6 dX5_weightOf_25 rfl ?_
    refine g_ishr C dX5_weightOf_27 ?_
    refine g_iconst C (v := (1 : Int32)) dX5_weightOf_28 (by decide) ?_
    refine g_iand C dX5_weightOf_29 ?_
    refine g_if_eq C 38 dX5_weightOf_30 (by decide) (fun c4 => ?_) (fun c4 => ?_)
    · replace h := h.1 c4
      refine g_iconst C (v := (4 : Int32)) dX5_weightOf_38 (by decide) ?_
      refine g_iload C 0 dX5_weightOf_39 rfl ?_
      refine g_isub C dX5_weightOf_41 ?_
      refine g_lv (lv2 := [(0, .ref (Y.ad r0)), (1, .int p1), (2, .int p2), (3, .int p3), (5, .int v5)]) [1, 2, 3, 4, 6] ?_ rfl
      exact tX5_weightOf_42 C hr hI h0 _ _ _ _ h
    · replace h := h.2 c4
      refine g_iload C 0 dX5_weightOf_33 rfl ?_
      refine g_goto C 42 dX5_weightOf_35 (by decide) ?_
      refine g_lv (lv2 := [(0, .ref (Y.ad r0)), (1, .int p1), (2, .int p2), (3, .int p3), (5, .int v5)]) [1, 2, 3, 4, 6] ?_ rfl
      exact tX5_weightOf_42 C hr hI h0 _ _ _ _ h
set_option maxRecDepth 20000 in
set_option maxHeartbeats 4000000 in
theorem ok_X5_weightOf {Y : YT} {l0 : Launch} {r0 : Nat} {p1 : Int32} {p2 : Int32} {p3 : Int32} {μ : Mem} {Q : Int32 → Mem → Prop} (hI : YI Y) (h0 : isX2 Y r0) (h : PX5_weightOf r0 p1 p2 p3 μ Q) : MI l0 yX5_weightOf WX5_weightOf 2 43 Y [.ref (Y.ad r0), .int p1, .int p2, .int p3] μ Q := by
  refine mI_of (ty := .int) (cc := cX5_weightOf) (maxL := 7) (by decide +kernel) rfl hI (Nat.le_of_ble_eq_true rfl) (fun X C hr => ?_)
  replace C : Cx X Y 7 cX5_weightOf RX5 WX5_weightOf (rmB 2 43) l0 := C
  refine g_lv (lv2 := [(0, .ref (Y.ad r0)), (1, .int p1), (2, .int p2), (3, .int p3)]) [0, 1, 2, 3] ?_ rfl
  unfold PX5_weightOf at h
  replace h := h (SX5_weightOf_6 X Y r0 p1 p2 p3) (fun v4 v5 μ z => tX5_weightOf_6 C hr hI h0 v4 v5 μ z)
  refine g_iconst C (v := (1 : Int32)) dX5_weightOf_0 (by decide) ?_
  refine g_istore C [(4, .int ((1 : Int32))), (0, .ref (Y.ad r0)), (1, .int p1), (2, .int p2), (3, .int p3)] dX5_weightOf_1 (by decide) rfl ?_
  refine g_iconst C (v := (0 : Int32)) dX5_weightOf_3 (by decide) ?_
  refine g_istore C [(5, .int ((0 : Int32))), (4, .int ((1 : Int32))), (0, .ref (Y.ad r0)), (1, .int p1), (2, .int p2), (3, .int p3)] dX5_weightOf_4 (by decide) rfl ?_
  refine g_lv (lv2 := [(0, .ref (Y.ad r0)), (1, .int p1), (2, .int p2), (3, .int p3), (4, .int ((1 : Int32))), (5, .int ((0 : Int32)))]) [2, 3, 4, 5, 1, 0] ?_ rfl
  exact h
def SX5_go_16 (X : XT) (Y : YT) (b : Nat) (r1 : Nat) (r2 : Nat) (a3 : Nat) (n3 : Nat) (p4 : Int32) (p5 : Int32) : Int32 → Mem → Prop := fun v6 μ => G X Y 8 16 [(0, .ref (Y.ad b)), (1, .ref (Y.ad r1)), (2, .ref (Y.ad r2)), (3, .ref (Y.ad a3)), (4, .int p4), (5, .int p5), (6, .int v6)] [] μ
set_option maxRecDepth 20000 in
set_option maxHeartbeats 4000000 in
theorem tX5_go_92 {X : XT} {Y : YT} {l0 : Launch} {b : Nat} {r1 : Nat} {r2 : Nat} {a3 : Nat} {n3 : Nat} {p4 : Int32} {p5 : Int32} {Q : Int32 → Mem → Prop} (C : Cx X Y 8 cX5_go RX5 WX5_go (rmB 4 101) l0) (hr : RI X Y cX5_go .int Q) (hI : YI Y) (h0 : isX5 Y b) (h1 : isX2 Y r1) (h2 : isX0 Y r2) (h3 : isI Y a3 n3) (v6 : Int32) (μ : Mem) (h : nX5_go_92 b r1 r2 a3 n3 p4 p5 Q (SX5_go_16 X Y b r1 r2 a3 n3 p4 p5) v6 μ) : G X Y 8 92 [(0, .ref (Y.ad b)), (1, .ref (Y.ad r1)), (2, .ref (Y.ad r2)), (3, .ref (Y.ad a3)), (4, .int p4), (5, .int p5), (6, .int v6)] [] μ := by
  unfold nX5_go_92 at h
  refine g_aload_n C 0 dX5_go_92 rfl ?_
  refine gf_RX5_12 C h0 dX5_go_93 ?_
  refine g_aload_n C 1 dX5_go_96 rfl ?_
  refine g_callVI C [.ref (Y.ad r1)] [] (ok_X0_passNight hI (isX5_behind h0) h1 h) (cw_RX5_33 _) rfl dc_X0_passNight ⟨Nat.le_of_ble_eq_true rfl, Nat.le_of_ble_eq_true rfl⟩ (isX0_lt (isX5_behind h0)) (isX0_sh (isX5_behind h0)) rfl rfl rfl rfl (Nat.le_of_ble_eq_true rfl) dX5_go_97 (fun r12 m11 h => ?_)
  refine g_pop C dX5_go_100 rfl ?_
  refine g_iinc C (v := v6 + 1) 6 [(6, .int (v6 + 1)), (0, .ref (Y.ad b)), (1, .ref (Y.ad r1)), (2, .ref (Y.ad r2)), (3, .ref (Y.ad a3)), (4, .int p4), (5, .int p5)] dX5_go_101 rfl rfl (by decide) rfl ?_
  refine g_goto C 16 dX5_go_104 (by decide) ?_
  refine g_lv (lv2 := [(0, .ref (Y.ad b)), (1, .ref (Y.ad r1)), (2, .ref (Y.ad r2)), (3, .ref (Y.ad a3)), (4, .int p4), (5, .int p5), (6, .int (v6 + 1))]) [1, 2, 3, 4, 5, 6, 0] ?_ rfl
  exact h
set_option maxRecDepth 20000 in
set_option maxHeartbeats 4000000 in
theorem tX5_go_47 {X : XT} {Y : YT} {l0 : Launch} {b : Nat} {r1 : Nat} {r2 : Nat} {a3 : Nat} {n3 : Nat} {p4 : Int32} {p5 : Int32} {Q : Int32 → Mem → Prop} (C : Cx X Y 8 cX5_go RX5 WX5_go (rmB 4 101) l0) (hr : RI X Y cX5_go .int Q) (hI : YI Y) (h0 : isX5 Y b) (h1 : isX2 Y r1) (h2 : isX0 Y r2) (h3 : isI Y a3 n3) (v6 : Int32) (w0 : Int32) (μ : Mem) (h : nX5_go_47 b r1 r2 a3 n3 p4 p5 Q (SX5_go_16 X Y b r1 r2 a3 n3 p4 p5) v6 w0 μ) : G X Y 8 47 [(0, .ref (Y.ad b)), (1, .ref (Y.ad r1)), (2, .ref (Y.ad r2)), (3, .ref (Y.ad a3)), (4, .int p4), (5, .int p5), (6, .int v6)] [.int w0] μ := by
  unfold nX5_go_47 at h
  refine g_istore C [(7, .int w0), (0, .ref (Y.ad b)), (1, .ref (Y.ad r1)), (2, .ref (Y.ad r2)), (3, .ref (Y.ad a3)), (4, .int p4), (5, .int p5), (6, .int v6)] dX5_go_47 (by decide) rfl ?_
  refine g_aload_n C 1 dX5_go_49 rfl ?_
  refine g_aload_n C 1 dX5_go_50 rfl ?_
  refine gf_RX5_12 C h0 dX5_go_51 ?_
  refine g_aload_n C 2 dX5_go_54 rfl ?_
  refine g_aload_n C 4 dX5_go_55 rfl ?_
  refine g_iload C 7 dX5_go_56 rfl ?_
  refine g_iald C h3.1 h3.2 h.1 dX5_go_58 ?_
  replace h := h.2
  refine g_iload C 0 dX5_go_59 rfl ?_
  refine g_callVI C [.ref (Y.ad r1), .int (μ.1 a3 v6.toNatClampNeg), .int w0] [.ref (Y.ad b)] (ok_X0_whyNot hI (isX5_behind h0) h1 h) (cw_RX5_26 _) rfl dc_X0_whyNot ⟨Nat.le_of_ble_eq_true rfl, Nat.le_of_ble_eq_true rfl⟩ (isX0_lt (isX5_behind h0)) (isX0_sh (isX5_behind h0)) rfl rfl rfl rfl (Nat.le_of_ble_eq_true rfl) dX5_go_61 (fun r7 m6 h => ?_)
  refine gp_RX5_22 C h0 dX5_go_64 ?_
  refine g_aload_n C 1 dX5_go_67 rfl ?_
  refine gf_RX5_22 C h0 dX5_go_68 ?_
  refine g_if_eq C 77 dX5_go_71 (by decide) (fun c8 => ?_) (fun c8 => ?_)
  · replace h := h.1 c8
    refine g_aload_n C 1 dX5_go_77 rfl ?_
    refine gf_RX5_12 C h0 dX5_go_78 ?_
    refine g_aload_n C 2 dX5_go_81 rfl ?_
    refine g_aload_n C 4 dX5_go_82 rfl ?_
    refine g_iload C 7 dX5_go_83 rfl ?_
    refine g_iald C h3.1 h3.2 h.1 dX5_go_85 ?_
    replace h := h.2
    refine g_iload C 0 dX5_go_86 rfl ?_
    refine g_callVI C [.ref (Y.ad r1), .int ((ms m6 b 1 r7).1 a3 v6.toNatClampNeg), .int w0] [] (ok_X0_serve hI (isX5_behind h0) h1 h) (cw_RX5_30 _) rfl dc_X0_serve ⟨Nat.le_of_ble_eq_true rfl, Nat.le_of_ble_eq_true rfl⟩ (isX0_lt (isX5_behind h0)) (isX0_sh (isX5_behind h0)) rfl rfl rfl rfl (Nat.le_of_ble_eq_true rfl) dX5_go_88 (fun r10 m9 h => ?_)
    refine g_pop C dX5_go_91 rfl ?_
    refine g_lv (lv2 := [(0, .ref (Y.ad b)), (1, .ref (Y.ad r1)), (2, .ref (Y.ad r2)), (3, .ref (Y.ad a3)), (4, .int p4), (5, .int p5), (6, .int v6)]) [1, 2, 3, 4, 5, 6, 7] ?_ rfl
    exact tX5_go_92 C hr hI h0 h1 h2 h3 _ _ h
  · replace h := h.2 c8
    refine g_iload C 7 dX5_go_74 rfl ?_
    exact hr _ _ _ _ _ dX5_go_76 rfl h
set_option maxRecDepth 20000 in
set_option maxHeartbeats 4000000 in
theorem tX5_go_16 {X : XT} {Y : YT} {l0 : Launch} {b : Nat} {r1 : Nat} {r2 : Nat} {a3 : Nat} {n3 : Nat} {p4 : Int32} {p5 : Int32} {Q : Int32 → Mem → Prop} (C : Cx X Y 8 cX5_go RX5 WX5_go (rmB 4 101) l0) (hr : RI X Y cX5_go .int Q) (hI : YI Y) (h0 : isX5 Y b) (h1 : isX2 Y r1) (h2 : isX0 Y r2) (h3 : isI Y a3 n3) (v6 : Int32) (μ : Mem) (h : nX5_go_16 b r1 r2 a3 n3 p4 p5 Q (SX5_go_16 X Y b r1 r2 a3 n3 p4 p5) v6 μ) : G X Y 8 16 [(0, .ref (Y.ad b)), (1, .ref (Y.ad r1)), (2, .ref (Y.ad r2)), (3, .ref (Y.ad a3)), (4, .int p4), (5, .int p5), (6, .int v6)] [] μ := by
  unfold nX5_go_16 at h
  refine g_iload C 6 dX5_go_16 rfl ?_
  refine g_iload C 4 dX5_go_18 rfl ?_
  refine g_icmp_ge C 107 dX5_go_20 (by decide) (fun c3 => ?_) (fun c3 => ?_)
  · replace h := h.1 c3
    refine g_iload C 4 dX5_go_107 rfl ?_
    exact hr _ _ _ _ _ dX5_go_109 rfl h
  · replace h := h.2 c3
    refine g_aload_n C 3 dX5_go_23 rfl ?_
    refine g_iload C 6 dX5_go_24 rfl ?_
    refine g_iald C h3.1 h3.2 h.1 dX5_go_26 ?_
    replace h := h.2
    refine g_bipush C (v := (-4 : Int32)) dX5_go_27 (by decide) ?_
    refine g_icmp_eq C 92 dX5_go_29 (by decide) (fun c4 => ?_) (fun c4 => ?_)
    · replace h := h.1 c4
      exact tX5_go_92 C hr hI h0 h1 h2 h3 _ _ h
    · replace h := h.2 c4
      refine g_iload C 5 dX5_go_32 rfl ?_
      refine g_iload C 6 dX5_go_34 rfl ?_
      refine g_ishr C dX5_go_36 ?_
      refine g_iconst C (v := (1 : Int32)) dX5_go_37 (by decide) ?_
      refine g_iand C dX5_go_38 ?_
      refine g_if_eq C 46 dX5_go_39 (by decide) (fun c5 => ?_) (fun c5 => ?_)
      · replace h := h.1 c5
        refine g_iconst C (v := (0 : Int32)) dX5_go_46 (by decide) ?_
        exact tX5_go_47 C hr hI h0 h1 h2 h3 _ _ _ h
      · replace h := h.2 c5
        refine g_iconst C (v := (1 : Int32)) dX5_go_42 (by decide) ?_
        refine g_goto C 47 dX5_go_43 (by decide) ?_
        exact tX5_go_47 C hr hI h0 h1 h2 h3 _ _ _ h
set_option maxRecDepth 20000 in
set_option maxHeartbeats 4000000 in
theorem ok_X5_go {Y : YT} {l0 : Launch} {b : Nat} {r1 : Nat} {r2 : Nat} {a3 : Nat} {n3 : Nat} {p4 : Int32} {p5 : Int32} {μ : Mem} {Q : Int32 → Mem → Prop} (hI : YI Y) (h0 : isX5 Y b) (h1 : isX2 Y r1) (h2 : isX0 Y r2) (h3 : isI Y a3 n3) (h : PX5_go b r1 r2 a3 n3 p4 p5 μ Q) : MI l0 yX5_go WX5_go 4 101 Y [.ref (Y.ad b), .ref (Y.ad r1), .ref (Y.ad r2), .ref (Y.ad a3), .int p4, .int p5] μ Q := by
  refine mI_of (ty := .int) (cc := cX5_go) (maxL := 8) (by decide +kernel) rfl hI (Nat.le_of_ble_eq_true rfl) (fun X C hr => ?_)
  replace C : Cx X Y 8 cX5_go RX5 WX5_go (rmB 4 101) l0 := C
  refine g_lv (lv2 := [(0, .ref (Y.ad b)), (1, .ref (Y.ad r1)), (2, .ref (Y.ad r2)), (3, .ref (Y.ad a3)), (4, .int p4), (5, .int p5)]) [0, 1, 2, 3, 4, 5] ?_ rfl
  unfold PX5_go at h
  replace h := h (SX5_go_16 X Y b r1 r2 a3 n3 p4 p5) (fun v6 μ z => tX5_go_16 C hr hI h0 h1 h2 h3 v6 μ z)
  refine g_aload_n C 0 dX5_go_0 rfl ?_
  refine gf_RX5_12 C h0 dX5_go_1 ?_
  refine g_aload_n C 2 dX5_go_4 rfl ?_
  refine g_callVV C [.ref (Y.ad r2)] [] (ok_X0_beginRow hI (isX5_behind h0) h2 h) (cw_RX5_18 _) rfl dc_X0_beginRow ⟨Nat.le_of_ble_eq_true rfl, Nat.le_of_ble_eq_true rfl⟩ (isX0_lt (isX5_behind h0)) (isX0_sh (isX5_behind h0)) rfl rfl rfl rfl (Nat.le_of_ble_eq_true rfl) dX5_go_5 (fun m1 h => ?_)
  refine g_aload_n C 0 dX5_go_8 rfl ?_
  refine g_iconst C (v := (0 : Int32)) dX5_go_9 (by decide) ?_
  refine gp_RX5_22 C h0 dX5_go_10 ?_
  refine g_iconst C (v := (0 : Int32)) dX5_go_13 (by decide) ?_
  refine g_istore C [(6, .int ((0 : Int32))), (0, .ref (Y.ad b)), (1, .ref (Y.ad r1)), (2, .ref (Y.ad r2)), (3, .ref (Y.ad a3)), (4, .int p4), (5, .int p5)] dX5_go_14 (by decide) rfl ?_
  refine g_lv (lv2 := [(0, .ref (Y.ad b)), (1, .ref (Y.ad r1)), (2, .ref (Y.ad r2)), (3, .ref (Y.ad a3)), (4, .int p4), (5, .int p5), (6, .int ((0 : Int32)))]) [1, 2, 3, 4, 5, 6, 0] ?_ rfl
  exact h
def SX5_bearing_6 (X : XT) (Y : YT) (b : Nat) (r1 : Nat) (r2 : Nat) (a3 : Nat) (n3 : Nat) (p4 : Int32) : Int32 → Int32 → Mem → Prop := fun v5 v6 μ => G X Y 8 6 [(0, .ref (Y.ad b)), (1, .ref (Y.ad r1)), (2, .ref (Y.ad r2)), (3, .ref (Y.ad a3)), (4, .int p4), (5, .int v5), (6, .int v6)] [] μ
set_option maxRecDepth 20000 in
set_option maxHeartbeats 4000000 in
theorem tX5_bearing_57 {X : XT} {Y : YT} {l0 : Launch} {b : Nat} {r1 : Nat} {r2 : Nat} {a3 : Nat} {n3 : Nat} {p4 : Int32} {Q : Int32 → Mem → Prop} (C : Cx X Y 8 cX5_bearing RX5 WX5_bearing (rmB 5 128) l0) (hr : RI X Y cX5_bearing .int Q) (hI : YI Y) (h0 : isX5 Y b) (h1 : isX2 Y r1) (h2 : isX0 Y r2) (h3 : isI Y a3 n3) (v5 : Int32) (v6 : Int32) (μ : Mem) (h : nX5_bearing_57 b r1 r2 a3 n3 p4 Q (SX5_bearing_6 X Y b r1 r2 a3 n3 p4) v5 v6 μ) : G X Y 8 57 [(0, .ref (Y.ad b)), (1, .ref (Y.ad r1)), (2, .ref (Y.ad r2)), (3, .ref (Y.ad a3)), (4, .int p4), (5, .int v5), (6, .int v6)] [] μ := by
  unfold nX5_bearing_57 at h
  refine g_iinc C (v := v6 + 1) 6 [(6, .int (v6 + 1)), (0, .ref (Y.ad b)), (1, .ref (Y.ad r1)), (2, .ref (Y.ad r2)), (3, .ref (Y.ad a3)), (4, .int p4), (5, .int v5)] dX5_bearing_57 rfl rfl (by decide) rfl ?_
  refine g_goto C 6 dX5_bearing_60 (by decide) ?_
  refine g_lv (lv2 := [(0, .ref (Y.ad b)), (1, .ref (Y.ad r1)), (2, .ref (Y.ad r2)), (3, .ref (Y.ad a3)), (4, .int p4), (5, .int v5), (6, .int (v6 + 1))]) [1, 2, 3, 4, 5, 6, 0] ?_ rfl
  exact h
set_option maxRecDepth 20000 in
set_option maxHeartbeats 4000000 in
theorem tX5_bearing_6 {X : XT} {Y : YT} {l0 : Launch} {b : Nat} {r1 : Nat} {r2 : Nat} {a3 : Nat} {n3 : Nat} {p4 : Int32} {Q : Int32 → Mem → Prop} (C : Cx X Y 8 cX5_bearing RX5 WX5_bearing (rmB 5 128) l0) (hr : RI X Y cX5_bearing .int Q) (hI : YI Y) (h0 : isX5 Y b) (h1 : isX2 Y r1) (h2 : isX0 Y r2) (h3 : isI Y a3 n3) (v5 : Int32) (v6 : Int32) (μ : Mem) (h : nX5_bearing_6 b r1 r2 a3 n3 p4 Q (SX5_bearing_6 X Y b r1 r2 a3 n3 p4) v5 v6 μ) : G X Y 8 6 [(0, .ref (Y.ad b)), (1, .ref (Y.ad r1)), (2, .ref (Y.ad r2)), (3, .ref (Y.ad a3)), (4, .int p4), (5, .int v5), (6, .int v6)] [] μ := by
  unfold nX5_bearing_6 at h
  refine g_iload C 6 dX5_bearing_6 rfl ?_
  refine g_iconst C (v := (1 : Int32)) dX5_bearing_8 (by decide) ?_
  refine g_iload C 4 dX5_bearing_9 rfl ?_
  refine g_ishl C dX5_bearing_11 ?_
  refine g_icmp_ge C 63 dX5_bearing_12 (by decide) (fun c1 => ?_) (fun c1 => ?_)
  · replace h := h.1 c1
    refine g_iload C 5 dX5_bearing_63 rfl ?_
    exact hr _ _ _ _ _ dX5_bearing_65 rfl h
  · replace h := h.2 c1
    refine g_aload_n C 1 dX5_bearing_15 rfl ?_
    refine g_aload_n C 2 dX5_bearing_16 rfl ?_
    refine gf_RX5_37 C h2 dX5_bearing_17 ?_
    refine g_iload C 4 dX5_bearing_20 rfl ?_
    refine g_iload C 6 dX5_bearing_22 rfl ?_
    refine g_callSI C [.ref (Y.ad r1), .int (μ.1 r2 2), .int p4, .int v6] [] (ok_X5_weightOf hI h1 h) (cw_RX5_40 _) rfl dc_X5_weightOf ⟨Nat.le_of_ble_eq_true rfl, Nat.le_of_ble_eq_true rfl⟩ rfl (Nat.le_of_ble_eq_true rfl) dX5_bearing_24 (fun r3 m2 h => ?_)
    refine g_istore C [(7, .int r3), (0, .ref (Y.ad b)), (1, .ref (Y.ad r1)), (2, .ref (Y.ad r2)), (3, .ref (Y.ad a3)), (4, .int p4), (5, .int v5), (6, .int v6)] dX5_bearing_27 (by decide) rfl ?_
    refine g_iload C 0 dX5_bearing_29 rfl ?_
    refine g_if_le C 57 dX5_bearing_31 (by decide) (fun c4 => ?_) (fun c4 => ?_)
    · replace h := h.1 c4
      refine g_lv (lv2 := [(0, .ref (Y.ad b)), (1, .ref (Y.ad r1)), (2, .ref (Y.ad r2)), (3, .ref (Y.ad a3)), (4, .int p4), (5, .int v5), (6, .int v6)]) [1, 2, 3, 4, 5, 6, 7] ?_ rfl
      exact tX5_bearing_57 C hr hI h0 h1 h2 h3 _ _ _ h
    · replace h := h.2 c4
      refine g_aload_n C 1 dX5_bearing_34 rfl ?_
      refine g_aload_n C 2 dX5_bearing_35 rfl ?_
      refine g_aload_n C 3 dX5_bearing_36 rfl ?_
      refine g_aload_n C 4 dX5_bearing_37 rfl ?_
      refine g_iload C 5 dX5_bearing_38 rfl ?_
      refine g_iload C 7 dX5_bearing_40 rfl ?_
      refine g_callVI C [.ref (Y.ad r1), .ref (Y.ad r2), .ref (Y.ad a3), .int p4, .int v6] [] (ok_X5_go hI h0 h1 h2 h3 h) (cw_RX5_44 _) rfl dc_X5_go ⟨Nat.le_of_ble_eq_true rfl, Nat.le_of_ble_eq_true rfl⟩ (isX5_lt h0) (isX5_sh h0) rfl rfl rfl rfl (Nat.le_of_ble_eq_true rfl) dX5_bearing_42 (fun r6 m5 h => ?_)
      refine g_iload C 5 dX5_bearing_45 rfl ?_
      refine g_icmp_ne C 57 dX5_bearing_47 (by decide) (fun c7 => ?_) (fun c7 => ?_)
      · replace h := h.1 c7
        refine g_lv (lv2 := [(0, .ref (Y.ad b)), (1, .ref (Y.ad r1)), (2, .ref (Y.ad r2)), (3, .ref (Y.ad a3)), (4, .int p4), (5, .int v5), (6, .int v6)]) [1, 2, 3, 4, 5, 6, 7] ?_ rfl
        exact tX5_bearing_57 C hr hI h0 h1 h2 h3 _ _ _ h
      · replace h := h.2 c7
        refine g_iload C 6 dX5_bearing_50 rfl ?_
        refine g_iload C 0 dX5_bearing_52 rfl ?_
        refine g_iadd C dX5_bearing_54 ?_
        refine g_istore C [(5, .int (v5 + r3)), (7, .int r3), (0, .ref (Y.ad b)), (1, .ref (Y.ad r1)), (2, .ref (Y.ad r2)), (3, .ref (Y.ad a3)), (4, .int p4), (6, .int v6)] dX5_bearing_55 (by decide) rfl ?_
        refine g_lv (lv2 := [(0, .ref (Y.ad b)), (1, .ref (Y.ad r1)), (2, .ref (Y.ad r2)), (3, .ref (Y.ad a3)), (4, .int p4), (5, .int (v5 + r3)), (6, .int v6)]) [2, 3, 4, 5, 6, 0, 7] ?_ rfl
        exact tX5_bearing_57 C hr hI h0 h1 h2 h3 _ _ _ h
set_option maxRecDepth 20000 in
set_option maxHeartbeats 4000000 in
theorem ok_X5_bearing {Y : YT} {l0 : Launch} {b : Nat} {r1 : Nat} {r2 : Nat} {a3 : Nat} {n3 : Nat} {p4 : Int32} {μ : Mem} {Q : Int32 → Mem → Prop} (hI : YI Y) (h0 : isX5 Y b) (h1 : isX2 Y r1) (h2 : isX0 Y r2) (h3 : isI Y a3 n3) (h : PX5_bearing b r1 r2 a3 n3 p4 μ Q) : MI l0 yX5_bearing WX5_bearing 5 128 Y [.ref (Y.ad b), .ref (Y.ad r1), .ref (Y.ad r2), .ref (Y.ad a3), .int p4] μ Q := by
  refine mI_of (ty := .int) (cc := cX5_bearing) (maxL := 8) (by decide +kernel) rfl hI (Nat.le_of_ble_eq_true rfl) (fun X C hr => ?_)
  replace C : Cx X Y 8 cX5_bearing RX5 WX5_bearing (rmB 5 128) l0 := C
  refine g_lv (lv2 := [(0, .ref (Y.ad b)), (1, .ref (Y.ad r1)), (2, .ref (Y.ad r2)), (3, .ref (Y.ad a3)), (4, .int p4)]) [0, 1, 2, 3, 4] ?_ rfl
  unfold PX5_bearing at h
  replace h := h (SX5_bearing_6 X Y b r1 r2 a3 n3 p4) (fun v5 v6 μ z => tX5_bearing_6 C hr hI h0 h1 h2 h3 v5 v6 μ z)
  refine g_iconst C (v := (0 : Int32)) dX5_bearing_0 (by decide) ?_
  refine g_istore C [(5, .int ((0 : Int32))), (0, .ref (Y.ad b)), (1, .ref (Y.ad r1)), (2, .ref (Y.ad r2)), (3, .ref (Y.ad a3)), (4, .int p4)] dX5_bearing_1 (by decide) rfl ?_
  refine g_iconst C (v := (0 : Int32)) dX5_bearing_3 (by decide) ?_
  refine g_istore C [(6, .int ((0 : Int32))), (5, .int ((0 : Int32))), (0, .ref (Y.ad b)), (1, .ref (Y.ad r1)), (2, .ref (Y.ad r2)), (3, .ref (Y.ad a3)), (4, .int p4)] dX5_bearing_4 (by decide) rfl ?_
  refine g_lv (lv2 := [(0, .ref (Y.ad b)), (1, .ref (Y.ad r1)), (2, .ref (Y.ad r2)), (3, .ref (Y.ad a3)), (4, .int p4), (5, .int ((0 : Int32))), (6, .int ((0 : Int32)))]) [2, 3, 4, 5, 6, 1, 0] ?_ rfl
  exact h
set_option maxRecDepth 20000 in
set_option maxHeartbeats 4000000 in
theorem ok_X3_judgeSurest {Y : YT} {l0 : Launch} {b : Nat} {p1 : Int32} {μ : Mem} {Q : Mem → Prop} (hI : YI Y) (h0 : isX3 Y b) (h : PX3_judgeSurest b p1 μ Q) : MV l0 yX3_judgeSurest WX3_judgeSurest 1 18 Y [.ref (Y.ad b), .int p1] μ Q := by
  refine mV_of (cc := cX3_judgeSurest) (maxL := 2) (by decide +kernel) rfl hI (Nat.le_of_ble_eq_true rfl) (fun X C hr => ?_)
  replace C : Cx X Y 2 cX3_judgeSurest RX3 WX3_judgeSurest (rmB 1 18) l0 := C
  refine g_lv (lv2 := [(0, .ref (Y.ad b)), (1, .int p1)]) [0, 1] ?_ rfl
  unfold PX3_judgeSurest at h
  refine g_iload_n C 1 dX3_judgeSurest_0 rfl ?_
  refine g_aload_n C 0 dX3_judgeSurest_1 rfl ?_
  refine gf_RX3_73 C h0 dX3_judgeSurest_2 ?_
  refine g_icmp_le C 27 dX3_judgeSurest_5 (by decide) (fun c1 => ?_) (fun c1 => ?_)
  · replace h := h.1 c1
    exact hr _ _ _ _ dX3_judgeSurest_27 h
  · replace h := h.2 c1
    refine g_aload_n C 0 dX3_judgeSurest_8 rfl ?_
    refine g_iload_n C 1 dX3_judgeSurest_9 rfl ?_
    refine gp_RX3_73 C h0 dX3_judgeSurest_10 ?_
    refine g_aload_n C 0 dX3_judgeSurest_13 rfl ?_
    refine gf_RX3_18 C h0 dX3_judgeSurest_14 ?_
    refine g_iconst C (v := (0 : Int32)) dX3_judgeSurest_17 (by decide) ?_
    refine g_aload_n C 0 dX3_judgeSurest_18 rfl ?_
    refine gf_RX3_35 C h0 dX3_judgeSurest_19 ?_
    refine g_iconst C (v := (0 : Int32)) dX3_judgeSurest_22 (by decide) ?_
    refine g_iconst C (v := (5 : Int32)) dX3_judgeSurest_23 (by decide) ?_
    refine g_copy C (List.mem_cons_of_mem _ mM_RX3_154) (List.mem_cons_of_mem _ mLib_copy_n) (List.mem_cons_of_mem _ mLib_copy_s) (List.mem_cons_of_mem _ mLib_sys) (isX3_places h0).1 (isX3_surestRow h0).1 (isX3_places h0).2 (isX3_surestRow h0).2 (by decide) (by decide) (by decide) (by decide) (by decide) (Nat.le_of_ble_eq_true rfl) (Nat.le_of_ble_eq_true rfl) dX3_judgeSurest_24 ?_
    refine g_mem (fun m2 em2 => ?_)
    replace h := h m2 em2
    exact hr _ _ _ _ dX3_judgeSurest_27 h
def SX3_lookAtRows_27 (X : XT) (Y : YT) (b : Nat) (r1 : Nat) (r2 : Nat) (p3 : Int32) (p4 : Int32) : Int32 → Int32 → Mem → Prop := fun v5 v6 μ => G X Y 8 27 [(0, .ref (Y.ad b)), (1, .ref (Y.ad r1)), (2, .ref (Y.ad r2)), (3, .int p3), (4, .int p4), (5, .int v5), (6, .int v6)] [] μ
set_option maxRecDepth 20000 in
set_option maxHeartbeats 4000000 in
theorem tX3_lookAtRows_131 {X : XT} {Y : YT} {l0 : Launch} {b : Nat} {r1 : Nat} {r2 : Nat} {p3 : Int32} {p4 : Int32} {Q : Mem → Prop} (C : Cx X Y 8 cX3_lookAtRows RX3 WX3_lookAtRows (rmB 6 155) l0) (hr : RV X Y cX3_lookAtRows Q) (hI : YI Y) (h0 : isX3 Y b) (h1 : isX2 Y r1) (h2 : isX0 Y r2) (v5 : Int32) (v6 : Int32) (μ : Mem) (h : nX3_lookAtRows_131 b r1 r2 p3 p4 Q (SX3_lookAtRows_27 X Y b r1 r2 p3 p4) v5 v6 μ) : G X Y 8 131 [(0, .ref (Y.ad b)), (1, .ref (Y.ad r1)), (2, .ref (Y.ad r2)), (3, .int p3), (4, .int p4), (5, .int v5), (6, .int v6)] [] μ := by
  unfold nX3_lookAtRows_131 at h
  refine g_iinc C (v := v6 + 1) 6 [(6, .int (v6 + 1)), (0, .ref (Y.ad b)), (1, .ref (Y.ad r1)), (2, .ref (Y.ad r2)), (3, .int p3), (4, .int p4), (5, .int v5)] dX3_lookAtRows_131 rfl rfl (by decide) rfl ?_
  refine g_goto C 27 dX3_lookAtRows_134 (by decide) ?_
  refine g_lv (lv2 := [(0, .ref (Y.ad b)), (1, .ref (Y.ad r1)), (2, .ref (Y.ad r2)), (3, .int p3), (4, .int p4), (5, .int v5), (6, .int (v6 + 1))]) [1, 2, 3, 4, 5, 6, 0] ?_ rfl
  exact h
set_option maxRecDepth 20000 in
set_option maxHeartbeats 4000000 in
theorem tX3_lookAtRows_27 {X : XT} {Y : YT} {l0 : Launch} {b : Nat} {r1 : Nat} {r2 : Nat} {p3 : Int32} {p4 : Int32} {Q : Mem → Prop} (C : Cx X Y 8 cX3_lookAtRows RX3 WX3_lookAtRows (rmB 6 155) l0) (hr : RV X Y cX3_lookAtRows Q) (hI : YI Y) (h0 : isX3 Y b) (h1 : isX2 Y r1) (h2 : isX0 Y r2) (v5 : Int32) (v6 : Int32) (μ : Mem) (h : nX3_lookAtRows_27 b r1 r2 p3 p4 Q (SX3_lookAtRows_27 X Y b r1 r2 p3 p4) v5 v6 μ) : G X Y 8 27 [(0, .ref (Y.ad b)), (1, .ref (Y.ad r1)), (2, .ref (Y.ad r2)), (3, .int p3), (4, .int p4), (5, .int v5), (6, .int v6)] [] μ := by
  unfold nX3_lookAtRows_27 at h
  refine g_iload C 6 dX3_lookAtRows_27 rfl ?_
  refine g_ldc C (v := (1000000 : Int32)) (List.mem_cons_of_mem _ mK_RX3_48) dX3_lookAtRows_29 ?_
  refine g_icmp_ge C 137 dX3_lookAtRows_31 (by decide) (fun c6 => ?_) (fun c6 => ?_)
  · replace h := h.1 c6
    exact hr _ _ _ _ dX3_lookAtRows_137 h
  · replace h := h.2 c6
    refine g_iload C 5 dX3_lookAtRows_34 rfl ?_
    refine g_if_lt C 137 dX3_lookAtRows_36 (by decide) (fun c7 => ?_) (fun c7 => ?_)
    · replace h := h.1 c7
      exact hr _ _ _ _ dX3_lookAtRows_137 h
    · replace h := h.2 c7
      refine g_aload_n C 0 dX3_lookAtRows_39 rfl ?_
      refine g_aload_n C 1 dX3_lookAtRows_40 rfl ?_
      refine g_iload C 5 dX3_lookAtRows_41 rfl ?_
      refine g_callVI C [.ref (Y.ad r1), .int v5] [] (ok_X3_following hI h0 h1 h) (cw_RX3_49 _) rfl dc_X3_following ⟨Nat.le_of_ble_eq_true rfl, Nat.le_of_ble_eq_true rfl⟩ (isX3_lt h0) (isX3_sh h0) rfl rfl rfl rfl (Nat.le_of_ble_eq_true rfl) dX3_lookAtRows_43 (fun r9 m8 h => ?_)
      refine g_istore C [(7, .int r9), (0, .ref (Y.ad b)), (1, .ref (Y.ad r1)), (2, .ref (Y.ad r2)), (3, .int p3), (4, .int p4), (5, .int v5), (6, .int v6)] dX3_lookAtRows_46 (by decide) rfl ?_
      refine g_iload C 0 dX3_lookAtRows_48 rfl ?_
      refine g_bipush C (v := (-2 : Int32)) dX3_lookAtRows_50 (by decide) ?_
      refine g_icmp_ne C 61 dX3_lookAtRows_52 (by decide) (fun c10 => ?_) (fun c10 => ?_)
      · replace h := h.1 c10
        refine g_aload_n C 1 dX3_lookAtRows_61 rfl ?_
        refine gf_RX3_18 C h0 dX3_lookAtRows_62 ?_
        refine g_iload C 6 dX3_lookAtRows_65 rfl ?_
        refine g_iload C 0 dX3_lookAtRows_67 rfl ?_
        refine g_iast C (isX3_places h0).1 (isX3_places h0).2 h.1 dX3_lookAtRows_69 ?_
        replace h := h.2
        refine g_aload_n C 1 dX3_lookAtRows_70 rfl ?_
        refine g_aload_n C 2 dX3_lookAtRows_71 rfl ?_
        refine g_iload C 6 dX3_lookAtRows_72 rfl ?_
        refine g_iload C 0 dX3_lookAtRows_74 rfl ?_
        refine g_callVV C [.ref (Y.ad r1), .int v5, .int r9] [] (ok_X3_takeDay hI h0 h1 h) (cw_RX3_53 _) rfl dc_X3_takeDay ⟨Nat.le_of_ble_eq_true rfl, Nat.le_of_ble_eq_true rfl⟩ (isX3_lt h0) (isX3_sh h0) rfl rfl rfl rfl (Nat.le_of_ble_eq_true rfl) dX3_lookAtRows_76 (fun m11 h => ?_)
        refine g_iload C 6 dX3_lookAtRows_79 rfl ?_
        refine g_iconst C (v := (1 : Int32)) dX3_lookAtRows_81 (by decide) ?_
        refine g_iadd C dX3_lookAtRows_82 ?_
        refine g_iload_n C 4 dX3_lookAtRows_83 rfl ?_
        refine g_icmp_ge C 101 dX3_lookAtRows_84 (by decide) (fun c13 => ?_) (fun c13 => ?_)
        · replace h := h.1 c13
          refine g_aload_n C 1 dX3_lookAtRows_101 rfl ?_
          refine g_aload_n C 2 dX3_lookAtRows_102 rfl ?_
          refine g_aload_n C 3 dX3_lookAtRows_103 rfl ?_
          refine g_iload_n C 4 dX3_lookAtRows_104 rfl ?_
          refine g_callVV C [.ref (Y.ad r1), .ref (Y.ad r2), .int p3] [] (ok_X3_judge hI h0 h1 h2 h) (cw_RX3_57 _) rfl dc_X3_judge ⟨Nat.le_of_ble_eq_true rfl, Nat.le_of_ble_eq_true rfl⟩ (isX3_lt h0) (isX3_sh h0) rfl rfl rfl rfl (Nat.le_of_ble_eq_true rfl) dX3_lookAtRows_105 (fun m14 h => ?_)
          refine g_iload C 5 dX3_lookAtRows_108 rfl ?_
          refine g_if_eq C 131 dX3_lookAtRows_110 (by decide) (fun c16 => ?_) (fun c16 => ?_)
          · replace h := h.1 c16
            refine g_lv (lv2 := [(0, .ref (Y.ad b)), (1, .ref (Y.ad r1)), (2, .ref (Y.ad r2)), (3, .int p3), (4, .int p4), (5, .int v5), (6, .int v6)]) [1, 2, 3, 4, 5, 6, 7] ?_ rfl
            exact tX3_lookAtRows_131 C hr hI h0 h1 h2 _ _ _ h
          · replace h := h.2 c16
            refine g_aload_n C 1 dX3_lookAtRows_113 rfl ?_
            refine g_aload_n C 1 dX3_lookAtRows_114 rfl ?_
            refine gf_RX3_25 C h0 dX3_lookAtRows_115 ?_
            refine g_aload_n C 2 dX3_lookAtRows_118 rfl ?_
            refine g_aload_n C 3 dX3_lookAtRows_119 rfl ?_
            refine g_aload_n C 1 dX3_lookAtRows_120 rfl ?_
            refine gf_RX3_18 C h0 dX3_lookAtRows_121 ?_
            refine g_iload_n C 4 dX3_lookAtRows_124 rfl ?_
            refine g_callVI C [.ref (Y.ad r1), .ref (Y.ad r2), .ref (Y.ad (b + 26)), .int p3] [.ref (Y.ad b)] (ok_X5_bearing hI (isX3_walk h0) h1 h2 (isX3_places h0) h) (cw_RX3_61 _) rfl dc_X5_bearing ⟨Nat.le_of_ble_eq_true rfl, Nat.le_of_ble_eq_true rfl⟩ (isX5_lt (isX3_walk h0)) (isX5_sh (isX3_walk h0)) rfl rfl rfl rfl (Nat.le_of_ble_eq_true rfl) dX3_lookAtRows_125 (fun r18 m17 h => ?_)
            refine g_callVV C [.int r18] [] (ok_X3_judgeSurest hI h0 h) (cw_RX3_65 _) rfl dc_X3_judgeSurest ⟨Nat.le_of_ble_eq_true rfl, Nat.le_of_ble_eq_true rfl⟩ (isX3_lt h0) (isX3_sh h0) rfl rfl rfl rfl (Nat.le_of_ble_eq_true rfl) dX3_lookAtRows_128 (fun m19 h => ?_)
            refine g_lv (lv2 := [(0, .ref (Y.ad b)), (1, .ref (Y.ad r1)), (2, .ref (Y.ad r2)), (3, .int p3), (4, .int p4), (5, .int v5), (6, .int v6)]) [1, 2, 3, 4, 5, 6, 7] ?_ rfl
            exact tX3_lookAtRows_131 C hr hI h0 h1 h2 _ _ _ h
        · replace h := h.2 c13
          refine g_iinc C (v := v5 + 1) 6 [(5, .int (v5 + 1)), (7, .int r9), (0, .ref (Y.ad b)), (1, .ref (Y.ad r1)), (2, .ref (Y.ad r2)), (3, .int p3), (4, .int p4), (6, .int v6)] dX3_lookAtRows_87 rfl rfl (by decide) rfl ?_
          refine g_aload_n C 2 dX3_lookAtRows_90 rfl ?_
          refine gf_RX3_18 C h0 dX3_lookAtRows_91 ?_
          refine g_iload C 0 dX3_lookAtRows_94 rfl ?_
          refine g_iconst C (v := (-1 : Int32)) dX3_lookAtRows_96 (by decide) ?_
          refine g_iast C (isX3_places h0).1 (isX3_places h0).2 h.1 dX3_lookAtRows_97 ?_
          replace h := h.2
          refine g_goto C 131 dX3_lookAtRows_98 (by decide) ?_
          refine g_lv (lv2 := [(0, .ref (Y.ad b)), (1, .ref (Y.ad r1)), (2, .ref (Y.ad r2)), (3, .int p3), (4, .int p4), (5, .int (v5 + 1)), (6, .int v6)]) [2, 3, 4, 5, 6, 0, 7] ?_ rfl
          exact tX3_lookAtRows_131 C hr hI h0 h1 h2 _ _ _ h
      · replace h := h.2 c10
        refine g_iinc C (v := v5 + (-1)) 6 [(5, .int (v5 + (-1))), (7, .int r9), (0, .ref (Y.ad b)), (1, .ref (Y.ad r1)), (2, .ref (Y.ad r2)), (3, .int p3), (4, .int p4), (6, .int v6)] dX3_lookAtRows_55 rfl rfl (by decide) rfl ?_
        refine g_goto C 131 dX3_lookAtRows_58 (by decide) ?_
        refine g_lv (lv2 := [(0, .ref (Y.ad b)), (1, .ref (Y.ad r1)), (2, .ref (Y.ad r2)), (3, .int p3), (4, .int p4), (5, .int (v5 + (-1))), (6, .int v6)]) [2, 3, 4, 5, 6, 0, 7] ?_ rfl
        exact tX3_lookAtRows_131 C hr hI h0 h1 h2 _ _ _ h
set_option maxRecDepth 20000 in
set_option maxHeartbeats 4000000 in
theorem ok_X3_lookAtRows {Y : YT} {l0 : Launch} {b : Nat} {r1 : Nat} {r2 : Nat} {p3 : Int32} {p4 : Int32} {μ : Mem} {Q : Mem → Prop} (hI : YI Y) (h0 : isX3 Y b) (h1 : isX2 Y r1) (h2 : isX0 Y r2) (h : PX3_lookAtRows b r1 r2 p3 p4 μ Q) : MV l0 yX3_lookAtRows WX3_lookAtRows 6 155 Y [.ref (Y.ad b), .ref (Y.ad r1), .ref (Y.ad r2), .int p3, .int p4] μ Q := by
  refine mV_of (cc := cX3_lookAtRows) (maxL := 8) (by decide +kernel) rfl hI (Nat.le_of_ble_eq_true rfl) (fun X C hr => ?_)
  replace C : Cx X Y 8 cX3_lookAtRows RX3 WX3_lookAtRows (rmB 6 155) l0 := C
  refine g_lv (lv2 := [(0, .ref (Y.ad b)), (1, .ref (Y.ad r1)), (2, .ref (Y.ad r2)), (3, .int p3), (4, .int p4)]) [0, 1, 2, 3, 4] ?_ rfl
  unfold PX3_lookAtRows at h
  replace h := h (SX3_lookAtRows_27 X Y b r1 r2 p3 p4) (fun v5 v6 μ z => tX3_lookAtRows_27 C hr hI h0 h1 h2 v5 v6 μ z)
  refine g_aload_n C 0 dX3_lookAtRows_0 rfl ?_
  refine g_callVV C [] [] (ok_X3_forget hI h0 h) (cw_RX3_41 _) rfl dc_X3_forget ⟨Nat.le_of_ble_eq_true rfl, Nat.le_of_ble_eq_true rfl⟩ (isX3_lt h0) (isX3_sh h0) rfl rfl rfl rfl (Nat.le_of_ble_eq_true rfl) dX3_lookAtRows_1 (fun m1 h => ?_)
  refine g_aload_n C 0 dX3_lookAtRows_4 rfl ?_
  refine gf_RX3_12 C h0 dX3_lookAtRows_5 ?_
  refine g_iconst C (v := (0 : Int32)) dX3_lookAtRows_8 (by decide) ?_
  refine g_aald C (isX3_steps h0).1 (isX3_steps h0).2.1 h.1 dX3_lookAtRows_9 ?_
  have k3 := h.1
  replace h := h.2
  refine g_aload_n C 2 dX3_lookAtRows_10 rfl ?_
  refine g_callVV C [.ref (Y.ad r2)] [] (ok_X0_beginRow hI ((isX3_steps h0).2.2 _ (vpin_lt k3)) h2 h) (cw_RX3_44 _) rfl dc_X0_beginRow ⟨Nat.le_of_ble_eq_true rfl, Nat.le_of_ble_eq_true rfl⟩ (isX0_lt ((isX3_steps h0).2.2 _ (vpin_lt k3))) (isX0_sh ((isX3_steps h0).2.2 _ (vpin_lt k3))) rfl rfl rfl rfl (Nat.le_of_ble_eq_true rfl) dX3_lookAtRows_11 (fun m4 h => ?_)
  refine g_aload_n C 0 dX3_lookAtRows_14 rfl ?_
  refine gf_RX3_18 C h0 dX3_lookAtRows_15 ?_
  refine g_iconst C (v := (0 : Int32)) dX3_lookAtRows_18 (by decide) ?_
  refine g_iconst C (v := (-1 : Int32)) dX3_lookAtRows_19 (by decide) ?_
  refine g_iast C (isX3_places h0).1 (isX3_places h0).2 h.1 dX3_lookAtRows_20 ?_
  replace h := h.2
  refine g_iconst C (v := (0 : Int32)) dX3_lookAtRows_21 (by decide) ?_
  refine g_istore C [(5, .int ((0 : Int32))), (0, .ref (Y.ad b)), (1, .ref (Y.ad r1)), (2, .ref (Y.ad r2)), (3, .int p3), (4, .int p4)] dX3_lookAtRows_22 (by decide) rfl ?_
  refine g_iconst C (v := (0 : Int32)) dX3_lookAtRows_24 (by decide) ?_
  refine g_istore C [(6, .int ((0 : Int32))), (5, .int ((0 : Int32))), (0, .ref (Y.ad b)), (1, .ref (Y.ad r1)), (2, .ref (Y.ad r2)), (3, .int p3), (4, .int p4)] dX3_lookAtRows_25 (by decide) rfl ?_
  refine g_lv (lv2 := [(0, .ref (Y.ad b)), (1, .ref (Y.ad r1)), (2, .ref (Y.ad r2)), (3, .int p3), (4, .int p4), (5, .int ((0 : Int32))), (6, .int ((0 : Int32)))]) [2, 3, 4, 5, 6, 1, 0] ?_ rfl
  exact h
set_option maxRecDepth 20000 in
set_option maxHeartbeats 4000000 in
theorem ok_X4_isNothing {Y : YT} {l0 : Launch} {b : Nat} {p1 : Int32} {μ : Mem} {Q : Int32 → Mem → Prop} (hI : YI Y) (h0 : isX4 Y b) (h : PX4_isNothing b p1 μ Q) : MI l0 yX4_isNothing WX4_isNothing 0 0 Y [.ref (Y.ad b), .int p1] μ Q := by
  refine mI_of (ty := .boolean) (cc := cX4_isNothing) (maxL := 2) (by decide +kernel) rfl hI (Nat.le_of_ble_eq_true rfl) (fun X C hr => ?_)
  replace C : Cx X Y 2 cX4_isNothing RX4 WX4_isNothing (rmB 0 0) l0 := C
  refine g_lv (lv2 := [(0, .ref (Y.ad b)), (1, .int p1)]) [0, 1] ?_ rfl
  unfold PX4_isNothing at h
  refine g_aload_n C 0 dX4_isNothing_0 rfl ?_
  refine gf_RX4_9 C h0 dX4_isNothing_1 ?_
  refine g_iload_n C 1 dX4_isNothing_4 rfl ?_
  refine g_iald C (isX4_laneOf h0).1 (isX4_laneOf h0).2 h.1 dX4_isNothing_5 ?_
  replace h := h.2
  refine g_bipush C (v := (-4 : Int32)) dX4_isNothing_6 (by decide) ?_
  refine g_icmp_ne C 15 dX4_isNothing_8 (by decide) (fun c1 => ?_) (fun c1 => ?_)
  · replace h := h.1 c1
    refine g_iconst C (v := (0 : Int32)) dX4_isNothing_15 (by decide) ?_
    exact hr _ _ _ _ _ dX4_isNothing_16 rfl h
  · replace h := h.2 c1
    refine g_iconst C (v := (1 : Int32)) dX4_isNothing_11 (by decide) ?_
    refine g_goto C 16 dX4_isNothing_12 (by decide) ?_
    exact hr _ _ _ _ _ dX4_isNothing_16 rfl h
def SX4_begin_17 (X : XT) (Y : YT) (b : Nat) (p1 : Int32) (p2 : Int32) (p3 : Int32) : Int32 → Mem → Prop := fun v4 μ => G X Y 5 17 [(0, .ref (Y.ad b)), (1, .int p1), (2, .int p2), (3, .int p3), (4, .int v4)] [] μ
set_option maxRecDepth 20000 in
set_option maxHeartbeats 4000000 in
theorem tX4_begin_17 {X : XT} {Y : YT} {l0 : Launch} {b : Nat} {p1 : Int32} {p2 : Int32} {p3 : Int32} {Q : Mem → Prop} (C : Cx X Y 5 cX4_begin RX4 WX4_begin (rmB 0 0) l0) (hr : RV X Y cX4_begin Q) (hI : YI Y) (h0 : isX4 Y b) (v4 : Int32) (μ : Mem) (h : nX4_begin_17 b p1 p2 p3 Q (SX4_begin_17 X Y b p1 p2 p3) v4 μ) : G X Y 5 17 [(0, .ref (Y.ad b)), (1, .int p1), (2, .int p2), (3, .int p3), (4, .int v4)] [] μ := by
  unfold nX4_begin_17 at h
  refine g_iload C 4 dX4_begin_17 rfl ?_
  refine g_bipush C (v := (40 : Int32)) dX4_begin_19 (by decide) ?_
  refine g_icmp_ge C 43 dX4_begin_21 (by decide) (fun c2 => ?_) (fun c2 => ?_)
  · replace h := h.1 c2
    exact hr _ _ _ _ dX4_begin_43 h
  · replace h := h.2 c2
    refine g_aload_n C 0 dX4_begin_24 rfl ?_
    refine gf_RX4_18 C h0 dX4_begin_25 ?_
    refine g_iload_n C 1 dX4_begin_28 rfl ?_
    refine g_bipush C (v := (40 : Int32)) dX4_begin_29 (by decide) ?_
    refine g_imul C dX4_begin_31 ?_
    refine g_iload C 4 dX4_begin_32 rfl ?_
    refine g_iadd C dX4_begin_34 ?_
    refine g_iconst C (v := (0 : Int32)) dX4_begin_35 (by decide) ?_
    refine g_iast C (isX4_cells h0).1 (isX4_cells h0).2 h.1 dX4_begin_36 ?_
    replace h := h.2
    refine g_iinc C (v := v4 + 1) 4 [(4, .int (v4 + 1)), (0, .ref (Y.ad b)), (1, .int p1), (2, .int p2), (3, .int p3)] dX4_begin_37 rfl rfl (by decide) rfl ?_
    refine g_goto C 17 dX4_begin_40 (by decide) ?_
    refine g_lv (lv2 := [(0, .ref (Y.ad b)), (1, .int p1), (2, .int p2), (3, .int p3), (4, .int (v4 + 1))]) [1, 2, 3, 4, 0] ?_ rfl
    exact h
set_option maxRecDepth 20000 in
set_option maxHeartbeats 4000000 in
theorem ok_X4_begin {Y : YT} {l0 : Launch} {b : Nat} {p1 : Int32} {p2 : Int32} {p3 : Int32} {μ : Mem} {Q : Mem → Prop} (hI : YI Y) (h0 : isX4 Y b) (h : PX4_begin b p1 p2 p3 μ Q) : MV l0 yX4_begin WX4_begin 0 0 Y [.ref (Y.ad b), .int p1, .int p2, .int p3] μ Q := by
  refine mV_of (cc := cX4_begin) (maxL := 5) (by decide +kernel) rfl hI (Nat.le_of_ble_eq_true rfl) (fun X C hr => ?_)
  replace C : Cx X Y 5 cX4_begin RX4 WX4_begin (rmB 0 0) l0 := C
  refine g_lv (lv2 := [(0, .ref (Y.ad b)), (1, .int p1), (2, .int p2), (3, .int p3)]) [0, 1, 2, 3] ?_ rfl
  unfold PX4_begin at h
  replace h := h (SX4_begin_17 X Y b p1 p2 p3) (fun v4 μ z => tX4_begin_17 C hr hI h0 v4 μ z)
  refine g_aload_n C 0 dX4_begin_0 rfl ?_
  refine gf_RX4_9 C h0 dX4_begin_1 ?_
  refine g_iload_n C 1 dX4_begin_4 rfl ?_
  refine g_iload_n C 2 dX4_begin_5 rfl ?_
  refine g_iast C (isX4_laneOf h0).1 (isX4_laneOf h0).2 h.1 dX4_begin_6 ?_
  replace h := h.2
  refine g_aload_n C 0 dX4_begin_7 rfl ?_
  refine gf_RX4_15 C h0 dX4_begin_8 ?_
  refine g_iload_n C 1 dX4_begin_11 rfl ?_
  refine g_iload_n C 3 dX4_begin_12 rfl ?_
  refine g_iast C (isX4_cellCount h0).1 (isX4_cellCount h0).2 h.1 dX4_begin_13 ?_
  replace h := h.2
  refine g_mem (fun m1 em1 => ?_)
  replace h := h m1 em1
  refine g_iconst C (v := (0 : Int32)) dX4_begin_14 (by decide) ?_
  refine g_istore C [(4, .int ((0 : Int32))), (0, .ref (Y.ad b)), (1, .int p1), (2, .int p2), (3, .int p3)] dX4_begin_15 (by decide) rfl ?_
  refine g_lv (lv2 := [(0, .ref (Y.ad b)), (1, .int p1), (2, .int p2), (3, .int p3), (4, .int ((0 : Int32)))]) [1, 2, 3, 4, 0] ?_ rfl
  exact h
set_option maxRecDepth 20000 in
set_option maxHeartbeats 4000000 in
theorem ok_X4_setCell {Y : YT} {l0 : Launch} {b : Nat} {p1 : Int32} {p2 : Int32} {p3 : Int32} {μ : Mem} {Q : Mem → Prop} (hI : YI Y) (h0 : isX4 Y b) (h : PX4_setCell b p1 p2 p3 μ Q) : MV l0 yX4_setCell WX4_setCell 0 0 Y [.ref (Y.ad b), .int p1, .int p2, .int p3] μ Q := by
  refine mV_of (cc := cX4_setCell) (maxL := 4) (by decide +kernel) rfl hI (Nat.le_of_ble_eq_true rfl) (fun X C hr => ?_)
  replace C : Cx X Y 4 cX4_setCell RX4 WX4_setCell (rmB 0 0) l0 := C
  refine g_lv (lv2 := [(0, .ref (Y.ad b)), (1, .int p1), (2, .int p2), (3, .int p3)]) [0, 1, 2, 3] ?_ rfl
  unfold PX4_setCell at h
  refine g_aload_n C 0 dX4_setCell_0 rfl ?_
  refine gf_RX4_18 C h0 dX4_setCell_1 ?_
  refine g_iload_n C 1 dX4_setCell_4 rfl ?_
  refine g_bipush C (v := (40 : Int32)) dX4_setCell_5 (by decide) ?_
  refine g_imul C dX4_setCell_7 ?_
  refine g_iload_n C 2 dX4_setCell_8 rfl ?_
  refine g_iadd C dX4_setCell_9 ?_
  refine g_aload_n C 0 dX4_setCell_10 rfl ?_
  refine gf_RX4_9 C h0 dX4_setCell_11 ?_
  refine g_iload_n C 1 dX4_setCell_14 rfl ?_
  refine g_iald C (isX4_laneOf h0).1 (isX4_laneOf h0).2 h.1 dX4_setCell_15 ?_
  replace h := h.2
  refine g_if_ne C 24 dX4_setCell_16 (by decide) (fun c1 => ?_) (fun c1 => ?_)
  · replace h := h.1 c1
    refine g_aload_n C 0 dX4_setCell_24 rfl ?_
    refine gf_RX4_9 C h0 dX4_setCell_25 ?_
    refine g_iload_n C 1 dX4_setCell_28 rfl ?_
    refine g_iald C (isX4_laneOf h0).1 (isX4_laneOf h0).2 h.1 dX4_setCell_29 ?_
    replace h := h.2
    refine g_iconst C (v := (1 : Int32)) dX4_setCell_30 (by decide) ?_
    refine g_icmp_ne C 39 dX4_setCell_31 (by decide) (fun c2 => ?_) (fun c2 => ?_)
    · replace h := h.1 c2
      refine g_iload_n C 3 dX4_setCell_39 rfl ?_
      refine g_iast C (isX4_cells h0).1 (isX4_cells h0).2 h.1 dX4_setCell_40 ?_
      replace h := h.2
      exact hr _ _ _ _ dX4_setCell_41 h
    · replace h := h.2 c2
      refine g_iload_n C 3 dX4_setCell_34 rfl ?_
      refine g_i2s C dX4_setCell_35 ?_
      refine g_goto C 40 dX4_setCell_36 (by decide) ?_
      refine g_iast C (isX4_cells h0).1 (isX4_cells h0).2 h.1 dX4_setCell_40 ?_
      replace h := h.2
      exact hr _ _ _ _ dX4_setCell_41 h
  · replace h := h.2 c1
    refine g_iload_n C 3 dX4_setCell_19 rfl ?_
    refine g_i2b C dX4_setCell_20 ?_
    refine g_goto C 40 dX4_setCell_21 (by decide) ?_
    refine g_iast C (isX4_cells h0).1 (isX4_cells h0).2 h.1 dX4_setCell_40 ?_
    replace h := h.2
    exact hr _ _ _ _ dX4_setCell_41 h
set_option maxRecDepth 20000 in
set_option maxHeartbeats 4000000 in
theorem ok_X4_cellAt {Y : YT} {l0 : Launch} {b : Nat} {p1 : Int32} {p2 : Int32} {μ : Mem} {Q : Int32 → Mem → Prop} (hI : YI Y) (h0 : isX4 Y b) (h : PX4_cellAt b p1 p2 μ Q) : MI l0 yX4_cellAt WX4_cellAt 0 0 Y [.ref (Y.ad b), .int p1, .int p2] μ Q := by
  refine mI_of (ty := .int) (cc := cX4_cellAt) (maxL := 3) (by decide +kernel) rfl hI (Nat.le_of_ble_eq_true rfl) (fun X C hr => ?_)
  replace C : Cx X Y 3 cX4_cellAt RX4 WX4_cellAt (rmB 0 0) l0 := C
  refine g_lv (lv2 := [(0, .ref (Y.ad b)), (1, .int p1), (2, .int p2)]) [0, 1, 2] ?_ rfl
  unfold PX4_cellAt at h
  refine g_aload_n C 0 dX4_cellAt_0 rfl ?_
  refine gf_RX4_18 C h0 dX4_cellAt_1 ?_
  refine g_iload_n C 1 dX4_cellAt_4 rfl ?_
  refine g_bipush C (v := (40 : Int32)) dX4_cellAt_5 (by decide) ?_
  refine g_imul C dX4_cellAt_7 ?_
  refine g_iload_n C 2 dX4_cellAt_8 rfl ?_
  refine g_iadd C dX4_cellAt_9 ?_
  refine g_iald C (isX4_cells h0).1 (isX4_cells h0).2 h.1 dX4_cellAt_10 ?_
  replace h := h.2
  exact hr _ _ _ _ _ dX4_cellAt_11 rfl h
set_option maxRecDepth 20000 in
set_option maxHeartbeats 4000000 in
theorem ok_X4_faultAsOf {Y : YT} {l0 : Launch} {b : Nat} {p1 : Int32} {p2 : Int32} {μ : Mem} {Q : Int32 → Mem → Prop} (hI : YI Y) (h0 : isX4 Y b) (h : PX4_faultAsOf b p1 p2 μ Q) : MI l0 yX4_faultAsOf WX4_faultAsOf 1 21 Y [.ref (Y.ad b), .int p1, .int p2] μ Q := by
  refine mI_of (ty := .int) (cc := cX4_faultAsOf) (maxL := 3) (by decide +kernel) rfl hI (Nat.le_of_ble_eq_true rfl) (fun X C hr => ?_)
  replace C : Cx X Y 3 cX4_faultAsOf RX4 WX4_faultAsOf (rmB 1 21) l0 := C
  refine g_lv (lv2 := [(0, .ref (Y.ad b)), (1, .int p1), (2, .int p2)]) [0, 1, 2] ?_ rfl
  unfold PX4_faultAsOf at h
  refine g_aload_n C 0 dX4_faultAsOf_0 rfl ?_
  refine g_iload_n C 1 dX4_faultAsOf_1 rfl ?_
  refine g_callVI C [.int p1] [] (ok_X4_isNothing hI h0 h) (cw_RX4_21 _) rfl dc_X4_isNothing ⟨Nat.le_of_ble_eq_true rfl, Nat.le_of_ble_eq_true rfl⟩ (isX4_lt h0) (isX4_sh h0) rfl rfl rfl rfl (Nat.le_of_ble_eq_true rfl) dX4_faultAsOf_2 (fun r2 m1 h => ?_)
  refine g_if_eq C 10 dX4_faultAsOf_5 (by decide) (fun c3 => ?_) (fun c3 => ?_)
  · replace h := h.1 c3
    refine g_aload_n C 0 dX4_faultAsOf_10 rfl ?_
    refine gf_RX4_9 C h0 dX4_faultAsOf_11 ?_
    refine g_iload_n C 1 dX4_faultAsOf_14 rfl ?_
    refine g_iald C (isX4_laneOf h0).1 (isX4_laneOf h0).2 h.1 dX4_faultAsOf_15 ?_
    replace h := h.2
    refine g_iload_n C 2 dX4_faultAsOf_16 rfl ?_
    refine g_icmp_ne C 24 dX4_faultAsOf_17 (by decide) (fun c4 => ?_) (fun c4 => ?_)
    · replace h := h.1 c4
      refine g_iconst C (v := (3 : Int32)) dX4_faultAsOf_24 (by decide) ?_
      exact hr _ _ _ _ _ dX4_faultAsOf_25 rfl h
    · replace h := h.2 c4
      refine g_iconst C (v := (0 : Int32)) dX4_faultAsOf_20 (by decide) ?_
      refine g_goto C 25 dX4_faultAsOf_21 (by decide) ?_
      exact hr _ _ _ _ _ dX4_faultAsOf_25 rfl h
  · replace h := h.2 c3
    refine g_iconst C (v := (1 : Int32)) dX4_faultAsOf_8 (by decide) ?_
    exact hr _ _ _ _ _ dX4_faultAsOf_9 rfl h
set_option maxRecDepth 20000 in
set_option maxHeartbeats 4000000 in
theorem tX4_isLotWhole_26 {X : XT} {Y : YT} {l0 : Launch} {b : Nat} {p1 : Int32} {p2 : Int64} {Q : Int32 → Mem → Prop} (C : Cx X Y 4 cX4_isLotWhole RX4 WX4_isLotWhole (rmB 0 0) l0) (hr : RI X Y cX4_isLotWhole .boolean Q) (hI : YI Y) (h0 : isX4 Y b) (μ : Mem) (h : nX4_isLotWhole_26 b p1 p2 Q  μ) : G X Y 4 26 [(0, .ref (Y.ad b)), (1, .int p1), (2, .long p2)] [] μ := by
  unfold nX4_isLotWhole_26 at h
  refine g_iconst C (v := (0 : Int32)) dX4_isLotWhole_26 (by decide) ?_
  exact hr _ _ _ _ _ dX4_isLotWhole_27 rfl h
set_option maxRecDepth 20000 in
set_option maxHeartbeats 4000000 in
theorem ok_X4_isLotWhole {Y : YT} {l0 : Launch} {b : Nat} {p1 : Int32} {p2 : Int64} {μ : Mem} {Q : Int32 → Mem → Prop} (hI : YI Y) (h0 : isX4 Y b) (h : PX4_isLotWhole b p1 p2 μ Q) : MI l0 yX4_isLotWhole WX4_isLotWhole 0 0 Y [.ref (Y.ad b), .int p1, .long p2] μ Q := by
  refine mI_of (ty := .boolean) (cc := cX4_isLotWhole) (maxL := 4) (by decide +kernel) rfl hI (Nat.le_of_ble_eq_true rfl) (fun X C hr => ?_)
  replace C : Cx X Y 4 cX4_isLotWhole RX4 WX4_isLotWhole (rmB 0 0) l0 := C
  refine g_lv (lv2 := [(0, .ref (Y.ad b)), (1, .int p1), (2, .long p2)]) [0, 1, 2] ?_ rfl
  unfold PX4_isLotWhole at h
  refine g_lload_n C 2 dX4_isLotWhole_0 rfl ?_
  refine g_lconst C (v := (0 : Int64)) dX4_isLotWhole_1 (by decide) ?_
  refine g_lcmp C dX4_isLotWhole_2 ?_
  refine g_if_lt C 26 dX4_isLotWhole_3 (by decide) (fun c1 => ?_) (fun c1 => ?_)
  · replace h := h.1 c1
    exact tX4_isLotWhole_26 C hr hI h0 _ h
  · replace h := h.2 c1
    refine g_lload_n C 2 dX4_isLotWhole_6 rfl ?_
    refine g_ldc2 C (v := (2 : Int64)) (List.mem_cons_of_mem _ mL_RX4_25) dX4_isLotWhole_7 ?_
    refine g_ladd C dX4_isLotWhole_10 ?_
    refine g_aload_n C 0 dX4_isLotWhole_11 rfl ?_
    refine gf_RX4_15 C h0 dX4_isLotWhole_12 ?_
    refine g_iload_n C 1 dX4_isLotWhole_15 rfl ?_
    refine g_iald C (isX4_cellCount h0).1 (isX4_cellCount h0).2 h.1 dX4_isLotWhole_16 ?_
    replace h := h.2
    refine g_i2l C dX4_isLotWhole_17 ?_
    refine g_lcmp C dX4_isLotWhole_18 ?_
    refine g_if_ge C 26 dX4_isLotWhole_19 (by decide) (fun c2 => ?_) (fun c2 => ?_)
    · replace h := h.1 c2
      exact tX4_isLotWhole_26 C hr hI h0 _ h
    · replace h := h.2 c2
      refine g_iconst C (v := (1 : Int32)) dX4_isLotWhole_22 (by decide) ?_
      refine g_goto C 27 dX4_isLotWhole_23 (by decide) ?_
      exact hr _ _ _ _ _ dX4_isLotWhole_27 rfl h
def SX6_feed_19 (X : XT) (Y : YT) (b : Nat) (p1 : Int64) : Int32 → Mem → Prop := fun v3 μ => G X Y 4 19 [(0, .ref (Y.ad b)), (1, .long p1), (3, .int v3)] [] μ
set_option maxRecDepth 20000 in
set_option maxHeartbeats 4000000 in
theorem tX6_feed_19 {X : XT} {Y : YT} {l0 : Launch} {b : Nat} {p1 : Int64} {Q : Int32 → Mem → Prop} (C : Cx X Y 4 cX6_feed RX6 WX6_feed (rmB 0 0) l0) (hr : RI X Y cX6_feed .int Q) (hI : YI Y) (h0 : isX6 Y b) (v3 : Int32) (μ : Mem) (h : nX6_feed_19 b p1 Q (SX6_feed_19 X Y b p1) v3 μ) : G X Y 4 19 [(0, .ref (Y.ad b)), (1, .long p1), (3, .int v3)] [] μ := by
  unfold nX6_feed_19 at h
  refine g_iload_n C 2 dX6_feed_19 rfl ?_
  refine g_if_lt C 62 dX6_feed_20 (by decide) (fun c2 => ?_) (fun c2 => ?_)
  · replace h := h.1 c2
    refine g_aload_n C 0 dX6_feed_62 rfl ?_
    refine gf_RX6_22 C h0 dX6_feed_63 ?_
    refine gf_RX6_76 C (isX6_reader h0) dX6_feed_66 ?_
    exact hr _ _ _ _ _ dX6_feed_69 rfl h
  · replace h := h.2 c2
    refine g_aload_n C 0 dX6_feed_23 rfl ?_
    refine gf_RX6_22 C h0 dX6_feed_24 ?_
    refine gf_RX6_79 C (isX6_reader h0) dX6_feed_27 ?_
    refine g_aload_n C 0 dX6_feed_30 rfl ?_
    refine gf_RX6_22 C h0 dX6_feed_31 ?_
    refine gf_RX6_76 C (isX6_reader h0) dX6_feed_34 ?_
    refine g_lload_n C 1 dX6_feed_37 rfl ?_
    refine g_iload_n C 2 dX6_feed_38 rfl ?_
    refine g_lushr C dX6_feed_39 ?_
    refine g_l2i C dX6_feed_40 ?_
    refine g_i2b C dX6_feed_41 ?_
    refine g_bast C (isX1_tape (isX6_reader h0)).1 (isX1_tape (isX6_reader h0)).2 h.1 dX6_feed_42 ?_
    replace h := h.2
    refine g_mem (fun m3 em3 => ?_)
    replace h := h m3 em3
    refine g_aload_n C 0 dX6_feed_43 rfl ?_
    refine gf_RX6_22 C h0 dX6_feed_44 ?_
    refine g_dup C dX6_feed_47 rfl ?_
    refine gf_RX6_76 C (isX6_reader h0) dX6_feed_48 ?_
    refine g_iconst C (v := (1 : Int32)) dX6_feed_51 (by decide) ?_
    refine g_iadd C dX6_feed_52 ?_
    refine gp_RX6_76 C (isX6_reader h0) dX6_feed_53 ?_
    refine g_iinc C (v := v3 + (-8)) 2 [(3, .int (v3 + (-8))), (0, .ref (Y.ad b)), (1, .long p1)] dX6_feed_56 rfl rfl (by decide) rfl ?_
    refine g_goto C 19 dX6_feed_59 (by decide) ?_
    refine g_lv (lv2 := [(0, .ref (Y.ad b)), (1, .long p1), (3, .int (v3 + (-8)))]) [1, 2, 0] ?_ rfl
    exact h
set_option maxRecDepth 20000 in
set_option maxHeartbeats 4000000 in
theorem ok_X6_feed {Y : YT} {l0 : Launch} {b : Nat} {p1 : Int64} {μ : Mem} {Q : Int32 → Mem → Prop} (hI : YI Y) (h0 : isX6 Y b) (h : PX6_feed b p1 μ Q) : MI l0 yX6_feed WX6_feed 0 0 Y [.ref (Y.ad b), .long p1] μ Q := by
  refine mI_of (ty := .int) (cc := cX6_feed) (maxL := 4) (by decide +kernel) rfl hI (Nat.le_of_ble_eq_true rfl) (fun X C hr => ?_)
  replace C : Cx X Y 4 cX6_feed RX6 WX6_feed (rmB 0 0) l0 := C
  refine g_lv (lv2 := [(0, .ref (Y.ad b)), (1, .long p1)]) [0, 1] ?_ rfl
  unfold PX6_feed at h
  replace h := h (SX6_feed_19 X Y b p1) (fun v3 μ z => tX6_feed_19 C hr hI h0 v3 μ z)
  refine g_aload_n C 0 dX6_feed_0 rfl ?_
  refine gf_RX6_22 C h0 dX6_feed_1 ?_
  refine gf_RX6_76 C (isX6_reader h0) dX6_feed_4 ?_
  refine g_sipush C (v := (392 : Int32)) dX6_feed_7 (by decide) ?_
  refine g_icmp_le C 16 dX6_feed_10 (by decide) (fun c1 => ?_) (fun c1 => ?_)
  · replace h := h.1 c1
    refine g_bipush C (v := (56 : Int32)) dX6_feed_16 (by decide) ?_
    refine g_istore_n C [(3, .int ((56 : Int32))), (0, .ref (Y.ad b)), (1, .long p1)] dX6_feed_18 (by decide) rfl ?_
    refine g_lv (lv2 := [(0, .ref (Y.ad b)), (1, .long p1), (3, .int ((56 : Int32)))]) [1, 2, 0] ?_ rfl
    exact h
  · replace h := h.2 c1
    refine g_bipush C (v := (-3 : Int32)) dX6_feed_13 (by decide) ?_
    exact hr _ _ _ _ _ dX6_feed_15 rfl h
set_option maxRecDepth 20000 in
set_option maxHeartbeats 4000000 in
theorem ok_X6_end {Y : YT} {l0 : Launch} {b : Nat} {p1 : Int32} {μ : Mem} {Q : Int32 → Mem → Prop} (hI : YI Y) (h0 : isX6 Y b) (h : PX6_end b p1 μ Q) : MI l0 yX6_end WX6_end 0 0 Y [.ref (Y.ad b), .int p1] μ Q := by
  refine mI_of (ty := .int) (cc := cX6_end) (maxL := 3) (by decide +kernel) rfl hI (Nat.le_of_ble_eq_true rfl) (fun X C hr => ?_)
  replace C : Cx X Y 3 cX6_end RX6 WX6_end (rmB 0 0) l0 := C
  refine g_lv (lv2 := [(0, .ref (Y.ad b)), (1, .int p1)]) [0, 1] ?_ rfl
  unfold PX6_end at h
  refine g_iload_n C 1 dX6_end_0 rfl ?_
  refine g_if_lt C 15 dX6_end_1 (by decide) (fun c1 => ?_) (fun c1 => ?_)
  · replace h := h.1 c1
    refine g_iconst C (v := (-1 : Int32)) dX6_end_15 (by decide) ?_
    exact hr _ _ _ _ _ dX6_end_16 rfl h
  · replace h := h.2 c1
    refine g_iload_n C 1 dX6_end_4 rfl ?_
    refine g_aload_n C 0 dX6_end_5 rfl ?_
    refine gf_RX6_22 C h0 dX6_end_6 ?_
    refine gf_RX6_76 C (isX6_reader h0) dX6_end_9 ?_
    refine g_icmp_le C 17 dX6_end_12 (by decide) (fun c2 => ?_) (fun c2 => ?_)
    · replace h := h.1 c2
      refine g_aload_n C 0 dX6_end_17 rfl ?_
      refine gf_RX6_22 C h0 dX6_end_18 ?_
      refine gf_RX6_76 C (isX6_reader h0) dX6_end_21 ?_
      refine g_istore_n C [(2, .int (μ.1 (b + 25) 1)), (0, .ref (Y.ad b)), (1, .int p1)] dX6_end_24 (by decide) rfl ?_
      refine g_aload_n C 1 dX6_end_25 rfl ?_
      refine gf_RX6_22 C h0 dX6_end_26 ?_
      refine g_iload_n C 2 dX6_end_29 rfl ?_
      refine gp_RX6_76 C (isX6_reader h0) dX6_end_30 ?_
      refine g_iload_n C 0 dX6_end_33 rfl ?_
      exact hr _ _ _ _ _ dX6_end_34 rfl h
    · replace h := h.2 c2
      refine g_iconst C (v := (-1 : Int32)) dX6_end_15 (by decide) ?_
      exact hr _ _ _ _ _ dX6_end_16 rfl h
def SX6_text_73 (X : XT) (Y : YT) (b : Nat) : Int32 → Int32 → Mem → Prop := fun v1 v2 μ => G X Y 3 73 [(0, .ref (Y.ad b)), (1, .int v1), (2, .int v2)] [] μ
set_option maxRecDepth 20000 in
set_option maxHeartbeats 4000000 in
theorem tX6_text_73 {X : XT} {Y : YT} {l0 : Launch} {b : Nat} {Q : Int32 → Mem → Prop} (C : Cx X Y 3 cX6_text RX6 WX6_text (rmB 9 196) l0) (hr : RI X Y cX6_text .int Q) (hI : YI Y) (h0 : isX6 Y b) (v1 : Int32) (v2 : Int32) (μ : Mem) (h : nX6_text_73 b Q (SX6_text_73 X Y b) v1 v2 μ) : G X Y 3 73 [(0, .ref (Y.ad b)), (1, .int v1), (2, .int v2)] [] μ := by
  unfold nX6_text_73 at h
  refine g_iload_n C 2 dX6_text_73 rfl ?_
  refine g_iconst C (v := (2 : Int32)) dX6_text_74 (by decide) ?_
  refine g_icmp_ge C 91 dX6_text_75 (by decide) (fun c9 => ?_) (fun c9 => ?_)
  · replace h := h.1 c9
    refine g_iload_n C 1 dX6_text_91 rfl ?_
    exact hr _ _ _ _ _ dX6_text_92 rfl h
  · replace h := h.2 c9
    refine g_aload_n C 0 dX6_text_78 rfl ?_
    refine gf_RX6_41 C h0 dX6_text_79 ?_
    refine g_iload_n C 2 dX6_text_82 rfl ?_
    refine g_iconst C (v := (0 : Int32)) dX6_text_83 (by decide) ?_
    refine g_zast C (isX6_imageKept h0).1 (isX6_imageKept h0).2 h.1 dX6_text_84 ?_
    replace h := h.2
    refine g_iinc C (v := v2 + 1) 2 [(2, .int (v2 + 1)), (0, .ref (Y.ad b)), (1, .int v1)] dX6_text_85 rfl rfl (by decide) rfl ?_
    refine g_goto C 73 dX6_text_88 (by decide) ?_
    refine g_lv (lv2 := [(0, .ref (Y.ad b)), (1, .int v1), (2, .int (v2 + 1))]) [1, 2, 0] ?_ rfl
    exact h
set_option maxRecDepth 20000 in
set_option maxHeartbeats 4000000 in
theorem ok_X6_text {Y : YT} {l0 : Launch} {b : Nat} {μ : Mem} {Q : Int32 → Mem → Prop} (hI : YI Y) (h0 : isX6 Y b) (h : PX6_text b μ Q) : MI l0 yX6_text WX6_text 9 196 Y [.ref (Y.ad b)] μ Q := by
  refine mI_of (ty := .int) (cc := cX6_text) (maxL := 3) (by decide +kernel) rfl hI (Nat.le_of_ble_eq_true rfl) (fun X C hr => ?_)
  replace C : Cx X Y 3 cX6_text RX6 WX6_text (rmB 9 196) l0 := C
  refine g_lv (lv2 := [(0, .ref (Y.ad b))]) [0] ?_ rfl
  unfold PX6_text at h
  replace h := h (SX6_text_73 X Y b) (fun v1 v2 μ z => tX6_text_73 C hr hI h0 v1 v2 μ z)
  refine g_aload_n C 0 dX6_text_0 rfl ?_
  refine gf_RX6_22 C h0 dX6_text_1 ?_
  refine g_callVI C [] [] (ok_X1_readTape hI (isX6_reader h0) h) (cw_RX6_83 _) rfl dc_X1_readTape ⟨Nat.le_of_ble_eq_true rfl, Nat.le_of_ble_eq_true rfl⟩ (isX1_lt (isX6_reader h0)) (isX1_sh (isX6_reader h0)) rfl rfl rfl rfl (Nat.le_of_ble_eq_true rfl) dX6_text_4 (fun r2 m1 h => ?_)
  refine g_istore_n C [(1, .int r2), (0, .ref (Y.ad b))] dX6_text_7 (by decide) rfl ?_
  refine g_aload_n C 1 dX6_text_8 rfl ?_
  refine gf_RX6_22 C h0 dX6_text_9 ?_
  refine g_iconst C (v := (0 : Int32)) dX6_text_12 (by decide) ?_
  refine gp_RX6_76 C (isX6_reader h0) dX6_text_13 ?_
  refine g_aload_n C 1 dX6_text_16 rfl ?_
  refine g_aload_n C 1 dX6_text_17 rfl ?_
  refine gf_RX6_22 C h0 dX6_text_18 ?_
  refine gf_RX6_87 C (isX6_reader h0) dX6_text_21 ?_
  refine gp_RX6_26 C h0 dX6_text_24 ?_
  refine g_mem (fun m3 em3 => ?_)
  replace h := h m3 em3
  refine g_aload_n C 1 dX6_text_27 rfl ?_
  refine gf_RX6_26 C h0 dX6_text_28 ?_
  refine g_if_eq C 45 dX6_text_31 (by decide) (fun c4 => ?_) (fun c4 => ?_)
  · replace h := h.1 c4
    refine g_aload_n C 1 dX6_text_45 rfl ?_
    refine gf_RX6_10 C h0 dX6_text_46 ?_
    refine g_aload_n C 1 dX6_text_49 rfl ?_
    refine gf_RX6_22 C h0 dX6_text_50 ?_
    refine gf_RX6_93 C (isX6_reader h0) dX6_text_53 ?_
    refine g_callVV C [.ref (Y.ad (b + 25 + 2))] [] (ok_X2_copyFrom hI (isX6_rules h0) (isX1_told (isX6_reader h0)) h) (cw_RX6_96 _) rfl dc_X2_copyFrom ⟨Nat.le_of_ble_eq_true rfl, Nat.le_of_ble_eq_true rfl⟩ (isX2_lt (isX6_rules h0)) (isX2_sh (isX6_rules h0)) rfl rfl rfl rfl (Nat.le_of_ble_eq_true rfl) dX6_text_56 (fun m5 h => ?_)
    refine g_aload_n C 1 dX6_text_59 rfl ?_
    refine gf_RX6_33 C h0 dX6_text_60 ?_
    refine g_callVV C [] [] (ok_X0_reset hI (isX6_kitchen h0) h) (cw_RX6_100 _) rfl dc_X0_reset ⟨Nat.le_of_ble_eq_true rfl, Nat.le_of_ble_eq_true rfl⟩ (isX0_lt (isX6_kitchen h0)) (isX0_sh (isX6_kitchen h0)) rfl rfl rfl rfl (Nat.le_of_ble_eq_true rfl) dX6_text_63 (fun m7 h => ?_)
    refine g_aload_n C 1 dX6_text_66 rfl ?_
    refine g_iconst C (v := (0 : Int32)) dX6_text_67 (by decide) ?_
    refine gp_RX6_49 C h0 dX6_text_68 ?_
    refine g_iconst C (v := (0 : Int32)) dX6_text_71 (by decide) ?_
    refine g_istore_n C [(2, .int ((0 : Int32))), (1, .int r2), (0, .ref (Y.ad b))] dX6_text_72 (by decide) rfl ?_
    refine g_lv (lv2 := [(0, .ref (Y.ad b)), (1, .int r2), (2, .int ((0 : Int32)))]) [2, 1, 0] ?_ rfl
    exact h
  · replace h := h.2 c4
    refine g_bipush C (v := (-10 : Int32)) dX6_text_34 (by decide) ?_
    refine g_aload_n C 1 dX6_text_36 rfl ?_
    refine gf_RX6_22 C h0 dX6_text_37 ?_
    refine gf_RX6_90 C (isX6_reader h0) dX6_text_40 ?_
    refine g_isub C dX6_text_43 ?_
    exact hr _ _ _ _ _ dX6_text_44 rfl h
