def SX7_text_20 (X : XT) (Y : YT) (b : Nat) : Int32 → Mem → Prop := fun v1 μ => G X Y 3 20 [(0, .ref (Y.ad b)), (1, .int v1)] [] μ
def SX7_text_46 (X : XT) (Y : YT) (b : Nat) : Int32 → Int32 → Mem → Prop := fun v1 v2 μ => G X Y 3 46 [(0, .ref (Y.ad b)), (1, .int v1), (2, .int v2)] [] μ
set_option maxRecDepth 20000 in
set_option maxHeartbeats 4000000 in
theorem tX7_text_44 {X : XT} {Y : YT} {l0 : Launch} {b : Nat} {Q : Int32 → Mem → Prop} (C : Cx X Y 3 cX7_text RX7 WX7_text (rmB 6 141) l0) (hr : RI X Y cX7_text .int Q) (hI : YI Y) (h0 : isX7 Y b) (v1 : Int32) (μ : Mem) (h : nX7_text_44 b Q (SX7_text_20 X Y b) (SX7_text_46 X Y b) v1 μ) : G X Y 3 44 [(0, .ref (Y.ad b)), (1, .int v1)] [] μ := by
  unfold nX7_text_44 at h
  refine g_iconst C (v := (0 : Int32)) dX7_text_44 (by decide) ?_
  refine g_istore_n C [(2, .int ((0 : Int32))), (0, .ref (Y.ad b)), (1, .int v1)] dX7_text_45 (by decide) rfl ?_
  refine g_lv (lv2 := [(0, .ref (Y.ad b)), (1, .int v1), (2, .int ((0 : Int32)))]) [1, 2, 0] ?_ rfl
  exact h
set_option maxRecDepth 20000 in
set_option maxHeartbeats 4000000 in
theorem tX7_text_20 {X : XT} {Y : YT} {l0 : Launch} {b : Nat} {Q : Int32 → Mem → Prop} (C : Cx X Y 3 cX7_text RX7 WX7_text (rmB 6 141) l0) (hr : RI X Y cX7_text .int Q) (hI : YI Y) (h0 : isX7 Y b) (v1 : Int32) (μ : Mem) (h : nX7_text_20 b Q (SX7_text_20 X Y b) (SX7_text_46 X Y b) v1 μ) : G X Y 3 20 [(0, .ref (Y.ad b)), (1, .int v1)] [] μ := by
  unfold nX7_text_20 at h
  refine g_aload_n C 0 dX7_text_20 rfl ?_
  refine gf_RX7_146 C h0 dX7_text_21 ?_
  refine g_if_ne C 44 dX7_text_24 (by decide) (fun c6 => ?_) (fun c6 => ?_)
  · replace h := h.1 c6
    exact tX7_text_44 C hr hI h0 _ _ h
  · replace h := h.2 c6
    refine g_aload_n C 0 dX7_text_27 rfl ?_
    refine gf_RX7_170 C h0 dX7_text_28 ?_
    refine g_if_eq C 44 dX7_text_31 (by decide) (fun c7 => ?_) (fun c7 => ?_)
    · replace h := h.1 c7
      exact tX7_text_44 C hr hI h0 _ _ h
    · replace h := h.2 c7
      refine g_aload_n C 0 dX7_text_34 rfl ?_
      refine g_callVV C [] [] (ok_X7_readLine hI h0 h) (cw_RX7_247 _) rfl dc_X7_readLine ⟨Nat.le_of_ble_eq_true rfl, Nat.le_of_ble_eq_true rfl⟩ (isX7_lt h0) (isX7_sh h0) rfl rfl rfl rfl (Nat.le_of_ble_eq_true rfl) dX7_text_35 (fun m8 h => ?_)
      refine g_iinc C (v := v1 + 1) 1 [(1, .int (v1 + 1)), (0, .ref (Y.ad b))] dX7_text_38 rfl rfl (by decide) rfl ?_
      refine g_goto C 20 dX7_text_41 (by decide) ?_
      refine g_lv (lv2 := [(0, .ref (Y.ad b)), (1, .int (v1 + 1))]) [1, 0] ?_ rfl
      exact h
set_option maxRecDepth 20000 in
set_option maxHeartbeats 4000000 in
theorem tX7_text_90 {X : XT} {Y : YT} {l0 : Launch} {b : Nat} {Q : Int32 → Mem → Prop} (C : Cx X Y 3 cX7_text RX7 WX7_text (rmB 6 141) l0) (hr : RI X Y cX7_text .int Q) (hI : YI Y) (h0 : isX7 Y b) (v1 : Int32) (v2 : Int32) (μ : Mem) (h : nX7_text_90 b Q (SX7_text_20 X Y b) (SX7_text_46 X Y b) v1 v2 μ) : G X Y 3 90 [(0, .ref (Y.ad b)), (1, .int v1), (2, .int v2)] [] μ := by
  unfold nX7_text_90 at h
  refine g_iinc C (v := v2 + 1) 2 [(2, .int (v2 + 1)), (0, .ref (Y.ad b)), (1, .int v1)] dX7_text_90 rfl rfl (by decide) rfl ?_
  refine g_goto C 46 dX7_text_93 (by decide) ?_
  refine g_lv (lv2 := [(0, .ref (Y.ad b)), (1, .int v1), (2, .int (v2 + 1))]) [1, 2, 0] ?_ rfl
  exact h
set_option maxRecDepth 20000 in
set_option maxHeartbeats 4000000 in
theorem tX7_text_96 {X : XT} {Y : YT} {l0 : Launch} {b : Nat} {Q : Int32 → Mem → Prop} (C : Cx X Y 3 cX7_text RX7 WX7_text (rmB 6 141) l0) (hr : RI X Y cX7_text .int Q) (hI : YI Y) (h0 : isX7 Y b) (v1 : Int32) (μ : Mem) (h : nX7_text_96 b Q (SX7_text_20 X Y b) (SX7_text_46 X Y b) v1 μ) : G X Y 3 96 [(0, .ref (Y.ad b)), (1, .int v1)] [] μ := by
  unfold nX7_text_96 at h
  refine g_aload_n C 0 dX7_text_96 rfl ?_
  refine g_iconst C (v := (0 : Int32)) dX7_text_97 (by decide) ?_
  refine gp_RX7_141 C h0 dX7_text_98 ?_
  refine g_aload_n C 0 dX7_text_101 rfl ?_
  refine gf_RX7_146 C h0 dX7_text_102 ?_
  refine g_if_le C 116 dX7_text_105 (by decide) (fun c14 => ?_) (fun c14 => ?_)
  · replace h := h.1 c14
    refine g_aload_n C 0 dX7_text_116 rfl ?_
    refine g_callVV C [] [] (ok_X7_keepDraft hI h0 h) (cw_RX7_86 _) rfl dc_X7_keepDraft ⟨Nat.le_of_ble_eq_true rfl, Nat.le_of_ble_eq_true rfl⟩ (isX7_lt h0) (isX7_sh h0) rfl rfl rfl rfl (Nat.le_of_ble_eq_true rfl) dX7_text_117 (fun m15 h => ?_)
    refine g_iload_n C 1 dX7_text_120 rfl ?_
    exact hr _ _ _ _ _ dX7_text_121 rfl h
  · replace h := h.2 c14
    refine g_bipush C (v := (-10 : Int32)) dX7_text_108 (by decide) ?_
    refine g_aload_n C 0 dX7_text_110 rfl ?_
    refine gf_RX7_152 C h0 dX7_text_111 ?_
    refine g_isub C dX7_text_114 ?_
    exact hr _ _ _ _ _ dX7_text_115 rfl h
set_option maxRecDepth 20000 in
set_option maxHeartbeats 4000000 in
theorem tX7_text_46 {X : XT} {Y : YT} {l0 : Launch} {b : Nat} {Q : Int32 → Mem → Prop} (C : Cx X Y 3 cX7_text RX7 WX7_text (rmB 6 141) l0) (hr : RI X Y cX7_text .int Q) (hI : YI Y) (h0 : isX7 Y b) (v1 : Int32) (v2 : Int32) (μ : Mem) (h : nX7_text_46 b Q (SX7_text_20 X Y b) (SX7_text_46 X Y b) v1 v2 μ) : G X Y 3 46 [(0, .ref (Y.ad b)), (1, .int v1), (2, .int v2)] [] μ := by
  unfold nX7_text_46 at h
  refine g_iload_n C 2 dX7_text_46 rfl ?_
  refine g_aload_n C 0 dX7_text_47 rfl ?_
  refine gf_RX7_112 C h0 dX7_text_48 ?_
  refine g_icmp_ge C 96 dX7_text_51 (by decide) (fun c10 => ?_) (fun c10 => ?_)
  · replace h := h.1 c10
    refine g_lv (lv2 := [(0, .ref (Y.ad b)), (1, .int v1)]) [0, 1] ?_ rfl
    exact tX7_text_96 C hr hI h0 _ _ h
  · replace h := h.2 c10
    refine g_aload_n C 0 dX7_text_54 rfl ?_
    refine gf_RX7_146 C h0 dX7_text_55 ?_
    refine g_if_ne C 96 dX7_text_58 (by decide) (fun c11 => ?_) (fun c11 => ?_)
    · replace h := h.1 c11
      refine g_lv (lv2 := [(0, .ref (Y.ad b)), (1, .int v1)]) [0, 1] ?_ rfl
      exact tX7_text_96 C hr hI h0 _ _ h
    · replace h := h.2 c11
      refine g_aload_n C 0 dX7_text_61 rfl ?_
      refine gf_RX7_40 C h0 dX7_text_62 ?_
      refine g_iload_n C 2 dX7_text_65 rfl ?_
      refine g_iald C (isX7_usedThing h0).1 (isX7_usedThing h0).2 h.1 dX7_text_66 ?_
      replace h := h.2
      refine g_aload_n C 0 dX7_text_67 rfl ?_
      refine gf_RX7_89 C h0 dX7_text_68 ?_
      refine g_icmp_lt C 90 dX7_text_71 (by decide) (fun c12 => ?_) (fun c12 => ?_)
      · replace h := h.1 c12
        exact tX7_text_90 C hr hI h0 _ _ _ h
      · replace h := h.2 c12
        refine g_aload_n C 0 dX7_text_74 rfl ?_
        refine g_bipush C (v := (6 : Int32)) dX7_text_75 (by decide) ?_
        refine gp_RX7_146 C h0 dX7_text_77 ?_
        refine g_aload_n C 0 dX7_text_80 rfl ?_
        refine g_aload_n C 0 dX7_text_81 rfl ?_
        refine gf_RX7_43 C h0 dX7_text_82 ?_
        refine g_iload_n C 2 dX7_text_85 rfl ?_
        refine g_iald C (isX7_usedAt h0).1 (isX7_usedAt h0).2 h.1 dX7_text_86 ?_
        replace h := h.2
        refine gp_RX7_152 C h0 dX7_text_87 ?_
        refine g_mem (fun m13 em13 => ?_)
        replace h := h m13 em13
        exact tX7_text_90 C hr hI h0 _ _ _ h
set_option maxRecDepth 20000 in
set_option maxHeartbeats 4000000 in
theorem ok_X7_text {Y : YT} {l0 : Launch} {b : Nat} {μ : Mem} {Q : Int32 → Mem → Prop} (hI : YI Y) (h0 : isX7 Y b) (h : PX7_text b μ Q) : MI l0 yX7_text WX7_text 6 141 Y [.ref (Y.ad b)] μ Q := by
  refine mI_of (ty := .int) (cc := cX7_text) (maxL := 3) (by decide +kernel) rfl hI (Nat.le_of_ble_eq_true rfl) (fun X C hr => ?_)
  replace C : Cx X Y 3 cX7_text RX7 WX7_text (rmB 6 141) l0 := C
  refine g_lv (lv2 := [(0, .ref (Y.ad b))]) [0] ?_ rfl
  unfold PX7_text at h
  replace h := h (SX7_text_20 X Y b) (SX7_text_46 X Y b) (fun v1 μ z => tX7_text_20 C hr hI h0 v1 μ z) (fun v1 v2 μ z => tX7_text_46 C hr hI h0 v1 v2 μ z)
  refine g_iconst C (v := (0 : Int32)) dX7_text_0 (by decide) ?_
  refine g_istore_n C [(1, .int ((0 : Int32))), (0, .ref (Y.ad b))] dX7_text_1 (by decide) rfl ?_
  refine g_aload_n C 1 dX7_text_2 rfl ?_
  refine g_iconst C (v := (0 : Int32)) dX7_text_3 (by decide) ?_
  refine gp_RX7_146 C h0 dX7_text_4 ?_
  refine g_aload_n C 1 dX7_text_7 rfl ?_
  refine g_iconst C (v := (0 : Int32)) dX7_text_8 (by decide) ?_
  refine gp_RX7_155 C h0 dX7_text_9 ?_
  refine g_mem (fun m1 em1 => ?_)
  replace h := h m1 em1
  refine g_aload_n C 1 dX7_text_12 rfl ?_
  refine g_callVV C [] [] (ok_X7_firstDraft hI h0 h) (cw_RX7_83 _) rfl dc_X7_firstDraft ⟨Nat.le_of_ble_eq_true rfl, Nat.le_of_ble_eq_true rfl⟩ (isX7_lt h0) (isX7_sh h0) rfl rfl rfl rfl (Nat.le_of_ble_eq_true rfl) dX7_text_13 (fun m2 h => ?_)
  refine g_aload_n C 1 dX7_text_16 rfl ?_
  refine g_callVV C [] [] (ok_X7_next hI h0 h) (cw_RX7_192 _) rfl dc_X7_next ⟨Nat.le_of_ble_eq_true rfl, Nat.le_of_ble_eq_true rfl⟩ (isX7_lt h0) (isX7_sh h0) rfl rfl rfl rfl (Nat.le_of_ble_eq_true rfl) dX7_text_17 (fun m4 h => ?_)
  refine g_lv (lv2 := [(0, .ref (Y.ad b)), (1, .int ((0 : Int32)))]) [1, 0] ?_ rfl
  exact h
set_option maxRecDepth 20000 in
set_option maxHeartbeats 4000000 in
theorem ok_X7_fault {Y : YT} {l0 : Launch} {b : Nat} {μ : Mem} {Q : Int32 → Mem → Prop} (hI : YI Y) (h0 : isX7 Y b) (h : PX7_fault b μ Q) : MI l0 yX7_fault WX7_fault 0 0 Y [.ref (Y.ad b)] μ Q := by
  refine mI_of (ty := .int) (cc := cX7_fault) (maxL := 1) (by decide +kernel) rfl hI (Nat.le_of_ble_eq_true rfl) (fun X C hr => ?_)
  replace C : Cx X Y 1 cX7_fault RX7 WX7_fault (rmB 0 0) l0 := C
  refine g_lv (lv2 := [(0, .ref (Y.ad b))]) [0] ?_ rfl
  unfold PX7_fault at h
  refine g_aload_n C 0 dX7_fault_0 rfl ?_
  refine gf_RX7_146 C h0 dX7_fault_1 ?_
  exact hr _ _ _ _ _ dX7_fault_4 rfl h
set_option maxRecDepth 20000 in
set_option maxHeartbeats 4000000 in
theorem ok_X7_isThing {Y : YT} {l0 : Launch} {b : Nat} {p1 : Int32} {μ : Mem} {Q : Int32 → Mem → Prop} (hI : YI Y) (h0 : isX7 Y b) (h : PX7_isThing b p1 μ Q) : MI l0 yX7_isThing WX7_isThing 1 25 Y [.ref (Y.ad b), .int p1] μ Q := by
  refine mI_of (ty := .boolean) (cc := cX7_isThing) (maxL := 2) (by decide +kernel) rfl hI (Nat.le_of_ble_eq_true rfl) (fun X C hr => ?_)
  replace C : Cx X Y 2 cX7_isThing RX7 WX7_isThing (rmB 1 25) l0 := C
  refine g_lv (lv2 := [(0, .ref (Y.ad b)), (1, .int p1)]) [0, 1] ?_ rfl
  unfold PX7_isThing at h
  refine g_iload_n C 1 dX7_isThing_0 rfl ?_
  refine g_i2l C dX7_isThing_1 ?_
  refine g_lconst C (v := (0 : Int64)) dX7_isThing_2 (by decide) ?_
  refine g_aload_n C 0 dX7_isThing_3 rfl ?_
  refine gf_RX7_115 C h0 dX7_isThing_4 ?_
  refine g_iconst C (v := (1 : Int32)) dX7_isThing_7 (by decide) ?_
  refine g_isub C dX7_isThing_8 ?_
  refine g_i2l C dX7_isThing_9 ?_
  refine g_callSI C [.long p1.toInt64, .long ((0 : Int64)), .long (((μ.1 b 0) - ((1 : Int32))).toInt64)] [] (ok_X7_in hI  h) (cw_RX7_134 _) rfl dc_X7_in ⟨Nat.le_of_ble_eq_true rfl, Nat.le_of_ble_eq_true rfl⟩ rfl (Nat.le_of_ble_eq_true rfl) dX7_isThing_10 (fun r2 m1 h => ?_)
  exact hr _ _ _ _ _ dX7_isThing_13 h.1.1 h.2
set_option maxRecDepth 20000 in
set_option maxHeartbeats 4000000 in
theorem ok_X7_isSupper {Y : YT} {l0 : Launch} {b : Nat} {p1 : Int32} {μ : Mem} {Q : Int32 → Mem → Prop} (hI : YI Y) (h0 : isX7 Y b) (h : PX7_isSupper b p1 μ Q) : MI l0 yX7_isSupper WX7_isSupper 1 25 Y [.ref (Y.ad b), .int p1] μ Q := by
  refine mI_of (ty := .boolean) (cc := cX7_isSupper) (maxL := 2) (by decide +kernel) rfl hI (Nat.le_of_ble_eq_true rfl) (fun X C hr => ?_)
  replace C : Cx X Y 2 cX7_isSupper RX7 WX7_isSupper (rmB 1 25) l0 := C
  refine g_lv (lv2 := [(0, .ref (Y.ad b)), (1, .int p1)]) [0, 1] ?_ rfl
  unfold PX7_isSupper at h
  refine g_iload_n C 1 dX7_isSupper_0 rfl ?_
  refine g_i2l C dX7_isSupper_1 ?_
  refine g_lconst C (v := (0 : Int64)) dX7_isSupper_2 (by decide) ?_
  refine g_aload_n C 0 dX7_isSupper_3 rfl ?_
  refine gf_RX7_118 C h0 dX7_isSupper_4 ?_
  refine g_iconst C (v := (1 : Int32)) dX7_isSupper_7 (by decide) ?_
  refine g_isub C dX7_isSupper_8 ?_
  refine g_i2l C dX7_isSupper_9 ?_
  refine g_callSI C [.long p1.toInt64, .long ((0 : Int64)), .long (((μ.1 b 2) - ((1 : Int32))).toInt64)] [] (ok_X7_in hI  h) (cw_RX7_134 _) rfl dc_X7_in ⟨Nat.le_of_ble_eq_true rfl, Nat.le_of_ble_eq_true rfl⟩ rfl (Nat.le_of_ble_eq_true rfl) dX7_isSupper_10 (fun r2 m1 h => ?_)
  exact hr _ _ _ _ _ dX7_isSupper_13 h.1.1 h.2
set_option maxRecDepth 20000 in
set_option maxHeartbeats 4000000 in
theorem ok_X7_keeps {Y : YT} {l0 : Launch} {b : Nat} {p1 : Int32} {μ : Mem} {Q : Int32 → Mem → Prop} (hI : YI Y) (h0 : isX7 Y b) (h : PX7_keeps b p1 μ Q) : MI l0 yX7_keeps WX7_keeps 0 0 Y [.ref (Y.ad b), .int p1] μ Q := by
  refine mI_of (ty := .int) (cc := cX7_keeps) (maxL := 2) (by decide +kernel) rfl hI (Nat.le_of_ble_eq_true rfl) (fun X C hr => ?_)
  replace C : Cx X Y 2 cX7_keeps RX7 WX7_keeps (rmB 0 0) l0 := C
  refine g_lv (lv2 := [(0, .ref (Y.ad b)), (1, .int p1)]) [0, 1] ?_ rfl
  unfold PX7_keeps at h
  refine g_aload_n C 0 dX7_keeps_0 rfl ?_
  refine gf_RX7_7 C h0 dX7_keeps_1 ?_
  refine g_iconst C (v := (3 : Int32)) dX7_keeps_4 (by decide) ?_
  refine g_iload_n C 1 dX7_keeps_5 rfl ?_
  refine g_imul C dX7_keeps_6 ?_
  refine g_iald C (isX7_thing h0).1 (isX7_thing h0).2 h.1 dX7_keeps_7 ?_
  replace h := h.2
  exact hr _ _ _ _ _ dX7_keeps_8 rfl h
set_option maxRecDepth 20000 in
set_option maxHeartbeats 4000000 in
theorem ok_X7_kind {Y : YT} {l0 : Launch} {b : Nat} {p1 : Int32} {μ : Mem} {Q : Int32 → Mem → Prop} (hI : YI Y) (h0 : isX7 Y b) (h : PX7_kind b p1 μ Q) : MI l0 yX7_kind WX7_kind 0 0 Y [.ref (Y.ad b), .int p1] μ Q := by
  refine mI_of (ty := .int) (cc := cX7_kind) (maxL := 2) (by decide +kernel) rfl hI (Nat.le_of_ble_eq_true rfl) (fun X C hr => ?_)
  replace C : Cx X Y 2 cX7_kind RX7 WX7_kind (rmB 0 0) l0 := C
  refine g_lv (lv2 := [(0, .ref (Y.ad b)), (1, .int p1)]) [0, 1] ?_ rfl
  unfold PX7_kind at h
  refine g_aload_n C 0 dX7_kind_0 rfl ?_
  refine gf_RX7_13 C h0 dX7_kind_1 ?_
  refine g_iconst C (v := (5 : Int32)) dX7_kind_4 (by decide) ?_
  refine g_iload_n C 1 dX7_kind_5 rfl ?_
  refine g_imul C dX7_kind_6 ?_
  refine g_iald C (isX7_supper h0).1 (isX7_supper h0).2 h.1 dX7_kind_7 ?_
  replace h := h.2
  exact hr _ _ _ _ _ dX7_kind_8 rfl h
set_option maxRecDepth 20000 in
set_option maxHeartbeats 4000000 in
theorem tX7_thing_33 {X : XT} {Y : YT} {l0 : Launch} {b : Nat} {p1 : Int32} {p2 : Int32} {Q : Int32 → Mem → Prop} (C : Cx X Y 3 cX7_thing RX7 WX7_thing (rmB 2 46) l0) (hr : RI X Y cX7_thing .int Q) (hI : YI Y) (h0 : isX7 Y b) (μ : Mem) (h : nX7_thing_33 b p1 p2 Q  μ) : G X Y 3 33 [(0, .ref (Y.ad b)), (1, .int p1), (2, .int p2)] [] μ := by
  unfold nX7_thing_33 at h
  refine g_iconst C (v := (-1 : Int32)) dX7_thing_33 (by decide) ?_
  exact hr _ _ _ _ _ dX7_thing_34 rfl h
set_option maxRecDepth 20000 in
set_option maxHeartbeats 4000000 in
theorem ok_X7_thing {Y : YT} {l0 : Launch} {b : Nat} {p1 : Int32} {p2 : Int32} {μ : Mem} {Q : Int32 → Mem → Prop} (hI : YI Y) (h0 : isX7 Y b) (h : PX7_thing b p1 p2 μ Q) : MI l0 yX7_thing WX7_thing 2 46 Y [.ref (Y.ad b), .int p1, .int p2] μ Q := by
  refine mI_of (ty := .int) (cc := cX7_thing) (maxL := 3) (by decide +kernel) rfl hI (Nat.le_of_ble_eq_true rfl) (fun X C hr => ?_)
  replace C : Cx X Y 3 cX7_thing RX7 WX7_thing (rmB 2 46) l0 := C
  refine g_lv (lv2 := [(0, .ref (Y.ad b)), (1, .int p1), (2, .int p2)]) [0, 1, 2] ?_ rfl
  unfold PX7_thing at h
  refine g_aload_n C 0 dX7_thing_0 rfl ?_
  refine g_iload_n C 1 dX7_thing_1 rfl ?_
  refine g_callVI C [.int p1] [] (ok_X7_isThing hI h0 h) (cw_RX7_250 _) rfl dc_X7_isThing ⟨Nat.le_of_ble_eq_true rfl, Nat.le_of_ble_eq_true rfl⟩ (isX7_lt h0) (isX7_sh h0) rfl rfl rfl rfl (Nat.le_of_ble_eq_true rfl) dX7_thing_2 (fun r2 m1 h => ?_)
  refine g_if_eq C 33 dX7_thing_5 (by decide) (fun c3 => ?_) (fun c3 => ?_)
  · replace h := h.1 c3
    exact tX7_thing_33 C hr hI h0 _ h
  · replace h := h.2 c3
    refine g_iload_n C 2 dX7_thing_8 rfl ?_
    refine g_i2l C dX7_thing_9 ?_
    refine g_lconst C (v := (0 : Int64)) dX7_thing_10 (by decide) ?_
    refine g_ldc2 C (v := (2 : Int64)) (List.mem_cons_of_mem _ mL_RX7_254) dX7_thing_11 ?_
    refine g_callSI C [.long p2.toInt64, .long ((0 : Int64)), .long ((2 : Int64))] [] (ok_X7_in hI  h) (cw_RX7_134 _) rfl dc_X7_in ⟨Nat.le_of_ble_eq_true rfl, Nat.le_of_ble_eq_true rfl⟩ rfl (Nat.le_of_ble_eq_true rfl) dX7_thing_14 (fun r5 m4 h => ?_)
    refine g_if_eq C 33 dX7_thing_17 (by decide) (fun c6 => ?_) (fun c6 => ?_)
    · replace h := h.1 c6
      exact tX7_thing_33 C hr hI h0 _ h
    · replace h := h.2 c6
      refine g_aload_n C 0 dX7_thing_20 rfl ?_
      refine gf_RX7_7 C h0 dX7_thing_21 ?_
      refine g_iconst C (v := (3 : Int32)) dX7_thing_24 (by decide) ?_
      refine g_iload_n C 1 dX7_thing_25 rfl ?_
      refine g_imul C dX7_thing_26 ?_
      refine g_iload_n C 2 dX7_thing_27 rfl ?_
      refine g_iadd C dX7_thing_28 ?_
      refine g_iald C (isX7_thing h0).1 (isX7_thing h0).2 h.1 dX7_thing_29 ?_
      replace h := h.2
      refine g_goto C 34 dX7_thing_30 (by decide) ?_
      exact hr _ _ _ _ _ dX7_thing_34 rfl h
set_option maxRecDepth 20000 in
set_option maxHeartbeats 4000000 in
theorem ok_X7_supper {Y : YT} {l0 : Launch} {b : Nat} {p1 : Int32} {p2 : Int32} {μ : Mem} {Q : Int32 → Mem → Prop} (hI : YI Y) (h0 : isX7 Y b) (h : PX7_supper b p1 p2 μ Q) : MI l0 yX7_supper WX7_supper 2 46 Y [.ref (Y.ad b), .int p1, .int p2] μ Q := by
  refine mI_of (ty := .int) (cc := cX7_supper) (maxL := 3) (by decide +kernel) rfl hI (Nat.le_of_ble_eq_true rfl) (fun X C hr => ?_)
  replace C : Cx X Y 3 cX7_supper RX7 WX7_supper (rmB 2 46) l0 := C
  refine g_lv (lv2 := [(0, .ref (Y.ad b)), (1, .int p1), (2, .int p2)]) [0, 1, 2] ?_ rfl
  unfold PX7_supper at h
  refine g_aload_n C 0 dX7_supper_0 rfl ?_
  refine g_iload_n C 1 dX7_supper_1 rfl ?_
  refine g_callVI C [.int p1] [] (ok_X7_isSupper hI h0 h) (cw_RX7_256 _) rfl dc_X7_isSupper ⟨Nat.le_of_ble_eq_true rfl, Nat.le_of_ble_eq_true rfl⟩ (isX7_lt h0) (isX7_sh h0) rfl rfl rfl rfl (Nat.le_of_ble_eq_true rfl) dX7_supper_2 (fun r2 m1 h => ?_)
  refine g_if_ne C 10 dX7_supper_5 (by decide) (fun c3 => ?_) (fun c3 => ?_)
  · replace h := h.1 c3
    refine g_iload_n C 2 dX7_supper_10 rfl ?_
    refine g_i2l C dX7_supper_11 ?_
    refine g_ldc2 C (v := (10 : Int64)) (List.mem_cons_of_mem _ mL_RX7_227) dX7_supper_12 ?_
    refine g_ldc2 C (v := (15 : Int64)) (List.mem_cons_of_mem _ mL_RX7_199) dX7_supper_15 ?_
    refine g_callSI C [.long p2.toInt64, .long ((10 : Int64)), .long ((15 : Int64))] [] (ok_X7_in hI  h) (cw_RX7_134 _) rfl dc_X7_in ⟨Nat.le_of_ble_eq_true rfl, Nat.le_of_ble_eq_true rfl⟩ rfl (Nat.le_of_ble_eq_true rfl) dX7_supper_18 (fun r5 m4 h => ?_)
    refine g_if_eq C 54 dX7_supper_21 (by decide) (fun c6 => ?_) (fun c6 => ?_)
    · replace h := h.1 c6
      refine g_iload_n C 2 dX7_supper_54 rfl ?_
      refine g_i2l C dX7_supper_55 ?_
      refine g_ldc2 C (v := (20 : Int64)) (List.mem_cons_of_mem _ mL_RX7_259) dX7_supper_56 ?_
      refine g_ldc2 C (v := (25 : Int64)) (List.mem_cons_of_mem _ mL_RX7_261) dX7_supper_59 ?_
      refine g_callSI C [.long p2.toInt64, .long ((20 : Int64)), .long ((25 : Int64))] [] (ok_X7_in hI  h) (cw_RX7_134 _) rfl dc_X7_in ⟨Nat.le_of_ble_eq_true rfl, Nat.le_of_ble_eq_true rfl⟩ rfl (Nat.le_of_ble_eq_true rfl) dX7_supper_62 (fun r8 m7 h => ?_)
      refine g_if_eq C 98 dX7_supper_65 (by decide) (fun c9 => ?_) (fun c9 => ?_)
      · replace h := h.1 c9
        refine g_iload_n C 2 dX7_supper_98 rfl ?_
        refine g_i2l C dX7_supper_99 ?_
        refine g_lconst C (v := (0 : Int64)) dX7_supper_100 (by decide) ?_
        refine g_ldc2 C (v := (4 : Int64)) (List.mem_cons_of_mem _ mL_RX7_263) dX7_supper_101 ?_
        refine g_callSI C [.long p2.toInt64, .long ((0 : Int64)), .long ((4 : Int64))] [] (ok_X7_in hI  h) (cw_RX7_134 _) rfl dc_X7_in ⟨Nat.le_of_ble_eq_true rfl, Nat.le_of_ble_eq_true rfl⟩ rfl (Nat.le_of_ble_eq_true rfl) dX7_supper_104 (fun r11 m10 h => ?_)
        refine g_if_eq C 123 dX7_supper_107 (by decide) (fun c12 => ?_) (fun c12 => ?_)
        · replace h := h.1 c12
          refine g_iconst C (v := (-1 : Int32)) dX7_supper_123 (by decide) ?_
          exact hr _ _ _ _ _ dX7_supper_124 rfl h
        · replace h := h.2 c12
          refine g_aload_n C 0 dX7_supper_110 rfl ?_
          refine gf_RX7_13 C h0 dX7_supper_111 ?_
          refine g_iconst C (v := (5 : Int32)) dX7_supper_114 (by decide) ?_
          refine g_iload_n C 1 dX7_supper_115 rfl ?_
          refine g_imul C dX7_supper_116 ?_
          refine g_iload_n C 2 dX7_supper_117 rfl ?_
          refine g_iadd C dX7_supper_118 ?_
          refine g_iald C (isX7_supper h0).1 (isX7_supper h0).2 h.1 dX7_supper_119 ?_
          replace h := h.2
          refine g_goto C 124 dX7_supper_120 (by decide) ?_
          exact hr _ _ _ _ _ dX7_supper_124 rfl h
      · replace h := h.2 c9
        refine g_aload_n C 0 dX7_supper_68 rfl ?_
        refine g_iload_n C 2 dX7_supper_69 rfl ?_
        refine g_bipush C (v := (20 : Int32)) dX7_supper_70 (by decide) ?_
        refine g_isub C dX7_supper_72 ?_
        refine g_callVI C [.int (p2 - ((20 : Int32)))] [] (ok_X7_isThing hI h0 h) (cw_RX7_250 _) rfl dc_X7_isThing ⟨Nat.le_of_ble_eq_true rfl, Nat.le_of_ble_eq_true rfl⟩ (isX7_lt h0) (isX7_sh h0) rfl rfl rfl rfl (Nat.le_of_ble_eq_true rfl) dX7_supper_73 (fun r14 m13 h => ?_)
        refine g_if_eq C 96 dX7_supper_76 (by decide) (fun c15 => ?_) (fun c15 => ?_)
        · replace h := h.1 c15
          refine g_iconst C (v := (-1 : Int32)) dX7_supper_96 (by decide) ?_
          exact hr _ _ _ _ _ dX7_supper_97 rfl h
        · replace h := h.2 c15
          refine g_aload_n C 0 dX7_supper_79 rfl ?_
          refine gf_RX7_19 C h0 dX7_supper_80 ?_
          refine g_bipush C (v := (6 : Int32)) dX7_supper_83 (by decide) ?_
          refine g_iload_n C 1 dX7_supper_85 rfl ?_
          refine g_imul C dX7_supper_86 ?_
          refine g_iload_n C 2 dX7_supper_87 rfl ?_
          refine g_iadd C dX7_supper_88 ?_
          refine g_bipush C (v := (20 : Int32)) dX7_supper_89 (by decide) ?_
          refine g_isub C dX7_supper_91 ?_
          refine g_iald C (isX7_leaves h0).1 (isX7_leaves h0).2 h.1 dX7_supper_92 ?_
          replace h := h.2
          refine g_goto C 97 dX7_supper_93 (by decide) ?_
          exact hr _ _ _ _ _ dX7_supper_97 rfl h
    · replace h := h.2 c6
      refine g_aload_n C 0 dX7_supper_24 rfl ?_
      refine g_iload_n C 2 dX7_supper_25 rfl ?_
      refine g_bipush C (v := (10 : Int32)) dX7_supper_26 (by decide) ?_
      refine g_isub C dX7_supper_28 ?_
      refine g_callVI C [.int (p2 - ((10 : Int32)))] [] (ok_X7_isThing hI h0 h) (cw_RX7_250 _) rfl dc_X7_isThing ⟨Nat.le_of_ble_eq_true rfl, Nat.le_of_ble_eq_true rfl⟩ (isX7_lt h0) (isX7_sh h0) rfl rfl rfl rfl (Nat.le_of_ble_eq_true rfl) dX7_supper_29 (fun r17 m16 h => ?_)
      refine g_if_eq C 52 dX7_supper_32 (by decide) (fun c18 => ?_) (fun c18 => ?_)
      · replace h := h.1 c18
        refine g_iconst C (v := (-1 : Int32)) dX7_supper_52 (by decide) ?_
        exact hr _ _ _ _ _ dX7_supper_53 rfl h
      · replace h := h.2 c18
        refine g_aload_n C 0 dX7_supper_35 rfl ?_
        refine gf_RX7_16 C h0 dX7_supper_36 ?_
        refine g_bipush C (v := (6 : Int32)) dX7_supper_39 (by decide) ?_
        refine g_iload_n C 1 dX7_supper_41 rfl ?_
        refine g_imul C dX7_supper_42 ?_
        refine g_iload_n C 2 dX7_supper_43 rfl ?_
        refine g_iadd C dX7_supper_44 ?_
        refine g_bipush C (v := (10 : Int32)) dX7_supper_45 (by decide) ?_
        refine g_isub C dX7_supper_47 ?_
        refine g_iald C (isX7_wants h0).1 (isX7_wants h0).2 h.1 dX7_supper_48 ?_
        replace h := h.2
        refine g_goto C 53 dX7_supper_49 (by decide) ?_
        exact hr _ _ _ _ _ dX7_supper_53 rfl h
  · replace h := h.2 c3
    refine g_iconst C (v := (-1 : Int32)) dX7_supper_8 (by decide) ?_
    exact hr _ _ _ _ _ dX7_supper_9 rfl h
set_option maxRecDepth 20000 in
set_option maxHeartbeats 4000000 in
theorem ok_X7_rule {Y : YT} {l0 : Launch} {b : Nat} {p1 : Int32} {μ : Mem} {Q : Int32 → Mem → Prop} (hI : YI Y) (h0 : isX7 Y b) (h : PX7_rule b p1 μ Q) : MI l0 yX7_rule WX7_rule 1 25 Y [.ref (Y.ad b), .int p1] μ Q := by
  refine mI_of (ty := .int) (cc := cX7_rule) (maxL := 2) (by decide +kernel) rfl hI (Nat.le_of_ble_eq_true rfl) (fun X C hr => ?_)
  replace C : Cx X Y 2 cX7_rule RX7 WX7_rule (rmB 1 25) l0 := C
  refine g_lv (lv2 := [(0, .ref (Y.ad b)), (1, .int p1)]) [0, 1] ?_ rfl
  unfold PX7_rule at h
  refine g_iload_n C 1 dX7_rule_0 rfl ?_
  refine g_i2l C dX7_rule_1 ?_
  refine g_ldc2 C (v := (10 : Int64)) (List.mem_cons_of_mem _ mL_RX7_227) dX7_rule_2 ?_
  refine g_ldc2 C (v := (16 : Int64)) (List.mem_cons_of_mem _ mL_RX7_265) dX7_rule_5 ?_
  refine g_callSI C [.long p1.toInt64, .long ((10 : Int64)), .long ((16 : Int64))] [] (ok_X7_in hI  h) (cw_RX7_134 _) rfl dc_X7_in ⟨Nat.le_of_ble_eq_true rfl, Nat.le_of_ble_eq_true rfl⟩ rfl (Nat.le_of_ble_eq_true rfl) dX7_rule_8 (fun r2 m1 h => ?_)
  refine g_if_eq C 26 dX7_rule_11 (by decide) (fun c3 => ?_) (fun c3 => ?_)
  · replace h := h.1 c3
    refine g_iload_n C 1 dX7_rule_26 rfl ?_
    refine g_if_ne C 37 dX7_rule_27 (by decide) (fun c4 => ?_) (fun c4 => ?_)
    · replace h := h.1 c4
      refine g_iload_n C 1 dX7_rule_37 rfl ?_
      refine g_iconst C (v := (1 : Int32)) dX7_rule_38 (by decide) ?_
      refine g_icmp_ne C 49 dX7_rule_39 (by decide) (fun c5 => ?_) (fun c5 => ?_)
      · replace h := h.1 c5
        refine g_iload_n C 1 dX7_rule_49 rfl ?_
        refine g_iconst C (v := (2 : Int32)) dX7_rule_50 (by decide) ?_
        refine g_icmp_ne C 61 dX7_rule_51 (by decide) (fun c6 => ?_) (fun c6 => ?_)
        · replace h := h.1 c6
          refine g_iconst C (v := (-1 : Int32)) dX7_rule_61 (by decide) ?_
          exact hr _ _ _ _ _ dX7_rule_62 rfl h
        · replace h := h.2 c6
          refine g_aload_n C 0 dX7_rule_54 rfl ?_
          refine gf_RX7_127 C h0 dX7_rule_55 ?_
          refine g_goto C 62 dX7_rule_58 (by decide) ?_
          exact hr _ _ _ _ _ dX7_rule_62 rfl h
      · replace h := h.2 c5
        refine g_aload_n C 0 dX7_rule_42 rfl ?_
        refine gf_RX7_124 C h0 dX7_rule_43 ?_
        refine g_goto C 62 dX7_rule_46 (by decide) ?_
        exact hr _ _ _ _ _ dX7_rule_62 rfl h
    · replace h := h.2 c4
      refine g_aload_n C 0 dX7_rule_30 rfl ?_
      refine gf_RX7_121 C h0 dX7_rule_31 ?_
      refine g_goto C 62 dX7_rule_34 (by decide) ?_
      exact hr _ _ _ _ _ dX7_rule_62 rfl h
  · replace h := h.2 c3
    refine g_aload_n C 0 dX7_rule_14 rfl ?_
    refine gf_RX7_22 C h0 dX7_rule_15 ?_
    refine g_iload_n C 1 dX7_rule_18 rfl ?_
    refine g_bipush C (v := (10 : Int32)) dX7_rule_19 (by decide) ?_
    refine g_isub C dX7_rule_21 ?_
    refine g_iald C (isX7_chance h0).1 (isX7_chance h0).2 h.1 dX7_rule_22 ?_
    replace h := h.2
    refine g_goto C 62 dX7_rule_23 (by decide) ?_
    exact hr _ _ _ _ _ dX7_rule_62 rfl h
def SX7_copies_2 (X : XT) (Y : YT) (b : Nat) (p1 : Int32) (p2 : Int32) : Int32 → Mem → Prop := fun v3 μ => G X Y 4 2 [(0, .ref (Y.ad b)), (1, .int p1), (2, .int p2), (3, .int v3)] [] μ
set_option maxRecDepth 20000 in
set_option maxHeartbeats 4000000 in
theorem tX7_copies_2 {X : XT} {Y : YT} {l0 : Launch} {b : Nat} {p1 : Int32} {p2 : Int32} {Q : Mem → Prop} (C : Cx X Y 4 cX7_copies RX7 WX7_copies (rmB 0 0) l0) (hr : RV X Y cX7_copies Q) (hI : YI Y) (h0 : isX7 Y b) (v3 : Int32) (μ : Mem) (h : nX7_copies_2 b p1 p2 Q (SX7_copies_2 X Y b p1 p2) v3 μ) : G X Y 4 2 [(0, .ref (Y.ad b)), (1, .int p1), (2, .int p2), (3, .int v3)] [] μ := by
  unfold nX7_copies_2 at h
  refine g_iload_n C 3 dX7_copies_2 rfl ?_
  refine g_bipush C (v := (40 : Int32)) dX7_copies_3 (by decide) ?_
  refine g_icmp_ge C 30 dX7_copies_5 (by decide) (fun c1 => ?_) (fun c1 => ?_)
  · replace h := h.1 c1
    exact hr _ _ _ _ dX7_copies_30 h
  · replace h := h.2 c1
    refine g_aload_n C 0 dX7_copies_8 rfl ?_
    refine gf_RX7_49 C h0 dX7_copies_9 ?_
    refine g_iload_n C 1 dX7_copies_12 rfl ?_
    refine g_iload_n C 3 dX7_copies_13 rfl ?_
    refine g_iadd C dX7_copies_14 ?_
    refine g_aload_n C 0 dX7_copies_15 rfl ?_
    refine gf_RX7_49 C h0 dX7_copies_16 ?_
    refine g_iload_n C 2 dX7_copies_19 rfl ?_
    refine g_iload_n C 3 dX7_copies_20 rfl ?_
    refine g_iadd C dX7_copies_21 ?_
    refine g_iald C (isX7_st h0).1 (isX7_st h0).2 h.1 dX7_copies_22 ?_
    replace h := h.2
    refine g_iast C (isX7_st h0).1 (isX7_st h0).2 h.1 dX7_copies_23 ?_
    replace h := h.2
    refine g_iinc C (v := v3 + 1) 3 [(3, .int (v3 + 1)), (0, .ref (Y.ad b)), (1, .int p1), (2, .int p2)] dX7_copies_24 rfl rfl (by decide) rfl ?_
    refine g_goto C 2 dX7_copies_27 (by decide) ?_
    refine g_lv (lv2 := [(0, .ref (Y.ad b)), (1, .int p1), (2, .int p2), (3, .int (v3 + 1))]) [1, 2, 3, 0] ?_ rfl
    exact h
set_option maxRecDepth 20000 in
set_option maxHeartbeats 4000000 in
theorem ok_X7_copies {Y : YT} {l0 : Launch} {b : Nat} {p1 : Int32} {p2 : Int32} {μ : Mem} {Q : Mem → Prop} (hI : YI Y) (h0 : isX7 Y b) (h : PX7_copies b p1 p2 μ Q) : MV l0 yX7_copies WX7_copies 0 0 Y [.ref (Y.ad b), .int p1, .int p2] μ Q := by
  refine mV_of (cc := cX7_copies) (maxL := 4) (by decide +kernel) rfl hI (Nat.le_of_ble_eq_true rfl) (fun X C hr => ?_)
  replace C : Cx X Y 4 cX7_copies RX7 WX7_copies (rmB 0 0) l0 := C
  refine g_lv (lv2 := [(0, .ref (Y.ad b)), (1, .int p1), (2, .int p2)]) [0, 1, 2] ?_ rfl
  unfold PX7_copies at h
  replace h := h (SX7_copies_2 X Y b p1 p2) (fun v3 μ z => tX7_copies_2 C hr hI h0 v3 μ z)
  refine g_iconst C (v := (0 : Int32)) dX7_copies_0 (by decide) ?_
  refine g_istore_n C [(3, .int ((0 : Int32))), (0, .ref (Y.ad b)), (1, .int p1), (2, .int p2)] dX7_copies_1 (by decide) rfl ?_
  refine g_lv (lv2 := [(0, .ref (Y.ad b)), (1, .int p1), (2, .int p2), (3, .int ((0 : Int32)))]) [1, 2, 3, 0] ?_ rfl
  exact h
def SX7_have_5 (X : XT) (Y : YT) (b : Nat) (p1 : Int32) (p2 : Int32) : Int32 → Int32 → Mem → Prop := fun v3 v4 μ => G X Y 5 5 [(0, .ref (Y.ad b)), (1, .int p1), (2, .int p2), (3, .int v3), (4, .int v4)] [] μ
set_option maxRecDepth 20000 in
set_option maxHeartbeats 4000000 in
theorem tX7_have_5 {X : XT} {Y : YT} {l0 : Launch} {b : Nat} {p1 : Int32} {p2 : Int32} {Q : Int32 → Mem → Prop} (C : Cx X Y 5 cX7_have RX7 WX7_have (rmB 0 0) l0) (hr : RI X Y cX7_have .int Q) (hI : YI Y) (h0 : isX7 Y b) (v3 : Int32) (v4 : Int32) (μ : Mem) (h : nX7_have_5 b p1 p2 Q (SX7_have_5 X Y b p1 p2) v3 v4 μ) : G X Y 5 5 [(0, .ref (Y.ad b)), (1, .int p1), (2, .int p2), (3, .int v3), (4, .int v4)] [] μ := by
  unfold nX7_have_5 at h
  refine g_iload C 4 dX7_have_5 rfl ?_
  refine g_iconst C (v := (4 : Int32)) dX7_have_7 (by decide) ?_
  refine g_icmp_ge C 33 dX7_have_8 (by decide) (fun c1 => ?_) (fun c1 => ?_)
  · replace h := h.1 c1
    refine g_iload_n C 3 dX7_have_33 rfl ?_
    exact hr _ _ _ _ _ dX7_have_34 rfl h
  · replace h := h.2 c1
    refine g_iload_n C 3 dX7_have_11 rfl ?_
    refine g_aload_n C 0 dX7_have_12 rfl ?_
    refine gf_RX7_49 C h0 dX7_have_13 ?_
    refine g_iload_n C 1 dX7_have_16 rfl ?_
    refine g_iconst C (v := (4 : Int32)) dX7_have_17 (by decide) ?_
    refine g_iload_n C 2 dX7_have_18 rfl ?_
    refine g_imul C dX7_have_19 ?_
    refine g_iadd C dX7_have_20 ?_
    refine g_iload C 4 dX7_have_21 rfl ?_
    refine g_iadd C dX7_have_23 ?_
    refine g_iald C (isX7_st h0).1 (isX7_st h0).2 h.1 dX7_have_24 ?_
    replace h := h.2
    refine g_iadd C dX7_have_25 ?_
    refine g_topi (fun x2 ex2 => ?_)
    replace h := h x2 ex2
    refine g_istore_n C [(3, .int x2), (0, .ref (Y.ad b)), (1, .int p1), (2, .int p2), (4, .int v4)] dX7_have_26 (by decide) rfl ?_
    refine g_iinc C (v := v4 + 1) 4 [(4, .int (v4 + 1)), (3, .int x2), (0, .ref (Y.ad b)), (1, .int p1), (2, .int p2)] dX7_have_27 rfl rfl (by decide) rfl ?_
    refine g_goto C 5 dX7_have_30 (by decide) ?_
    refine g_lv (lv2 := [(0, .ref (Y.ad b)), (1, .int p1), (2, .int p2), (3, .int x2), (4, .int (v4 + 1))]) [2, 3, 4, 1, 0] ?_ rfl
    exact h
set_option maxRecDepth 20000 in
set_option maxHeartbeats 4000000 in
theorem ok_X7_have {Y : YT} {l0 : Launch} {b : Nat} {p1 : Int32} {p2 : Int32} {μ : Mem} {Q : Int32 → Mem → Prop} (hI : YI Y) (h0 : isX7 Y b) (h : PX7_have b p1 p2 μ Q) : MI l0 yX7_have WX7_have 0 0 Y [.ref (Y.ad b), .int p1, .int p2] μ Q := by
  refine mI_of (ty := .int) (cc := cX7_have) (maxL := 5) (by decide +kernel) rfl hI (Nat.le_of_ble_eq_true rfl) (fun X C hr => ?_)
  replace C : Cx X Y 5 cX7_have RX7 WX7_have (rmB 0 0) l0 := C
  refine g_lv (lv2 := [(0, .ref (Y.ad b)), (1, .int p1), (2, .int p2)]) [0, 1, 2] ?_ rfl
  unfold PX7_have at h
  replace h := h (SX7_have_5 X Y b p1 p2) (fun v3 v4 μ z => tX7_have_5 C hr hI h0 v3 v4 μ z)
  refine g_iconst C (v := (0 : Int32)) dX7_have_0 (by decide) ?_
  refine g_istore_n C [(3, .int ((0 : Int32))), (0, .ref (Y.ad b)), (1, .int p1), (2, .int p2)] dX7_have_1 (by decide) rfl ?_
  refine g_iconst C (v := (0 : Int32)) dX7_have_2 (by decide) ?_
  refine g_istore C [(4, .int ((0 : Int32))), (3, .int ((0 : Int32))), (0, .ref (Y.ad b)), (1, .int p1), (2, .int p2)] dX7_have_3 (by decide) rfl ?_
  refine g_lv (lv2 := [(0, .ref (Y.ad b)), (1, .int p1), (2, .int p2), (3, .int ((0 : Int32))), (4, .int ((0 : Int32)))]) [2, 3, 4, 1, 0] ?_ rfl
  exact h
set_option maxRecDepth 20000 in
set_option maxHeartbeats 4000000 in
theorem tX7_wantOf_38 {X : XT} {Y : YT} {l0 : Launch} {b : Nat} {p1 : Int32} {p2 : Int32} {p3 : Int32} {Q : Int32 → Mem → Prop} (C : Cx X Y 5 cX7_wantOf RX7 WX7_wantOf (rmB 1 21) l0) (hr : RI X Y cX7_wantOf .int Q) (hI : YI Y) (h0 : isX7 Y b) (v4 : Int32) (μ : Mem) (h : nX7_wantOf_38 b p1 p2 p3 Q v4 μ) : G X Y 5 38 [(0, .ref (Y.ad b)), (1, .int p1), (2, .int p2), (3, .int p3), (4, .int v4)] [] μ := by
  unfold nX7_wantOf_38 at h
  refine g_iload C 4 dX7_wantOf_38 rfl ?_
  exact hr _ _ _ _ _ dX7_wantOf_40 rfl h
set_option maxRecDepth 20000 in
set_option maxHeartbeats 4000000 in
theorem ok_X7_wantOf {Y : YT} {l0 : Launch} {b : Nat} {p1 : Int32} {p2 : Int32} {p3 : Int32} {μ : Mem} {Q : Int32 → Mem → Prop} (hI : YI Y) (h0 : isX7 Y b) (h : PX7_wantOf b p1 p2 p3 μ Q) : MI l0 yX7_wantOf WX7_wantOf 1 21 Y [.ref (Y.ad b), .int p1, .int p2, .int p3] μ Q := by
  refine mI_of (ty := .int) (cc := cX7_wantOf) (maxL := 5) (by decide +kernel) rfl hI (Nat.le_of_ble_eq_true rfl) (fun X C hr => ?_)
  replace C : Cx X Y 5 cX7_wantOf RX7 WX7_wantOf (rmB 1 21) l0 := C
  refine g_lv (lv2 := [(0, .ref (Y.ad b)), (1, .int p1), (2, .int p2), (3, .int p3)]) [0, 1, 2, 3] ?_ rfl
  unfold PX7_wantOf at h
  refine g_aload_n C 0 dX7_wantOf_0 rfl ?_
  refine gf_RX7_16 C h0 dX7_wantOf_1 ?_
  refine g_bipush C (v := (6 : Int32)) dX7_wantOf_4 (by decide) ?_
  refine g_iload_n C 1 dX7_wantOf_6 rfl ?_
  refine g_imul C dX7_wantOf_7 ?_
  refine g_iload_n C 3 dX7_wantOf_8 rfl ?_
  refine g_iadd C dX7_wantOf_9 ?_
  refine g_iald C (isX7_wants h0).1 (isX7_wants h0).2 h.1 dX7_wantOf_10 ?_
  replace h := h.2
  refine g_istore C [(4, .int (μ.1 (b + 3) ((((6 : Int32)) * p1) + p3).toNatClampNeg)), (0, .ref (Y.ad b)), (1, .int p1), (2, .int p2), (3, .int p3)] dX7_wantOf_11 (by decide) rfl ?_
  refine g_iload C 0 dX7_wantOf_13 rfl ?_
  refine g_if_le C 38 dX7_wantOf_15 (by decide) (fun c1 => ?_) (fun c1 => ?_)
  · replace h := h.1 c1
    refine g_lv (lv2 := [(0, .ref (Y.ad b)), (1, .int p1), (2, .int p2), (3, .int p3), (4, .int (μ.1 (b + 3) ((((6 : Int32)) * p1) + p3).toNatClampNeg))]) [1, 2, 3, 4, 0] ?_ rfl
    exact tX7_wantOf_38 C hr hI h0 _ _ h
  · replace h := h.2 c1
    refine g_iload_n C 3 dX7_wantOf_18 rfl ?_
    refine g_if_eq C 38 dX7_wantOf_19 (by decide) (fun c2 => ?_) (fun c2 => ?_)
    · replace h := h.1 c2
      refine g_lv (lv2 := [(0, .ref (Y.ad b)), (1, .int p1), (2, .int p2), (3, .int p3), (4, .int (μ.1 (b + 3) ((((6 : Int32)) * p1) + p3).toNatClampNeg))]) [1, 2, 3, 4, 0] ?_ rfl
      exact tX7_wantOf_38 C hr hI h0 _ _ h
    · replace h := h.2 c2
      refine g_aload_n C 1 dX7_wantOf_22 rfl ?_
      refine g_iload_n C 2 dX7_wantOf_23 rfl ?_
      refine g_callVI C [.int p1] [] (ok_X7_kind hI h0 h) (cw_RX7_267 _) rfl dc_X7_kind ⟨Nat.le_of_ble_eq_true rfl, Nat.le_of_ble_eq_true rfl⟩ (isX7_lt h0) (isX7_sh h0) rfl rfl rfl rfl (Nat.le_of_ble_eq_true rfl) dX7_wantOf_24 (fun r4 m3 h => ?_)
      refine g_iconst C (v := (2 : Int32)) dX7_wantOf_27 (by decide) ?_
      refine g_icmp_eq C 38 dX7_wantOf_28 (by decide) (fun c5 => ?_) (fun c5 => ?_)
      · replace h := h.1 c5
        refine g_lv (lv2 := [(0, .ref (Y.ad b)), (1, .int p1), (2, .int p2), (3, .int p3), (4, .int (μ.1 (b + 3) ((((6 : Int32)) * p1) + p3).toNatClampNeg))]) [1, 2, 3, 4, 0] ?_ rfl
        exact tX7_wantOf_38 C hr hI h0 _ _ h
      · replace h := h.2 c5
        refine g_iload C 0 dX7_wantOf_31 rfl ?_
        refine g_iconst C (v := (1 : Int32)) dX7_wantOf_33 (by decide) ?_
        refine g_iadd C dX7_wantOf_34 ?_
        refine g_goto C 40 dX7_wantOf_35 (by decide) ?_
        exact hr _ _ _ _ _ dX7_wantOf_40 rfl h
set_option maxRecDepth 20000 in
set_option maxHeartbeats 4000000 in
theorem ok_X7_anyOf {Y : YT} {l0 : Launch} {b : Nat} {p1 : Int32} {p2 : Int32} {μ : Mem} {Q : Int32 → Mem → Prop} (hI : YI Y) (h0 : isX7 Y b) (h : PX7_anyOf b p1 p2 μ Q) : MI l0 yX7_anyOf WX7_anyOf 1 20 Y [.ref (Y.ad b), .int p1, .int p2] μ Q := by
  refine mI_of (ty := .int) (cc := cX7_anyOf) (maxL := 3) (by decide +kernel) rfl hI (Nat.le_of_ble_eq_true rfl) (fun X C hr => ?_)
  replace C : Cx X Y 3 cX7_anyOf RX7 WX7_anyOf (rmB 1 20) l0 := C
  refine g_lv (lv2 := [(0, .ref (Y.ad b)), (1, .int p1), (2, .int p2)]) [0, 1, 2] ?_ rfl
  unfold PX7_anyOf at h
  refine g_aload_n C 0 dX7_anyOf_0 rfl ?_
  refine gf_RX7_13 C h0 dX7_anyOf_1 ?_
  refine g_iconst C (v := (5 : Int32)) dX7_anyOf_4 (by decide) ?_
  refine g_iload_n C 1 dX7_anyOf_5 rfl ?_
  refine g_imul C dX7_anyOf_6 ?_
  refine g_iconst C (v := (3 : Int32)) dX7_anyOf_7 (by decide) ?_
  refine g_iadd C dX7_anyOf_8 ?_
  refine g_iald C (isX7_supper h0).1 (isX7_supper h0).2 h.1 dX7_anyOf_9 ?_
  replace h := h.2
  refine g_iload_n C 2 dX7_anyOf_10 rfl ?_
  refine g_callSI C [.int p2] [.int (μ.1 (b + 2) ((((5 : Int32)) * p1) + ((3 : Int32))).toNatClampNeg)] (ok_X7_flag hI  h) (cw_RX7_270 _) rfl dc_X7_flag ⟨Nat.le_of_ble_eq_true rfl, Nat.le_of_ble_eq_true rfl⟩ rfl (Nat.le_of_ble_eq_true rfl) dX7_anyOf_11 (fun r2 m1 h => ?_)
  refine g_iadd C dX7_anyOf_14 ?_
  exact hr _ _ _ _ _ dX7_anyOf_15 rfl h
set_option maxRecDepth 20000 in
set_option maxHeartbeats 4000000 in
theorem ok_X7_isAmong {Y : YT} {l0 : Launch} {b : Nat} {p1 : Int32} {p2 : Int32} {μ : Mem} {Q : Int32 → Mem → Prop} (hI : YI Y) (h0 : isX7 Y b) (h : PX7_isAmong b p1 p2 μ Q) : MI l0 yX7_isAmong WX7_isAmong 0 0 Y [.ref (Y.ad b), .int p1, .int p2] μ Q := by
  refine mI_of (ty := .boolean) (cc := cX7_isAmong) (maxL := 3) (by decide +kernel) rfl hI (Nat.le_of_ble_eq_true rfl) (fun X C hr => ?_)
  replace C : Cx X Y 3 cX7_isAmong RX7 WX7_isAmong (rmB 0 0) l0 := C
  refine g_lv (lv2 := [(0, .ref (Y.ad b)), (1, .int p1), (2, .int p2)]) [0, 1, 2] ?_ rfl
  unfold PX7_isAmong at h
  refine g_aload_n C 0 dX7_isAmong_0 rfl ?_
  refine gf_RX7_13 C h0 dX7_isAmong_1 ?_
  refine g_iconst C (v := (5 : Int32)) dX7_isAmong_4 (by decide) ?_
  refine g_iload_n C 1 dX7_isAmong_5 rfl ?_
  refine g_imul C dX7_isAmong_6 ?_
  refine g_iconst C (v := (4 : Int32)) dX7_isAmong_7 (by decide) ?_
  refine g_iadd C dX7_isAmong_8 ?_
  refine g_iald C (isX7_supper h0).1 (isX7_supper h0).2 h.1 dX7_isAmong_9 ?_
  replace h := h.2
  refine g_iload_n C 2 dX7_isAmong_10 rfl ?_
  refine g_ishr C dX7_isAmong_11 ?_
  refine g_iconst C (v := (1 : Int32)) dX7_isAmong_12 (by decide) ?_
  refine g_iand C dX7_isAmong_13 ?_
  refine g_iconst C (v := (1 : Int32)) dX7_isAmong_14 (by decide) ?_
  refine g_icmp_ne C 22 dX7_isAmong_15 (by decide) (fun c1 => ?_) (fun c1 => ?_)
  · replace h := h.1 c1
    refine g_iconst C (v := (0 : Int32)) dX7_isAmong_22 (by decide) ?_
    exact hr _ _ _ _ _ dX7_isAmong_23 rfl h
  · replace h := h.2 c1
    refine g_iconst C (v := (1 : Int32)) dX7_isAmong_18 (by decide) ?_
    refine g_goto C 23 dX7_isAmong_19 (by decide) ?_
    exact hr _ _ _ _ _ dX7_isAmong_23 rfl h
def SX7_haveAll_5 (X : XT) (Y : YT) (b : Nat) (p1 : Int32) (p2 : Int32) : Int32 → Int32 → Mem → Prop := fun v3 v4 μ => G X Y 5 5 [(0, .ref (Y.ad b)), (1, .int p1), (2, .int p2), (3, .int v3), (4, .int v4)] [] μ
set_option maxRecDepth 20000 in
set_option maxHeartbeats 4000000 in
theorem tX7_haveAll_36 {X : XT} {Y : YT} {l0 : Launch} {b : Nat} {p1 : Int32} {p2 : Int32} {Q : Int32 → Mem → Prop} (C : Cx X Y 5 cX7_haveAll RX7 WX7_haveAll (rmB 1 24) l0) (hr : RI X Y cX7_haveAll .int Q) (hI : YI Y) (h0 : isX7 Y b) (v4 : Int32) (w0 : Int32) (w1 : Int32) (μ : Mem) (h : nX7_haveAll_36 b p1 p2 Q (SX7_haveAll_5 X Y b p1 p2) v4 w0 w1 μ) : G X Y 5 36 [(0, .ref (Y.ad b)), (1, .int p1), (2, .int p2), (4, .int v4)] [.int w0, .int w1] μ := by
  unfold nX7_haveAll_36 at h
  refine g_iadd C dX7_haveAll_36 ?_
  refine g_istore_n C [(3, .int (w1 + w0)), (0, .ref (Y.ad b)), (1, .int p1), (2, .int p2), (4, .int v4)] dX7_haveAll_37 (by decide) rfl ?_
  refine g_iinc C (v := v4 + 1) 4 [(4, .int (v4 + 1)), (3, .int (w1 + w0)), (0, .ref (Y.ad b)), (1, .int p1), (2, .int p2)] dX7_haveAll_38 rfl rfl (by decide) rfl ?_
  refine g_goto C 5 dX7_haveAll_41 (by decide) ?_
  refine g_lv (lv2 := [(0, .ref (Y.ad b)), (1, .int p1), (2, .int p2), (3, .int (w1 + w0)), (4, .int (v4 + 1))]) [2, 3, 4, 1, 0] ?_ rfl
  exact h
set_option maxRecDepth 20000 in
set_option maxHeartbeats 4000000 in
theorem tX7_haveAll_5 {X : XT} {Y : YT} {l0 : Launch} {b : Nat} {p1 : Int32} {p2 : Int32} {Q : Int32 → Mem → Prop} (C : Cx X Y 5 cX7_haveAll RX7 WX7_haveAll (rmB 1 24) l0) (hr : RI X Y cX7_haveAll .int Q) (hI : YI Y) (h0 : isX7 Y b) (v3 : Int32) (v4 : Int32) (μ : Mem) (h : nX7_haveAll_5 b p1 p2 Q (SX7_haveAll_5 X Y b p1 p2) v3 v4 μ) : G X Y 5 5 [(0, .ref (Y.ad b)), (1, .int p1), (2, .int p2), (3, .int v3), (4, .int v4)] [] μ := by
  unfold nX7_haveAll_5 at h
  refine g_iload C 4 dX7_haveAll_5 rfl ?_
  refine g_aload_n C 0 dX7_haveAll_7 rfl ?_
  refine gf_RX7_115 C h0 dX7_haveAll_8 ?_
  refine g_icmp_ge C 44 dX7_haveAll_11 (by decide) (fun c1 => ?_) (fun c1 => ?_)
  · replace h := h.1 c1
    refine g_iload_n C 3 dX7_haveAll_44 rfl ?_
    exact hr _ _ _ _ _ dX7_haveAll_45 rfl h
  · replace h := h.2 c1
    refine g_iload_n C 3 dX7_haveAll_14 rfl ?_
    refine g_aload_n C 0 dX7_haveAll_15 rfl ?_
    refine g_iload_n C 2 dX7_haveAll_16 rfl ?_
    refine g_iload C 4 dX7_haveAll_17 rfl ?_
    refine g_callVI C [.int p2, .int v4] [.int v3] (ok_X7_isAmong hI h0 h) (cw_RX7_273 _) rfl dc_X7_isAmong ⟨Nat.le_of_ble_eq_true rfl, Nat.le_of_ble_eq_true rfl⟩ (isX7_lt h0) (isX7_sh h0) rfl rfl rfl rfl (Nat.le_of_ble_eq_true rfl) dX7_haveAll_19 (fun r3 m2 h => ?_)
    refine g_if_eq C 35 dX7_haveAll_22 (by decide) (fun c4 => ?_) (fun c4 => ?_)
    · replace h := h.1 c4
      refine g_iconst C (v := (0 : Int32)) dX7_haveAll_35 (by decide) ?_
      refine g_lv (lv2 := [(0, .ref (Y.ad b)), (1, .int p1), (2, .int p2), (4, .int v4)]) [0, 1, 2, 4] ?_ rfl
      exact tX7_haveAll_36 C hr hI h0 _ _ _ _ h
    · replace h := h.2 c4
      refine g_aload_n C 0 dX7_haveAll_25 rfl ?_
      refine g_iload_n C 1 dX7_haveAll_26 rfl ?_
      refine g_iload C 4 dX7_haveAll_27 rfl ?_
      refine g_callVI C [.int p1, .int v4] [.int v3] (ok_X7_have hI h0 h) (cw_RX7_276 _) rfl dc_X7_have ⟨Nat.le_of_ble_eq_true rfl, Nat.le_of_ble_eq_true rfl⟩ (isX7_lt h0) (isX7_sh h0) rfl rfl rfl rfl (Nat.le_of_ble_eq_true rfl) dX7_haveAll_29 (fun r6 m5 h => ?_)
      refine g_goto C 36 dX7_haveAll_32 (by decide) ?_
      refine g_lv (lv2 := [(0, .ref (Y.ad b)), (1, .int p1), (2, .int p2), (4, .int v4)]) [0, 1, 2, 4] ?_ rfl
      exact tX7_haveAll_36 C hr hI h0 _ _ _ _ h
set_option maxRecDepth 20000 in
set_option maxHeartbeats 4000000 in
theorem ok_X7_haveAll {Y : YT} {l0 : Launch} {b : Nat} {p1 : Int32} {p2 : Int32} {μ : Mem} {Q : Int32 → Mem → Prop} (hI : YI Y) (h0 : isX7 Y b) (h : PX7_haveAll b p1 p2 μ Q) : MI l0 yX7_haveAll WX7_haveAll 1 24 Y [.ref (Y.ad b), .int p1, .int p2] μ Q := by
  refine mI_of (ty := .int) (cc := cX7_haveAll) (maxL := 5) (by decide +kernel) rfl hI (Nat.le_of_ble_eq_true rfl) (fun X C hr => ?_)
  replace C : Cx X Y 5 cX7_haveAll RX7 WX7_haveAll (rmB 1 24) l0 := C
  refine g_lv (lv2 := [(0, .ref (Y.ad b)), (1, .int p1), (2, .int p2)]) [0, 1, 2] ?_ rfl
  unfold PX7_haveAll at h
  replace h := h (SX7_haveAll_5 X Y b p1 p2) (fun v3 v4 μ z => tX7_haveAll_5 C hr hI h0 v3 v4 μ z)
  refine g_iconst C (v := (0 : Int32)) dX7_haveAll_0 (by decide) ?_
  refine g_istore_n C [(3, .int ((0 : Int32))), (0, .ref (Y.ad b)), (1, .int p1), (2, .int p2)] dX7_haveAll_1 (by decide) rfl ?_
  refine g_iconst C (v := (0 : Int32)) dX7_haveAll_2 (by decide) ?_
  refine g_istore C [(4, .int ((0 : Int32))), (3, .int ((0 : Int32))), (0, .ref (Y.ad b)), (1, .int p1), (2, .int p2)] dX7_haveAll_3 (by decide) rfl ?_
  refine g_lv (lv2 := [(0, .ref (Y.ad b)), (1, .int p1), (2, .int p2), (3, .int ((0 : Int32))), (4, .int ((0 : Int32)))]) [2, 3, 4, 1, 0] ?_ rfl
  exact h
set_option maxRecDepth 20000 in
set_option maxHeartbeats 4000000 in
theorem tX7_lackOf_55 {X : XT} {Y : YT} {l0 : Launch} {b : Nat} {p1 : Int32} {p2 : Int32} {p3 : Int32} {p4 : Int32} {Q : Int32 → Mem → Prop} (C : Cx X Y 6 cX7_lackOf RX7 WX7_lackOf (rmB 2 48) l0) (hr : RI X Y cX7_lackOf .int Q) (hI : YI Y) (h0 : isX7 Y b) (w0 : Int32) (μ : Mem) (h : nX7_lackOf_55 b p1 p2 p3 p4 Q w0 μ) : G X Y 6 55 [(0, .ref (Y.ad b)), (1, .int p1), (2, .int p2), (3, .int p3), (4, .int p4)] [.int w0] μ := by
  unfold nX7_lackOf_55 at h
  refine g_istore C [(5, .int w0), (0, .ref (Y.ad b)), (1, .int p1), (2, .int p2), (3, .int p3), (4, .int p4)] dX7_lackOf_55 (by decide) rfl ?_
  refine g_iload C 0 dX7_lackOf_57 rfl ?_
  refine g_if_ge C 66 dX7_lackOf_59 (by decide) (fun c15 => ?_) (fun c15 => ?_)
  · replace h := h.1 c15
    refine g_iload C 0 dX7_lackOf_66 rfl ?_
    exact hr _ _ _ _ _ dX7_lackOf_68 rfl h
  · replace h := h.2 c15
    refine g_iconst C (v := (0 : Int32)) dX7_lackOf_62 (by decide) ?_
    refine g_goto C 68 dX7_lackOf_63 (by decide) ?_
    exact hr _ _ _ _ _ dX7_lackOf_68 rfl h
set_option maxRecDepth 20000 in
set_option maxHeartbeats 4000000 in
theorem ok_X7_lackOf {Y : YT} {l0 : Launch} {b : Nat} {p1 : Int32} {p2 : Int32} {p3 : Int32} {p4 : Int32} {μ : Mem} {Q : Int32 → Mem → Prop} (hI : YI Y) (h0 : isX7 Y b) (h : PX7_lackOf b p1 p2 p3 p4 μ Q) : MI l0 yX7_lackOf WX7_lackOf 2 48 Y [.ref (Y.ad b), .int p1, .int p2, .int p3, .int p4] μ Q := by
  refine mI_of (ty := .int) (cc := cX7_lackOf) (maxL := 6) (by decide +kernel) rfl hI (Nat.le_of_ble_eq_true rfl) (fun X C hr => ?_)
  replace C : Cx X Y 6 cX7_lackOf RX7 WX7_lackOf (rmB 2 48) l0 := C
  refine g_lv (lv2 := [(0, .ref (Y.ad b)), (1, .int p1), (2, .int p2), (3, .int p3), (4, .int p4)]) [0, 1, 2, 3, 4] ?_ rfl
  unfold PX7_lackOf at h
  refine g_aload_n C 0 dX7_lackOf_0 rfl ?_
  refine g_iload_n C 2 dX7_lackOf_1 rfl ?_
  refine g_callVI C [.int p2] [] (ok_X7_kind hI h0 h) (cw_RX7_267 _) rfl dc_X7_kind ⟨Nat.le_of_ble_eq_true rfl, Nat.le_of_ble_eq_true rfl⟩ (isX7_lt h0) (isX7_sh h0) rfl rfl rfl rfl (Nat.le_of_ble_eq_true rfl) dX7_lackOf_2 (fun r2 m1 h => ?_)
  refine g_iconst C (v := (3 : Int32)) dX7_lackOf_5 (by decide) ?_
  refine g_icmp_ne C 39 dX7_lackOf_6 (by decide) (fun c3 => ?_) (fun c3 => ?_)
  · replace h := h.1 c3
    refine g_aload_n C 0 dX7_lackOf_39 rfl ?_
    refine g_iload_n C 2 dX7_lackOf_40 rfl ?_
    refine g_iload_n C 3 dX7_lackOf_41 rfl ?_
    refine g_iload C 4 dX7_lackOf_42 rfl ?_
    refine g_callVI C [.int p2, .int p3, .int p4] [] (ok_X7_wantOf hI h0 h) (cw_RX7_286 _) rfl dc_X7_wantOf ⟨Nat.le_of_ble_eq_true rfl, Nat.le_of_ble_eq_true rfl⟩ (isX7_lt h0) (isX7_sh h0) rfl rfl rfl rfl (Nat.le_of_ble_eq_true rfl) dX7_lackOf_44 (fun r5 m4 h => ?_)
    refine g_aload_n C 0 dX7_lackOf_47 rfl ?_
    refine g_iload_n C 1 dX7_lackOf_48 rfl ?_
    refine g_iload C 4 dX7_lackOf_49 rfl ?_
    refine g_callVI C [.int p1, .int p4] [.int r5] (ok_X7_have hI h0 h) (cw_RX7_276 _) rfl dc_X7_have ⟨Nat.le_of_ble_eq_true rfl, Nat.le_of_ble_eq_true rfl⟩ (isX7_lt h0) (isX7_sh h0) rfl rfl rfl rfl (Nat.le_of_ble_eq_true rfl) dX7_lackOf_51 (fun r7 m6 h => ?_)
    refine g_isub C dX7_lackOf_54 ?_
    exact tX7_lackOf_55 C hr hI h0 _ _ h
  · replace h := h.2 c3
    refine g_aload_n C 0 dX7_lackOf_9 rfl ?_
    refine g_iload_n C 2 dX7_lackOf_10 rfl ?_
    refine g_iload C 4 dX7_lackOf_11 rfl ?_
    refine g_callVI C [.int p2, .int p4] [] (ok_X7_isAmong hI h0 h) (cw_RX7_273 _) rfl dc_X7_isAmong ⟨Nat.le_of_ble_eq_true rfl, Nat.le_of_ble_eq_true rfl⟩ (isX7_lt h0) (isX7_sh h0) rfl rfl rfl rfl (Nat.le_of_ble_eq_true rfl) dX7_lackOf_13 (fun r9 m8 h => ?_)
    refine g_if_eq C 35 dX7_lackOf_16 (by decide) (fun c10 => ?_) (fun c10 => ?_)
    · replace h := h.1 c10
      refine g_iconst C (v := (0 : Int32)) dX7_lackOf_35 (by decide) ?_
      refine g_goto C 55 dX7_lackOf_36 (by decide) ?_
      exact tX7_lackOf_55 C hr hI h0 _ _ h
    · replace h := h.2 c10
      refine g_aload_n C 0 dX7_lackOf_19 rfl ?_
      refine g_iload_n C 2 dX7_lackOf_20 rfl ?_
      refine g_iload_n C 3 dX7_lackOf_21 rfl ?_
      refine g_callVI C [.int p2, .int p3] [] (ok_X7_anyOf hI h0 h) (cw_RX7_279 _) rfl dc_X7_anyOf ⟨Nat.le_of_ble_eq_true rfl, Nat.le_of_ble_eq_true rfl⟩ (isX7_lt h0) (isX7_sh h0) rfl rfl rfl rfl (Nat.le_of_ble_eq_true rfl) dX7_lackOf_22 (fun r12 m11 h => ?_)
      refine g_aload_n C 0 dX7_lackOf_25 rfl ?_
      refine g_iload_n C 1 dX7_lackOf_26 rfl ?_
      refine g_iload_n C 2 dX7_lackOf_27 rfl ?_
      refine g_callVI C [.int p1, .int p2] [.int r12] (ok_X7_haveAll hI h0 h) (cw_RX7_283 _) rfl dc_X7_haveAll ⟨Nat.le_of_ble_eq_true rfl, Nat.le_of_ble_eq_true rfl⟩ (isX7_lt h0) (isX7_sh h0) rfl rfl rfl rfl (Nat.le_of_ble_eq_true rfl) dX7_lackOf_28 (fun r14 m13 h => ?_)
      refine g_isub C dX7_lackOf_31 ?_
      refine g_goto C 55 dX7_lackOf_32 (by decide) ?_
      exact tX7_lackOf_55 C hr hI h0 _ _ h
set_option maxRecDepth 20000 in
set_option maxHeartbeats 4000000 in
theorem ok_X7_weekDay {Y : YT} {l0 : Launch} {b : Nat} {p1 : Int32} {μ : Mem} {Q : Int32 → Mem → Prop} (hI : YI Y) (h0 : isX7 Y b) (h : PX7_weekDay b p1 μ Q) : MI l0 yX7_weekDay WX7_weekDay 0 0 Y [.ref (Y.ad b), .int p1] μ Q := by
  refine mI_of (ty := .int) (cc := cX7_weekDay) (maxL := 2) (by decide +kernel) rfl hI (Nat.le_of_ble_eq_true rfl) (fun X C hr => ?_)
  replace C : Cx X Y 2 cX7_weekDay RX7 WX7_weekDay (rmB 0 0) l0 := C
  refine g_lv (lv2 := [(0, .ref (Y.ad b)), (1, .int p1)]) [0, 1] ?_ rfl
  unfold PX7_weekDay at h
  refine g_aload_n C 0 dX7_weekDay_0 rfl ?_
  refine gf_RX7_49 C h0 dX7_weekDay_1 ?_
  refine g_iload_n C 1 dX7_weekDay_4 rfl ?_
  refine g_bipush C (v := (36 : Int32)) dX7_weekDay_5 (by decide) ?_
  refine g_iadd C dX7_weekDay_7 ?_
  refine g_iald C (isX7_st h0).1 (isX7_st h0).2 h.1 dX7_weekDay_8 ?_
  replace h := h.2
  refine g_bipush C (v := (7 : Int32)) dX7_weekDay_9 (by decide) ?_
  refine g_irem C dX7_weekDay_11 (by decide) ?_
  exact hr _ _ _ _ _ dX7_weekDay_12 rfl h
set_option maxRecDepth 20000 in
set_option maxHeartbeats 4000000 in
theorem tX7_isBought_50 {X : XT} {Y : YT} {l0 : Launch} {b : Nat} {p1 : Int32} {p2 : Int32} {p3 : Int32} {Q : Int32 → Mem → Prop} (C : Cx X Y 4 cX7_isBought RX7 WX7_isBought (rmB 1 21) l0) (hr : RI X Y cX7_isBought .boolean Q) (hI : YI Y) (h0 : isX7 Y b) (μ : Mem) (h : nX7_isBought_50 b p1 p2 p3 Q  μ) : G X Y 4 50 [(0, .ref (Y.ad b)), (1, .int p1), (2, .int p2), (3, .int p3)] [] μ := by
  unfold nX7_isBought_50 at h
  refine g_iconst C (v := (0 : Int32)) dX7_isBought_50 (by decide) ?_
  exact hr _ _ _ _ _ dX7_isBought_51 rfl h
set_option maxRecDepth 20000 in
set_option maxHeartbeats 4000000 in
theorem tX7_isBought_17 {X : XT} {Y : YT} {l0 : Launch} {b : Nat} {p1 : Int32} {p2 : Int32} {p3 : Int32} {Q : Int32 → Mem → Prop} (C : Cx X Y 4 cX7_isBought RX7 WX7_isBought (rmB 1 21) l0) (hr : RI X Y cX7_isBought .boolean Q) (hI : YI Y) (h0 : isX7 Y b) (μ : Mem) (h : nX7_isBought_17 b p1 p2 p3 Q  μ) : G X Y 4 17 [(0, .ref (Y.ad b)), (1, .int p1), (2, .int p2), (3, .int p3)] [] μ := by
  unfold nX7_isBought_17 at h
  refine g_aload_n C 0 dX7_isBought_17 rfl ?_
  refine gf_RX7_7 C h0 dX7_isBought_18 ?_
  refine g_iconst C (v := (3 : Int32)) dX7_isBought_21 (by decide) ?_
  refine g_iload_n C 3 dX7_isBought_22 rfl ?_
  refine g_imul C dX7_isBought_23 ?_
  refine g_iconst C (v := (2 : Int32)) dX7_isBought_24 (by decide) ?_
  refine g_iadd C dX7_isBought_25 ?_
  refine g_iald C (isX7_thing h0).1 (isX7_thing h0).2 h.1 dX7_isBought_26 ?_
  replace h := h.2
  refine g_if_le C 50 dX7_isBought_27 (by decide) (fun c7 => ?_) (fun c7 => ?_)
  · replace h := h.1 c7
    exact tX7_isBought_50 C hr hI h0 _ h
  · replace h := h.2 c7
    refine g_aload_n C 0 dX7_isBought_30 rfl ?_
    refine gf_RX7_124 C h0 dX7_isBought_31 ?_
    refine g_aload_n C 0 dX7_isBought_34 rfl ?_
    refine g_iload_n C 1 dX7_isBought_35 rfl ?_
    refine g_callVI C [.int p1] [.int (μ.1 b 7)] (ok_X7_weekDay hI h0 h) (cw_RX7_290 _) rfl dc_X7_weekDay ⟨Nat.le_of_ble_eq_true rfl, Nat.le_of_ble_eq_true rfl⟩ (isX7_lt h0) (isX7_sh h0) rfl rfl rfl rfl (Nat.le_of_ble_eq_true rfl) dX7_isBought_36 (fun r9 m8 h => ?_)
    refine g_ishr C dX7_isBought_39 ?_
    refine g_iconst C (v := (1 : Int32)) dX7_isBought_40 (by decide) ?_
    refine g_iand C dX7_isBought_41 ?_
    refine g_iconst C (v := (1 : Int32)) dX7_isBought_42 (by decide) ?_
    refine g_icmp_ne C 50 dX7_isBought_43 (by decide) (fun c10 => ?_) (fun c10 => ?_)
    · replace h := h.1 c10
      exact tX7_isBought_50 C hr hI h0 _ h
    · replace h := h.2 c10
      refine g_iconst C (v := (1 : Int32)) dX7_isBought_46 (by decide) ?_
      refine g_goto C 51 dX7_isBought_47 (by decide) ?_
      exact hr _ _ _ _ _ dX7_isBought_51 rfl h
set_option maxRecDepth 20000 in
set_option maxHeartbeats 4000000 in
theorem ok_X7_isBought {Y : YT} {l0 : Launch} {b : Nat} {p1 : Int32} {p2 : Int32} {p3 : Int32} {μ : Mem} {Q : Int32 → Mem → Prop} (hI : YI Y) (h0 : isX7 Y b) (h : PX7_isBought b p1 p2 p3 μ Q) : MI l0 yX7_isBought WX7_isBought 1 21 Y [.ref (Y.ad b), .int p1, .int p2, .int p3] μ Q := by
  refine mI_of (ty := .boolean) (cc := cX7_isBought) (maxL := 4) (by decide +kernel) rfl hI (Nat.le_of_ble_eq_true rfl) (fun X C hr => ?_)
  replace C : Cx X Y 4 cX7_isBought RX7 WX7_isBought (rmB 1 21) l0 := C
  refine g_lv (lv2 := [(0, .ref (Y.ad b)), (1, .int p1), (2, .int p2), (3, .int p3)]) [0, 1, 2, 3] ?_ rfl
  unfold PX7_isBought at h
  refine g_aload_n C 0 dX7_isBought_0 rfl ?_
  refine g_iload_n C 2 dX7_isBought_1 rfl ?_
  refine g_callVI C [.int p2] [] (ok_X7_kind hI h0 h) (cw_RX7_267 _) rfl dc_X7_kind ⟨Nat.le_of_ble_eq_true rfl, Nat.le_of_ble_eq_true rfl⟩ (isX7_lt h0) (isX7_sh h0) rfl rfl rfl rfl (Nat.le_of_ble_eq_true rfl) dX7_isBought_2 (fun r2 m1 h => ?_)
  refine g_if_eq C 17 dX7_isBought_5 (by decide) (fun c3 => ?_) (fun c3 => ?_)
  · replace h := h.1 c3
    exact tX7_isBought_17 C hr hI h0 _ h
  · replace h := h.2 c3
    refine g_aload_n C 0 dX7_isBought_8 rfl ?_
    refine g_iload_n C 2 dX7_isBought_9 rfl ?_
    refine g_callVI C [.int p2] [] (ok_X7_kind hI h0 h) (cw_RX7_267 _) rfl dc_X7_kind ⟨Nat.le_of_ble_eq_true rfl, Nat.le_of_ble_eq_true rfl⟩ (isX7_lt h0) (isX7_sh h0) rfl rfl rfl rfl (Nat.le_of_ble_eq_true rfl) dX7_isBought_10 (fun r5 m4 h => ?_)
    refine g_iconst C (v := (2 : Int32)) dX7_isBought_13 (by decide) ?_
    refine g_icmp_ne C 50 dX7_isBought_14 (by decide) (fun c6 => ?_) (fun c6 => ?_)
    · replace h := h.1 c6
      exact tX7_isBought_50 C hr hI h0 _ h
    · replace h := h.2 c6
      exact tX7_isBought_17 C hr hI h0 _ h
set_option maxRecDepth 20000 in
set_option maxHeartbeats 4000000 in
theorem ok_X7_packsOf {Y : YT} {l0 : Launch} {b : Nat} {p1 : Int32} {p2 : Int32} {p3 : Int32} {p4 : Int32} {μ : Mem} {Q : Int32 → Mem → Prop} (hI : YI Y) (h0 : isX7 Y b) (h : PX7_packsOf b p1 p2 p3 p4 μ Q) : MI l0 yX7_packsOf WX7_packsOf 3 73 Y [.ref (Y.ad b), .int p1, .int p2, .int p3, .int p4] μ Q := by
  refine mI_of (ty := .int) (cc := cX7_packsOf) (maxL := 6) (by decide +kernel) rfl hI (Nat.le_of_ble_eq_true rfl) (fun X C hr => ?_)
  replace C : Cx X Y 6 cX7_packsOf RX7 WX7_packsOf (rmB 3 73) l0 := C
  refine g_lv (lv2 := [(0, .ref (Y.ad b)), (1, .int p1), (2, .int p2), (3, .int p3), (4, .int p4)]) [0, 1, 2, 3, 4] ?_ rfl
  unfold PX7_packsOf at h
  refine g_aload_n C 0 dX7_packsOf_0 rfl ?_
  refine gf_RX7_7 C h0 dX7_packsOf_1 ?_
  refine g_iconst C (v := (3 : Int32)) dX7_packsOf_4 (by decide) ?_
  refine g_iload C 4 dX7_packsOf_5 rfl ?_
  refine g_imul C dX7_packsOf_7 ?_
  refine g_iconst C (v := (1 : Int32)) dX7_packsOf_8 (by decide) ?_
  refine g_iadd C dX7_packsOf_9 ?_
  refine g_iald C (isX7_thing h0).1 (isX7_thing h0).2 h.1 dX7_packsOf_10 ?_
  replace h := h.2
  refine g_topi (fun x1 ex1 => ?_)
  replace h := h x1 ex1
  refine g_istore C [(5, .int x1), (0, .ref (Y.ad b)), (1, .int p1), (2, .int p2), (3, .int p3), (4, .int p4)] dX7_packsOf_11 (by decide) rfl ?_
  refine g_aload_n C 1 dX7_packsOf_13 rfl ?_
  refine g_iload_n C 2 dX7_packsOf_14 rfl ?_
  refine g_iload_n C 3 dX7_packsOf_15 rfl ?_
  refine g_iload C 5 dX7_packsOf_16 rfl ?_
  refine g_callVI C [.int p1, .int p2, .int p4] [] (ok_X7_isBought hI h0 h) (cw_RX7_293 _) rfl dc_X7_isBought ⟨Nat.le_of_ble_eq_true rfl, Nat.le_of_ble_eq_true rfl⟩ (isX7_lt h0) (isX7_sh h0) rfl rfl rfl rfl (Nat.le_of_ble_eq_true rfl) dX7_packsOf_18 (fun r3 m2 h => ?_)
  refine g_if_eq C 44 dX7_packsOf_21 (by decide) (fun c4 => ?_) (fun c4 => ?_)
  · replace h := h.1 c4
    refine g_iconst C (v := (0 : Int32)) dX7_packsOf_44 (by decide) ?_
    exact hr _ _ _ _ _ dX7_packsOf_45 rfl h
  · replace h := h.2 c4
    refine g_aload_n C 1 dX7_packsOf_24 rfl ?_
    refine g_iload_n C 2 dX7_packsOf_25 rfl ?_
    refine g_iload_n C 3 dX7_packsOf_26 rfl ?_
    refine g_iload_n C 4 dX7_packsOf_27 rfl ?_
    refine g_iload C 5 dX7_packsOf_28 rfl ?_
    refine g_callVI C [.int p1, .int p2, .int p3, .int p4] [] (ok_X7_lackOf hI h0 h) (cw_RX7_297 _) rfl dc_X7_lackOf ⟨Nat.le_of_ble_eq_true rfl, Nat.le_of_ble_eq_true rfl⟩ (isX7_lt h0) (isX7_sh h0) rfl rfl rfl rfl (Nat.le_of_ble_eq_true rfl) dX7_packsOf_30 (fun r6 m5 h => ?_)
    refine g_iload C 0 dX7_packsOf_33 rfl ?_
    refine g_iadd C dX7_packsOf_35 ?_
    refine g_iconst C (v := (1 : Int32)) dX7_packsOf_36 (by decide) ?_
    refine g_isub C dX7_packsOf_37 ?_
    refine g_iload C 0 dX7_packsOf_38 rfl ?_
    refine g_idiv C dX7_packsOf_40 h.1 ?_
    replace h := h.2
    refine g_goto C 45 dX7_packsOf_41 (by decide) ?_
    exact hr _ _ _ _ _ dX7_packsOf_45 rfl h
def SX7_whyNot_62 (X : XT) (Y : YT) (b : Nat) (p1 : Int32) (p2 : Int32) (p3 : Int32) : Int32 → Mem → Prop := fun v5 μ => G X Y 6 62 [(0, .ref (Y.ad b)), (1, .int p1), (2, .int p2), (3, .int p3), (5, .int v5)] [] μ
set_option maxRecDepth 20000 in
set_option maxHeartbeats 4000000 in
theorem tX7_whyNot_59 {X : XT} {Y : YT} {l0 : Launch} {b : Nat} {p1 : Int32} {p2 : Int32} {p3 : Int32} {Q : Int32 → Mem → Prop} (C : Cx X Y 6 cX7_whyNot RX7 WX7_whyNot (rmB 3 73) l0) (hr : RI X Y cX7_whyNot .int Q) (hI : YI Y) (h0 : isX7 Y b) (μ : Mem) (h : nX7_whyNot_59 b p1 p2 p3 Q (SX7_whyNot_62 X Y b p1 p2 p3) μ) : G X Y 6 59 [(0, .ref (Y.ad b)), (1, .int p1), (2, .int p2), (3, .int p3)] [] μ := by
  unfold nX7_whyNot_59 at h
  refine g_iconst C (v := (0 : Int32)) dX7_whyNot_59 (by decide) ?_
  refine g_istore C [(5, .int ((0 : Int32))), (0, .ref (Y.ad b)), (1, .int p1), (2, .int p2), (3, .int p3)] dX7_whyNot_60 (by decide) rfl ?_
  refine g_lv (lv2 := [(0, .ref (Y.ad b)), (1, .int p1), (2, .int p2), (3, .int p3), (5, .int ((0 : Int32)))]) [1, 2, 3, 4, 0] ?_ rfl
  exact h
set_option maxRecDepth 20000 in
set_option maxHeartbeats 4000000 in
theorem tX7_whyNot_96 {X : XT} {Y : YT} {l0 : Launch} {b : Nat} {p1 : Int32} {p2 : Int32} {p3 : Int32} {Q : Int32 → Mem → Prop} (C : Cx X Y 6 cX7_whyNot RX7 WX7_whyNot (rmB 3 73) l0) (hr : RI X Y cX7_whyNot .int Q) (hI : YI Y) (h0 : isX7 Y b) (v5 : Int32) (μ : Mem) (h : nX7_whyNot_96 b p1 p2 p3 Q (SX7_whyNot_62 X Y b p1 p2 p3) v5 μ) : G X Y 6 96 [(0, .ref (Y.ad b)), (1, .int p1), (2, .int p2), (3, .int p3), (5, .int v5)] [] μ := by
  unfold nX7_whyNot_96 at h
  refine g_iinc C (v := v5 + 1) 4 [(5, .int (v5 + 1)), (0, .ref (Y.ad b)), (1, .int p1), (2, .int p2), (3, .int p3)] dX7_whyNot_96 rfl rfl (by decide) rfl ?_
  refine g_goto C 62 dX7_whyNot_99 (by decide) ?_
  refine g_lv (lv2 := [(0, .ref (Y.ad b)), (1, .int p1), (2, .int p2), (3, .int p3), (5, .int (v5 + 1))]) [1, 2, 3, 4, 0] ?_ rfl
  exact h
set_option maxRecDepth 20000 in
set_option maxHeartbeats 4000000 in
theorem tX7_whyNot_62 {X : XT} {Y : YT} {l0 : Launch} {b : Nat} {p1 : Int32} {p2 : Int32} {p3 : Int32} {Q : Int32 → Mem → Prop} (C : Cx X Y 6 cX7_whyNot RX7 WX7_whyNot (rmB 3 73) l0) (hr : RI X Y cX7_whyNot .int Q) (hI : YI Y) (h0 : isX7 Y b) (v5 : Int32) (μ : Mem) (h : nX7_whyNot_62 b p1 p2 p3 Q (SX7_whyNot_62 X Y b p1 p2 p3) v5 μ) : G X Y 6 62 [(0, .ref (Y.ad b)), (1, .int p1), (2, .int p2), (3, .int p3), (5, .int v5)] [] μ := by
  unfold nX7_whyNot_62 at h
  refine g_iload C 4 dX7_whyNot_62 rfl ?_
  refine g_aload_n C 0 dX7_whyNot_64 rfl ?_
  refine gf_RX7_115 C h0 dX7_whyNot_65 ?_
  refine g_icmp_ge C 102 dX7_whyNot_68 (by decide) (fun c6 => ?_) (fun c6 => ?_)
  · replace h := h.1 c6
    refine g_iconst C (v := (0 : Int32)) dX7_whyNot_102 (by decide) ?_
    exact hr _ _ _ _ _ dX7_whyNot_103 rfl h
  · replace h := h.2 c6
    refine g_aload_n C 0 dX7_whyNot_71 rfl ?_
    refine g_iload_n C 1 dX7_whyNot_72 rfl ?_
    refine g_iload_n C 2 dX7_whyNot_73 rfl ?_
    refine g_iload_n C 3 dX7_whyNot_74 rfl ?_
    refine g_iload C 4 dX7_whyNot_75 rfl ?_
    refine g_callVI C [.int p1, .int p2, .int p3, .int v5] [] (ok_X7_lackOf hI h0 h) (cw_RX7_297 _) rfl dc_X7_lackOf ⟨Nat.le_of_ble_eq_true rfl, Nat.le_of_ble_eq_true rfl⟩ (isX7_lt h0) (isX7_sh h0) rfl rfl rfl rfl (Nat.le_of_ble_eq_true rfl) dX7_whyNot_77 (fun r8 m7 h => ?_)
    refine g_if_le C 96 dX7_whyNot_80 (by decide) (fun c9 => ?_) (fun c9 => ?_)
    · replace h := h.1 c9
      exact tX7_whyNot_96 C hr hI h0 _ _ h
    · replace h := h.2 c9
      refine g_aload_n C 0 dX7_whyNot_83 rfl ?_
      refine g_iload_n C 1 dX7_whyNot_84 rfl ?_
      refine g_iload_n C 2 dX7_whyNot_85 rfl ?_
      refine g_iload C 4 dX7_whyNot_86 rfl ?_
      refine g_callVI C [.int p1, .int p2, .int v5] [] (ok_X7_isBought hI h0 h) (cw_RX7_293 _) rfl dc_X7_isBought ⟨Nat.le_of_ble_eq_true rfl, Nat.le_of_ble_eq_true rfl⟩ (isX7_lt h0) (isX7_sh h0) rfl rfl rfl rfl (Nat.le_of_ble_eq_true rfl) dX7_whyNot_88 (fun r11 m10 h => ?_)
      refine g_if_ne C 96 dX7_whyNot_91 (by decide) (fun c12 => ?_) (fun c12 => ?_)
      · replace h := h.1 c12
        exact tX7_whyNot_96 C hr hI h0 _ _ h
      · replace h := h.2 c12
        refine g_iconst C (v := (3 : Int32)) dX7_whyNot_94 (by decide) ?_
        exact hr _ _ _ _ _ dX7_whyNot_95 rfl h
set_option maxRecDepth 20000 in
set_option maxHeartbeats 4000000 in
theorem ok_X7_whyNot {Y : YT} {l0 : Launch} {b : Nat} {p1 : Int32} {p2 : Int32} {p3 : Int32} {μ : Mem} {Q : Int32 → Mem → Prop} (hI : YI Y) (h0 : isX7 Y b) (h : PX7_whyNot b p1 p2 p3 μ Q) : MI l0 yX7_whyNot WX7_whyNot 3 73 Y [.ref (Y.ad b), .int p1, .int p2, .int p3] μ Q := by
  refine mI_of (ty := .int) (cc := cX7_whyNot) (maxL := 6) (by decide +kernel) rfl hI (Nat.le_of_ble_eq_true rfl) (fun X C hr => ?_)
  replace C : Cx X Y 6 cX7_whyNot RX7 WX7_whyNot (rmB 3 73) l0 := C
  refine g_lv (lv2 := [(0, .ref (Y.ad b)), (1, .int p1), (2, .int p2), (3, .int p3)]) [0, 1, 2, 3] ?_ rfl
  unfold PX7_whyNot at h
  replace h := h (SX7_whyNot_62 X Y b p1 p2 p3) (fun v5 μ z => tX7_whyNot_62 C hr hI h0 v5 μ z)
  refine g_aload_n C 0 dX7_whyNot_0 rfl ?_
  refine gf_RX7_127 C h0 dX7_whyNot_1 ?_
  refine g_aload_n C 0 dX7_whyNot_4 rfl ?_
  refine g_iload_n C 1 dX7_whyNot_5 rfl ?_
  refine g_callVI C [.int p1] [.int (μ.1 b 8)] (ok_X7_weekDay hI h0 h) (cw_RX7_290 _) rfl dc_X7_weekDay ⟨Nat.le_of_ble_eq_true rfl, Nat.le_of_ble_eq_true rfl⟩ (isX7_lt h0) (isX7_sh h0) rfl rfl rfl rfl (Nat.le_of_ble_eq_true rfl) dX7_whyNot_6 (fun r2 m1 h => ?_)
  refine g_ishr C dX7_whyNot_9 ?_
  refine g_iconst C (v := (1 : Int32)) dX7_whyNot_10 (by decide) ?_
  refine g_iand C dX7_whyNot_11 ?_
  refine g_iconst C (v := (1 : Int32)) dX7_whyNot_12 (by decide) ?_
  refine g_icmp_ne C 18 dX7_whyNot_13 (by decide) (fun c3 => ?_) (fun c3 => ?_)
  · replace h := h.1 c3
    refine g_aload_n C 0 dX7_whyNot_18 rfl ?_
    refine gf_RX7_49 C h0 dX7_whyNot_19 ?_
    refine g_iload_n C 1 dX7_whyNot_22 rfl ?_
    refine g_bipush C (v := (24 : Int32)) dX7_whyNot_23 (by decide) ?_
    refine g_iadd C dX7_whyNot_25 ?_
    refine g_iload_n C 2 dX7_whyNot_26 rfl ?_
    refine g_iadd C dX7_whyNot_27 ?_
    refine g_iald C (isX7_st h0).1 (isX7_st h0).2 h.1 dX7_whyNot_28 ?_
    replace h := h.2
    refine g_istore C [(4, .int (m1.1 (b + 14) ((p1 + ((24 : Int32))) + p2).toNatClampNeg)), (0, .ref (Y.ad b)), (1, .int p1), (2, .int p2), (3, .int p3)] dX7_whyNot_29 (by decide) rfl ?_
    refine g_iload C 0 dX7_whyNot_31 rfl ?_
    refine g_bipush C (v := (-4 : Int32)) dX7_whyNot_33 (by decide) ?_
    refine g_icmp_eq C 59 dX7_whyNot_35 (by decide) (fun c4 => ?_) (fun c4 => ?_)
    · replace h := h.1 c4
      refine g_lv (lv2 := [(0, .ref (Y.ad b)), (1, .int p1), (2, .int p2), (3, .int p3)]) [1, 2, 3, 4] ?_ rfl
      exact tX7_whyNot_59 C hr hI h0 _ h
    · replace h := h.2 c4
      refine g_aload_n C 1 dX7_whyNot_38 rfl ?_
      refine gf_RX7_49 C h0 dX7_whyNot_39 ?_
      refine g_iload_n C 2 dX7_whyNot_42 rfl ?_
      refine g_bipush C (v := (36 : Int32)) dX7_whyNot_43 (by decide) ?_
      refine g_iadd C dX7_whyNot_45 ?_
      refine g_iald C (isX7_st h0).1 (isX7_st h0).2 h.1 dX7_whyNot_46 ?_
      replace h := h.2
      refine g_iload C 0 dX7_whyNot_47 rfl ?_
      refine g_isub C dX7_whyNot_49 ?_
      refine g_aload_n C 1 dX7_whyNot_50 rfl ?_
      refine gf_RX7_121 C h0 dX7_whyNot_51 ?_
      refine g_icmp_ge C 59 dX7_whyNot_54 (by decide) (fun c5 => ?_) (fun c5 => ?_)
      · replace h := h.1 c5
        refine g_lv (lv2 := [(0, .ref (Y.ad b)), (1, .int p1), (2, .int p2), (3, .int p3)]) [1, 2, 3, 4] ?_ rfl
        exact tX7_whyNot_59 C hr hI h0 _ h
      · replace h := h.2 c5
        refine g_iconst C (v := (2 : Int32)) dX7_whyNot_57 (by decide) ?_
        exact hr _ _ _ _ _ dX7_whyNot_58 rfl h
  · replace h := h.2 c3
    refine g_iconst C (v := (1 : Int32)) dX7_whyNot_16 (by decide) ?_
    exact hr _ _ _ _ _ dX7_whyNot_17 rfl h
def SX7_findTaken_11 (X : XT) (Y : YT) (b : Nat) (p1 : Int32) (p2 : Int32) (p3 : Int32) : Int32 → Int32 → Mem → Prop := fun v4 v5 μ => G X Y 9 11 [(0, .ref (Y.ad b)), (1, .int p1), (2, .int p2), (3, .int p3), (4, .int v4), (5, .int v5)] [] μ
def SX7_findTaken_35 (X : XT) (Y : YT) (b : Nat) (p1 : Int32) (p2 : Int32) (p3 : Int32) : Int32 → Int32 → Mem → Prop := fun v4 v5 μ => G X Y 9 35 [(0, .ref (Y.ad b)), (1, .int p1), (2, .int p2), (3, .int p3), (4, .int v4), (5, .int v5)] [] μ
def SX7_findTaken_66 (X : XT) (Y : YT) (b : Nat) (p1 : Int32) (p2 : Int32) (p3 : Int32) : Int32 → Int32 → Int32 → Int32 → Mem → Prop := fun v4 v5 v6 v7 μ => G X Y 9 66 [(0, .ref (Y.ad b)), (1, .int p1), (2, .int p2), (3, .int p3), (4, .int v4), (5, .int v5), (6, .int v6), (7, .int v7)] [] μ
def SX7_findTaken_145 (X : XT) (Y : YT) (b : Nat) (p1 : Int32) (p2 : Int32) (p3 : Int32) : Int32 → Int32 → Mem → Prop := fun v4 v5 μ => G X Y 9 145 [(0, .ref (Y.ad b)), (1, .int p1), (2, .int p2), (3, .int p3), (4, .int v4), (5, .int v5)] [] μ
def SX7_findTaken_162 (X : XT) (Y : YT) (b : Nat) (p1 : Int32) (p2 : Int32) (p3 : Int32) : Int32 → Int32 → Int32 → Mem → Prop := fun v4 v5 v6 μ => G X Y 9 162 [(0, .ref (Y.ad b)), (1, .int p1), (2, .int p2), (3, .int p3), (4, .int v4), (5, .int v5), (6, .int v6)] [] μ
set_option maxRecDepth 20000 in
set_option maxHeartbeats 4000000 in
theorem tX7_findTaken_11 {X : XT} {Y : YT} {l0 : Launch} {b : Nat} {p1 : Int32} {p2 : Int32} {p3 : Int32} {Q : Mem → Prop} (C : Cx X Y 9 cX7_findTaken RX7 WX7_findTaken (rmB 2 45) l0) (hr : RV X Y cX7_findTaken Q) (hI : YI Y) (h0 : isX7 Y b) (v4 : Int32) (v5 : Int32) (μ : Mem) (h : nX7_findTaken_11 b p1 p2 p3 Q (SX7_findTaken_11 X Y b p1 p2 p3) (SX7_findTaken_35 X Y b p1 p2 p3) (SX7_findTaken_66 X Y b p1 p2 p3) (SX7_findTaken_145 X Y b p1 p2 p3) (SX7_findTaken_162 X Y b p1 p2 p3) v4 v5 μ) : G X Y 9 11 [(0, .ref (Y.ad b)), (1, .int p1), (2, .int p2), (3, .int p3), (4, .int v4), (5, .int v5)] [] μ := by
  unfold nX7_findTaken_11 at h
  refine g_iload C 5 dX7_findTaken_11 rfl ?_
  refine g_bipush C (v := (24 : Int32)) dX7_findTaken_13 (by decide) ?_
  refine g_icmp_ge C 32 dX7_findTaken_15 (by decide) (fun c3 => ?_) (fun c3 => ?_)
  · replace h := h.1 c3
    refine g_iconst C (v := (0 : Int32)) dX7_findTaken_32 (by decide) ?_
    refine g_istore C [(5, .int ((0 : Int32))), (0, .ref (Y.ad b)), (1, .int p1), (2, .int p2), (3, .int p3), (4, .int v4)] dX7_findTaken_33 (by decide) rfl ?_
    refine g_lv (lv2 := [(0, .ref (Y.ad b)), (1, .int p1), (2, .int p2), (3, .int p3), (4, .int v4), (5, .int ((0 : Int32)))]) [1, 2, 3, 4, 5, 0] ?_ rfl
    exact h
  · replace h := h.2 c3
    refine g_aload_n C 0 dX7_findTaken_18 rfl ?_
    refine gf_RX7_56 C h0 dX7_findTaken_19 ?_
    refine g_iload C 5 dX7_findTaken_22 rfl ?_
    refine g_iconst C (v := (0 : Int32)) dX7_findTaken_24 (by decide) ?_
    refine g_iast C (isX7_taken h0).1 (isX7_taken h0).2 h.1 dX7_findTaken_25 ?_
    replace h := h.2
    refine g_iinc C (v := v5 + 1) 5 [(5, .int (v5 + 1)), (0, .ref (Y.ad b)), (1, .int p1), (2, .int p2), (3, .int p3), (4, .int v4)] dX7_findTaken_26 rfl rfl (by decide) rfl ?_
    refine g_goto C 11 dX7_findTaken_29 (by decide) ?_
    refine g_lv (lv2 := [(0, .ref (Y.ad b)), (1, .int p1), (2, .int p2), (3, .int p3), (4, .int v4), (5, .int (v5 + 1))]) [1, 2, 3, 4, 5, 0] ?_ rfl
    exact h
set_option maxRecDepth 20000 in
set_option maxHeartbeats 4000000 in
theorem tX7_findTaken_142 {X : XT} {Y : YT} {l0 : Launch} {b : Nat} {p1 : Int32} {p2 : Int32} {p3 : Int32} {Q : Mem → Prop} (C : Cx X Y 9 cX7_findTaken RX7 WX7_findTaken (rmB 2 45) l0) (hr : RV X Y cX7_findTaken Q) (hI : YI Y) (h0 : isX7 Y b) (v4 : Int32) (μ : Mem) (h : nX7_findTaken_142 b p1 p2 p3 Q (SX7_findTaken_11 X Y b p1 p2 p3) (SX7_findTaken_35 X Y b p1 p2 p3) (SX7_findTaken_66 X Y b p1 p2 p3) (SX7_findTaken_145 X Y b p1 p2 p3) (SX7_findTaken_162 X Y b p1 p2 p3) v4 μ) : G X Y 9 142 [(0, .ref (Y.ad b)), (1, .int p1), (2, .int p2), (3, .int p3), (4, .int v4)] [] μ := by
  unfold nX7_findTaken_142 at h
  refine g_iconst C (v := (3 : Int32)) dX7_findTaken_142 (by decide) ?_
  refine g_istore C [(5, .int ((3 : Int32))), (0, .ref (Y.ad b)), (1, .int p1), (2, .int p2), (3, .int p3), (4, .int v4)] dX7_findTaken_143 (by decide) rfl ?_
  refine g_lv (lv2 := [(0, .ref (Y.ad b)), (1, .int p1), (2, .int p2), (3, .int p3), (4, .int v4), (5, .int ((3 : Int32)))]) [1, 2, 3, 4, 5, 0] ?_ rfl
  exact h
set_option maxRecDepth 20000 in
set_option maxHeartbeats 4000000 in
theorem tX7_findTaken_35 {X : XT} {Y : YT} {l0 : Launch} {b : Nat} {p1 : Int32} {p2 : Int32} {p3 : Int32} {Q : Mem → Prop} (C : Cx X Y 9 cX7_findTaken RX7 WX7_findTaken (rmB 2 45) l0) (hr : RV X Y cX7_findTaken Q) (hI : YI Y) (h0 : isX7 Y b) (v4 : Int32) (v5 : Int32) (μ : Mem) (h : nX7_findTaken_35 b p1 p2 p3 Q (SX7_findTaken_11 X Y b p1 p2 p3) (SX7_findTaken_35 X Y b p1 p2 p3) (SX7_findTaken_66 X Y b p1 p2 p3) (SX7_findTaken_145 X Y b p1 p2 p3) (SX7_findTaken_162 X Y b p1 p2 p3) v4 v5 μ) : G X Y 9 35 [(0, .ref (Y.ad b)), (1, .int p1), (2, .int p2), (3, .int p3), (4, .int v4), (5, .int v5)] [] μ := by
  unfold nX7_findTaken_35 at h
  refine g_iload C 5 dX7_findTaken_35 rfl ?_
  refine g_aload_n C 0 dX7_findTaken_37 rfl ?_
  refine gf_RX7_115 C h0 dX7_findTaken_38 ?_
  refine g_icmp_ge C 142 dX7_findTaken_41 (by decide) (fun c4 => ?_) (fun c4 => ?_)
  · replace h := h.1 c4
    refine g_lv (lv2 := [(0, .ref (Y.ad b)), (1, .int p1), (2, .int p2), (3, .int p3), (4, .int v4)]) [0, 1, 2, 3, 4] ?_ rfl
    exact tX7_findTaken_142 C hr hI h0 _ _ h
  · replace h := h.2 c4
    refine g_aload_n C 0 dX7_findTaken_44 rfl ?_
    refine g_iload_n C 2 dX7_findTaken_45 rfl ?_
    refine g_callVI C [.int p2] [] (ok_X7_kind hI h0 h) (cw_RX7_267 _) rfl dc_X7_kind ⟨Nat.le_of_ble_eq_true rfl, Nat.le_of_ble_eq_true rfl⟩ (isX7_lt h0) (isX7_sh h0) rfl rfl rfl rfl (Nat.le_of_ble_eq_true rfl) dX7_findTaken_46 (fun r6 m5 h => ?_)
    refine g_iconst C (v := (3 : Int32)) dX7_findTaken_49 (by decide) ?_
    refine g_icmp_eq C 142 dX7_findTaken_50 (by decide) (fun c7 => ?_) (fun c7 => ?_)
    · replace h := h.1 c7
      refine g_lv (lv2 := [(0, .ref (Y.ad b)), (1, .int p1), (2, .int p2), (3, .int p3), (4, .int v4)]) [0, 1, 2, 3, 4] ?_ rfl
      exact tX7_findTaken_142 C hr hI h0 _ _ h
    · replace h := h.2 c7
      refine g_aload_n C 0 dX7_findTaken_53 rfl ?_
      refine g_iload_n C 2 dX7_findTaken_54 rfl ?_
      refine g_iload_n C 3 dX7_findTaken_55 rfl ?_
      refine g_iload C 5 dX7_findTaken_56 rfl ?_
      refine g_callVI C [.int p2, .int p3, .int v5] [] (ok_X7_wantOf hI h0 h) (cw_RX7_286 _) rfl dc_X7_wantOf ⟨Nat.le_of_ble_eq_true rfl, Nat.le_of_ble_eq_true rfl⟩ (isX7_lt h0) (isX7_sh h0) rfl rfl rfl rfl (Nat.le_of_ble_eq_true rfl) dX7_findTaken_58 (fun r9 m8 h => ?_)
      refine g_istore C [(6, .int r9), (0, .ref (Y.ad b)), (1, .int p1), (2, .int p2), (3, .int p3), (4, .int v4), (5, .int v5)] dX7_findTaken_61 (by decide) rfl ?_
      refine g_iconst C (v := (3 : Int32)) dX7_findTaken_63 (by decide) ?_
      refine g_istore C [(7, .int ((3 : Int32))), (6, .int r9), (0, .ref (Y.ad b)), (1, .int p1), (2, .int p2), (3, .int p3), (4, .int v4), (5, .int v5)] dX7_findTaken_64 (by decide) rfl ?_
      refine g_lv (lv2 := [(0, .ref (Y.ad b)), (1, .int p1), (2, .int p2), (3, .int p3), (4, .int v4), (5, .int v5), (6, .int r9), (7, .int ((3 : Int32)))]) [2, 3, 4, 5, 6, 7, 1, 0] ?_ rfl
      exact h
set_option maxRecDepth 20000 in
set_option maxHeartbeats 4000000 in
theorem tX7_findTaken_112 {X : XT} {Y : YT} {l0 : Launch} {b : Nat} {p1 : Int32} {p2 : Int32} {p3 : Int32} {Q : Mem → Prop} (C : Cx X Y 9 cX7_findTaken RX7 WX7_findTaken (rmB 2 45) l0) (hr : RV X Y cX7_findTaken Q) (hI : YI Y) (h0 : isX7 Y b) (v4 : Int32) (v5 : Int32) (v6 : Int32) (v7 : Int32) (w0 : Int32) (w1 : Int32) (μ : Mem) (h : nX7_findTaken_112 b p1 p2 p3 Q (SX7_findTaken_11 X Y b p1 p2 p3) (SX7_findTaken_35 X Y b p1 p2 p3) (SX7_findTaken_66 X Y b p1 p2 p3) (SX7_findTaken_145 X Y b p1 p2 p3) (SX7_findTaken_162 X Y b p1 p2 p3) v4 v5 v6 v7 w0 w1 μ) : G X Y 9 112 [(0, .ref (Y.ad b)), (1, .int p1), (2, .int p2), (3, .int p3), (4, .int v4), (5, .int v5), (6, .int v6), (7, .int v7)] [.int w0, .int w1, .ref (Y.ad (b + 16))] μ := by
  unfold nX7_findTaken_112 at h
  refine g_iast C (isX7_taken h0).1 (isX7_taken h0).2 h.1 dX7_findTaken_112 ?_
  replace h := h.2
  refine g_iload C 6 dX7_findTaken_113 rfl ?_
  refine g_aload_n C 0 dX7_findTaken_115 rfl ?_
  refine gf_RX7_56 C h0 dX7_findTaken_116 ?_
  refine g_iconst C (v := (4 : Int32)) dX7_findTaken_119 (by decide) ?_
  refine g_iload C 5 dX7_findTaken_120 rfl ?_
  refine g_imul C dX7_findTaken_122 ?_
  refine g_iload C 7 dX7_findTaken_123 rfl ?_
  refine g_iadd C dX7_findTaken_125 ?_
  refine g_iald C (isX7_taken h0).1 (isX7_taken h0).2 h.1 dX7_findTaken_126 ?_
  replace h := h.2
  refine g_isub C dX7_findTaken_127 ?_
  refine g_topi (fun x13 ex13 => ?_)
  replace h := h x13 ex13
  refine g_istore C [(6, .int x13), (0, .ref (Y.ad b)), (1, .int p1), (2, .int p2), (3, .int p3), (4, .int v4), (5, .int v5), (7, .int v7)] dX7_findTaken_128 (by decide) rfl ?_
  refine g_iinc C (v := v7 + (-1)) 7 [(7, .int (v7 + (-1))), (6, .int x13), (0, .ref (Y.ad b)), (1, .int p1), (2, .int p2), (3, .int p3), (4, .int v4), (5, .int v5)] dX7_findTaken_130 rfl rfl (by decide) rfl ?_
  refine g_goto C 66 dX7_findTaken_133 (by decide) ?_
  refine g_lv (lv2 := [(0, .ref (Y.ad b)), (1, .int p1), (2, .int p2), (3, .int p3), (4, .int v4), (5, .int v5), (6, .int x13), (7, .int (v7 + (-1)))]) [2, 3, 4, 5, 6, 7, 1, 0] ?_ rfl
  exact h
set_option maxRecDepth 20000 in
set_option maxHeartbeats 4000000 in
theorem tX7_findTaken_66 {X : XT} {Y : YT} {l0 : Launch} {b : Nat} {p1 : Int32} {p2 : Int32} {p3 : Int32} {Q : Mem → Prop} (C : Cx X Y 9 cX7_findTaken RX7 WX7_findTaken (rmB 2 45) l0) (hr : RV X Y cX7_findTaken Q) (hI : YI Y) (h0 : isX7 Y b) (v4 : Int32) (v5 : Int32) (v6 : Int32) (v7 : Int32) (μ : Mem) (h : nX7_findTaken_66 b p1 p2 p3 Q (SX7_findTaken_11 X Y b p1 p2 p3) (SX7_findTaken_35 X Y b p1 p2 p3) (SX7_findTaken_66 X Y b p1 p2 p3) (SX7_findTaken_145 X Y b p1 p2 p3) (SX7_findTaken_162 X Y b p1 p2 p3) v4 v5 v6 v7 μ) : G X Y 9 66 [(0, .ref (Y.ad b)), (1, .int p1), (2, .int p2), (3, .int p3), (4, .int v4), (5, .int v5), (6, .int v6), (7, .int v7)] [] μ := by
  unfold nX7_findTaken_66 at h
  refine g_iload C 7 dX7_findTaken_66 rfl ?_
  refine g_if_lt C 136 dX7_findTaken_68 (by decide) (fun c10 => ?_) (fun c10 => ?_)
  · replace h := h.1 c10
    refine g_iinc C (v := v5 + 1) 5 [(5, .int (v5 + 1)), (0, .ref (Y.ad b)), (1, .int p1), (2, .int p2), (3, .int p3), (4, .int v4), (6, .int v6), (7, .int v7)] dX7_findTaken_136 rfl rfl (by decide) rfl ?_
    refine g_goto C 35 dX7_findTaken_139 (by decide) ?_
    refine g_lv (lv2 := [(0, .ref (Y.ad b)), (1, .int p1), (2, .int p2), (3, .int p3), (4, .int v4), (5, .int (v5 + 1))]) [1, 2, 3, 4, 5, 0] ?_ rfl
    exact h
  · replace h := h.2 c10
    refine g_aload_n C 0 dX7_findTaken_71 rfl ?_
    refine gf_RX7_49 C h0 dX7_findTaken_72 ?_
    refine g_iload_n C 1 dX7_findTaken_75 rfl ?_
    refine g_iconst C (v := (4 : Int32)) dX7_findTaken_76 (by decide) ?_
    refine g_iload C 5 dX7_findTaken_77 rfl ?_
    refine g_imul C dX7_findTaken_79 ?_
    refine g_iadd C dX7_findTaken_80 ?_
    refine g_iload C 7 dX7_findTaken_81 rfl ?_
    refine g_iadd C dX7_findTaken_83 ?_
    refine g_iald C (isX7_st h0).1 (isX7_st h0).2 h.1 dX7_findTaken_84 ?_
    replace h := h.2
    refine g_topi (fun x11 ex11 => ?_)
    replace h := h x11 ex11
    refine g_istore C [(8, .int x11), (0, .ref (Y.ad b)), (1, .int p1), (2, .int p2), (3, .int p3), (4, .int v4), (5, .int v5), (6, .int v6), (7, .int v7)] dX7_findTaken_85 (by decide) rfl ?_
    refine g_aload_n C 1 dX7_findTaken_87 rfl ?_
    refine gf_RX7_56 C h0 dX7_findTaken_88 ?_
    refine g_iconst C (v := (4 : Int32)) dX7_findTaken_91 (by decide) ?_
    refine g_iload C 6 dX7_findTaken_92 rfl ?_
    refine g_imul C dX7_findTaken_94 ?_
    refine g_iload C 8 dX7_findTaken_95 rfl ?_
    refine g_iadd C dX7_findTaken_97 ?_
    refine g_iload C 0 dX7_findTaken_98 rfl ?_
    refine g_iload C 7 dX7_findTaken_100 rfl ?_
    refine g_icmp_ge C 110 dX7_findTaken_102 (by decide) (fun c12 => ?_) (fun c12 => ?_)
    · replace h := h.1 c12
      refine g_iload C 7 dX7_findTaken_110 rfl ?_
      refine g_lv (lv2 := [(0, .ref (Y.ad b)), (1, .int p1), (2, .int p2), (3, .int p3), (4, .int v4), (5, .int v5), (6, .int v6), (7, .int v7)]) [1, 2, 3, 4, 5, 6, 7, 8] ?_ rfl
      exact tX7_findTaken_112 C hr hI h0 _ _ _ _ _ _ _ h
    · replace h := h.2 c12
      refine g_iload C 0 dX7_findTaken_105 rfl ?_
      refine g_goto C 112 dX7_findTaken_107 (by decide) ?_
      refine g_lv (lv2 := [(0, .ref (Y.ad b)), (1, .int p1), (2, .int p2), (3, .int p3), (4, .int v4), (5, .int v5), (6, .int v6), (7, .int v7)]) [1, 2, 3, 4, 5, 6, 7, 8] ?_ rfl
      exact tX7_findTaken_112 C hr hI h0 _ _ _ _ _ _ _ h
set_option maxRecDepth 20000 in
set_option maxHeartbeats 4000000 in
theorem tX7_findTaken_145 {X : XT} {Y : YT} {l0 : Launch} {b : Nat} {p1 : Int32} {p2 : Int32} {p3 : Int32} {Q : Mem → Prop} (C : Cx X Y 9 cX7_findTaken RX7 WX7_findTaken (rmB 2 45) l0) (hr : RV X Y cX7_findTaken Q) (hI : YI Y) (h0 : isX7 Y b) (v4 : Int32) (v5 : Int32) (μ : Mem) (h : nX7_findTaken_145 b p1 p2 p3 Q (SX7_findTaken_11 X Y b p1 p2 p3) (SX7_findTaken_35 X Y b p1 p2 p3) (SX7_findTaken_66 X Y b p1 p2 p3) (SX7_findTaken_145 X Y b p1 p2 p3) (SX7_findTaken_162 X Y b p1 p2 p3) v4 v5 μ) : G X Y 9 145 [(0, .ref (Y.ad b)), (1, .int p1), (2, .int p2), (3, .int p3), (4, .int v4), (5, .int v5)] [] μ := by
  unfold nX7_findTaken_145 at h
  refine g_iload C 5 dX7_findTaken_145 rfl ?_
  refine g_if_lt C 256 dX7_findTaken_147 (by decide) (fun c14 => ?_) (fun c14 => ?_)
  · replace h := h.1 c14
    exact hr _ _ _ _ dX7_findTaken_256 h
  · replace h := h.2 c14
    refine g_aload_n C 0 dX7_findTaken_150 rfl ?_
    refine g_iload_n C 2 dX7_findTaken_151 rfl ?_
    refine g_callVI C [.int p2] [] (ok_X7_kind hI h0 h) (cw_RX7_267 _) rfl dc_X7_kind ⟨Nat.le_of_ble_eq_true rfl, Nat.le_of_ble_eq_true rfl⟩ (isX7_lt h0) (isX7_sh h0) rfl rfl rfl rfl (Nat.le_of_ble_eq_true rfl) dX7_findTaken_152 (fun r16 m15 h => ?_)
    refine g_iconst C (v := (3 : Int32)) dX7_findTaken_155 (by decide) ?_
    refine g_icmp_ne C 256 dX7_findTaken_156 (by decide) (fun c17 => ?_) (fun c17 => ?_)
    · replace h := h.1 c17
      exact hr _ _ _ _ dX7_findTaken_256 h
    · replace h := h.2 c17
      refine g_iconst C (v := (0 : Int32)) dX7_findTaken_159 (by decide) ?_
      refine g_istore C [(6, .int ((0 : Int32))), (0, .ref (Y.ad b)), (1, .int p1), (2, .int p2), (3, .int p3), (4, .int v4), (5, .int v5)] dX7_findTaken_160 (by decide) rfl ?_
      refine g_lv (lv2 := [(0, .ref (Y.ad b)), (1, .int p1), (2, .int p2), (3, .int p3), (4, .int v4), (5, .int v5), (6, .int ((0 : Int32)))]) [1, 2, 3, 4, 5, 6, 0] ?_ rfl
      exact h
set_option maxRecDepth 20000 in
set_option maxHeartbeats 4000000 in
theorem tX7_findTaken_226 {X : XT} {Y : YT} {l0 : Launch} {b : Nat} {p1 : Int32} {p2 : Int32} {p3 : Int32} {Q : Mem → Prop} (C : Cx X Y 9 cX7_findTaken RX7 WX7_findTaken (rmB 2 45) l0) (hr : RV X Y cX7_findTaken Q) (hI : YI Y) (h0 : isX7 Y b) (v4 : Int32) (v5 : Int32) (v6 : Int32) (w0 : Int32) (w1 : Int32) (μ : Mem) (h : nX7_findTaken_226 b p1 p2 p3 Q (SX7_findTaken_11 X Y b p1 p2 p3) (SX7_findTaken_35 X Y b p1 p2 p3) (SX7_findTaken_66 X Y b p1 p2 p3) (SX7_findTaken_145 X Y b p1 p2 p3) (SX7_findTaken_162 X Y b p1 p2 p3) v4 v5 v6 w0 w1 μ) : G X Y 9 226 [(0, .ref (Y.ad b)), (1, .int p1), (2, .int p2), (3, .int p3), (4, .int v4), (5, .int v5), (6, .int v6)] [.int w0, .int w1, .ref (Y.ad (b + 16))] μ := by
  unfold nX7_findTaken_226 at h
  refine g_iast C (isX7_taken h0).1 (isX7_taken h0).2 h.1 dX7_findTaken_226 ?_
  replace h := h.2
  refine g_iload C 4 dX7_findTaken_227 rfl ?_
  refine g_aload_n C 0 dX7_findTaken_229 rfl ?_
  refine gf_RX7_56 C h0 dX7_findTaken_230 ?_
  refine g_iconst C (v := (4 : Int32)) dX7_findTaken_233 (by decide) ?_
  refine g_iload C 6 dX7_findTaken_234 rfl ?_
  refine g_imul C dX7_findTaken_236 ?_
  refine g_iload C 5 dX7_findTaken_237 rfl ?_
  refine g_iadd C dX7_findTaken_239 ?_
  refine g_iald C (isX7_taken h0).1 (isX7_taken h0).2 h.1 dX7_findTaken_240 ?_
  replace h := h.2
  refine g_isub C dX7_findTaken_241 ?_
  refine g_topi (fun x23 ex23 => ?_)
  replace h := h x23 ex23
  refine g_istore C [(4, .int x23), (0, .ref (Y.ad b)), (1, .int p1), (2, .int p2), (3, .int p3), (5, .int v5), (6, .int v6)] dX7_findTaken_242 (by decide) rfl ?_
  refine g_iinc C (v := v6 + 1) 6 [(6, .int (v6 + 1)), (4, .int x23), (0, .ref (Y.ad b)), (1, .int p1), (2, .int p2), (3, .int p3), (5, .int v5)] dX7_findTaken_244 rfl rfl (by decide) rfl ?_
  refine g_goto C 162 dX7_findTaken_247 (by decide) ?_
  refine g_lv (lv2 := [(0, .ref (Y.ad b)), (1, .int p1), (2, .int p2), (3, .int p3), (4, .int x23), (5, .int v5), (6, .int (v6 + 1))]) [2, 3, 4, 5, 1, 6, 0] ?_ rfl
  exact h
set_option maxRecDepth 20000 in
set_option maxHeartbeats 4000000 in
theorem tX7_findTaken_199 {X : XT} {Y : YT} {l0 : Launch} {b : Nat} {p1 : Int32} {p2 : Int32} {p3 : Int32} {Q : Mem → Prop} (C : Cx X Y 9 cX7_findTaken RX7 WX7_findTaken (rmB 2 45) l0) (hr : RV X Y cX7_findTaken Q) (hI : YI Y) (h0 : isX7 Y b) (v4 : Int32) (v5 : Int32) (v6 : Int32) (w0 : Int32) (μ : Mem) (h : nX7_findTaken_199 b p1 p2 p3 Q (SX7_findTaken_11 X Y b p1 p2 p3) (SX7_findTaken_35 X Y b p1 p2 p3) (SX7_findTaken_66 X Y b p1 p2 p3) (SX7_findTaken_145 X Y b p1 p2 p3) (SX7_findTaken_162 X Y b p1 p2 p3) v4 v5 v6 w0 μ) : G X Y 9 199 [(0, .ref (Y.ad b)), (1, .int p1), (2, .int p2), (3, .int p3), (4, .int v4), (5, .int v5), (6, .int v6)] [.int w0] μ := by
  unfold nX7_findTaken_199 at h
  refine g_istore C [(7, .int w0), (0, .ref (Y.ad b)), (1, .int p1), (2, .int p2), (3, .int p3), (4, .int v4), (5, .int v5), (6, .int v6)] dX7_findTaken_199 (by decide) rfl ?_
  refine g_aload_n C 1 dX7_findTaken_201 rfl ?_
  refine gf_RX7_56 C h0 dX7_findTaken_202 ?_
  refine g_iconst C (v := (4 : Int32)) dX7_findTaken_205 (by decide) ?_
  refine g_iload C 7 dX7_findTaken_206 rfl ?_
  refine g_imul C dX7_findTaken_208 ?_
  refine g_iload C 6 dX7_findTaken_209 rfl ?_
  refine g_iadd C dX7_findTaken_211 ?_
  refine g_iload C 0 dX7_findTaken_212 rfl ?_
  refine g_iload C 5 dX7_findTaken_214 rfl ?_
  refine g_icmp_ge C 224 dX7_findTaken_216 (by decide) (fun c22 => ?_) (fun c22 => ?_)
  · replace h := h.1 c22
    refine g_iload C 5 dX7_findTaken_224 rfl ?_
    refine g_lv (lv2 := [(0, .ref (Y.ad b)), (1, .int p1), (2, .int p2), (3, .int p3), (4, .int v4), (5, .int v5), (6, .int v6)]) [1, 2, 3, 4, 5, 6, 7] ?_ rfl
    exact tX7_findTaken_226 C hr hI h0 _ _ _ _ _ _ h
  · replace h := h.2 c22
    refine g_iload C 0 dX7_findTaken_219 rfl ?_
    refine g_goto C 226 dX7_findTaken_221 (by decide) ?_
    refine g_lv (lv2 := [(0, .ref (Y.ad b)), (1, .int p1), (2, .int p2), (3, .int p3), (4, .int v4), (5, .int v5), (6, .int v6)]) [1, 2, 3, 4, 5, 6, 7] ?_ rfl
    exact tX7_findTaken_226 C hr hI h0 _ _ _ _ _ _ h
set_option maxRecDepth 20000 in
set_option maxHeartbeats 4000000 in
theorem tX7_findTaken_162 {X : XT} {Y : YT} {l0 : Launch} {b : Nat} {p1 : Int32} {p2 : Int32} {p3 : Int32} {Q : Mem → Prop} (C : Cx X Y 9 cX7_findTaken RX7 WX7_findTaken (rmB 2 45) l0) (hr : RV X Y cX7_findTaken Q) (hI : YI Y) (h0 : isX7 Y b) (v4 : Int32) (v5 : Int32) (v6 : Int32) (μ : Mem) (h : nX7_findTaken_162 b p1 p2 p3 Q (SX7_findTaken_11 X Y b p1 p2 p3) (SX7_findTaken_35 X Y b p1 p2 p3) (SX7_findTaken_66 X Y b p1 p2 p3) (SX7_findTaken_145 X Y b p1 p2 p3) (SX7_findTaken_162 X Y b p1 p2 p3) v4 v5 v6 μ) : G X Y 9 162 [(0, .ref (Y.ad b)), (1, .int p1), (2, .int p2), (3, .int p3), (4, .int v4), (5, .int v5), (6, .int v6)] [] μ := by
  unfold nX7_findTaken_162 at h
  refine g_iload C 6 dX7_findTaken_162 rfl ?_
  refine g_aload_n C 0 dX7_findTaken_164 rfl ?_
  refine gf_RX7_115 C h0 dX7_findTaken_165 ?_
  refine g_icmp_ge C 250 dX7_findTaken_168 (by decide) (fun c18 => ?_) (fun c18 => ?_)
  · replace h := h.1 c18
    refine g_iinc C (v := v5 + (-1)) 5 [(5, .int (v5 + (-1))), (0, .ref (Y.ad b)), (1, .int p1), (2, .int p2), (3, .int p3), (4, .int v4), (6, .int v6)] dX7_findTaken_250 rfl rfl (by decide) rfl ?_
    refine g_goto C 145 dX7_findTaken_253 (by decide) ?_
    refine g_lv (lv2 := [(0, .ref (Y.ad b)), (1, .int p1), (2, .int p2), (3, .int p3), (4, .int v4), (5, .int (v5 + (-1)))]) [1, 2, 3, 4, 5, 0] ?_ rfl
    exact h
  · replace h := h.2 c18
    refine g_aload_n C 0 dX7_findTaken_171 rfl ?_
    refine g_iload_n C 2 dX7_findTaken_172 rfl ?_
    refine g_iload C 6 dX7_findTaken_173 rfl ?_
    refine g_callVI C [.int p2, .int v6] [] (ok_X7_isAmong hI h0 h) (cw_RX7_273 _) rfl dc_X7_isAmong ⟨Nat.le_of_ble_eq_true rfl, Nat.le_of_ble_eq_true rfl⟩ (isX7_lt h0) (isX7_sh h0) rfl rfl rfl rfl (Nat.le_of_ble_eq_true rfl) dX7_findTaken_175 (fun r20 m19 h => ?_)
    refine g_if_eq C 198 dX7_findTaken_178 (by decide) (fun c21 => ?_) (fun c21 => ?_)
    · replace h := h.1 c21
      refine g_iconst C (v := (0 : Int32)) dX7_findTaken_198 (by decide) ?_
      exact tX7_findTaken_199 C hr hI h0 _ _ _ _ _ h
    · replace h := h.2 c21
      refine g_aload_n C 0 dX7_findTaken_181 rfl ?_
      refine gf_RX7_49 C h0 dX7_findTaken_182 ?_
      refine g_iload_n C 1 dX7_findTaken_185 rfl ?_
      refine g_iconst C (v := (4 : Int32)) dX7_findTaken_186 (by decide) ?_
      refine g_iload C 6 dX7_findTaken_187 rfl ?_
      refine g_imul C dX7_findTaken_189 ?_
      refine g_iadd C dX7_findTaken_190 ?_
      refine g_iload C 5 dX7_findTaken_191 rfl ?_
      refine g_iadd C dX7_findTaken_193 ?_
      refine g_iald C (isX7_st h0).1 (isX7_st h0).2 h.1 dX7_findTaken_194 ?_
      replace h := h.2
      refine g_goto C 199 dX7_findTaken_195 (by decide) ?_
      exact tX7_findTaken_199 C hr hI h0 _ _ _ _ _ h
set_option maxRecDepth 20000 in
set_option maxHeartbeats 4000000 in
theorem ok_X7_findTaken {Y : YT} {l0 : Launch} {b : Nat} {p1 : Int32} {p2 : Int32} {p3 : Int32} {μ : Mem} {Q : Mem → Prop} (hI : YI Y) (h0 : isX7 Y b) (h : PX7_findTaken b p1 p2 p3 μ Q) : MV l0 yX7_findTaken WX7_findTaken 2 45 Y [.ref (Y.ad b), .int p1, .int p2, .int p3] μ Q := by
  refine mV_of (cc := cX7_findTaken) (maxL := 9) (by decide +kernel) rfl hI (Nat.le_of_ble_eq_true rfl) (fun X C hr => ?_)
  replace C : Cx X Y 9 cX7_findTaken RX7 WX7_findTaken (rmB 2 45) l0 := C
  refine g_lv (lv2 := [(0, .ref (Y.ad b)), (1, .int p1), (2, .int p2), (3, .int p3)]) [0, 1, 2, 3] ?_ rfl
  unfold PX7_findTaken at h
  replace h := h (SX7_findTaken_11 X Y b p1 p2 p3) (SX7_findTaken_35 X Y b p1 p2 p3) (SX7_findTaken_66 X Y b p1 p2 p3) (SX7_findTaken_145 X Y b p1 p2 p3) (SX7_findTaken_162 X Y b p1 p2 p3) (fun v4 v5 μ z => tX7_findTaken_11 C hr hI h0 v4 v5 μ z) (fun v4 v5 μ z => tX7_findTaken_35 C hr hI h0 v4 v5 μ z) (fun v4 v5 v6 v7 μ z => tX7_findTaken_66 C hr hI h0 v4 v5 v6 v7 μ z) (fun v4 v5 μ z => tX7_findTaken_145 C hr hI h0 v4 v5 μ z) (fun v4 v5 v6 μ z => tX7_findTaken_162 C hr hI h0 v4 v5 v6 μ z)
  refine g_aload_n C 0 dX7_findTaken_0 rfl ?_
  refine g_iload_n C 2 dX7_findTaken_1 rfl ?_
  refine g_iload_n C 3 dX7_findTaken_2 rfl ?_
  refine g_callVI C [.int p2, .int p3] [] (ok_X7_anyOf hI h0 h) (cw_RX7_279 _) rfl dc_X7_anyOf ⟨Nat.le_of_ble_eq_true rfl, Nat.le_of_ble_eq_true rfl⟩ (isX7_lt h0) (isX7_sh h0) rfl rfl rfl rfl (Nat.le_of_ble_eq_true rfl) dX7_findTaken_3 (fun r2 m1 h => ?_)
  refine g_istore C [(4, .int r2), (0, .ref (Y.ad b)), (1, .int p1), (2, .int p2), (3, .int p3)] dX7_findTaken_6 (by decide) rfl ?_
  refine g_iconst C (v := (0 : Int32)) dX7_findTaken_8 (by decide) ?_
  refine g_istore C [(5, .int ((0 : Int32))), (4, .int r2), (0, .ref (Y.ad b)), (1, .int p1), (2, .int p2), (3, .int p3)] dX7_findTaken_9 (by decide) rfl ?_
  refine g_lv (lv2 := [(0, .ref (Y.ad b)), (1, .int p1), (2, .int p2), (3, .int p3), (4, .int r2), (5, .int ((0 : Int32)))]) [2, 3, 4, 5, 1, 0] ?_ rfl
  exact h
def SX7_eats_13 (X : XT) (Y : YT) (b : Nat) (p1 : Int32) (p2 : Int32) (p3 : Int32) : Int32 → Int32 → Mem → Prop := fun v4 v5 μ => G X Y 8 13 [(0, .ref (Y.ad b)), (1, .int p1), (2, .int p2), (3, .int p3), (4, .int v4), (5, .int v5)] [] μ
def SX7_eats_105 (X : XT) (Y : YT) (b : Nat) (p1 : Int32) (p2 : Int32) (p3 : Int32) : Int32 → Int32 → Mem → Prop := fun v4 v5 μ => G X Y 8 105 [(0, .ref (Y.ad b)), (1, .int p1), (2, .int p2), (3, .int p3), (4, .int v4), (5, .int v5)] [] μ
def SX7_eats_117 (X : XT) (Y : YT) (b : Nat) (p1 : Int32) (p2 : Int32) (p3 : Int32) : Int32 → Int32 → Int32 → Mem → Prop := fun v4 v5 v6 μ => G X Y 8 117 [(0, .ref (Y.ad b)), (1, .int p1), (2, .int p2), (3, .int p3), (4, .int v4), (5, .int v5), (6, .int v6)] [] μ
set_option maxRecDepth 20000 in
set_option maxHeartbeats 4000000 in
theorem tX7_eats_65 {X : XT} {Y : YT} {l0 : Launch} {b : Nat} {p1 : Int32} {p2 : Int32} {p3 : Int32} {Q : Int32 → Mem → Prop} (C : Cx X Y 8 cX7_eats RX7 WX7_eats (rmB 4 98) l0) (hr : RI X Y cX7_eats .int Q) (hI : YI Y) (h0 : isX7 Y b) (v4 : Int32) (v5 : Int32) (v6 : Int32) (w0 : Int32) (w1 : Int32) (μ : Mem) (h : nX7_eats_65 b p1 p2 p3 Q (SX7_eats_13 X Y b p1 p2 p3) (SX7_eats_105 X Y b p1 p2 p3) (SX7_eats_117 X Y b p1 p2 p3) v4 v5 v6 w0 w1 μ) : G X Y 8 65 [(0, .ref (Y.ad b)), (1, .int p1), (2, .int p2), (3, .int p3), (4, .int v4), (5, .int v5), (6, .int v6)] [.int w0, .int w1] μ := by
  unfold nX7_eats_65 at h
  refine g_isub C dX7_eats_65 ?_
  refine g_istore C [(7, .int (w1 - w0)), (0, .ref (Y.ad b)), (1, .int p1), (2, .int p2), (3, .int p3), (4, .int v4), (5, .int v5), (6, .int v6)] dX7_eats_66 (by decide) rfl ?_
  refine g_iload C 5 dX7_eats_68 rfl ?_
  refine g_iload C 7 dX7_eats_70 rfl ?_
  refine g_aload_n C 1 dX7_eats_72 rfl ?_
  refine gf_RX7_7 C h0 dX7_eats_73 ?_
  refine g_iconst C (v := (3 : Int32)) dX7_eats_76 (by decide) ?_
  refine g_iload C 6 dX7_eats_77 rfl ?_
  refine g_imul C dX7_eats_79 ?_
  refine g_iconst C (v := (2 : Int32)) dX7_eats_80 (by decide) ?_
  refine g_iadd C dX7_eats_81 ?_
  refine g_iald C (isX7_thing h0).1 (isX7_thing h0).2 h.1 dX7_eats_82 ?_
  replace h := h.2
  refine g_imul C dX7_eats_83 ?_
  refine g_iadd C dX7_eats_84 ?_
  refine g_topi (fun x9 ex9 => ?_)
  replace h := h x9 ex9
  refine g_istore C [(4, .int x9), (7, .int (w1 - w0)), (0, .ref (Y.ad b)), (1, .int p1), (2, .int p2), (3, .int p3), (5, .int v5), (6, .int v6)] dX7_eats_85 (by decide) rfl ?_
  refine g_aload_n C 2 dX7_eats_87 rfl ?_
  refine gf_RX7_59 C h0 dX7_eats_88 ?_
  refine g_iload C 6 dX7_eats_91 rfl ?_
  refine g_iload C 1 dX7_eats_93 rfl ?_
  refine g_iast C (isX7_bought h0).1 (isX7_bought h0).2 h.1 dX7_eats_95 ?_
  replace h := h.2
  refine g_iinc C (v := v5 + 1) 6 [(5, .int (v5 + 1)), (4, .int x9), (7, .int (w1 - w0)), (0, .ref (Y.ad b)), (1, .int p1), (2, .int p2), (3, .int p3), (6, .int v6)] dX7_eats_96 rfl rfl (by decide) rfl ?_
  refine g_goto C 13 dX7_eats_99 (by decide) ?_
  refine g_lv (lv2 := [(0, .ref (Y.ad b)), (1, .int p1), (2, .int p2), (3, .int p3), (4, .int x9), (5, .int (v5 + 1))]) [3, 4, 5, 6, 1, 0] ?_ rfl
  exact h
set_option maxRecDepth 20000 in
set_option maxHeartbeats 4000000 in
theorem tX7_eats_13 {X : XT} {Y : YT} {l0 : Launch} {b : Nat} {p1 : Int32} {p2 : Int32} {p3 : Int32} {Q : Int32 → Mem → Prop} (C : Cx X Y 8 cX7_eats RX7 WX7_eats (rmB 4 98) l0) (hr : RI X Y cX7_eats .int Q) (hI : YI Y) (h0 : isX7 Y b) (v4 : Int32) (v5 : Int32) (μ : Mem) (h : nX7_eats_13 b p1 p2 p3 Q (SX7_eats_13 X Y b p1 p2 p3) (SX7_eats_105 X Y b p1 p2 p3) (SX7_eats_117 X Y b p1 p2 p3) v4 v5 μ) : G X Y 8 13 [(0, .ref (Y.ad b)), (1, .int p1), (2, .int p2), (3, .int p3), (4, .int v4), (5, .int v5)] [] μ := by
  unfold nX7_eats_13 at h
  refine g_iload C 5 dX7_eats_13 rfl ?_
  refine g_aload_n C 0 dX7_eats_15 rfl ?_
  refine gf_RX7_115 C h0 dX7_eats_16 ?_
  refine g_icmp_ge C 102 dX7_eats_19 (by decide) (fun c3 => ?_) (fun c3 => ?_)
  · replace h := h.1 c3
    refine g_iconst C (v := (0 : Int32)) dX7_eats_102 (by decide) ?_
    refine g_istore C [(5, .int ((0 : Int32))), (0, .ref (Y.ad b)), (1, .int p1), (2, .int p2), (3, .int p3), (4, .int v4)] dX7_eats_103 (by decide) rfl ?_
    refine g_lv (lv2 := [(0, .ref (Y.ad b)), (1, .int p1), (2, .int p2), (3, .int p3), (4, .int v4), (5, .int ((0 : Int32)))]) [1, 2, 3, 4, 5, 0] ?_ rfl
    exact h
  · replace h := h.2 c3
    refine g_aload_n C 0 dX7_eats_22 rfl ?_
    refine g_iload_n C 1 dX7_eats_23 rfl ?_
    refine g_iload_n C 2 dX7_eats_24 rfl ?_
    refine g_iload_n C 3 dX7_eats_25 rfl ?_
    refine g_iload C 5 dX7_eats_26 rfl ?_
    refine g_callVI C [.int p1, .int p2, .int p3, .int v5] [] (ok_X7_packsOf hI h0 h) (cw_RX7_305 _) rfl dc_X7_packsOf ⟨Nat.le_of_ble_eq_true rfl, Nat.le_of_ble_eq_true rfl⟩ (isX7_lt h0) (isX7_sh h0) rfl rfl rfl rfl (Nat.le_of_ble_eq_true rfl) dX7_eats_28 (fun r5 m4 h => ?_)
    refine g_istore C [(6, .int r5), (0, .ref (Y.ad b)), (1, .int p1), (2, .int p2), (3, .int p3), (4, .int v4), (5, .int v5)] dX7_eats_31 (by decide) rfl ?_
    refine g_iload C 0 dX7_eats_33 rfl ?_
    refine g_aload_n C 1 dX7_eats_35 rfl ?_
    refine gf_RX7_7 C h0 dX7_eats_36 ?_
    refine g_iconst C (v := (3 : Int32)) dX7_eats_39 (by decide) ?_
    refine g_iload C 6 dX7_eats_40 rfl ?_
    refine g_imul C dX7_eats_42 ?_
    refine g_iconst C (v := (1 : Int32)) dX7_eats_43 (by decide) ?_
    refine g_iadd C dX7_eats_44 ?_
    refine g_iald C (isX7_thing h0).1 (isX7_thing h0).2 h.1 dX7_eats_45 ?_
    replace h := h.2
    refine g_imul C dX7_eats_46 ?_
    refine g_iload C 0 dX7_eats_47 rfl ?_
    refine g_if_le C 64 dX7_eats_49 (by decide) (fun c6 => ?_) (fun c6 => ?_)
    · replace h := h.1 c6
      refine g_iconst C (v := (0 : Int32)) dX7_eats_64 (by decide) ?_
      refine g_lv (lv2 := [(0, .ref (Y.ad b)), (1, .int p1), (2, .int p2), (3, .int p3), (4, .int v4), (5, .int v5), (6, .int r5)]) [1, 2, 3, 4, 5, 6, 0] ?_ rfl
      exact tX7_eats_65 C hr hI h0 _ _ _ _ _ _ h
    · replace h := h.2 c6
      refine g_aload_n C 1 dX7_eats_52 rfl ?_
      refine g_iload_n C 2 dX7_eats_53 rfl ?_
      refine g_iload_n C 3 dX7_eats_54 rfl ?_
      refine g_iload_n C 4 dX7_eats_55 rfl ?_
      refine g_iload C 6 dX7_eats_56 rfl ?_
      refine g_callVI C [.int p1, .int p2, .int p3, .int v5] [.int (r5 * (m4.1 (b + 1) ((((3 : Int32)) * v5) + ((1 : Int32))).toNatClampNeg))] (ok_X7_lackOf hI h0 h) (cw_RX7_297 _) rfl dc_X7_lackOf ⟨Nat.le_of_ble_eq_true rfl, Nat.le_of_ble_eq_true rfl⟩ (isX7_lt h0) (isX7_sh h0) rfl rfl rfl rfl (Nat.le_of_ble_eq_true rfl) dX7_eats_58 (fun r8 m7 h => ?_)
      refine g_goto C 65 dX7_eats_61 (by decide) ?_
      refine g_lv (lv2 := [(0, .ref (Y.ad b)), (1, .int p1), (2, .int p2), (3, .int p3), (4, .int v4), (5, .int v5), (6, .int r5)]) [1, 2, 3, 4, 5, 6, 0] ?_ rfl
      exact tX7_eats_65 C hr hI h0 _ _ _ _ _ _ h
set_option maxRecDepth 20000 in
set_option maxHeartbeats 4000000 in
theorem tX7_eats_105 {X : XT} {Y : YT} {l0 : Launch} {b : Nat} {p1 : Int32} {p2 : Int32} {p3 : Int32} {Q : Int32 → Mem → Prop} (C : Cx X Y 8 cX7_eats RX7 WX7_eats (rmB 4 98) l0) (hr : RI X Y cX7_eats .int Q) (hI : YI Y) (h0 : isX7 Y b) (v4 : Int32) (v5 : Int32) (μ : Mem) (h : nX7_eats_105 b p1 p2 p3 Q (SX7_eats_13 X Y b p1 p2 p3) (SX7_eats_105 X Y b p1 p2 p3) (SX7_eats_117 X Y b p1 p2 p3) v4 v5 μ) : G X Y 8 105 [(0, .ref (Y.ad b)), (1, .int p1), (2, .int p2), (3, .int p3), (4, .int v4), (5, .int v5)] [] μ := by
  unfold nX7_eats_105 at h
  refine g_iload C 5 dX7_eats_105 rfl ?_
  refine g_aload_n C 0 dX7_eats_107 rfl ?_
  refine gf_RX7_115 C h0 dX7_eats_108 ?_
  refine g_icmp_ge C 198 dX7_eats_111 (by decide) (fun c10 => ?_) (fun c10 => ?_)
  · replace h := h.1 c10
    refine g_aload_n C 0 dX7_eats_198 rfl ?_
    refine gf_RX7_49 C h0 dX7_eats_199 ?_
    refine g_iload_n C 1 dX7_eats_202 rfl ?_
    refine g_bipush C (v := (24 : Int32)) dX7_eats_203 (by decide) ?_
    refine g_iadd C dX7_eats_205 ?_
    refine g_iload_n C 2 dX7_eats_206 rfl ?_
    refine g_iadd C dX7_eats_207 ?_
    refine g_aload_n C 0 dX7_eats_208 rfl ?_
    refine gf_RX7_49 C h0 dX7_eats_209 ?_
    refine g_iload_n C 1 dX7_eats_212 rfl ?_
    refine g_bipush C (v := (36 : Int32)) dX7_eats_213 (by decide) ?_
    refine g_iadd C dX7_eats_215 ?_
    refine g_iald C (isX7_st h0).1 (isX7_st h0).2 h.1 dX7_eats_216 ?_
    replace h := h.2
    refine g_iast C (isX7_st h0).1 (isX7_st h0).2 h.1 dX7_eats_217 ?_
    replace h := h.2
    refine g_mem (fun m11 em11 => ?_)
    replace h := h m11 em11
    refine g_aload_n C 0 dX7_eats_218 rfl ?_
    refine gf_RX7_49 C h0 dX7_eats_219 ?_
    refine g_iload_n C 1 dX7_eats_222 rfl ?_
    refine g_bipush C (v := (37 : Int32)) dX7_eats_223 (by decide) ?_
    refine g_iadd C dX7_eats_225 ?_
    refine g_iload_n C 2 dX7_eats_226 rfl ?_
    refine g_iast C (isX7_st h0).1 (isX7_st h0).2 h.1 dX7_eats_227 ?_
    replace h := h.2
    refine g_aload_n C 0 dX7_eats_228 rfl ?_
    refine gf_RX7_49 C h0 dX7_eats_229 ?_
    refine g_iload_n C 1 dX7_eats_232 rfl ?_
    refine g_bipush C (v := (33 : Int32)) dX7_eats_233 (by decide) ?_
    refine g_iadd C dX7_eats_235 ?_
    refine g_dup2 C dX7_eats_236 rfl rfl ?_
    refine g_iald C (isX7_st h0).1 (isX7_st h0).2 h.1 dX7_eats_237 ?_
    replace h := h.2
    refine g_iload C 4 dX7_eats_238 rfl ?_
    refine g_iadd C dX7_eats_240 ?_
    refine g_iast C (isX7_st h0).1 (isX7_st h0).2 h.1 dX7_eats_241 ?_
    replace h := h.2
    refine g_mem (fun m12 em12 => ?_)
    replace h := h m12 em12
    refine g_aload_n C 0 dX7_eats_242 rfl ?_
    refine gf_RX7_49 C h0 dX7_eats_243 ?_
    refine g_iload_n C 1 dX7_eats_246 rfl ?_
    refine g_bipush C (v := (35 : Int32)) dX7_eats_247 (by decide) ?_
    refine g_iadd C dX7_eats_249 ?_
    refine g_dup2 C dX7_eats_250 rfl rfl ?_
    refine g_iald C (isX7_st h0).1 (isX7_st h0).2 h.1 dX7_eats_251 ?_
    replace h := h.2
    refine g_aload_n C 0 dX7_eats_252 rfl ?_
    refine gf_RX7_13 C h0 dX7_eats_253 ?_
    refine g_iconst C (v := (5 : Int32)) dX7_eats_256 (by decide) ?_
    refine g_iload_n C 2 dX7_eats_257 rfl ?_
    refine g_imul C dX7_eats_258 ?_
    refine g_iconst C (v := (1 : Int32)) dX7_eats_259 (by decide) ?_
    refine g_iadd C dX7_eats_260 ?_
    refine g_iald C (isX7_supper h0).1 (isX7_supper h0).2 h.1 dX7_eats_261 ?_
    replace h := h.2
    refine g_iadd C dX7_eats_262 ?_
    refine g_iast C (isX7_st h0).1 (isX7_st h0).2 h.1 dX7_eats_263 ?_
    replace h := h.2
    refine g_mem (fun m13 em13 => ?_)
    replace h := h m13 em13
    refine g_iload C 4 dX7_eats_264 rfl ?_
    exact hr _ _ _ _ _ dX7_eats_266 rfl h
  · replace h := h.2 c10
    refine g_iconst C (v := (0 : Int32)) dX7_eats_114 (by decide) ?_
    refine g_istore C [(6, .int ((0 : Int32))), (0, .ref (Y.ad b)), (1, .int p1), (2, .int p2), (3, .int p3), (4, .int v4), (5, .int v5)] dX7_eats_115 (by decide) rfl ?_
    refine g_lv (lv2 := [(0, .ref (Y.ad b)), (1, .int p1), (2, .int p2), (3, .int p3), (4, .int v4), (5, .int v5), (6, .int ((0 : Int32)))]) [1, 2, 3, 4, 5, 6, 0] ?_ rfl
    exact h
set_option maxRecDepth 20000 in
set_option maxHeartbeats 4000000 in
theorem tX7_eats_117 {X : XT} {Y : YT} {l0 : Launch} {b : Nat} {p1 : Int32} {p2 : Int32} {p3 : Int32} {Q : Int32 → Mem → Prop} (C : Cx X Y 8 cX7_eats RX7 WX7_eats (rmB 4 98) l0) (hr : RI X Y cX7_eats .int Q) (hI : YI Y) (h0 : isX7 Y b) (v4 : Int32) (v5 : Int32) (v6 : Int32) (μ : Mem) (h : nX7_eats_117 b p1 p2 p3 Q (SX7_eats_13 X Y b p1 p2 p3) (SX7_eats_105 X Y b p1 p2 p3) (SX7_eats_117 X Y b p1 p2 p3) v4 v5 v6 μ) : G X Y 8 117 [(0, .ref (Y.ad b)), (1, .int p1), (2, .int p2), (3, .int p3), (4, .int v4), (5, .int v5), (6, .int v6)] [] μ := by
  unfold nX7_eats_117 at h
  refine g_iload C 6 dX7_eats_117 rfl ?_
  refine g_iconst C (v := (4 : Int32)) dX7_eats_119 (by decide) ?_
  refine g_icmp_ge C 158 dX7_eats_120 (by decide) (fun c14 => ?_) (fun c14 => ?_)
  · replace h := h.1 c14
    refine g_aload_n C 0 dX7_eats_158 rfl ?_
    refine gf_RX7_49 C h0 dX7_eats_159 ?_
    refine g_iload_n C 1 dX7_eats_162 rfl ?_
    refine g_iconst C (v := (4 : Int32)) dX7_eats_163 (by decide) ?_
    refine g_iload C 5 dX7_eats_164 rfl ?_
    refine g_imul C dX7_eats_166 ?_
    refine g_iadd C dX7_eats_167 ?_
    refine g_dup2 C dX7_eats_168 rfl rfl ?_
    refine g_iald C (isX7_st h0).1 (isX7_st h0).2 h.1 dX7_eats_169 ?_
    replace h := h.2
    refine g_aload_n C 0 dX7_eats_170 rfl ?_
    refine gf_RX7_59 C h0 dX7_eats_171 ?_
    refine g_iload C 5 dX7_eats_174 rfl ?_
    refine g_iald C (isX7_bought h0).1 (isX7_bought h0).2 h.1 dX7_eats_176 ?_
    replace h := h.2
    refine g_aload_n C 0 dX7_eats_177 rfl ?_
    refine gf_RX7_19 C h0 dX7_eats_178 ?_
    refine g_bipush C (v := (6 : Int32)) dX7_eats_181 (by decide) ?_
    refine g_iload_n C 2 dX7_eats_183 rfl ?_
    refine g_imul C dX7_eats_184 ?_
    refine g_iload C 5 dX7_eats_185 rfl ?_
    refine g_iadd C dX7_eats_187 ?_
    refine g_iald C (isX7_leaves h0).1 (isX7_leaves h0).2 h.1 dX7_eats_188 ?_
    replace h := h.2
    refine g_iadd C dX7_eats_189 ?_
    refine g_iadd C dX7_eats_190 ?_
    refine g_iast C (isX7_st h0).1 (isX7_st h0).2 h.1 dX7_eats_191 ?_
    replace h := h.2
    refine g_mem (fun m15 em15 => ?_)
    replace h := h m15 em15
    refine g_iinc C (v := v5 + 1) 5 [(5, .int (v5 + 1)), (0, .ref (Y.ad b)), (1, .int p1), (2, .int p2), (3, .int p3), (4, .int v4), (6, .int v6)] dX7_eats_192 rfl rfl (by decide) rfl ?_
    refine g_goto C 105 dX7_eats_195 (by decide) ?_
    refine g_lv (lv2 := [(0, .ref (Y.ad b)), (1, .int p1), (2, .int p2), (3, .int p3), (4, .int v4), (5, .int (v5 + 1))]) [1, 2, 3, 4, 5, 0] ?_ rfl
    exact h
  · replace h := h.2 c14
    refine g_aload_n C 0 dX7_eats_123 rfl ?_
    refine gf_RX7_49 C h0 dX7_eats_124 ?_
    refine g_iload_n C 1 dX7_eats_127 rfl ?_
    refine g_iconst C (v := (4 : Int32)) dX7_eats_128 (by decide) ?_
    refine g_iload C 5 dX7_eats_129 rfl ?_
    refine g_imul C dX7_eats_131 ?_
    refine g_iadd C dX7_eats_132 ?_
    refine g_iload C 6 dX7_eats_133 rfl ?_
    refine g_iadd C dX7_eats_135 ?_
    refine g_dup2 C dX7_eats_136 rfl rfl ?_
    refine g_iald C (isX7_st h0).1 (isX7_st h0).2 h.1 dX7_eats_137 ?_
    replace h := h.2
    refine g_aload_n C 0 dX7_eats_138 rfl ?_
    refine gf_RX7_56 C h0 dX7_eats_139 ?_
    refine g_iconst C (v := (4 : Int32)) dX7_eats_142 (by decide) ?_
    refine g_iload C 5 dX7_eats_143 rfl ?_
    refine g_imul C dX7_eats_145 ?_
    refine g_iload C 6 dX7_eats_146 rfl ?_
    refine g_iadd C dX7_eats_148 ?_
    refine g_iald C (isX7_taken h0).1 (isX7_taken h0).2 h.1 dX7_eats_149 ?_
    replace h := h.2
    refine g_isub C dX7_eats_150 ?_
    refine g_iast C (isX7_st h0).1 (isX7_st h0).2 h.1 dX7_eats_151 ?_
    replace h := h.2
    refine g_mem (fun m16 em16 => ?_)
    replace h := h m16 em16
    refine g_iinc C (v := v6 + 1) 6 [(6, .int (v6 + 1)), (0, .ref (Y.ad b)), (1, .int p1), (2, .int p2), (3, .int p3), (4, .int v4), (5, .int v5)] dX7_eats_152 rfl rfl (by decide) rfl ?_
    refine g_goto C 117 dX7_eats_155 (by decide) ?_
    refine g_lv (lv2 := [(0, .ref (Y.ad b)), (1, .int p1), (2, .int p2), (3, .int p3), (4, .int v4), (5, .int v5), (6, .int (v6 + 1))]) [1, 2, 3, 4, 5, 6, 0] ?_ rfl
    exact h
set_option maxRecDepth 20000 in
set_option maxHeartbeats 4000000 in
theorem ok_X7_eats {Y : YT} {l0 : Launch} {b : Nat} {p1 : Int32} {p2 : Int32} {p3 : Int32} {μ : Mem} {Q : Int32 → Mem → Prop} (hI : YI Y) (h0 : isX7 Y b) (h : PX7_eats b p1 p2 p3 μ Q) : MI l0 yX7_eats WX7_eats 4 98 Y [.ref (Y.ad b), .int p1, .int p2, .int p3] μ Q := by
  refine mI_of (ty := .int) (cc := cX7_eats) (maxL := 8) (by decide +kernel) rfl hI (Nat.le_of_ble_eq_true rfl) (fun X C hr => ?_)
  replace C : Cx X Y 8 cX7_eats RX7 WX7_eats (rmB 4 98) l0 := C
  refine g_lv (lv2 := [(0, .ref (Y.ad b)), (1, .int p1), (2, .int p2), (3, .int p3)]) [0, 1, 2, 3] ?_ rfl
  unfold PX7_eats at h
  replace h := h (SX7_eats_13 X Y b p1 p2 p3) (SX7_eats_105 X Y b p1 p2 p3) (SX7_eats_117 X Y b p1 p2 p3) (fun v4 v5 μ z => tX7_eats_13 C hr hI h0 v4 v5 μ z) (fun v4 v5 μ z => tX7_eats_105 C hr hI h0 v4 v5 μ z) (fun v4 v5 v6 μ z => tX7_eats_117 C hr hI h0 v4 v5 v6 μ z)
  refine g_iconst C (v := (0 : Int32)) dX7_eats_0 (by decide) ?_
  refine g_istore C [(4, .int ((0 : Int32))), (0, .ref (Y.ad b)), (1, .int p1), (2, .int p2), (3, .int p3)] dX7_eats_1 (by decide) rfl ?_
  refine g_aload_n C 1 dX7_eats_3 rfl ?_
  refine g_iload_n C 2 dX7_eats_4 rfl ?_
  refine g_iload_n C 3 dX7_eats_5 rfl ?_
  refine g_iload_n C 4 dX7_eats_6 rfl ?_
  refine g_callVV C [.int p1, .int p2, .int p3] [] (ok_X7_findTaken hI h0 h) (cw_RX7_301 _) rfl dc_X7_findTaken ⟨Nat.le_of_ble_eq_true rfl, Nat.le_of_ble_eq_true rfl⟩ (isX7_lt h0) (isX7_sh h0) rfl rfl rfl rfl (Nat.le_of_ble_eq_true rfl) dX7_eats_7 (fun m1 h => ?_)
  refine g_iconst C (v := (0 : Int32)) dX7_eats_10 (by decide) ?_
  refine g_istore C [(5, .int ((0 : Int32))), (4, .int ((0 : Int32))), (0, .ref (Y.ad b)), (1, .int p1), (2, .int p2), (3, .int p3)] dX7_eats_11 (by decide) rfl ?_
  refine g_lv (lv2 := [(0, .ref (Y.ad b)), (1, .int p1), (2, .int p2), (3, .int p3), (4, .int ((0 : Int32))), (5, .int ((0 : Int32)))]) [2, 3, 4, 5, 1, 0] ?_ rfl
  exact h
def SX7_nights_4 (X : XT) (Y : YT) (b : Nat) (p1 : Int32) : Int32 → Int32 → Mem → Prop := fun v2 v3 μ => G X Y 6 4 [(0, .ref (Y.ad b)), (1, .int p1), (2, .int v2), (3, .int v3)] [] μ
def SX7_nights_15 (X : XT) (Y : YT) (b : Nat) (p1 : Int32) : Int32 → Int32 → Int32 → Mem → Prop := fun v2 v3 v4 μ => G X Y 6 15 [(0, .ref (Y.ad b)), (1, .int p1), (2, .int v2), (3, .int v3), (4, .int v4)] [] μ
set_option maxRecDepth 20000 in
set_option maxHeartbeats 4000000 in
theorem tX7_nights_4 {X : XT} {Y : YT} {l0 : Launch} {b : Nat} {p1 : Int32} {Q : Int32 → Mem → Prop} (C : Cx X Y 6 cX7_nights RX7 WX7_nights (rmB 1 21) l0) (hr : RI X Y cX7_nights .int Q) (hI : YI Y) (h0 : isX7 Y b) (v2 : Int32) (v3 : Int32) (μ : Mem) (h : nX7_nights_4 b p1 Q (SX7_nights_4 X Y b p1) (SX7_nights_15 X Y b p1) v2 v3 μ) : G X Y 6 4 [(0, .ref (Y.ad b)), (1, .int p1), (2, .int v2), (3, .int v3)] [] μ := by
  unfold nX7_nights_4 at h
  refine g_iload_n C 3 dX7_nights_4 rfl ?_
  refine g_aload_n C 0 dX7_nights_5 rfl ?_
  refine gf_RX7_115 C h0 dX7_nights_6 ?_
  refine g_icmp_ge C 98 dX7_nights_9 (by decide) (fun c1 => ?_) (fun c1 => ?_)
  · replace h := h.1 c1
    refine g_aload_n C 0 dX7_nights_98 rfl ?_
    refine gf_RX7_49 C h0 dX7_nights_99 ?_
    refine g_iload_n C 1 dX7_nights_102 rfl ?_
    refine g_bipush C (v := (34 : Int32)) dX7_nights_103 (by decide) ?_
    refine g_iadd C dX7_nights_105 ?_
    refine g_dup2 C dX7_nights_106 rfl rfl ?_
    refine g_iald C (isX7_st h0).1 (isX7_st h0).2 h.1 dX7_nights_107 ?_
    replace h := h.2
    refine g_iload_n C 2 dX7_nights_108 rfl ?_
    refine g_iadd C dX7_nights_109 ?_
    refine g_iast C (isX7_st h0).1 (isX7_st h0).2 h.1 dX7_nights_110 ?_
    replace h := h.2
    refine g_mem (fun m2 em2 => ?_)
    replace h := h m2 em2
    refine g_aload_n C 0 dX7_nights_111 rfl ?_
    refine gf_RX7_49 C h0 dX7_nights_112 ?_
    refine g_iload_n C 1 dX7_nights_115 rfl ?_
    refine g_bipush C (v := (36 : Int32)) dX7_nights_116 (by decide) ?_
    refine g_iadd C dX7_nights_118 ?_
    refine g_dup2 C dX7_nights_119 rfl rfl ?_
    refine g_iald C (isX7_st h0).1 (isX7_st h0).2 h.1 dX7_nights_120 ?_
    replace h := h.2
    refine g_iconst C (v := (1 : Int32)) dX7_nights_121 (by decide) ?_
    refine g_iadd C dX7_nights_122 ?_
    refine g_iast C (isX7_st h0).1 (isX7_st h0).2 h.1 dX7_nights_123 ?_
    replace h := h.2
    refine g_mem (fun m3 em3 => ?_)
    replace h := h m3 em3
    refine g_aload_n C 0 dX7_nights_124 rfl ?_
    refine gf_RX7_49 C h0 dX7_nights_125 ?_
    refine g_iload_n C 1 dX7_nights_128 rfl ?_
    refine g_bipush C (v := (37 : Int32)) dX7_nights_129 (by decide) ?_
    refine g_iadd C dX7_nights_131 ?_
    refine g_bipush C (v := (-4 : Int32)) dX7_nights_132 (by decide) ?_
    refine g_iast C (isX7_st h0).1 (isX7_st h0).2 h.1 dX7_nights_134 ?_
    replace h := h.2
    refine g_iload_n C 2 dX7_nights_135 rfl ?_
    exact hr _ _ _ _ _ dX7_nights_136 rfl h
  · replace h := h.2 c1
    refine g_iconst C (v := (3 : Int32)) dX7_nights_12 (by decide) ?_
    refine g_istore C [(4, .int ((3 : Int32))), (0, .ref (Y.ad b)), (1, .int p1), (2, .int v2), (3, .int v3)] dX7_nights_13 (by decide) rfl ?_
    refine g_lv (lv2 := [(0, .ref (Y.ad b)), (1, .int p1), (2, .int v2), (3, .int v3), (4, .int ((3 : Int32)))]) [1, 2, 3, 4, 0] ?_ rfl
    exact h
set_option maxRecDepth 20000 in
set_option maxHeartbeats 4000000 in
theorem tX7_nights_86 {X : XT} {Y : YT} {l0 : Launch} {b : Nat} {p1 : Int32} {Q : Int32 → Mem → Prop} (C : Cx X Y 6 cX7_nights RX7 WX7_nights (rmB 1 21) l0) (hr : RI X Y cX7_nights .int Q) (hI : YI Y) (h0 : isX7 Y b) (v2 : Int32) (v3 : Int32) (v4 : Int32) (μ : Mem) (h : nX7_nights_86 b p1 Q (SX7_nights_4 X Y b p1) (SX7_nights_15 X Y b p1) v2 v3 v4 μ) : G X Y 6 86 [(0, .ref (Y.ad b)), (1, .int p1), (2, .int v2), (3, .int v3), (4, .int v4)] [] μ := by
  unfold nX7_nights_86 at h
  refine g_iinc C (v := v4 + (-1)) 4 [(4, .int (v4 + (-1))), (0, .ref (Y.ad b)), (1, .int p1), (2, .int v2), (3, .int v3)] dX7_nights_86 rfl rfl (by decide) rfl ?_
  refine g_goto C 15 dX7_nights_89 (by decide) ?_
  refine g_lv (lv2 := [(0, .ref (Y.ad b)), (1, .int p1), (2, .int v2), (3, .int v3), (4, .int (v4 + (-1)))]) [1, 2, 3, 4, 0] ?_ rfl
  exact h
set_option maxRecDepth 20000 in
set_option maxHeartbeats 4000000 in
theorem tX7_nights_15 {X : XT} {Y : YT} {l0 : Launch} {b : Nat} {p1 : Int32} {Q : Int32 → Mem → Prop} (C : Cx X Y 6 cX7_nights RX7 WX7_nights (rmB 1 21) l0) (hr : RI X Y cX7_nights .int Q) (hI : YI Y) (h0 : isX7 Y b) (v2 : Int32) (v3 : Int32) (v4 : Int32) (μ : Mem) (h : nX7_nights_15 b p1 Q (SX7_nights_4 X Y b p1) (SX7_nights_15 X Y b p1) v2 v3 v4 μ) : G X Y 6 15 [(0, .ref (Y.ad b)), (1, .int p1), (2, .int v2), (3, .int v3), (4, .int v4)] [] μ := by
  unfold nX7_nights_15 at h
  refine g_iload C 4 dX7_nights_15 rfl ?_
  refine g_if_lt C 92 dX7_nights_17 (by decide) (fun c4 => ?_) (fun c4 => ?_)
  · replace h := h.1 c4
    refine g_iinc C (v := v3 + 1) 3 [(3, .int (v3 + 1)), (0, .ref (Y.ad b)), (1, .int p1), (2, .int v2), (4, .int v4)] dX7_nights_92 rfl rfl (by decide) rfl ?_
    refine g_goto C 4 dX7_nights_95 (by decide) ?_
    refine g_lv (lv2 := [(0, .ref (Y.ad b)), (1, .int p1), (2, .int v2), (3, .int (v3 + 1))]) [1, 2, 3, 0] ?_ rfl
    exact h
  · replace h := h.2 c4
    refine g_aload_n C 0 dX7_nights_20 rfl ?_
    refine gf_RX7_49 C h0 dX7_nights_21 ?_
    refine g_iload_n C 1 dX7_nights_24 rfl ?_
    refine g_iconst C (v := (4 : Int32)) dX7_nights_25 (by decide) ?_
    refine g_iload_n C 3 dX7_nights_26 rfl ?_
    refine g_imul C dX7_nights_27 ?_
    refine g_iadd C dX7_nights_28 ?_
    refine g_iload C 4 dX7_nights_29 rfl ?_
    refine g_iadd C dX7_nights_31 ?_
    refine g_iald C (isX7_st h0).1 (isX7_st h0).2 h.1 dX7_nights_32 ?_
    replace h := h.2
    refine g_topi (fun x5 ex5 => ?_)
    replace h := h x5 ex5
    refine g_istore C [(5, .int x5), (0, .ref (Y.ad b)), (1, .int p1), (2, .int v2), (3, .int v3), (4, .int v4)] dX7_nights_33 (by decide) rfl ?_
    refine g_aload_n C 1 dX7_nights_35 rfl ?_
    refine gf_RX7_49 C h0 dX7_nights_36 ?_
    refine g_iload_n C 2 dX7_nights_39 rfl ?_
    refine g_iconst C (v := (4 : Int32)) dX7_nights_40 (by decide) ?_
    refine g_iload_n C 4 dX7_nights_41 rfl ?_
    refine g_imul C dX7_nights_42 ?_
    refine g_iadd C dX7_nights_43 ?_
    refine g_iload C 5 dX7_nights_44 rfl ?_
    refine g_iadd C dX7_nights_46 ?_
    refine g_iconst C (v := (0 : Int32)) dX7_nights_47 (by decide) ?_
    refine g_iast C (isX7_st h0).1 (isX7_st h0).2 h.1 dX7_nights_48 ?_
    replace h := h.2
    refine g_iload C 5 dX7_nights_49 rfl ?_
    refine g_iconst C (v := (1 : Int32)) dX7_nights_51 (by decide) ?_
    refine g_iadd C dX7_nights_52 ?_
    refine g_aload_n C 1 dX7_nights_53 rfl ?_
    refine g_iload_n C 4 dX7_nights_54 rfl ?_
    refine g_callVI C [.int v3] [.int (v4 + ((1 : Int32)))] (ok_X7_keeps hI h0 h) (cw_RX7_308 _) rfl dc_X7_keeps ⟨Nat.le_of_ble_eq_true rfl, Nat.le_of_ble_eq_true rfl⟩ (isX7_lt h0) (isX7_sh h0) rfl rfl rfl rfl (Nat.le_of_ble_eq_true rfl) dX7_nights_55 (fun r7 m6 h => ?_)
    refine g_icmp_lt C 69 dX7_nights_58 (by decide) (fun c8 => ?_) (fun c8 => ?_)
    · replace h := h.1 c8
      refine g_aload_n C 1 dX7_nights_69 rfl ?_
      refine gf_RX7_49 C h0 dX7_nights_70 ?_
      refine g_iload_n C 2 dX7_nights_73 rfl ?_
      refine g_iconst C (v := (4 : Int32)) dX7_nights_74 (by decide) ?_
      refine g_iload_n C 4 dX7_nights_75 rfl ?_
      refine g_imul C dX7_nights_76 ?_
      refine g_iadd C dX7_nights_77 ?_
      refine g_iload C 5 dX7_nights_78 rfl ?_
      refine g_iadd C dX7_nights_80 ?_
      refine g_iconst C (v := (1 : Int32)) dX7_nights_81 (by decide) ?_
      refine g_iadd C dX7_nights_82 ?_
      refine g_iload C 0 dX7_nights_83 rfl ?_
      refine g_iast C (isX7_st h0).1 (isX7_st h0).2 h.1 dX7_nights_85 ?_
      replace h := h.2
      refine g_mem (fun m9 em9 => ?_)
      replace h := h m9 em9
      refine g_lv (lv2 := [(0, .ref (Y.ad b)), (1, .int p1), (2, .int v2), (3, .int v3), (4, .int v4)]) [1, 2, 3, 4, 5] ?_ rfl
      exact tX7_nights_86 C hr hI h0 _ _ _ _ h
    · replace h := h.2 c8
      refine g_iload_n C 3 dX7_nights_61 rfl ?_
      refine g_iload C 0 dX7_nights_62 rfl ?_
      refine g_iadd C dX7_nights_64 ?_
      refine g_istore_n C [(2, .int (v2 + x5)), (5, .int x5), (0, .ref (Y.ad b)), (1, .int p1), (3, .int v3), (4, .int v4)] dX7_nights_65 (by decide) rfl ?_
      refine g_goto C 86 dX7_nights_66 (by decide) ?_
      refine g_lv (lv2 := [(0, .ref (Y.ad b)), (1, .int p1), (2, .int (v2 + x5)), (3, .int v3), (4, .int v4)]) [2, 3, 0, 4, 5] ?_ rfl
      exact tX7_nights_86 C hr hI h0 _ _ _ _ h
set_option maxRecDepth 20000 in
set_option maxHeartbeats 4000000 in
theorem ok_X7_nights {Y : YT} {l0 : Launch} {b : Nat} {p1 : Int32} {μ : Mem} {Q : Int32 → Mem → Prop} (hI : YI Y) (h0 : isX7 Y b) (h : PX7_nights b p1 μ Q) : MI l0 yX7_nights WX7_nights 1 21 Y [.ref (Y.ad b), .int p1] μ Q := by
  refine mI_of (ty := .int) (cc := cX7_nights) (maxL := 6) (by decide +kernel) rfl hI (Nat.le_of_ble_eq_true rfl) (fun X C hr => ?_)
  replace C : Cx X Y 6 cX7_nights RX7 WX7_nights (rmB 1 21) l0 := C
  refine g_lv (lv2 := [(0, .ref (Y.ad b)), (1, .int p1)]) [0, 1] ?_ rfl
  unfold PX7_nights at h
  replace h := h (SX7_nights_4 X Y b p1) (SX7_nights_15 X Y b p1) (fun v2 v3 μ z => tX7_nights_4 C hr hI h0 v2 v3 μ z) (fun v2 v3 v4 μ z => tX7_nights_15 C hr hI h0 v2 v3 v4 μ z)
  refine g_iconst C (v := (0 : Int32)) dX7_nights_0 (by decide) ?_
  refine g_istore_n C [(2, .int ((0 : Int32))), (0, .ref (Y.ad b)), (1, .int p1)] dX7_nights_1 (by decide) rfl ?_
  refine g_iconst C (v := (0 : Int32)) dX7_nights_2 (by decide) ?_
  refine g_istore_n C [(3, .int ((0 : Int32))), (2, .int ((0 : Int32))), (0, .ref (Y.ad b)), (1, .int p1)] dX7_nights_3 (by decide) rfl ?_
  refine g_lv (lv2 := [(0, .ref (Y.ad b)), (1, .int p1), (2, .int ((0 : Int32))), (3, .int ((0 : Int32)))]) [2, 3, 1, 0] ?_ rfl
  exact h
