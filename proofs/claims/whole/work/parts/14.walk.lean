set_option maxRecDepth 20000 in
set_option maxHeartbeats 4000000 in
theorem ok_X6_torn {Y : YT} {l0 : Launch} {b : Nat} {μ : Mem} {Q : Int32 → Mem → Prop} (hI : YI Y) (h0 : isX6 Y b) (h : PX6_torn b μ Q) : MI l0 yX6_torn WX6_torn 0 0 Y [.ref (Y.ad b)] μ Q := by
  refine mI_of (ty := .int) (cc := cX6_torn) (maxL := 1) (by decide +kernel) rfl hI (Nat.le_of_ble_eq_true rfl) (fun X C hr => ?_)
  replace C : Cx X Y 1 cX6_torn RX6 WX6_torn (rmB 0 0) l0 := C
  refine g_lv (lv2 := [(0, .ref (Y.ad b))]) [0] ?_ rfl
  unfold PX6_torn at h
  refine g_aload_n C 0 dX6_torn_0 rfl ?_
  refine gf_RX6_73 C h0 dX6_torn_1 ?_
  exact hr _ _ _ _ _ dX6_torn_4 rfl h
set_option maxRecDepth 20000 in
set_option maxHeartbeats 4000000 in
theorem tX6_count_75 {X : XT} {Y : YT} {l0 : Launch} {b : Nat} {p1 : Int32} {Q : Int32 → Mem → Prop} (C : Cx X Y 2 cX6_count RX6 WX6_count (rmB 1 21) l0) (hr : RI X Y cX6_count .int Q) (hI : YI Y) (h0 : isX6 Y b) (w0 : Int32) (μ : Mem) (h : nX6_count_75 b p1 Q w0 μ) : G X Y 2 75 [(0, .ref (Y.ad b)), (1, .int p1)] [.int w0] μ := by
  unfold nX6_count_75 at h
  refine g_aload_n C 0 dX6_count_75 rfl ?_
  refine gf_RX6_41 C h0 dX6_count_76 ?_
  refine g_iconst C (v := (1 : Int32)) dX6_count_79 (by decide) ?_
  refine g_zald C (isX6_imageKept h0).1 (isX6_imageKept h0).2 h.1 dX6_count_80 ?_
  replace h := h.2
  refine g_if_eq C 88 dX6_count_81 (by decide) (fun c12 => ?_) (fun c12 => ?_)
  · replace h := h.1 c12
    refine g_iconst C (v := (0 : Int32)) dX6_count_88 (by decide) ?_
    refine g_iadd C dX6_count_89 ?_
    exact hr _ _ _ _ _ dX6_count_90 rfl h
  · replace h := h.2 c12
    refine g_iconst C (v := (1 : Int32)) dX6_count_84 (by decide) ?_
    refine g_goto C 89 dX6_count_85 (by decide) ?_
    refine g_iadd C dX6_count_89 ?_
    exact hr _ _ _ _ _ dX6_count_90 rfl h
set_option maxRecDepth 20000 in
set_option maxHeartbeats 4000000 in
theorem ok_X6_count {Y : YT} {l0 : Launch} {b : Nat} {p1 : Int32} {μ : Mem} {Q : Int32 → Mem → Prop} (hI : YI Y) (h0 : isX6 Y b) (h : PX6_count b p1 μ Q) : MI l0 yX6_count WX6_count 1 21 Y [.ref (Y.ad b), .int p1] μ Q := by
  refine mI_of (ty := .int) (cc := cX6_count) (maxL := 2) (by decide +kernel) rfl hI (Nat.le_of_ble_eq_true rfl) (fun X C hr => ?_)
  replace C : Cx X Y 2 cX6_count RX6 WX6_count (rmB 1 21) l0 := C
  refine g_lv (lv2 := [(0, .ref (Y.ad b)), (1, .int p1)]) [0, 1] ?_ rfl
  unfold PX6_count at h
  refine g_iload_n C 1 dX6_count_0 rfl ?_
  by_cases c1 : p1 = 0
  · refine g_tableIn C 40 dX6_count_1 (by rw [c1]; decide) (by rw [c1]; decide) (by rw [c1]; rfl) (by decide) ?_
    replace h := h.1 c1
    refine g_aload_n C 0 dX6_count_40 rfl ?_
    refine gf_RX6_10 C h0 dX6_count_41 ?_
    refine gf_RX6_296 C (isX6_rules h0) dX6_count_44 ?_
    exact hr _ _ _ _ _ dX6_count_47 rfl h
  by_cases c2 : p1 = 1
  · refine g_tableIn C 48 dX6_count_1 (by rw [c2]; decide) (by rw [c2]; decide) (by rw [c2]; rfl) (by decide) ?_
    replace h := h.2.1 c2
    refine g_aload_n C 0 dX6_count_48 rfl ?_
    refine gf_RX6_10 C h0 dX6_count_49 ?_
    refine gf_RX6_282 C (isX6_rules h0) dX6_count_52 ?_
    exact hr _ _ _ _ _ dX6_count_55 rfl h
  by_cases c3 : p1 = 2
  · refine g_tableIn C 56 dX6_count_1 (by rw [c3]; decide) (by rw [c3]; decide) (by rw [c3]; rfl) (by decide) ?_
    replace h := h.2.2.1 c3
    refine g_aload_n C 0 dX6_count_56 rfl ?_
    refine gf_RX6_49 C h0 dX6_count_57 ?_
    exact hr _ _ _ _ _ dX6_count_60 rfl h
  by_cases c4 : p1 = 3
  · refine g_tableIn C 61 dX6_count_1 (by rw [c4]; decide) (by rw [c4]; decide) (by rw [c4]; rfl) (by decide) ?_
    replace h := h.2.2.2.1 c4
    refine g_aload_n C 0 dX6_count_61 rfl ?_
    refine gf_RX6_41 C h0 dX6_count_62 ?_
    refine g_iconst C (v := (0 : Int32)) dX6_count_65 (by decide) ?_
    refine g_zald C (isX6_imageKept h0).1 (isX6_imageKept h0).2 h.1 dX6_count_66 ?_
    replace h := h.2
    refine g_if_eq C 74 dX6_count_67 (by decide) (fun c5 => ?_) (fun c5 => ?_)
    · replace h := h.1 c5
      refine g_iconst C (v := (0 : Int32)) dX6_count_74 (by decide) ?_
      exact tX6_count_75 C hr hI h0 _ _ h
    · replace h := h.2 c5
      refine g_iconst C (v := (1 : Int32)) dX6_count_70 (by decide) ?_
      refine g_goto C 75 dX6_count_71 (by decide) ?_
      exact tX6_count_75 C hr hI h0 _ _ h
  by_cases c6 : p1 = 4
  · refine g_tableIn C 91 dX6_count_1 (by rw [c6]; decide) (by rw [c6]; decide) (by rw [c6]; rfl) (by decide) ?_
    replace h := h.2.2.2.2.1 c6
    refine g_aload_n C 0 dX6_count_91 rfl ?_
    refine gf_RX6_22 C h0 dX6_count_92 ?_
    refine gf_RX6_76 C (isX6_reader h0) dX6_count_95 ?_
    exact hr _ _ _ _ _ dX6_count_98 rfl h
  by_cases c7 : p1 = 5
  · refine g_tableIn C 99 dX6_count_1 (by rw [c7]; decide) (by rw [c7]; decide) (by rw [c7]; rfl) (by decide) ?_
    replace h := h.2.2.2.2.2.1 c7
    refine g_aload_n C 0 dX6_count_99 rfl ?_
    refine gf_RX6_69 C h0 dX6_count_100 ?_
    refine g_iconst C (v := (0 : Int32)) dX6_count_103 (by decide) ?_
    refine g_callVI C [.int ((0 : Int32))] [] (ok_X4_isNothing hI (isX6_sheets h0) h) (cw_RX6_308 _) rfl dc_X4_isNothing ⟨Nat.le_of_ble_eq_true rfl, Nat.le_of_ble_eq_true rfl⟩ (isX4_lt (isX6_sheets h0)) (isX4_sh (isX6_sheets h0)) rfl rfl rfl rfl (Nat.le_of_ble_eq_true rfl) dX6_count_104 (fun r9 m8 h => ?_)
    refine g_if_eq C 115 dX6_count_107 (by decide) (fun c10 => ?_) (fun c10 => ?_)
    · replace h := h.1 c10
      refine g_aload_n C 0 dX6_count_115 rfl ?_
      refine gf_RX6_69 C h0 dX6_count_116 ?_
      refine gf_RX6_311 C (isX6_sheets h0) dX6_count_119 ?_
      refine g_iconst C (v := (0 : Int32)) dX6_count_122 (by decide) ?_
      refine g_iald C (isX4_cellCount (isX6_sheets h0)).1 (isX4_cellCount (isX6_sheets h0)).2 h.1 dX6_count_123 ?_
      replace h := h.2
      exact hr _ _ _ _ _ dX6_count_124 rfl h
    · replace h := h.2 c10
      refine g_bipush C (v := (-4 : Int32)) dX6_count_110 (by decide) ?_
      refine g_goto C 124 dX6_count_112 (by decide) ?_
      exact hr _ _ _ _ _ dX6_count_124 rfl h
  have c11 : p1.toInt < 0 ∨ 5 < p1.toInt := by
    have z := (And.intro True.intro ⟨lv_neT (a := 0) c1 rfl, lv_neT (a := 1) c2 rfl, lv_neT (a := 2) c3 rfl, lv_neT (a := 3) c4 rfl, lv_neT (a := 4) c6 rfl, lv_neT (a := 5) c7 rfl⟩ : True ∧ ¬ p1.toInt = 0 ∧ ¬ p1.toInt = 1 ∧ ¬ p1.toInt = 2 ∧ ¬ p1.toInt = 3 ∧ ¬ p1.toInt = 4 ∧ ¬ p1.toInt = 5)
    omega
  refine g_tableOut C 125 dX6_count_1 c11 (by decide) ?_
  replace h := h.2.2.2.2.2.2 c11
  refine g_iconst C (v := (-1 : Int32)) dX6_count_125 (by decide) ?_
  exact hr _ _ _ _ _ dX6_count_126 rfl h
set_option maxRecDepth 20000 in
set_option maxHeartbeats 4000000 in
theorem tX7_in_17 {X : XT} {Y : YT} {l0 : Launch} {p0 : Int64} {p2 : Int64} {p4 : Int64} {Q : Int32 → Mem → Prop} (C : Cx X Y 6 cX7_in RX7 WX7_in (rmB 0 0) l0) (hr : RI X Y cX7_in .boolean Q) (hI : YI Y)  (μ : Mem) (h : nX7_in_17 p0 p2 p4 Q  μ) : G X Y 6 17 [(0, .long p0), (2, .long p2), (4, .long p4)] [] μ := by
  unfold nX7_in_17 at h
  refine g_iconst C (v := (0 : Int32)) dX7_in_17 (by decide) ?_
  exact hr _ _ _ _ _ dX7_in_18 rfl h
set_option maxRecDepth 20000 in
set_option maxHeartbeats 4000000 in
theorem ok_X7_in {Y : YT} {l0 : Launch} {p0 : Int64} {p2 : Int64} {p4 : Int64} {μ : Mem} {Q : Int32 → Mem → Prop} (hI : YI Y) (h : PX7_in p0 p2 p4 μ Q) : MI l0 yX7_in WX7_in 0 0 Y [.long p0, .long p2, .long p4] μ Q := by
  refine mI_of (ty := .boolean) (cc := cX7_in) (maxL := 6) (by decide +kernel) rfl hI (Nat.le_of_ble_eq_true rfl) (fun X C hr => ?_)
  replace C : Cx X Y 6 cX7_in RX7 WX7_in (rmB 0 0) l0 := C
  refine g_lv (lv2 := [(0, .long p0), (2, .long p2), (4, .long p4)]) [0, 1, 2] ?_ rfl
  unfold PX7_in at h
  refine g_lload_n C 0 dX7_in_0 rfl ?_
  refine g_lload_n C 1 dX7_in_1 rfl ?_
  refine g_lcmp C dX7_in_2 ?_
  refine g_if_lt C 17 dX7_in_3 (by decide) (fun c1 => ?_) (fun c1 => ?_)
  · replace h := h.1 c1
    exact tX7_in_17 C hr hI  _ h
  · replace h := h.2 c1
    refine g_lload_n C 0 dX7_in_6 rfl ?_
    refine g_lload C 2 dX7_in_7 rfl ?_
    refine g_lcmp C dX7_in_9 ?_
    refine g_if_gt C 17 dX7_in_10 (by decide) (fun c2 => ?_) (fun c2 => ?_)
    · replace h := h.1 c2
      exact tX7_in_17 C hr hI  _ h
    · replace h := h.2 c2
      refine g_iconst C (v := (1 : Int32)) dX7_in_13 (by decide) ?_
      refine g_goto C 18 dX7_in_14 (by decide) ?_
      exact hr _ _ _ _ _ dX7_in_18 rfl h
set_option maxRecDepth 20000 in
set_option maxHeartbeats 4000000 in
theorem ok_X7_flag {Y : YT} {l0 : Launch} {p0 : Int32} {μ : Mem} {Q : Int32 → Mem → Prop} (hI : YI Y) (h : PX7_flag p0 μ Q) : MI l0 yX7_flag WX7_flag 0 0 Y [.int p0] μ Q := by
  refine mI_of (ty := .int) (cc := cX7_flag) (maxL := 1) (by decide +kernel) rfl hI (Nat.le_of_ble_eq_true rfl) (fun X C hr => ?_)
  replace C : Cx X Y 1 cX7_flag RX7 WX7_flag (rmB 0 0) l0 := C
  refine g_lv (lv2 := [(0, .int p0)]) [0] ?_ rfl
  unfold PX7_flag at h
  refine g_iload_n C 0 dX7_flag_0 rfl ?_
  refine g_if_eq C 8 dX7_flag_1 (by decide) (fun c1 => ?_) (fun c1 => ?_)
  · replace h := h.1 c1
    refine g_iconst C (v := (0 : Int32)) dX7_flag_8 (by decide) ?_
    exact hr _ _ _ _ _ dX7_flag_9 rfl h
  · replace h := h.2 c1
    refine g_iconst C (v := (1 : Int32)) dX7_flag_4 (by decide) ?_
    refine g_goto C 9 dX7_flag_5 (by decide) ?_
    exact hr _ _ _ _ _ dX7_flag_9 rfl h
def SX7_firstDraft_43 (X : XT) (Y : YT) (b : Nat) : Int32 → Mem → Prop := fun v1 μ => G X Y 2 43 [(0, .ref (Y.ad b)), (1, .int v1)] [] μ
set_option maxRecDepth 20000 in
set_option maxHeartbeats 4000000 in
theorem tX7_firstDraft_43 {X : XT} {Y : YT} {l0 : Launch} {b : Nat} {Q : Mem → Prop} (C : Cx X Y 2 cX7_firstDraft RX7 WX7_firstDraft (rmB 0 0) l0) (hr : RV X Y cX7_firstDraft Q) (hI : YI Y) (h0 : isX7 Y b) (v1 : Int32) (μ : Mem) (h : nX7_firstDraft_43 b Q (SX7_firstDraft_43 X Y b) v1 μ) : G X Y 2 43 [(0, .ref (Y.ad b)), (1, .int v1)] [] μ := by
  unfold nX7_firstDraft_43 at h
  refine g_iload_n C 1 dX7_firstDraft_43 rfl ?_
  refine g_bipush C (v := (7 : Int32)) dX7_firstDraft_44 (by decide) ?_
  refine g_icmp_ge C 62 dX7_firstDraft_46 (by decide) (fun c5 => ?_) (fun c5 => ?_)
  · replace h := h.1 c5
    exact hr _ _ _ _ dX7_firstDraft_62 h
  · replace h := h.2 c5
    refine g_aload_n C 0 dX7_firstDraft_49 rfl ?_
    refine gf_RX7_37 C h0 dX7_firstDraft_50 ?_
    refine g_iload_n C 1 dX7_firstDraft_53 rfl ?_
    refine g_iconst C (v := (0 : Int32)) dX7_firstDraft_54 (by decide) ?_
    refine g_iast C (isX7_dChance h0).1 (isX7_dChance h0).2 h.1 dX7_firstDraft_55 ?_
    replace h := h.2
    refine g_iinc C (v := v1 + 1) 1 [(1, .int (v1 + 1)), (0, .ref (Y.ad b))] dX7_firstDraft_56 rfl rfl (by decide) rfl ?_
    refine g_goto C 43 dX7_firstDraft_59 (by decide) ?_
    refine g_lv (lv2 := [(0, .ref (Y.ad b)), (1, .int (v1 + 1))]) [1, 0] ?_ rfl
    exact h
set_option maxRecDepth 20000 in
set_option maxHeartbeats 4000000 in
theorem ok_X7_firstDraft {Y : YT} {l0 : Launch} {b : Nat} {μ : Mem} {Q : Mem → Prop} (hI : YI Y) (h0 : isX7 Y b) (h : PX7_firstDraft b μ Q) : MV l0 yX7_firstDraft WX7_firstDraft 0 0 Y [.ref (Y.ad b)] μ Q := by
  refine mV_of (cc := cX7_firstDraft) (maxL := 2) (by decide +kernel) rfl hI (Nat.le_of_ble_eq_true rfl) (fun X C hr => ?_)
  replace C : Cx X Y 2 cX7_firstDraft RX7 WX7_firstDraft (rmB 0 0) l0 := C
  refine g_lv (lv2 := [(0, .ref (Y.ad b))]) [0] ?_ rfl
  unfold PX7_firstDraft at h
  replace h := h (SX7_firstDraft_43 X Y b) (fun v1 μ z => tX7_firstDraft_43 C hr hI h0 v1 μ z)
  refine g_aload_n C 0 dX7_firstDraft_0 rfl ?_
  refine g_iconst C (v := (0 : Int32)) dX7_firstDraft_1 (by decide) ?_
  refine gp_RX7_89 C h0 dX7_firstDraft_2 ?_
  refine g_aload_n C 0 dX7_firstDraft_5 rfl ?_
  refine g_iconst C (v := (0 : Int32)) dX7_firstDraft_6 (by decide) ?_
  refine gp_RX7_93 C h0 dX7_firstDraft_7 ?_
  refine g_mem (fun m1 em1 => ?_)
  replace h := h m1 em1
  refine g_aload_n C 0 dX7_firstDraft_10 rfl ?_
  refine g_iconst C (v := (0 : Int32)) dX7_firstDraft_11 (by decide) ?_
  refine gp_RX7_96 C h0 dX7_firstDraft_12 ?_
  refine g_aload_n C 0 dX7_firstDraft_15 rfl ?_
  refine g_bipush C (v := (127 : Int32)) dX7_firstDraft_16 (by decide) ?_
  refine gp_RX7_99 C h0 dX7_firstDraft_18 ?_
  refine g_mem (fun m2 em2 => ?_)
  replace h := h m2 em2
  refine g_aload_n C 0 dX7_firstDraft_21 rfl ?_
  refine g_iconst C (v := (0 : Int32)) dX7_firstDraft_22 (by decide) ?_
  refine gp_RX7_102 C h0 dX7_firstDraft_23 ?_
  refine g_aload_n C 0 dX7_firstDraft_26 rfl ?_
  refine g_iconst C (v := (0 : Int32)) dX7_firstDraft_27 (by decide) ?_
  refine gp_RX7_105 C h0 nz0 dX7_firstDraft_28 ?_
  refine g_mem (fun m3 em3 => ?_)
  replace h := h m3 em3
  refine g_aload_n C 0 dX7_firstDraft_31 rfl ?_
  refine g_iconst C (v := (0 : Int32)) dX7_firstDraft_32 (by decide) ?_
  refine gp_RX7_109 C h0 nz0 dX7_firstDraft_33 ?_
  refine g_aload_n C 0 dX7_firstDraft_36 rfl ?_
  refine g_iconst C (v := (0 : Int32)) dX7_firstDraft_37 (by decide) ?_
  refine gp_RX7_112 C h0 dX7_firstDraft_38 ?_
  refine g_mem (fun m4 em4 => ?_)
  replace h := h m4 em4
  refine g_iconst C (v := (0 : Int32)) dX7_firstDraft_41 (by decide) ?_
  refine g_istore_n C [(1, .int ((0 : Int32))), (0, .ref (Y.ad b))] dX7_firstDraft_42 (by decide) rfl ?_
  refine g_lv (lv2 := [(0, .ref (Y.ad b)), (1, .int ((0 : Int32)))]) [1, 0] ?_ rfl
  exact h
def SX7_keepDraft_42 (X : XT) (Y : YT) (b : Nat) : Int32 → Mem → Prop := fun v1 μ => G X Y 2 42 [(0, .ref (Y.ad b)), (1, .int v1)] [] μ
def SX7_keepDraft_68 (X : XT) (Y : YT) (b : Nat) : Int32 → Mem → Prop := fun v1 μ => G X Y 2 68 [(0, .ref (Y.ad b)), (1, .int v1)] [] μ
def SX7_keepDraft_94 (X : XT) (Y : YT) (b : Nat) : Int32 → Mem → Prop := fun v1 μ => G X Y 2 94 [(0, .ref (Y.ad b)), (1, .int v1)] [] μ
def SX7_keepDraft_132 (X : XT) (Y : YT) (b : Nat) : Int32 → Mem → Prop := fun v1 μ => G X Y 2 132 [(0, .ref (Y.ad b)), (1, .int v1)] [] μ
def SX7_keepDraft_158 (X : XT) (Y : YT) (b : Nat) : Int32 → Mem → Prop := fun v1 μ => G X Y 2 158 [(0, .ref (Y.ad b)), (1, .int v1)] [] μ
set_option maxRecDepth 20000 in
set_option maxHeartbeats 4000000 in
theorem tX7_keepDraft_42 {X : XT} {Y : YT} {l0 : Launch} {b : Nat} {Q : Mem → Prop} (C : Cx X Y 2 cX7_keepDraft RX7 WX7_keepDraft (rmB 1 25) l0) (hr : RV X Y cX7_keepDraft Q) (hI : YI Y) (h0 : isX7 Y b) (v1 : Int32) (μ : Mem) (h : nX7_keepDraft_42 b Q (SX7_keepDraft_42 X Y b) (SX7_keepDraft_68 X Y b) (SX7_keepDraft_94 X Y b) (SX7_keepDraft_132 X Y b) (SX7_keepDraft_158 X Y b) v1 μ) : G X Y 2 42 [(0, .ref (Y.ad b)), (1, .int v1)] [] μ := by
  unfold nX7_keepDraft_42 at h
  refine g_iload_n C 1 dX7_keepDraft_42 rfl ?_
  refine g_bipush C (v := (18 : Int32)) dX7_keepDraft_43 (by decide) ?_
  refine g_icmp_ge C 66 dX7_keepDraft_45 (by decide) (fun c3 => ?_) (fun c3 => ?_)
  · replace h := h.1 c3
    refine g_iconst C (v := (0 : Int32)) dX7_keepDraft_66 (by decide) ?_
    refine g_istore_n C [(1, .int ((0 : Int32))), (0, .ref (Y.ad b))] dX7_keepDraft_67 (by decide) rfl ?_
    refine g_lv (lv2 := [(0, .ref (Y.ad b)), (1, .int ((0 : Int32)))]) [1, 0] ?_ rfl
    exact h
  · replace h := h.2 c3
    refine g_aload_n C 0 dX7_keepDraft_48 rfl ?_
    refine gf_RX7_7 C h0 dX7_keepDraft_49 ?_
    refine g_iload_n C 1 dX7_keepDraft_52 rfl ?_
    refine g_aload_n C 0 dX7_keepDraft_53 rfl ?_
    refine gf_RX7_25 C h0 dX7_keepDraft_54 ?_
    refine g_iload_n C 1 dX7_keepDraft_57 rfl ?_
    refine g_iald C (isX7_dThing h0).1 (isX7_dThing h0).2 h.1 dX7_keepDraft_58 ?_
    replace h := h.2
    refine g_iast C (isX7_thing h0).1 (isX7_thing h0).2 h.1 dX7_keepDraft_59 ?_
    replace h := h.2
    refine g_iinc C (v := v1 + 1) 1 [(1, .int (v1 + 1)), (0, .ref (Y.ad b))] dX7_keepDraft_60 rfl rfl (by decide) rfl ?_
    refine g_goto C 42 dX7_keepDraft_63 (by decide) ?_
    refine g_lv (lv2 := [(0, .ref (Y.ad b)), (1, .int (v1 + 1))]) [1, 0] ?_ rfl
    exact h
set_option maxRecDepth 20000 in
set_option maxHeartbeats 4000000 in
theorem tX7_keepDraft_68 {X : XT} {Y : YT} {l0 : Launch} {b : Nat} {Q : Mem → Prop} (C : Cx X Y 2 cX7_keepDraft RX7 WX7_keepDraft (rmB 1 25) l0) (hr : RV X Y cX7_keepDraft Q) (hI : YI Y) (h0 : isX7 Y b) (v1 : Int32) (μ : Mem) (h : nX7_keepDraft_68 b Q (SX7_keepDraft_42 X Y b) (SX7_keepDraft_68 X Y b) (SX7_keepDraft_94 X Y b) (SX7_keepDraft_132 X Y b) (SX7_keepDraft_158 X Y b) v1 μ) : G X Y 2 68 [(0, .ref (Y.ad b)), (1, .int v1)] [] μ := by
  unfold nX7_keepDraft_68 at h
  refine g_iload_n C 1 dX7_keepDraft_68 rfl ?_
  refine g_bipush C (v := (45 : Int32)) dX7_keepDraft_69 (by decide) ?_
  refine g_icmp_ge C 92 dX7_keepDraft_71 (by decide) (fun c4 => ?_) (fun c4 => ?_)
  · replace h := h.1 c4
    refine g_iconst C (v := (0 : Int32)) dX7_keepDraft_92 (by decide) ?_
    refine g_istore_n C [(1, .int ((0 : Int32))), (0, .ref (Y.ad b))] dX7_keepDraft_93 (by decide) rfl ?_
    refine g_lv (lv2 := [(0, .ref (Y.ad b)), (1, .int ((0 : Int32)))]) [1, 0] ?_ rfl
    exact h
  · replace h := h.2 c4
    refine g_aload_n C 0 dX7_keepDraft_74 rfl ?_
    refine gf_RX7_13 C h0 dX7_keepDraft_75 ?_
    refine g_iload_n C 1 dX7_keepDraft_78 rfl ?_
    refine g_aload_n C 0 dX7_keepDraft_79 rfl ?_
    refine gf_RX7_28 C h0 dX7_keepDraft_80 ?_
    refine g_iload_n C 1 dX7_keepDraft_83 rfl ?_
    refine g_iald C (isX7_dSupper h0).1 (isX7_dSupper h0).2 h.1 dX7_keepDraft_84 ?_
    replace h := h.2
    refine g_iast C (isX7_supper h0).1 (isX7_supper h0).2 h.1 dX7_keepDraft_85 ?_
    replace h := h.2
    refine g_iinc C (v := v1 + 1) 1 [(1, .int (v1 + 1)), (0, .ref (Y.ad b))] dX7_keepDraft_86 rfl rfl (by decide) rfl ?_
    refine g_goto C 68 dX7_keepDraft_89 (by decide) ?_
    refine g_lv (lv2 := [(0, .ref (Y.ad b)), (1, .int (v1 + 1))]) [1, 0] ?_ rfl
    exact h
set_option maxRecDepth 20000 in
set_option maxHeartbeats 4000000 in
theorem tX7_keepDraft_94 {X : XT} {Y : YT} {l0 : Launch} {b : Nat} {Q : Mem → Prop} (C : Cx X Y 2 cX7_keepDraft RX7 WX7_keepDraft (rmB 1 25) l0) (hr : RV X Y cX7_keepDraft Q) (hI : YI Y) (h0 : isX7 Y b) (v1 : Int32) (μ : Mem) (h : nX7_keepDraft_94 b Q (SX7_keepDraft_42 X Y b) (SX7_keepDraft_68 X Y b) (SX7_keepDraft_94 X Y b) (SX7_keepDraft_132 X Y b) (SX7_keepDraft_158 X Y b) v1 μ) : G X Y 2 94 [(0, .ref (Y.ad b)), (1, .int v1)] [] μ := by
  unfold nX7_keepDraft_94 at h
  refine g_iload_n C 1 dX7_keepDraft_94 rfl ?_
  refine g_bipush C (v := (54 : Int32)) dX7_keepDraft_95 (by decide) ?_
  refine g_icmp_ge C 130 dX7_keepDraft_97 (by decide) (fun c5 => ?_) (fun c5 => ?_)
  · replace h := h.1 c5
    refine g_iconst C (v := (0 : Int32)) dX7_keepDraft_130 (by decide) ?_
    refine g_istore_n C [(1, .int ((0 : Int32))), (0, .ref (Y.ad b))] dX7_keepDraft_131 (by decide) rfl ?_
    refine g_lv (lv2 := [(0, .ref (Y.ad b)), (1, .int ((0 : Int32)))]) [1, 0] ?_ rfl
    exact h
  · replace h := h.2 c5
    refine g_aload_n C 0 dX7_keepDraft_100 rfl ?_
    refine gf_RX7_16 C h0 dX7_keepDraft_101 ?_
    refine g_iload_n C 1 dX7_keepDraft_104 rfl ?_
    refine g_aload_n C 0 dX7_keepDraft_105 rfl ?_
    refine gf_RX7_31 C h0 dX7_keepDraft_106 ?_
    refine g_iload_n C 1 dX7_keepDraft_109 rfl ?_
    refine g_iald C (isX7_dWants h0).1 (isX7_dWants h0).2 h.1 dX7_keepDraft_110 ?_
    replace h := h.2
    refine g_iast C (isX7_wants h0).1 (isX7_wants h0).2 h.1 dX7_keepDraft_111 ?_
    replace h := h.2
    refine g_aload_n C 0 dX7_keepDraft_112 rfl ?_
    refine gf_RX7_19 C h0 dX7_keepDraft_113 ?_
    refine g_iload_n C 1 dX7_keepDraft_116 rfl ?_
    refine g_aload_n C 0 dX7_keepDraft_117 rfl ?_
    refine gf_RX7_34 C h0 dX7_keepDraft_118 ?_
    refine g_iload_n C 1 dX7_keepDraft_121 rfl ?_
    refine g_iald C (isX7_dLeaves h0).1 (isX7_dLeaves h0).2 h.1 dX7_keepDraft_122 ?_
    replace h := h.2
    refine g_iast C (isX7_leaves h0).1 (isX7_leaves h0).2 h.1 dX7_keepDraft_123 ?_
    replace h := h.2
    refine g_mem (fun m6 em6 => ?_)
    replace h := h m6 em6
    refine g_iinc C (v := v1 + 1) 1 [(1, .int (v1 + 1)), (0, .ref (Y.ad b))] dX7_keepDraft_124 rfl rfl (by decide) rfl ?_
    refine g_goto C 94 dX7_keepDraft_127 (by decide) ?_
    refine g_lv (lv2 := [(0, .ref (Y.ad b)), (1, .int (v1 + 1))]) [1, 0] ?_ rfl
    exact h
set_option maxRecDepth 20000 in
set_option maxHeartbeats 4000000 in
theorem tX7_keepDraft_132 {X : XT} {Y : YT} {l0 : Launch} {b : Nat} {Q : Mem → Prop} (C : Cx X Y 2 cX7_keepDraft RX7 WX7_keepDraft (rmB 1 25) l0) (hr : RV X Y cX7_keepDraft Q) (hI : YI Y) (h0 : isX7 Y b) (v1 : Int32) (μ : Mem) (h : nX7_keepDraft_132 b Q (SX7_keepDraft_42 X Y b) (SX7_keepDraft_68 X Y b) (SX7_keepDraft_94 X Y b) (SX7_keepDraft_132 X Y b) (SX7_keepDraft_158 X Y b) v1 μ) : G X Y 2 132 [(0, .ref (Y.ad b)), (1, .int v1)] [] μ := by
  unfold nX7_keepDraft_132 at h
  refine g_iload_n C 1 dX7_keepDraft_132 rfl ?_
  refine g_bipush C (v := (7 : Int32)) dX7_keepDraft_133 (by decide) ?_
  refine g_icmp_ge C 156 dX7_keepDraft_135 (by decide) (fun c7 => ?_) (fun c7 => ?_)
  · replace h := h.1 c7
    refine g_iconst C (v := (0 : Int32)) dX7_keepDraft_156 (by decide) ?_
    refine g_istore_n C [(1, .int ((0 : Int32))), (0, .ref (Y.ad b))] dX7_keepDraft_157 (by decide) rfl ?_
    refine g_lv (lv2 := [(0, .ref (Y.ad b)), (1, .int ((0 : Int32)))]) [1, 0] ?_ rfl
    exact h
  · replace h := h.2 c7
    refine g_aload_n C 0 dX7_keepDraft_138 rfl ?_
    refine gf_RX7_22 C h0 dX7_keepDraft_139 ?_
    refine g_iload_n C 1 dX7_keepDraft_142 rfl ?_
    refine g_aload_n C 0 dX7_keepDraft_143 rfl ?_
    refine gf_RX7_37 C h0 dX7_keepDraft_144 ?_
    refine g_iload_n C 1 dX7_keepDraft_147 rfl ?_
    refine g_iald C (isX7_dChance h0).1 (isX7_dChance h0).2 h.1 dX7_keepDraft_148 ?_
    replace h := h.2
    refine g_iast C (isX7_chance h0).1 (isX7_chance h0).2 h.1 dX7_keepDraft_149 ?_
    replace h := h.2
    refine g_iinc C (v := v1 + 1) 1 [(1, .int (v1 + 1)), (0, .ref (Y.ad b))] dX7_keepDraft_150 rfl rfl (by decide) rfl ?_
    refine g_goto C 132 dX7_keepDraft_153 (by decide) ?_
    refine g_lv (lv2 := [(0, .ref (Y.ad b)), (1, .int (v1 + 1))]) [1, 0] ?_ rfl
    exact h
set_option maxRecDepth 20000 in
set_option maxHeartbeats 4000000 in
theorem tX7_keepDraft_193 {X : XT} {Y : YT} {l0 : Launch} {b : Nat} {Q : Mem → Prop} (C : Cx X Y 2 cX7_keepDraft RX7 WX7_keepDraft (rmB 1 25) l0) (hr : RV X Y cX7_keepDraft Q) (hI : YI Y) (h0 : isX7 Y b) (v1 : Int32) (w0 : Int32) (w1 : Int32) (μ : Mem) (h : nX7_keepDraft_193 b Q (SX7_keepDraft_42 X Y b) (SX7_keepDraft_68 X Y b) (SX7_keepDraft_94 X Y b) (SX7_keepDraft_132 X Y b) (SX7_keepDraft_158 X Y b) v1 w0 w1 μ) : G X Y 2 193 [(0, .ref (Y.ad b)), (1, .int v1)] [.int w0, .int w1, .ref (Y.ad (b + 14))] μ := by
  unfold nX7_keepDraft_193 at h
  refine g_iast C (isX7_st h0).1 (isX7_st h0).2 h.1 dX7_keepDraft_193 ?_
  replace h := h.2
  refine g_iinc C (v := v1 + 1) 1 [(1, .int (v1 + 1)), (0, .ref (Y.ad b))] dX7_keepDraft_194 rfl rfl (by decide) rfl ?_
  refine g_goto C 158 dX7_keepDraft_197 (by decide) ?_
  refine g_lv (lv2 := [(0, .ref (Y.ad b)), (1, .int (v1 + 1))]) [1, 0] ?_ rfl
  exact h
set_option maxRecDepth 20000 in
set_option maxHeartbeats 4000000 in
theorem tX7_keepDraft_158 {X : XT} {Y : YT} {l0 : Launch} {b : Nat} {Q : Mem → Prop} (C : Cx X Y 2 cX7_keepDraft RX7 WX7_keepDraft (rmB 1 25) l0) (hr : RV X Y cX7_keepDraft Q) (hI : YI Y) (h0 : isX7 Y b) (v1 : Int32) (μ : Mem) (h : nX7_keepDraft_158 b Q (SX7_keepDraft_42 X Y b) (SX7_keepDraft_68 X Y b) (SX7_keepDraft_94 X Y b) (SX7_keepDraft_132 X Y b) (SX7_keepDraft_158 X Y b) v1 μ) : G X Y 2 158 [(0, .ref (Y.ad b)), (1, .int v1)] [] μ := by
  unfold nX7_keepDraft_158 at h
  refine g_iload_n C 1 dX7_keepDraft_158 rfl ?_
  refine g_bipush C (v := (36 : Int32)) dX7_keepDraft_159 (by decide) ?_
  refine g_icmp_ge C 200 dX7_keepDraft_161 (by decide) (fun c8 => ?_) (fun c8 => ?_)
  · replace h := h.1 c8
    refine g_aload_n C 0 dX7_keepDraft_200 rfl ?_
    refine gf_RX7_49 C h0 dX7_keepDraft_201 ?_
    refine g_sipush C (v := (316 : Int32)) dX7_keepDraft_204 (by decide) ?_
    refine g_iconst C (v := (0 : Int32)) dX7_keepDraft_207 (by decide) ?_
    refine g_iast C (isX7_st h0).1 (isX7_st h0).2 h.1 dX7_keepDraft_208 ?_
    replace h := h.2
    refine g_aload_n C 0 dX7_keepDraft_209 rfl ?_
    refine gf_RX7_49 C h0 dX7_keepDraft_210 ?_
    refine g_sipush C (v := (317 : Int32)) dX7_keepDraft_213 (by decide) ?_
    refine g_bipush C (v := (-4 : Int32)) dX7_keepDraft_216 (by decide) ?_
    refine g_iast C (isX7_st h0).1 (isX7_st h0).2 h.1 dX7_keepDraft_218 ?_
    replace h := h.2
    refine g_mem (fun m9 em9 => ?_)
    replace h := h m9 em9
    refine g_aload_n C 0 dX7_keepDraft_219 rfl ?_
    refine gf_RX7_52 C h0 dX7_keepDraft_220 ?_
    refine g_iconst C (v := (0 : Int32)) dX7_keepDraft_223 (by decide) ?_
    refine g_iconst C (v := (0 : Int32)) dX7_keepDraft_224 (by decide) ?_
    refine g_zast C (isX7_isKept h0).1 (isX7_isKept h0).2 h.1 dX7_keepDraft_225 ?_
    replace h := h.2
    refine g_aload_n C 0 dX7_keepDraft_226 rfl ?_
    refine gf_RX7_52 C h0 dX7_keepDraft_227 ?_
    refine g_iconst C (v := (1 : Int32)) dX7_keepDraft_230 (by decide) ?_
    refine g_iconst C (v := (0 : Int32)) dX7_keepDraft_231 (by decide) ?_
    refine g_zast C (isX7_isKept h0).1 (isX7_isKept h0).2 h.1 dX7_keepDraft_232 ?_
    replace h := h.2
    refine g_mem (fun m10 em10 => ?_)
    replace h := h m10 em10
    refine g_aload_n C 0 dX7_keepDraft_233 rfl ?_
    refine g_iconst C (v := (0 : Int32)) dX7_keepDraft_234 (by decide) ?_
    refine gp_RX7_138 C h0 dX7_keepDraft_235 ?_
    exact hr _ _ _ _ dX7_keepDraft_238 h
  · replace h := h.2 c8
    refine g_aload_n C 0 dX7_keepDraft_164 rfl ?_
    refine gf_RX7_49 C h0 dX7_keepDraft_165 ?_
    refine g_sipush C (v := (280 : Int32)) dX7_keepDraft_168 (by decide) ?_
    refine g_iload_n C 1 dX7_keepDraft_171 rfl ?_
    refine g_iadd C dX7_keepDraft_172 ?_
    refine g_iload_n C 1 dX7_keepDraft_173 rfl ?_
    refine g_i2l C dX7_keepDraft_174 ?_
    refine g_ldc2 C (v := (24 : Int64)) (List.mem_cons_of_mem _ mL_RX7_130) dX7_keepDraft_175 ?_
    refine g_ldc2 C (v := (32 : Int64)) (List.mem_cons_of_mem _ mL_RX7_132) dX7_keepDraft_178 ?_
    refine g_callSI C [.long v1.toInt64, .long ((24 : Int64)), .long ((32 : Int64))] [.int (((280 : Int32)) + v1), .ref (Y.ad (b + 14))] (ok_X7_in hI  h) (cw_RX7_134 _) rfl dc_X7_in ⟨Nat.le_of_ble_eq_true rfl, Nat.le_of_ble_eq_true rfl⟩ rfl (Nat.le_of_ble_eq_true rfl) dX7_keepDraft_181 (fun r12 m11 h => ?_)
    refine g_if_eq C 192 dX7_keepDraft_184 (by decide) (fun c13 => ?_) (fun c13 => ?_)
    · replace h := h.1 c13
      refine g_iconst C (v := (0 : Int32)) dX7_keepDraft_192 (by decide) ?_
      exact tX7_keepDraft_193 C hr hI h0 _ _ _ _ h
    · replace h := h.2 c13
      refine g_bipush C (v := (-4 : Int32)) dX7_keepDraft_187 (by decide) ?_
      refine g_goto C 193 dX7_keepDraft_189 (by decide) ?_
      exact tX7_keepDraft_193 C hr hI h0 _ _ _ _ h
set_option maxRecDepth 20000 in
set_option maxHeartbeats 4000000 in
theorem ok_X7_keepDraft {Y : YT} {l0 : Launch} {b : Nat} {μ : Mem} {Q : Mem → Prop} (hI : YI Y) (h0 : isX7 Y b) (h : PX7_keepDraft b μ Q) : MV l0 yX7_keepDraft WX7_keepDraft 1 25 Y [.ref (Y.ad b)] μ Q := by
  refine mV_of (cc := cX7_keepDraft) (maxL := 2) (by decide +kernel) rfl hI (Nat.le_of_ble_eq_true rfl) (fun X C hr => ?_)
  replace C : Cx X Y 2 cX7_keepDraft RX7 WX7_keepDraft (rmB 1 25) l0 := C
  refine g_lv (lv2 := [(0, .ref (Y.ad b))]) [0] ?_ rfl
  unfold PX7_keepDraft at h
  replace h := h (SX7_keepDraft_42 X Y b) (SX7_keepDraft_68 X Y b) (SX7_keepDraft_94 X Y b) (SX7_keepDraft_132 X Y b) (SX7_keepDraft_158 X Y b) (fun v1 μ z => tX7_keepDraft_42 C hr hI h0 v1 μ z) (fun v1 μ z => tX7_keepDraft_68 C hr hI h0 v1 μ z) (fun v1 μ z => tX7_keepDraft_94 C hr hI h0 v1 μ z) (fun v1 μ z => tX7_keepDraft_132 C hr hI h0 v1 μ z) (fun v1 μ z => tX7_keepDraft_158 C hr hI h0 v1 μ z)
  refine g_aload_n C 0 dX7_keepDraft_0 rfl ?_
  refine g_aload_n C 0 dX7_keepDraft_1 rfl ?_
  refine gf_RX7_89 C h0 dX7_keepDraft_2 ?_
  refine gp_RX7_115 C h0 dX7_keepDraft_5 ?_
  refine g_aload_n C 0 dX7_keepDraft_8 rfl ?_
  refine g_aload_n C 0 dX7_keepDraft_9 rfl ?_
  refine gf_RX7_93 C h0 dX7_keepDraft_10 ?_
  refine gp_RX7_118 C h0 dX7_keepDraft_13 ?_
  refine g_mem (fun m1 em1 => ?_)
  replace h := h m1 em1
  refine g_aload_n C 0 dX7_keepDraft_16 rfl ?_
  refine g_aload_n C 0 dX7_keepDraft_17 rfl ?_
  refine gf_RX7_96 C h0 dX7_keepDraft_18 ?_
  refine gp_RX7_121 C h0 dX7_keepDraft_21 ?_
  refine g_aload_n C 0 dX7_keepDraft_24 rfl ?_
  refine g_aload_n C 0 dX7_keepDraft_25 rfl ?_
  refine gf_RX7_99 C h0 dX7_keepDraft_26 ?_
  refine gp_RX7_124 C h0 dX7_keepDraft_29 ?_
  refine g_mem (fun m2 em2 => ?_)
  replace h := h m2 em2
  refine g_aload_n C 0 dX7_keepDraft_32 rfl ?_
  refine g_aload_n C 0 dX7_keepDraft_33 rfl ?_
  refine gf_RX7_102 C h0 dX7_keepDraft_34 ?_
  refine gp_RX7_127 C h0 dX7_keepDraft_37 ?_
  refine g_iconst C (v := (0 : Int32)) dX7_keepDraft_40 (by decide) ?_
  refine g_istore_n C [(1, .int ((0 : Int32))), (0, .ref (Y.ad b))] dX7_keepDraft_41 (by decide) rfl ?_
  refine g_lv (lv2 := [(0, .ref (Y.ad b)), (1, .int ((0 : Int32)))]) [1, 0] ?_ rfl
  exact h
def SX7_feed_19 (X : XT) (Y : YT) (b : Nat) (p1 : Int64) : Int32 → Mem → Prop := fun v3 μ => G X Y 4 19 [(0, .ref (Y.ad b)), (1, .long p1), (3, .int v3)] [] μ
set_option maxRecDepth 20000 in
set_option maxHeartbeats 4000000 in
theorem tX7_feed_19 {X : XT} {Y : YT} {l0 : Launch} {b : Nat} {p1 : Int64} {Q : Int32 → Mem → Prop} (C : Cx X Y 4 cX7_feed RX7 WX7_feed (rmB 0 0) l0) (hr : RI X Y cX7_feed .int Q) (hI : YI Y) (h0 : isX7 Y b) (v3 : Int32) (μ : Mem) (h : nX7_feed_19 b p1 Q (SX7_feed_19 X Y b p1) v3 μ) : G X Y 4 19 [(0, .ref (Y.ad b)), (1, .long p1), (3, .int v3)] [] μ := by
  unfold nX7_feed_19 at h
  refine g_iload_n C 2 dX7_feed_19 rfl ?_
  refine g_if_lt C 56 dX7_feed_20 (by decide) (fun c2 => ?_) (fun c2 => ?_)
  · replace h := h.1 c2
    refine g_aload_n C 0 dX7_feed_56 rfl ?_
    refine gf_RX7_141 C h0 dX7_feed_57 ?_
    exact hr _ _ _ _ _ dX7_feed_60 rfl h
  · replace h := h.2 c2
    refine g_aload_n C 0 dX7_feed_23 rfl ?_
    refine gf_RX7_46 C h0 dX7_feed_24 ?_
    refine g_aload_n C 0 dX7_feed_27 rfl ?_
    refine gf_RX7_141 C h0 dX7_feed_28 ?_
    refine g_lload_n C 1 dX7_feed_31 rfl ?_
    refine g_iload_n C 2 dX7_feed_32 rfl ?_
    refine g_lshr C dX7_feed_33 ?_
    refine g_ldc2 C (v := (255 : Int64)) (List.mem_cons_of_mem _ mL_RX7_144) dX7_feed_34 ?_
    refine g_land C dX7_feed_37 ?_
    refine g_l2i C dX7_feed_38 ?_
    refine g_iast C (isX7_tape h0).1 (isX7_tape h0).2 h.1 dX7_feed_39 ?_
    replace h := h.2
    refine g_mem (fun m3 em3 => ?_)
    replace h := h m3 em3
    refine g_aload_n C 0 dX7_feed_40 rfl ?_
    refine g_dup C dX7_feed_41 rfl ?_
    refine gf_RX7_141 C h0 dX7_feed_42 ?_
    refine g_iconst C (v := (1 : Int32)) dX7_feed_45 (by decide) ?_
    refine g_iadd C dX7_feed_46 ?_
    refine gp_RX7_141 C h0 dX7_feed_47 ?_
    refine g_iinc C (v := v3 + (-8)) 2 [(3, .int (v3 + (-8))), (0, .ref (Y.ad b)), (1, .long p1)] dX7_feed_50 rfl rfl (by decide) rfl ?_
    refine g_goto C 19 dX7_feed_53 (by decide) ?_
    refine g_lv (lv2 := [(0, .ref (Y.ad b)), (1, .long p1), (3, .int (v3 + (-8)))]) [1, 2, 0] ?_ rfl
    exact h
set_option maxRecDepth 20000 in
set_option maxHeartbeats 4000000 in
theorem ok_X7_feed {Y : YT} {l0 : Launch} {b : Nat} {p1 : Int64} {μ : Mem} {Q : Int32 → Mem → Prop} (hI : YI Y) (h0 : isX7 Y b) (h : PX7_feed b p1 μ Q) : MI l0 yX7_feed WX7_feed 0 0 Y [.ref (Y.ad b), .long p1] μ Q := by
  refine mI_of (ty := .int) (cc := cX7_feed) (maxL := 4) (by decide +kernel) rfl hI (Nat.le_of_ble_eq_true rfl) (fun X C hr => ?_)
  replace C : Cx X Y 4 cX7_feed RX7 WX7_feed (rmB 0 0) l0 := C
  refine g_lv (lv2 := [(0, .ref (Y.ad b)), (1, .long p1)]) [0, 1] ?_ rfl
  unfold PX7_feed at h
  replace h := h (SX7_feed_19 X Y b p1) (fun v3 μ z => tX7_feed_19 C hr hI h0 v3 μ z)
  refine g_aload_n C 0 dX7_feed_0 rfl ?_
  refine gf_RX7_141 C h0 dX7_feed_1 ?_
  refine g_bipush C (v := (8 : Int32)) dX7_feed_4 (by decide) ?_
  refine g_iadd C dX7_feed_6 ?_
  refine g_sipush C (v := (400 : Int32)) dX7_feed_7 (by decide) ?_
  refine g_icmp_le C 16 dX7_feed_10 (by decide) (fun c1 => ?_) (fun c1 => ?_)
  · replace h := h.1 c1
    refine g_bipush C (v := (56 : Int32)) dX7_feed_16 (by decide) ?_
    refine g_istore_n C [(3, .int ((56 : Int32))), (0, .ref (Y.ad b)), (1, .long p1)] dX7_feed_18 (by decide) rfl ?_
    refine g_lv (lv2 := [(0, .ref (Y.ad b)), (1, .long p1), (3, .int ((56 : Int32)))]) [1, 2, 0] ?_ rfl
    exact h
  · replace h := h.2 c1
    refine g_bipush C (v := (-3 : Int32)) dX7_feed_13 (by decide) ?_
    exact hr _ _ _ _ _ dX7_feed_15 rfl h
set_option maxRecDepth 20000 in
set_option maxHeartbeats 4000000 in
theorem ok_X7_end {Y : YT} {l0 : Launch} {b : Nat} {p1 : Int32} {μ : Mem} {Q : Int32 → Mem → Prop} (hI : YI Y) (h0 : isX7 Y b) (h : PX7_end b p1 μ Q) : MI l0 yX7_end WX7_end 1 25 Y [.ref (Y.ad b), .int p1] μ Q := by
  refine mI_of (ty := .int) (cc := cX7_end) (maxL := 3) (by decide +kernel) rfl hI (Nat.le_of_ble_eq_true rfl) (fun X C hr => ?_)
  replace C : Cx X Y 3 cX7_end RX7 WX7_end (rmB 1 25) l0 := C
  refine g_lv (lv2 := [(0, .ref (Y.ad b)), (1, .int p1)]) [0, 1] ?_ rfl
  unfold PX7_end at h
  refine g_iload_n C 1 dX7_end_0 rfl ?_
  refine g_i2l C dX7_end_1 ?_
  refine g_lconst C (v := (0 : Int64)) dX7_end_2 (by decide) ?_
  refine g_aload_n C 0 dX7_end_3 rfl ?_
  refine gf_RX7_141 C h0 dX7_end_4 ?_
  refine g_i2l C dX7_end_7 ?_
  refine g_callSI C [.long p1.toInt64, .long ((0 : Int64)), .long ((μ.1 b 26).toInt64)] [] (ok_X7_in hI  h) (cw_RX7_134 _) rfl dc_X7_in ⟨Nat.le_of_ble_eq_true rfl, Nat.le_of_ble_eq_true rfl⟩ rfl (Nat.le_of_ble_eq_true rfl) dX7_end_8 (fun r2 m1 h => ?_)
  refine g_if_ne C 16 dX7_end_11 (by decide) (fun c3 => ?_) (fun c3 => ?_)
  · replace h := h.1 c3
    refine g_aload_n C 0 dX7_end_16 rfl ?_
    refine gf_RX7_141 C h0 dX7_end_17 ?_
    refine g_istore_n C [(2, .int (m1.1 b 26)), (0, .ref (Y.ad b)), (1, .int p1)] dX7_end_20 (by decide) rfl ?_
    refine g_aload_n C 1 dX7_end_21 rfl ?_
    refine g_iload_n C 2 dX7_end_22 rfl ?_
    refine gp_RX7_141 C h0 dX7_end_23 ?_
    refine g_iload_n C 0 dX7_end_26 rfl ?_
    exact hr _ _ _ _ _ dX7_end_27 rfl h
  · replace h := h.2 c3
    refine g_iconst C (v := (-1 : Int32)) dX7_end_14 (by decide) ?_
    exact hr _ _ _ _ _ dX7_end_15 rfl h
set_option maxRecDepth 20000 in
set_option maxHeartbeats 4000000 in
theorem ok_X7_needs {Y : YT} {l0 : Launch} {b : Nat} {p1 : Int32} {p2 : Int32} {μ : Mem} {Q : Mem → Prop} (hI : YI Y) (h0 : isX7 Y b) (h : PX7_needs b p1 p2 μ Q) : MV l0 yX7_needs WX7_needs 0 0 Y [.ref (Y.ad b), .int p1, .int p2] μ Q := by
  refine mV_of (cc := cX7_needs) (maxL := 3) (by decide +kernel) rfl hI (Nat.le_of_ble_eq_true rfl) (fun X C hr => ?_)
  replace C : Cx X Y 3 cX7_needs RX7 WX7_needs (rmB 0 0) l0 := C
  refine g_lv (lv2 := [(0, .ref (Y.ad b)), (1, .int p1), (2, .int p2)]) [0, 1, 2] ?_ rfl
  unfold PX7_needs at h
  refine g_iload_n C 1 dX7_needs_0 rfl ?_
  refine g_if_ne C 24 dX7_needs_1 (by decide) (fun c1 => ?_) (fun c1 => ?_)
  · replace h := h.1 c1
    exact hr _ _ _ _ dX7_needs_24 h
  · replace h := h.2 c1
    refine g_aload_n C 0 dX7_needs_4 rfl ?_
    refine gf_RX7_146 C h0 dX7_needs_5 ?_
    refine g_if_ne C 24 dX7_needs_8 (by decide) (fun c2 => ?_) (fun c2 => ?_)
    · replace h := h.1 c2
      exact hr _ _ _ _ dX7_needs_24 h
    · replace h := h.2 c2
      refine g_aload_n C 0 dX7_needs_11 rfl ?_
      refine g_iload_n C 2 dX7_needs_12 rfl ?_
      refine gp_RX7_146 C h0 dX7_needs_13 ?_
      refine g_aload_n C 0 dX7_needs_16 rfl ?_
      refine g_aload_n C 0 dX7_needs_17 rfl ?_
      refine gf_RX7_149 C h0 dX7_needs_18 ?_
      refine gp_RX7_152 C h0 dX7_needs_21 ?_
      refine g_mem (fun m3 em3 => ?_)
      replace h := h m3 em3
      exact hr _ _ _ _ dX7_needs_24 h
set_option maxRecDepth 20000 in
set_option maxHeartbeats 4000000 in
theorem ok_X7_look {Y : YT} {l0 : Launch} {b : Nat} {p1 : Int32} {μ : Mem} {Q : Int32 → Mem → Prop} (hI : YI Y) (h0 : isX7 Y b) (h : PX7_look b p1 μ Q) : MI l0 yX7_look WX7_look 0 0 Y [.ref (Y.ad b), .int p1] μ Q := by
  refine mI_of (ty := .int) (cc := cX7_look) (maxL := 2) (by decide +kernel) rfl hI (Nat.le_of_ble_eq_true rfl) (fun X C hr => ?_)
  replace C : Cx X Y 2 cX7_look RX7 WX7_look (rmB 0 0) l0 := C
  refine g_lv (lv2 := [(0, .ref (Y.ad b)), (1, .int p1)]) [0, 1] ?_ rfl
  unfold PX7_look at h
  refine g_iload_n C 1 dX7_look_0 rfl ?_
  refine g_aload_n C 0 dX7_look_1 rfl ?_
  refine gf_RX7_141 C h0 dX7_look_2 ?_
  refine g_icmp_ge C 17 dX7_look_5 (by decide) (fun c1 => ?_) (fun c1 => ?_)
  · replace h := h.1 c1
    refine g_iconst C (v := (-1 : Int32)) dX7_look_17 (by decide) ?_
    exact hr _ _ _ _ _ dX7_look_18 rfl h
  · replace h := h.2 c1
    refine g_aload_n C 0 dX7_look_8 rfl ?_
    refine gf_RX7_46 C h0 dX7_look_9 ?_
    refine g_iload_n C 1 dX7_look_12 rfl ?_
    refine g_iald C (isX7_tape h0).1 (isX7_tape h0).2 h.1 dX7_look_13 ?_
    replace h := h.2
    refine g_goto C 18 dX7_look_14 (by decide) ?_
    exact hr _ _ _ _ _ dX7_look_18 rfl h
set_option maxRecDepth 20000 in
set_option maxHeartbeats 4000000 in
theorem tX7_is_74 {X : XT} {Y : YT} {l0 : Launch} {b : Nat} {p1 : Int32} {p2 : Int32} {p3 : Int32} {p4 : Int32} {p5 : Int32} {Q : Int32 → Mem → Prop} (C : Cx X Y 6 cX7_is RX7 WX7_is (rmB 1 21) l0) (hr : RI X Y cX7_is .boolean Q) (hI : YI Y) (h0 : isX7 Y b) (μ : Mem) (h : nX7_is_74 b p1 p2 p3 p4 p5 Q  μ) : G X Y 6 74 [(0, .ref (Y.ad b)), (1, .int p1), (2, .int p2), (3, .int p3), (4, .int p4), (5, .int p5)] [] μ := by
  unfold nX7_is_74 at h
  refine g_iconst C (v := (1 : Int32)) dX7_is_74 (by decide) ?_
  refine g_goto C 79 dX7_is_75 (by decide) ?_
  exact hr _ _ _ _ _ dX7_is_79 rfl h
set_option maxRecDepth 20000 in
set_option maxHeartbeats 4000000 in
theorem tX7_is_78 {X : XT} {Y : YT} {l0 : Launch} {b : Nat} {p1 : Int32} {p2 : Int32} {p3 : Int32} {p4 : Int32} {p5 : Int32} {Q : Int32 → Mem → Prop} (C : Cx X Y 6 cX7_is RX7 WX7_is (rmB 1 21) l0) (hr : RI X Y cX7_is .boolean Q) (hI : YI Y) (h0 : isX7 Y b) (μ : Mem) (h : nX7_is_78 b p1 p2 p3 p4 p5 Q  μ) : G X Y 6 78 [(0, .ref (Y.ad b)), (1, .int p1), (2, .int p2), (3, .int p3), (4, .int p4), (5, .int p5)] [] μ := by
  unfold nX7_is_78 at h
  refine g_iconst C (v := (0 : Int32)) dX7_is_78 (by decide) ?_
  exact hr _ _ _ _ _ dX7_is_79 rfl h
set_option maxRecDepth 20000 in
set_option maxHeartbeats 4000000 in
theorem ok_X7_is {Y : YT} {l0 : Launch} {b : Nat} {p1 : Int32} {p2 : Int32} {p3 : Int32} {p4 : Int32} {p5 : Int32} {μ : Mem} {Q : Int32 → Mem → Prop} (hI : YI Y) (h0 : isX7 Y b) (h : PX7_is b p1 p2 p3 p4 p5 μ Q) : MI l0 yX7_is WX7_is 1 21 Y [.ref (Y.ad b), .int p1, .int p2, .int p3, .int p4, .int p5] μ Q := by
  refine mI_of (ty := .boolean) (cc := cX7_is) (maxL := 6) (by decide +kernel) rfl hI (Nat.le_of_ble_eq_true rfl) (fun X C hr => ?_)
  replace C : Cx X Y 6 cX7_is RX7 WX7_is (rmB 1 21) l0 := C
  refine g_lv (lv2 := [(0, .ref (Y.ad b)), (1, .int p1), (2, .int p2), (3, .int p3), (4, .int p4), (5, .int p5)]) [0, 1, 2, 3, 4, 5] ?_ rfl
  unfold PX7_is at h
  refine g_aload_n C 0 dX7_is_0 rfl ?_
  refine gf_RX7_155 C h0 dX7_is_1 ?_
  refine g_aload_n C 0 dX7_is_4 rfl ?_
  refine gf_RX7_149 C h0 dX7_is_5 ?_
  refine g_isub C dX7_is_8 ?_
  refine g_iload_n C 1 dX7_is_9 rfl ?_
  refine g_icmp_ne C 78 dX7_is_10 (by decide) (fun c1 => ?_) (fun c1 => ?_)
  · replace h := h.1 c1
    exact tX7_is_78 C hr hI h0 _ h
  · replace h := h.2 c1
    refine g_aload_n C 0 dX7_is_13 rfl ?_
    refine g_aload_n C 0 dX7_is_14 rfl ?_
    refine gf_RX7_149 C h0 dX7_is_15 ?_
    refine g_callVI C [.int (μ.1 b 28)] [] (ok_X7_look hI h0 h) (cw_RX7_158 _) rfl dc_X7_look ⟨Nat.le_of_ble_eq_true rfl, Nat.le_of_ble_eq_true rfl⟩ (isX7_lt h0) (isX7_sh h0) rfl rfl rfl rfl (Nat.le_of_ble_eq_true rfl) dX7_is_18 (fun r3 m2 h => ?_)
    refine g_iload_n C 2 dX7_is_21 rfl ?_
    refine g_icmp_ne C 78 dX7_is_22 (by decide) (fun c4 => ?_) (fun c4 => ?_)
    · replace h := h.1 c4
      exact tX7_is_78 C hr hI h0 _ h
    · replace h := h.2 c4
      refine g_aload_n C 0 dX7_is_25 rfl ?_
      refine g_aload_n C 0 dX7_is_26 rfl ?_
      refine gf_RX7_149 C h0 dX7_is_27 ?_
      refine g_iconst C (v := (1 : Int32)) dX7_is_30 (by decide) ?_
      refine g_iadd C dX7_is_31 ?_
      refine g_callVI C [.int ((m2.1 b 28) + ((1 : Int32)))] [] (ok_X7_look hI h0 h) (cw_RX7_158 _) rfl dc_X7_look ⟨Nat.le_of_ble_eq_true rfl, Nat.le_of_ble_eq_true rfl⟩ (isX7_lt h0) (isX7_sh h0) rfl rfl rfl rfl (Nat.le_of_ble_eq_true rfl) dX7_is_32 (fun r6 m5 h => ?_)
      refine g_iload_n C 3 dX7_is_35 rfl ?_
      refine g_icmp_ne C 78 dX7_is_36 (by decide) (fun c7 => ?_) (fun c7 => ?_)
      · replace h := h.1 c7
        exact tX7_is_78 C hr hI h0 _ h
      · replace h := h.2 c7
        refine g_aload_n C 0 dX7_is_39 rfl ?_
        refine g_aload_n C 0 dX7_is_40 rfl ?_
        refine gf_RX7_149 C h0 dX7_is_41 ?_
        refine g_iconst C (v := (2 : Int32)) dX7_is_44 (by decide) ?_
        refine g_iadd C dX7_is_45 ?_
        refine g_callVI C [.int ((m5.1 b 28) + ((2 : Int32)))] [] (ok_X7_look hI h0 h) (cw_RX7_158 _) rfl dc_X7_look ⟨Nat.le_of_ble_eq_true rfl, Nat.le_of_ble_eq_true rfl⟩ (isX7_lt h0) (isX7_sh h0) rfl rfl rfl rfl (Nat.le_of_ble_eq_true rfl) dX7_is_46 (fun r9 m8 h => ?_)
        refine g_iload C 4 dX7_is_49 rfl ?_
        refine g_icmp_ne C 78 dX7_is_51 (by decide) (fun c10 => ?_) (fun c10 => ?_)
        · replace h := h.1 c10
          exact tX7_is_78 C hr hI h0 _ h
        · replace h := h.2 c10
          refine g_iload_n C 1 dX7_is_54 rfl ?_
          refine g_iconst C (v := (4 : Int32)) dX7_is_55 (by decide) ?_
          refine g_icmp_lt C 74 dX7_is_56 (by decide) (fun c11 => ?_) (fun c11 => ?_)
          · replace h := h.1 c11
            exact tX7_is_74 C hr hI h0 _ h
          · replace h := h.2 c11
            refine g_aload_n C 0 dX7_is_59 rfl ?_
            refine g_aload_n C 0 dX7_is_60 rfl ?_
            refine gf_RX7_149 C h0 dX7_is_61 ?_
            refine g_iconst C (v := (3 : Int32)) dX7_is_64 (by decide) ?_
            refine g_iadd C dX7_is_65 ?_
            refine g_callVI C [.int ((m8.1 b 28) + ((3 : Int32)))] [] (ok_X7_look hI h0 h) (cw_RX7_158 _) rfl dc_X7_look ⟨Nat.le_of_ble_eq_true rfl, Nat.le_of_ble_eq_true rfl⟩ (isX7_lt h0) (isX7_sh h0) rfl rfl rfl rfl (Nat.le_of_ble_eq_true rfl) dX7_is_66 (fun r13 m12 h => ?_)
            refine g_iload C 5 dX7_is_69 rfl ?_
            refine g_icmp_ne C 78 dX7_is_71 (by decide) (fun c14 => ?_) (fun c14 => ?_)
            · replace h := h.1 c14
              exact tX7_is_78 C hr hI h0 _ h
            · replace h := h.2 c14
              exact tX7_is_74 C hr hI h0 _ h
set_option maxRecDepth 20000 in
set_option maxHeartbeats 4000000 in
theorem tX7_goesOn_32 {X : XT} {Y : YT} {l0 : Launch} {b : Nat} {p1 : Int32} {p2 : Int32} {Q : Int32 → Mem → Prop} (C : Cx X Y 3 cX7_goesOn RX7 WX7_goesOn (rmB 1 21) l0) (hr : RI X Y cX7_goesOn .boolean Q) (hI : YI Y) (h0 : isX7 Y b) (μ : Mem) (h : nX7_goesOn_32 b p1 p2 Q  μ) : G X Y 3 32 [(0, .ref (Y.ad b)), (1, .int p1), (2, .int p2)] [] μ := by
  unfold nX7_goesOn_32 at h
  refine g_iconst C (v := (1 : Int32)) dX7_goesOn_32 (by decide) ?_
  refine g_goto C 37 dX7_goesOn_33 (by decide) ?_
  exact hr _ _ _ _ _ dX7_goesOn_37 rfl h
set_option maxRecDepth 20000 in
set_option maxHeartbeats 4000000 in
theorem tX7_goesOn_36 {X : XT} {Y : YT} {l0 : Launch} {b : Nat} {p1 : Int32} {p2 : Int32} {Q : Int32 → Mem → Prop} (C : Cx X Y 3 cX7_goesOn RX7 WX7_goesOn (rmB 1 21) l0) (hr : RI X Y cX7_goesOn .boolean Q) (hI : YI Y) (h0 : isX7 Y b) (μ : Mem) (h : nX7_goesOn_36 b p1 p2 Q  μ) : G X Y 3 36 [(0, .ref (Y.ad b)), (1, .int p1), (2, .int p2)] [] μ := by
  unfold nX7_goesOn_36 at h
  refine g_iconst C (v := (0 : Int32)) dX7_goesOn_36 (by decide) ?_
  exact hr _ _ _ _ _ dX7_goesOn_37 rfl h
set_option maxRecDepth 20000 in
set_option maxHeartbeats 4000000 in
theorem ok_X7_goesOn {Y : YT} {l0 : Launch} {b : Nat} {p1 : Int32} {p2 : Int32} {μ : Mem} {Q : Int32 → Mem → Prop} (hI : YI Y) (h0 : isX7 Y b) (h : PX7_goesOn b p1 p2 μ Q) : MI l0 yX7_goesOn WX7_goesOn 1 21 Y [.ref (Y.ad b), .int p1, .int p2] μ Q := by
  refine mI_of (ty := .boolean) (cc := cX7_goesOn) (maxL := 3) (by decide +kernel) rfl hI (Nat.le_of_ble_eq_true rfl) (fun X C hr => ?_)
  replace C : Cx X Y 3 cX7_goesOn RX7 WX7_goesOn (rmB 1 21) l0 := C
  refine g_lv (lv2 := [(0, .ref (Y.ad b)), (1, .int p1), (2, .int p2)]) [0, 1, 2] ?_ rfl
  unfold PX7_goesOn at h
  refine g_aload_n C 0 dX7_goesOn_0 rfl ?_
  refine g_aload_n C 0 dX7_goesOn_1 rfl ?_
  refine gf_RX7_149 C h0 dX7_goesOn_2 ?_
  refine g_iconst C (v := (4 : Int32)) dX7_goesOn_5 (by decide) ?_
  refine g_iadd C dX7_goesOn_6 ?_
  refine g_callVI C [.int ((μ.1 b 28) + ((4 : Int32)))] [] (ok_X7_look hI h0 h) (cw_RX7_158 _) rfl dc_X7_look ⟨Nat.le_of_ble_eq_true rfl, Nat.le_of_ble_eq_true rfl⟩ (isX7_lt h0) (isX7_sh h0) rfl rfl rfl rfl (Nat.le_of_ble_eq_true rfl) dX7_goesOn_7 (fun r2 m1 h => ?_)
  refine g_iload_n C 1 dX7_goesOn_10 rfl ?_
  refine g_icmp_ne C 36 dX7_goesOn_11 (by decide) (fun c3 => ?_) (fun c3 => ?_)
  · replace h := h.1 c3
    exact tX7_goesOn_36 C hr hI h0 _ h
  · replace h := h.2 c3
    refine g_iload_n C 2 dX7_goesOn_14 rfl ?_
    refine g_if_eq C 32 dX7_goesOn_15 (by decide) (fun c4 => ?_) (fun c4 => ?_)
    · replace h := h.1 c4
      exact tX7_goesOn_32 C hr hI h0 _ h
    · replace h := h.2 c4
      refine g_aload_n C 0 dX7_goesOn_18 rfl ?_
      refine g_aload_n C 0 dX7_goesOn_19 rfl ?_
      refine gf_RX7_149 C h0 dX7_goesOn_20 ?_
      refine g_iconst C (v := (5 : Int32)) dX7_goesOn_23 (by decide) ?_
      refine g_iadd C dX7_goesOn_24 ?_
      refine g_callVI C [.int ((m1.1 b 28) + ((5 : Int32)))] [] (ok_X7_look hI h0 h) (cw_RX7_158 _) rfl dc_X7_look ⟨Nat.le_of_ble_eq_true rfl, Nat.le_of_ble_eq_true rfl⟩ (isX7_lt h0) (isX7_sh h0) rfl rfl rfl rfl (Nat.le_of_ble_eq_true rfl) dX7_goesOn_25 (fun r6 m5 h => ?_)
      refine g_iload_n C 2 dX7_goesOn_28 rfl ?_
      refine g_icmp_ne C 36 dX7_goesOn_29 (by decide) (fun c7 => ?_) (fun c7 => ?_)
      · replace h := h.1 c7
        exact tX7_goesOn_36 C hr hI h0 _ h
      · replace h := h.2 c7
        exact tX7_goesOn_32 C hr hI h0 _ h
set_option maxRecDepth 20000 in
set_option maxHeartbeats 4000000 in
theorem tX7_nameNow_258 {X : XT} {Y : YT} {l0 : Launch} {b : Nat} {Q : Int32 → Mem → Prop} (C : Cx X Y 1 cX7_nameNow RX7 WX7_nameNow (rmB 2 46) l0) (hr : RI X Y cX7_nameNow .int Q) (hI : YI Y) (h0 : isX7 Y b) (μ : Mem) (h : nX7_nameNow_258 b Q  μ) : G X Y 1 258 [(0, .ref (Y.ad b))] [] μ := by
  unfold nX7_nameNow_258 at h
  refine g_aload_n C 0 dX7_nameNow_258 rfl ?_
  refine g_iconst C (v := (4 : Int32)) dX7_nameNow_259 (by decide) ?_
  refine g_bipush C (v := (108 : Int32)) dX7_nameNow_260 (by decide) ?_
  refine g_bipush C (v := (105 : Int32)) dX7_nameNow_262 (by decide) ?_
  refine g_bipush C (v := (107 : Int32)) dX7_nameNow_264 (by decide) ?_
  refine g_bipush C (v := (101 : Int32)) dX7_nameNow_266 (by decide) ?_
  refine g_callVI C [.int ((4 : Int32)), .int ((108 : Int32)), .int ((105 : Int32)), .int ((107 : Int32)), .int ((101 : Int32))] [] (ok_X7_is hI h0 h) (cw_RX7_162 _) rfl dc_X7_is ⟨Nat.le_of_ble_eq_true rfl, Nat.le_of_ble_eq_true rfl⟩ (isX7_lt h0) (isX7_sh h0) rfl rfl rfl rfl (Nat.le_of_ble_eq_true rfl) dX7_nameNow_268 (fun r53 m52 h => ?_)
  refine g_if_eq C 279 dX7_nameNow_271 (by decide) (fun c54 => ?_) (fun c54 => ?_)
  · replace h := h.1 c54
    refine g_aload_n C 0 dX7_nameNow_279 rfl ?_
    refine g_iconst C (v := (4 : Int32)) dX7_nameNow_280 (by decide) ?_
    refine g_bipush C (v := (119 : Int32)) dX7_nameNow_281 (by decide) ?_
    refine g_bipush C (v := (111 : Int32)) dX7_nameNow_283 (by decide) ?_
    refine g_bipush C (v := (110 : Int32)) dX7_nameNow_285 (by decide) ?_
    refine g_bipush C (v := (116 : Int32)) dX7_nameNow_287 (by decide) ?_
    refine g_callVI C [.int ((4 : Int32)), .int ((119 : Int32)), .int ((111 : Int32)), .int ((110 : Int32)), .int ((116 : Int32))] [] (ok_X7_is hI h0 h) (cw_RX7_162 _) rfl dc_X7_is ⟨Nat.le_of_ble_eq_true rfl, Nat.le_of_ble_eq_true rfl⟩ (isX7_lt h0) (isX7_sh h0) rfl rfl rfl rfl (Nat.le_of_ble_eq_true rfl) dX7_nameNow_289 (fun r56 m55 h => ?_)
    refine g_if_eq C 300 dX7_nameNow_292 (by decide) (fun c57 => ?_) (fun c57 => ?_)
    · replace h := h.1 c57
      refine g_bipush C (v := (-4 : Int32)) dX7_nameNow_300 (by decide) ?_
      exact hr _ _ _ _ _ dX7_nameNow_302 rfl h
    · replace h := h.2 c57
      refine g_bipush C (v := (17 : Int32)) dX7_nameNow_295 (by decide) ?_
      refine g_goto C 302 dX7_nameNow_297 (by decide) ?_
      exact hr _ _ _ _ _ dX7_nameNow_302 rfl h
  · replace h := h.2 c54
    refine g_bipush C (v := (16 : Int32)) dX7_nameNow_274 (by decide) ?_
    refine g_goto C 302 dX7_nameNow_276 (by decide) ?_
    exact hr _ _ _ _ _ dX7_nameNow_302 rfl h
set_option maxRecDepth 20000 in
set_option maxHeartbeats 4000000 in
theorem tX7_nameNow_227 {X : XT} {Y : YT} {l0 : Launch} {b : Nat} {Q : Int32 → Mem → Prop} (C : Cx X Y 1 cX7_nameNow RX7 WX7_nameNow (rmB 2 46) l0) (hr : RI X Y cX7_nameNow .int Q) (hI : YI Y) (h0 : isX7 Y b) (μ : Mem) (h : nX7_nameNow_227 b Q  μ) : G X Y 1 227 [(0, .ref (Y.ad b))] [] μ := by
  unfold nX7_nameNow_227 at h
  refine g_aload_n C 0 dX7_nameNow_227 rfl ?_
  refine g_bipush C (v := (6 : Int32)) dX7_nameNow_228 (by decide) ?_
  refine g_bipush C (v := (108 : Int32)) dX7_nameNow_230 (by decide) ?_
  refine g_bipush C (v := (101 : Int32)) dX7_nameNow_232 (by decide) ?_
  refine g_bipush C (v := (97 : Int32)) dX7_nameNow_234 (by decide) ?_
  refine g_bipush C (v := (118 : Int32)) dX7_nameNow_236 (by decide) ?_
  refine g_callVI C [.int ((6 : Int32)), .int ((108 : Int32)), .int ((101 : Int32)), .int ((97 : Int32)), .int ((118 : Int32))] [] (ok_X7_is hI h0 h) (cw_RX7_162 _) rfl dc_X7_is ⟨Nat.le_of_ble_eq_true rfl, Nat.le_of_ble_eq_true rfl⟩ (isX7_lt h0) (isX7_sh h0) rfl rfl rfl rfl (Nat.le_of_ble_eq_true rfl) dX7_nameNow_238 (fun r47 m46 h => ?_)
  refine g_if_eq C 258 dX7_nameNow_241 (by decide) (fun c48 => ?_) (fun c48 => ?_)
  · replace h := h.1 c48
    exact tX7_nameNow_258 C hr hI h0 _ h
  · replace h := h.2 c48
    refine g_aload_n C 0 dX7_nameNow_244 rfl ?_
    refine g_bipush C (v := (101 : Int32)) dX7_nameNow_245 (by decide) ?_
    refine g_bipush C (v := (115 : Int32)) dX7_nameNow_247 (by decide) ?_
    refine g_callVI C [.int ((101 : Int32)), .int ((115 : Int32))] [] (ok_X7_goesOn hI h0 h) (cw_RX7_166 _) rfl dc_X7_goesOn ⟨Nat.le_of_ble_eq_true rfl, Nat.le_of_ble_eq_true rfl⟩ (isX7_lt h0) (isX7_sh h0) rfl rfl rfl rfl (Nat.le_of_ble_eq_true rfl) dX7_nameNow_249 (fun r50 m49 h => ?_)
    refine g_if_eq C 258 dX7_nameNow_252 (by decide) (fun c51 => ?_) (fun c51 => ?_)
    · replace h := h.1 c51
      exact tX7_nameNow_258 C hr hI h0 _ h
    · replace h := h.2 c51
      refine g_bipush C (v := (15 : Int32)) dX7_nameNow_255 (by decide) ?_
      exact hr _ _ _ _ _ dX7_nameNow_257 rfl h
set_option maxRecDepth 20000 in
set_option maxHeartbeats 4000000 in
theorem tX7_nameNow_161 {X : XT} {Y : YT} {l0 : Launch} {b : Nat} {Q : Int32 → Mem → Prop} (C : Cx X Y 1 cX7_nameNow RX7 WX7_nameNow (rmB 2 46) l0) (hr : RI X Y cX7_nameNow .int Q) (hI : YI Y) (h0 : isX7 Y b) (μ : Mem) (h : nX7_nameNow_161 b Q  μ) : G X Y 1 161 [(0, .ref (Y.ad b))] [] μ := by
  unfold nX7_nameNow_161 at h
  refine g_aload_n C 0 dX7_nameNow_161 rfl ?_
  refine g_iconst C (v := (4 : Int32)) dX7_nameNow_162 (by decide) ?_
  refine g_bipush C (v := (115 : Int32)) dX7_nameNow_163 (by decide) ?_
  refine g_bipush C (v := (104 : Int32)) dX7_nameNow_165 (by decide) ?_
  refine g_bipush C (v := (111 : Int32)) dX7_nameNow_167 (by decide) ?_
  refine g_bipush C (v := (112 : Int32)) dX7_nameNow_169 (by decide) ?_
  refine g_callVI C [.int ((4 : Int32)), .int ((115 : Int32)), .int ((104 : Int32)), .int ((111 : Int32)), .int ((112 : Int32))] [] (ok_X7_is hI h0 h) (cw_RX7_162 _) rfl dc_X7_is ⟨Nat.le_of_ble_eq_true rfl, Nat.le_of_ble_eq_true rfl⟩ (isX7_lt h0) (isX7_sh h0) rfl rfl rfl rfl (Nat.le_of_ble_eq_true rfl) dX7_nameNow_171 (fun r35 m34 h => ?_)
  refine g_if_eq C 180 dX7_nameNow_174 (by decide) (fun c36 => ?_) (fun c36 => ?_)
  · replace h := h.1 c36
    refine g_aload_n C 0 dX7_nameNow_180 rfl ?_
    refine g_iconst C (v := (3 : Int32)) dX7_nameNow_181 (by decide) ?_
    refine g_bipush C (v := (111 : Int32)) dX7_nameNow_182 (by decide) ?_
    refine g_bipush C (v := (117 : Int32)) dX7_nameNow_184 (by decide) ?_
    refine g_bipush C (v := (116 : Int32)) dX7_nameNow_186 (by decide) ?_
    refine g_iconst C (v := (0 : Int32)) dX7_nameNow_188 (by decide) ?_
    refine g_callVI C [.int ((3 : Int32)), .int ((111 : Int32)), .int ((117 : Int32)), .int ((116 : Int32)), .int ((0 : Int32))] [] (ok_X7_is hI h0 h) (cw_RX7_162 _) rfl dc_X7_is ⟨Nat.le_of_ble_eq_true rfl, Nat.le_of_ble_eq_true rfl⟩ (isX7_lt h0) (isX7_sh h0) rfl rfl rfl rfl (Nat.le_of_ble_eq_true rfl) dX7_nameNow_189 (fun r38 m37 h => ?_)
    refine g_if_eq C 198 dX7_nameNow_192 (by decide) (fun c39 => ?_) (fun c39 => ?_)
    · replace h := h.1 c39
      refine g_aload_n C 0 dX7_nameNow_198 rfl ?_
      refine g_iconst C (v := (5 : Int32)) dX7_nameNow_199 (by decide) ?_
      refine g_bipush C (v := (103 : Int32)) dX7_nameNow_200 (by decide) ?_
      refine g_bipush C (v := (117 : Int32)) dX7_nameNow_202 (by decide) ?_
      refine g_bipush C (v := (101 : Int32)) dX7_nameNow_204 (by decide) ?_
      refine g_bipush C (v := (115 : Int32)) dX7_nameNow_206 (by decide) ?_
      refine g_callVI C [.int ((5 : Int32)), .int ((103 : Int32)), .int ((117 : Int32)), .int ((101 : Int32)), .int ((115 : Int32))] [] (ok_X7_is hI h0 h) (cw_RX7_162 _) rfl dc_X7_is ⟨Nat.le_of_ble_eq_true rfl, Nat.le_of_ble_eq_true rfl⟩ (isX7_lt h0) (isX7_sh h0) rfl rfl rfl rfl (Nat.le_of_ble_eq_true rfl) dX7_nameNow_208 (fun r41 m40 h => ?_)
      refine g_if_eq C 227 dX7_nameNow_211 (by decide) (fun c42 => ?_) (fun c42 => ?_)
      · replace h := h.1 c42
        exact tX7_nameNow_227 C hr hI h0 _ h
      · replace h := h.2 c42
        refine g_aload_n C 0 dX7_nameNow_214 rfl ?_
        refine g_bipush C (v := (116 : Int32)) dX7_nameNow_215 (by decide) ?_
        refine g_iconst C (v := (0 : Int32)) dX7_nameNow_217 (by decide) ?_
        refine g_callVI C [.int ((116 : Int32)), .int ((0 : Int32))] [] (ok_X7_goesOn hI h0 h) (cw_RX7_166 _) rfl dc_X7_goesOn ⟨Nat.le_of_ble_eq_true rfl, Nat.le_of_ble_eq_true rfl⟩ (isX7_lt h0) (isX7_sh h0) rfl rfl rfl rfl (Nat.le_of_ble_eq_true rfl) dX7_nameNow_218 (fun r44 m43 h => ?_)
        refine g_if_eq C 227 dX7_nameNow_221 (by decide) (fun c45 => ?_) (fun c45 => ?_)
        · replace h := h.1 c45
          exact tX7_nameNow_227 C hr hI h0 _ h
        · replace h := h.2 c45
          refine g_bipush C (v := (14 : Int32)) dX7_nameNow_224 (by decide) ?_
          exact hr _ _ _ _ _ dX7_nameNow_226 rfl h
    · replace h := h.2 c39
      refine g_bipush C (v := (13 : Int32)) dX7_nameNow_195 (by decide) ?_
      exact hr _ _ _ _ _ dX7_nameNow_197 rfl h
  · replace h := h.2 c36
    refine g_bipush C (v := (12 : Int32)) dX7_nameNow_177 (by decide) ?_
    exact hr _ _ _ _ _ dX7_nameNow_179 rfl h
set_option maxRecDepth 20000 in
set_option maxHeartbeats 4000000 in
theorem tX7_nameNow_115 {X : XT} {Y : YT} {l0 : Launch} {b : Nat} {Q : Int32 → Mem → Prop} (C : Cx X Y 1 cX7_nameNow RX7 WX7_nameNow (rmB 2 46) l0) (hr : RI X Y cX7_nameNow .int Q) (hI : YI Y) (h0 : isX7 Y b) (μ : Mem) (h : nX7_nameNow_115 b Q  μ) : G X Y 1 115 [(0, .ref (Y.ad b))] [] μ := by
  unfold nX7_nameNow_115 at h
  refine g_aload_n C 0 dX7_nameNow_115 rfl ?_
  refine g_iconst C (v := (3 : Int32)) dX7_nameNow_116 (by decide) ?_
  refine g_bipush C (v := (97 : Int32)) dX7_nameNow_117 (by decide) ?_
  refine g_bipush C (v := (110 : Int32)) dX7_nameNow_119 (by decide) ?_
  refine g_bipush C (v := (121 : Int32)) dX7_nameNow_121 (by decide) ?_
  refine g_iconst C (v := (0 : Int32)) dX7_nameNow_123 (by decide) ?_
  refine g_callVI C [.int ((3 : Int32)), .int ((97 : Int32)), .int ((110 : Int32)), .int ((121 : Int32)), .int ((0 : Int32))] [] (ok_X7_is hI h0 h) (cw_RX7_162 _) rfl dc_X7_is ⟨Nat.le_of_ble_eq_true rfl, Nat.le_of_ble_eq_true rfl⟩ (isX7_lt h0) (isX7_sh h0) rfl rfl rfl rfl (Nat.le_of_ble_eq_true rfl) dX7_nameNow_124 (fun r26 m25 h => ?_)
  refine g_if_eq C 132 dX7_nameNow_127 (by decide) (fun c27 => ?_) (fun c27 => ?_)
  · replace h := h.1 c27
    refine g_aload_n C 0 dX7_nameNow_132 rfl ?_
    refine g_iconst C (v := (5 : Int32)) dX7_nameNow_133 (by decide) ?_
    refine g_bipush C (v := (97 : Int32)) dX7_nameNow_134 (by decide) ?_
    refine g_bipush C (v := (103 : Int32)) dX7_nameNow_136 (by decide) ?_
    refine g_bipush C (v := (97 : Int32)) dX7_nameNow_138 (by decide) ?_
    refine g_bipush C (v := (105 : Int32)) dX7_nameNow_140 (by decide) ?_
    refine g_callVI C [.int ((5 : Int32)), .int ((97 : Int32)), .int ((103 : Int32)), .int ((97 : Int32)), .int ((105 : Int32))] [] (ok_X7_is hI h0 h) (cw_RX7_162 _) rfl dc_X7_is ⟨Nat.le_of_ble_eq_true rfl, Nat.le_of_ble_eq_true rfl⟩ (isX7_lt h0) (isX7_sh h0) rfl rfl rfl rfl (Nat.le_of_ble_eq_true rfl) dX7_nameNow_142 (fun r29 m28 h => ?_)
    refine g_if_eq C 161 dX7_nameNow_145 (by decide) (fun c30 => ?_) (fun c30 => ?_)
    · replace h := h.1 c30
      exact tX7_nameNow_161 C hr hI h0 _ h
    · replace h := h.2 c30
      refine g_aload_n C 0 dX7_nameNow_148 rfl ?_
      refine g_bipush C (v := (110 : Int32)) dX7_nameNow_149 (by decide) ?_
      refine g_iconst C (v := (0 : Int32)) dX7_nameNow_151 (by decide) ?_
      refine g_callVI C [.int ((110 : Int32)), .int ((0 : Int32))] [] (ok_X7_goesOn hI h0 h) (cw_RX7_166 _) rfl dc_X7_goesOn ⟨Nat.le_of_ble_eq_true rfl, Nat.le_of_ble_eq_true rfl⟩ (isX7_lt h0) (isX7_sh h0) rfl rfl rfl rfl (Nat.le_of_ble_eq_true rfl) dX7_nameNow_152 (fun r32 m31 h => ?_)
      refine g_if_eq C 161 dX7_nameNow_155 (by decide) (fun c33 => ?_) (fun c33 => ?_)
      · replace h := h.1 c33
        exact tX7_nameNow_161 C hr hI h0 _ h
      · replace h := h.2 c33
        refine g_bipush C (v := (11 : Int32)) dX7_nameNow_158 (by decide) ?_
        exact hr _ _ _ _ _ dX7_nameNow_160 rfl h
  · replace h := h.2 c27
    refine g_iconst C (v := (3 : Int32)) dX7_nameNow_130 (by decide) ?_
    exact hr _ _ _ _ _ dX7_nameNow_131 rfl h
set_option maxRecDepth 20000 in
set_option maxHeartbeats 4000000 in
theorem tX7_nameNow_87 {X : XT} {Y : YT} {l0 : Launch} {b : Nat} {Q : Int32 → Mem → Prop} (C : Cx X Y 1 cX7_nameNow RX7 WX7_nameNow (rmB 2 46) l0) (hr : RI X Y cX7_nameNow .int Q) (hI : YI Y) (h0 : isX7 Y b) (μ : Mem) (h : nX7_nameNow_87 b Q  μ) : G X Y 1 87 [(0, .ref (Y.ad b))] [] μ := by
  unfold nX7_nameNow_87 at h
  refine g_aload_n C 0 dX7_nameNow_87 rfl ?_
  refine g_iconst C (v := (5 : Int32)) dX7_nameNow_88 (by decide) ?_
  refine g_bipush C (v := (102 : Int32)) dX7_nameNow_89 (by decide) ?_
  refine g_bipush C (v := (101 : Int32)) dX7_nameNow_91 (by decide) ?_
  refine g_bipush C (v := (97 : Int32)) dX7_nameNow_93 (by decide) ?_
  refine g_bipush C (v := (115 : Int32)) dX7_nameNow_95 (by decide) ?_
  refine g_callVI C [.int ((5 : Int32)), .int ((102 : Int32)), .int ((101 : Int32)), .int ((97 : Int32)), .int ((115 : Int32))] [] (ok_X7_is hI h0 h) (cw_RX7_162 _) rfl dc_X7_is ⟨Nat.le_of_ble_eq_true rfl, Nat.le_of_ble_eq_true rfl⟩ (isX7_lt h0) (isX7_sh h0) rfl rfl rfl rfl (Nat.le_of_ble_eq_true rfl) dX7_nameNow_97 (fun r20 m19 h => ?_)
  refine g_if_eq C 115 dX7_nameNow_100 (by decide) (fun c21 => ?_) (fun c21 => ?_)
  · replace h := h.1 c21
    exact tX7_nameNow_115 C hr hI h0 _ h
  · replace h := h.2 c21
    refine g_aload_n C 0 dX7_nameNow_103 rfl ?_
    refine g_bipush C (v := (116 : Int32)) dX7_nameNow_104 (by decide) ?_
    refine g_iconst C (v := (0 : Int32)) dX7_nameNow_106 (by decide) ?_
    refine g_callVI C [.int ((116 : Int32)), .int ((0 : Int32))] [] (ok_X7_goesOn hI h0 h) (cw_RX7_166 _) rfl dc_X7_goesOn ⟨Nat.le_of_ble_eq_true rfl, Nat.le_of_ble_eq_true rfl⟩ (isX7_lt h0) (isX7_sh h0) rfl rfl rfl rfl (Nat.le_of_ble_eq_true rfl) dX7_nameNow_107 (fun r23 m22 h => ?_)
    refine g_if_eq C 115 dX7_nameNow_110 (by decide) (fun c24 => ?_) (fun c24 => ?_)
    · replace h := h.1 c24
      exact tX7_nameNow_115 C hr hI h0 _ h
    · replace h := h.2 c24
      refine g_iconst C (v := (2 : Int32)) dX7_nameNow_113 (by decide) ?_
      exact hr _ _ _ _ _ dX7_nameNow_114 rfl h
set_option maxRecDepth 20000 in
set_option maxHeartbeats 4000000 in
theorem tX7_nameNow_57 {X : XT} {Y : YT} {l0 : Launch} {b : Nat} {Q : Int32 → Mem → Prop} (C : Cx X Y 1 cX7_nameNow RX7 WX7_nameNow (rmB 2 46) l0) (hr : RI X Y cX7_nameNow .int Q) (hI : YI Y) (h0 : isX7 Y b) (μ : Mem) (h : nX7_nameNow_57 b Q  μ) : G X Y 1 57 [(0, .ref (Y.ad b))] [] μ := by
  unfold nX7_nameNow_57 at h
  refine g_aload_n C 0 dX7_nameNow_57 rfl ?_
  refine g_bipush C (v := (6 : Int32)) dX7_nameNow_58 (by decide) ?_
  refine g_bipush C (v := (115 : Int32)) dX7_nameNow_60 (by decide) ?_
  refine g_bipush C (v := (101 : Int32)) dX7_nameNow_62 (by decide) ?_
  refine g_bipush C (v := (99 : Int32)) dX7_nameNow_64 (by decide) ?_
  refine g_bipush C (v := (111 : Int32)) dX7_nameNow_66 (by decide) ?_
  refine g_callVI C [.int ((6 : Int32)), .int ((115 : Int32)), .int ((101 : Int32)), .int ((99 : Int32)), .int ((111 : Int32))] [] (ok_X7_is hI h0 h) (cw_RX7_162 _) rfl dc_X7_is ⟨Nat.le_of_ble_eq_true rfl, Nat.le_of_ble_eq_true rfl⟩ (isX7_lt h0) (isX7_sh h0) rfl rfl rfl rfl (Nat.le_of_ble_eq_true rfl) dX7_nameNow_68 (fun r14 m13 h => ?_)
  refine g_if_eq C 87 dX7_nameNow_71 (by decide) (fun c15 => ?_) (fun c15 => ?_)
  · replace h := h.1 c15
    exact tX7_nameNow_87 C hr hI h0 _ h
  · replace h := h.2 c15
    refine g_aload_n C 0 dX7_nameNow_74 rfl ?_
    refine g_bipush C (v := (110 : Int32)) dX7_nameNow_75 (by decide) ?_
    refine g_bipush C (v := (100 : Int32)) dX7_nameNow_77 (by decide) ?_
    refine g_callVI C [.int ((110 : Int32)), .int ((100 : Int32))] [] (ok_X7_goesOn hI h0 h) (cw_RX7_166 _) rfl dc_X7_goesOn ⟨Nat.le_of_ble_eq_true rfl, Nat.le_of_ble_eq_true rfl⟩ (isX7_lt h0) (isX7_sh h0) rfl rfl rfl rfl (Nat.le_of_ble_eq_true rfl) dX7_nameNow_79 (fun r17 m16 h => ?_)
    refine g_if_eq C 87 dX7_nameNow_82 (by decide) (fun c18 => ?_) (fun c18 => ?_)
    · replace h := h.1 c18
      exact tX7_nameNow_87 C hr hI h0 _ h
    · replace h := h.2 c18
      refine g_iconst C (v := (1 : Int32)) dX7_nameNow_85 (by decide) ?_
      exact hr _ _ _ _ _ dX7_nameNow_86 rfl h
set_option maxRecDepth 20000 in
set_option maxHeartbeats 4000000 in
theorem tX7_nameNow_29 {X : XT} {Y : YT} {l0 : Launch} {b : Nat} {Q : Int32 → Mem → Prop} (C : Cx X Y 1 cX7_nameNow RX7 WX7_nameNow (rmB 2 46) l0) (hr : RI X Y cX7_nameNow .int Q) (hI : YI Y) (h0 : isX7 Y b) (μ : Mem) (h : nX7_nameNow_29 b Q  μ) : G X Y 1 29 [(0, .ref (Y.ad b))] [] μ := by
  unfold nX7_nameNow_29 at h
  refine g_aload_n C 0 dX7_nameNow_29 rfl ?_
  refine g_iconst C (v := (5 : Int32)) dX7_nameNow_30 (by decide) ?_
  refine g_bipush C (v := (102 : Int32)) dX7_nameNow_31 (by decide) ?_
  refine g_bipush C (v := (105 : Int32)) dX7_nameNow_33 (by decide) ?_
  refine g_bipush C (v := (114 : Int32)) dX7_nameNow_35 (by decide) ?_
  refine g_bipush C (v := (115 : Int32)) dX7_nameNow_37 (by decide) ?_
  refine g_callVI C [.int ((5 : Int32)), .int ((102 : Int32)), .int ((105 : Int32)), .int ((114 : Int32)), .int ((115 : Int32))] [] (ok_X7_is hI h0 h) (cw_RX7_162 _) rfl dc_X7_is ⟨Nat.le_of_ble_eq_true rfl, Nat.le_of_ble_eq_true rfl⟩ (isX7_lt h0) (isX7_sh h0) rfl rfl rfl rfl (Nat.le_of_ble_eq_true rfl) dX7_nameNow_39 (fun r8 m7 h => ?_)
  refine g_if_eq C 57 dX7_nameNow_42 (by decide) (fun c9 => ?_) (fun c9 => ?_)
  · replace h := h.1 c9
    exact tX7_nameNow_57 C hr hI h0 _ h
  · replace h := h.2 c9
    refine g_aload_n C 0 dX7_nameNow_45 rfl ?_
    refine g_bipush C (v := (116 : Int32)) dX7_nameNow_46 (by decide) ?_
    refine g_iconst C (v := (0 : Int32)) dX7_nameNow_48 (by decide) ?_
    refine g_callVI C [.int ((116 : Int32)), .int ((0 : Int32))] [] (ok_X7_goesOn hI h0 h) (cw_RX7_166 _) rfl dc_X7_goesOn ⟨Nat.le_of_ble_eq_true rfl, Nat.le_of_ble_eq_true rfl⟩ (isX7_lt h0) (isX7_sh h0) rfl rfl rfl rfl (Nat.le_of_ble_eq_true rfl) dX7_nameNow_49 (fun r11 m10 h => ?_)
    refine g_if_eq C 57 dX7_nameNow_52 (by decide) (fun c12 => ?_) (fun c12 => ?_)
    · replace h := h.1 c12
      exact tX7_nameNow_57 C hr hI h0 _ h
    · replace h := h.2 c12
      refine g_iconst C (v := (0 : Int32)) dX7_nameNow_55 (by decide) ?_
      exact hr _ _ _ _ _ dX7_nameNow_56 rfl h
set_option maxRecDepth 20000 in
set_option maxHeartbeats 4000000 in
theorem ok_X7_nameNow {Y : YT} {l0 : Launch} {b : Nat} {μ : Mem} {Q : Int32 → Mem → Prop} (hI : YI Y) (h0 : isX7 Y b) (h : PX7_nameNow b μ Q) : MI l0 yX7_nameNow WX7_nameNow 2 46 Y [.ref (Y.ad b)] μ Q := by
  refine mI_of (ty := .int) (cc := cX7_nameNow) (maxL := 1) (by decide +kernel) rfl hI (Nat.le_of_ble_eq_true rfl) (fun X C hr => ?_)
  replace C : Cx X Y 1 cX7_nameNow RX7 WX7_nameNow (rmB 2 46) l0 := C
  refine g_lv (lv2 := [(0, .ref (Y.ad b))]) [0] ?_ rfl
  unfold PX7_nameNow at h
  refine g_aload_n C 0 dX7_nameNow_0 rfl ?_
  refine g_iconst C (v := (5 : Int32)) dX7_nameNow_1 (by decide) ?_
  refine g_bipush C (v := (116 : Int32)) dX7_nameNow_2 (by decide) ?_
  refine g_bipush C (v := (104 : Int32)) dX7_nameNow_4 (by decide) ?_
  refine g_bipush C (v := (105 : Int32)) dX7_nameNow_6 (by decide) ?_
  refine g_bipush C (v := (110 : Int32)) dX7_nameNow_8 (by decide) ?_
  refine g_callVI C [.int ((5 : Int32)), .int ((116 : Int32)), .int ((104 : Int32)), .int ((105 : Int32)), .int ((110 : Int32))] [] (ok_X7_is hI h0 h) (cw_RX7_162 _) rfl dc_X7_is ⟨Nat.le_of_ble_eq_true rfl, Nat.le_of_ble_eq_true rfl⟩ (isX7_lt h0) (isX7_sh h0) rfl rfl rfl rfl (Nat.le_of_ble_eq_true rfl) dX7_nameNow_10 (fun r2 m1 h => ?_)
  refine g_if_eq C 29 dX7_nameNow_13 (by decide) (fun c3 => ?_) (fun c3 => ?_)
  · replace h := h.1 c3
    exact tX7_nameNow_29 C hr hI h0 _ h
  · replace h := h.2 c3
    refine g_aload_n C 0 dX7_nameNow_16 rfl ?_
    refine g_bipush C (v := (103 : Int32)) dX7_nameNow_17 (by decide) ?_
    refine g_iconst C (v := (0 : Int32)) dX7_nameNow_19 (by decide) ?_
    refine g_callVI C [.int ((103 : Int32)), .int ((0 : Int32))] [] (ok_X7_goesOn hI h0 h) (cw_RX7_166 _) rfl dc_X7_goesOn ⟨Nat.le_of_ble_eq_true rfl, Nat.le_of_ble_eq_true rfl⟩ (isX7_lt h0) (isX7_sh h0) rfl rfl rfl rfl (Nat.le_of_ble_eq_true rfl) dX7_nameNow_20 (fun r5 m4 h => ?_)
    refine g_if_eq C 29 dX7_nameNow_23 (by decide) (fun c6 => ?_) (fun c6 => ?_)
    · replace h := h.1 c6
      exact tX7_nameNow_29 C hr hI h0 _ h
    · replace h := h.2 c6
      refine g_bipush C (v := (10 : Int32)) dX7_nameNow_26 (by decide) ?_
      exact hr _ _ _ _ _ dX7_nameNow_28 rfl h
def SX7_next_8 (X : XT) (Y : YT) (b : Nat) : Mem → Prop := fun  μ => G X Y 2 8 [(0, .ref (Y.ad b))] [] μ
def SX7_next_82 (X : XT) (Y : YT) (b : Nat) : Mem → Prop := fun  μ => G X Y 2 82 [(0, .ref (Y.ad b))] [] μ
def SX7_next_140 (X : XT) (Y : YT) (b : Nat) : Mem → Prop := fun  μ => G X Y 2 140 [(0, .ref (Y.ad b))] [] μ
set_option maxRecDepth 20000 in
set_option maxHeartbeats 4000000 in
theorem tX7_next_260 {X : XT} {Y : YT} {l0 : Launch} {b : Nat} {Q : Mem → Prop} (C : Cx X Y 2 cX7_next RX7 WX7_next (rmB 1 25) l0) (hr : RV X Y cX7_next Q) (hI : YI Y) (h0 : isX7 Y b) (w0 : Int32) (μ : Mem) (h : nX7_next_260 b Q (SX7_next_8 X Y b) (SX7_next_82 X Y b) (SX7_next_140 X Y b) w0 μ) : G X Y 2 260 [(0, .ref (Y.ad b))] [.int w0, .ref (Y.ad b)] μ := by
  unfold nX7_next_260 at h
  refine g_iconst C (v := (1 : Int32)) dX7_next_260 (by decide) ?_
  refine g_callVV C [.int w0, .int ((1 : Int32))] [] (ok_X7_needs hI h0 h) (cw_RX7_184 _) rfl dc_X7_needs ⟨Nat.le_of_ble_eq_true rfl, Nat.le_of_ble_eq_true rfl⟩ (isX7_lt h0) (isX7_sh h0) rfl rfl rfl rfl (Nat.le_of_ble_eq_true rfl) dX7_next_261 (fun m33 h => ?_)
  refine g_aload_n C 0 dX7_next_264 rfl ?_
  refine g_dup C dX7_next_265 rfl ?_
  refine gf_RX7_155 C h0 dX7_next_266 ?_
  refine g_iconst C (v := (1 : Int32)) dX7_next_269 (by decide) ?_
  refine g_iadd C dX7_next_270 ?_
  refine gp_RX7_155 C h0 dX7_next_271 ?_
  exact hr _ _ _ _ dX7_next_274 h
set_option maxRecDepth 20000 in
set_option maxHeartbeats 4000000 in
theorem tX7_next_8 {X : XT} {Y : YT} {l0 : Launch} {b : Nat} {Q : Mem → Prop} (C : Cx X Y 2 cX7_next RX7 WX7_next (rmB 1 25) l0) (hr : RV X Y cX7_next Q) (hI : YI Y) (h0 : isX7 Y b) (μ : Mem) (h : nX7_next_8 b Q (SX7_next_8 X Y b) (SX7_next_82 X Y b) (SX7_next_140 X Y b) μ) : G X Y 2 8 [(0, .ref (Y.ad b))] [] μ := by
  unfold nX7_next_8 at h
  refine g_aload_n C 0 dX7_next_8 rfl ?_
  refine g_aload_n C 0 dX7_next_9 rfl ?_
  refine gf_RX7_155 C h0 dX7_next_10 ?_
  refine g_callVI C [.int (μ.1 b 27)] [] (ok_X7_look hI h0 h) (cw_RX7_158 _) rfl dc_X7_look ⟨Nat.le_of_ble_eq_true rfl, Nat.le_of_ble_eq_true rfl⟩ (isX7_lt h0) (isX7_sh h0) rfl rfl rfl rfl (Nat.le_of_ble_eq_true rfl) dX7_next_13 (fun r3 m2 h => ?_)
  refine g_bipush C (v := (32 : Int32)) dX7_next_16 (by decide) ?_
  refine g_icmp_ne C 34 dX7_next_18 (by decide) (fun c4 => ?_) (fun c4 => ?_)
  · replace h := h.1 c4
    refine g_aload_n C 0 dX7_next_34 rfl ?_
    refine g_aload_n C 0 dX7_next_35 rfl ?_
    refine gf_RX7_155 C h0 dX7_next_36 ?_
    refine gp_RX7_149 C h0 dX7_next_39 ?_
    refine g_aload_n C 0 dX7_next_42 rfl ?_
    refine g_aload_n C 0 dX7_next_43 rfl ?_
    refine gf_RX7_155 C h0 dX7_next_44 ?_
    refine g_callVI C [.int ((ms m2 b 28 (m2.1 b 27)).1 b 27)] [] (ok_X7_look hI h0 h) (cw_RX7_158 _) rfl dc_X7_look ⟨Nat.le_of_ble_eq_true rfl, Nat.le_of_ble_eq_true rfl⟩ (isX7_lt h0) (isX7_sh h0) rfl rfl rfl rfl (Nat.le_of_ble_eq_true rfl) dX7_next_47 (fun r6 m5 h => ?_)
    refine g_istore_n C [(1, .int r6), (0, .ref (Y.ad b))] dX7_next_50 (by decide) rfl ?_
    refine g_iload_n C 0 dX7_next_51 rfl ?_
    refine g_if_ge C 63 dX7_next_52 (by decide) (fun c7 => ?_) (fun c7 => ?_)
    · replace h := h.1 c7
      refine g_iload_n C 0 dX7_next_63 rfl ?_
      refine g_i2l C dX7_next_64 ?_
      refine g_ldc2 C (v := (97 : Int64)) (List.mem_cons_of_mem _ mL_RX7_173) dX7_next_65 ?_
      refine g_ldc2 C (v := (122 : Int64)) (List.mem_cons_of_mem _ mL_RX7_175) dX7_next_68 ?_
      refine g_callSI C [.long r6.toInt64, .long ((97 : Int64)), .long ((122 : Int64))] [] (ok_X7_in hI  h) (cw_RX7_134 _) rfl dc_X7_in ⟨Nat.le_of_ble_eq_true rfl, Nat.le_of_ble_eq_true rfl⟩ rfl (Nat.le_of_ble_eq_true rfl) dX7_next_71 (fun r9 m8 h => ?_)
      refine g_if_eq C 116 dX7_next_74 (by decide) (fun c10 => ?_) (fun c10 => ?_)
      · replace h := h.1 c10
        refine g_iload_n C 0 dX7_next_116 rfl ?_
        refine g_i2l C dX7_next_117 ?_
        refine g_ldc2 C (v := (48 : Int64)) (List.mem_cons_of_mem _ mL_RX7_177) dX7_next_118 ?_
        refine g_ldc2 C (v := (57 : Int64)) (List.mem_cons_of_mem _ mL_RX7_179) dX7_next_121 ?_
        refine g_callSI C [.long r6.toInt64, .long ((48 : Int64)), .long ((57 : Int64))] [] (ok_X7_in hI  h) (cw_RX7_134 _) rfl dc_X7_in ⟨Nat.le_of_ble_eq_true rfl, Nat.le_of_ble_eq_true rfl⟩ rfl (Nat.le_of_ble_eq_true rfl) dX7_next_124 (fun r12 m11 h => ?_)
        refine g_if_eq C 243 dX7_next_127 (by decide) (fun c13 => ?_) (fun c13 => ?_)
        · replace h := h.1 c13
          refine g_aload_n C 1 dX7_next_243 rfl ?_
          refine g_iconst C (v := (3 : Int32)) dX7_next_244 (by decide) ?_
          refine gp_RX7_170 C h0 dX7_next_245 ?_
          refine g_aload_n C 1 dX7_next_248 rfl ?_
          refine g_iload_n C 0 dX7_next_249 rfl ?_
          refine g_bipush C (v := (59 : Int32)) dX7_next_250 (by decide) ?_
          refine g_icmp_ne C 259 dX7_next_252 (by decide) (fun c14 => ?_) (fun c14 => ?_)
          · replace h := h.1 c14
            refine g_iconst C (v := (0 : Int32)) dX7_next_259 (by decide) ?_
            refine g_lv (lv2 := [(0, .ref (Y.ad b))]) [1] ?_ rfl
            exact tX7_next_260 C hr hI h0 _ _ h
          · replace h := h.2 c14
            refine g_iconst C (v := (1 : Int32)) dX7_next_255 (by decide) ?_
            refine g_goto C 260 dX7_next_256 (by decide) ?_
            refine g_lv (lv2 := [(0, .ref (Y.ad b))]) [1] ?_ rfl
            exact tX7_next_260 C hr hI h0 _ _ h
        · replace h := h.2 c13
          refine g_aload_n C 1 dX7_next_130 rfl ?_
          refine g_iconst C (v := (2 : Int32)) dX7_next_131 (by decide) ?_
          refine gp_RX7_170 C h0 dX7_next_132 ?_
          refine g_aload_n C 1 dX7_next_135 rfl ?_
          refine g_iconst C (v := (0 : Int32)) dX7_next_136 (by decide) ?_
          refine gp_RX7_181 C h0 dX7_next_137 ?_
          refine g_mem (fun m15 em15 => ?_)
          replace h := h m15 em15
          refine g_lv (lv2 := [(0, .ref (Y.ad b))]) [1] ?_ rfl
          exact h
      · replace h := h.2 c10
        refine g_aload_n C 1 dX7_next_77 rfl ?_
        refine g_iconst C (v := (1 : Int32)) dX7_next_78 (by decide) ?_
        refine gp_RX7_170 C h0 dX7_next_79 ?_
        refine g_lv (lv2 := [(0, .ref (Y.ad b))]) [1] ?_ rfl
        exact h
    · replace h := h.2 c7
      refine g_aload_n C 1 dX7_next_55 rfl ?_
      refine g_iconst C (v := (0 : Int32)) dX7_next_56 (by decide) ?_
      refine gp_RX7_170 C h0 dX7_next_57 ?_
      refine g_goto C 274 dX7_next_60 (by decide) ?_
      exact hr _ _ _ _ dX7_next_274 h
  · replace h := h.2 c4
    refine g_aload_n C 0 dX7_next_21 rfl ?_
    refine g_dup C dX7_next_22 rfl ?_
    refine gf_RX7_155 C h0 dX7_next_23 ?_
    refine g_iconst C (v := (1 : Int32)) dX7_next_26 (by decide) ?_
    refine g_iadd C dX7_next_27 ?_
    refine gp_RX7_155 C h0 dX7_next_28 ?_
    refine g_goto C 8 dX7_next_31 (by decide) ?_
    exact h
set_option maxRecDepth 20000 in
set_option maxHeartbeats 4000000 in
theorem tX7_next_82 {X : XT} {Y : YT} {l0 : Launch} {b : Nat} {Q : Mem → Prop} (C : Cx X Y 2 cX7_next RX7 WX7_next (rmB 1 25) l0) (hr : RV X Y cX7_next Q) (hI : YI Y) (h0 : isX7 Y b) (μ : Mem) (h : nX7_next_82 b Q (SX7_next_8 X Y b) (SX7_next_82 X Y b) (SX7_next_140 X Y b) μ) : G X Y 2 82 [(0, .ref (Y.ad b))] [] μ := by
  unfold nX7_next_82 at h
  refine g_aload_n C 0 dX7_next_82 rfl ?_
  refine g_aload_n C 0 dX7_next_83 rfl ?_
  refine gf_RX7_155 C h0 dX7_next_84 ?_
  refine g_callVI C [.int (μ.1 b 27)] [] (ok_X7_look hI h0 h) (cw_RX7_158 _) rfl dc_X7_look ⟨Nat.le_of_ble_eq_true rfl, Nat.le_of_ble_eq_true rfl⟩ (isX7_lt h0) (isX7_sh h0) rfl rfl rfl rfl (Nat.le_of_ble_eq_true rfl) dX7_next_87 (fun r17 m16 h => ?_)
  refine g_i2l C dX7_next_90 ?_
  refine g_ldc2 C (v := (97 : Int64)) (List.mem_cons_of_mem _ mL_RX7_173) dX7_next_91 ?_
  refine g_ldc2 C (v := (122 : Int64)) (List.mem_cons_of_mem _ mL_RX7_175) dX7_next_94 ?_
  refine g_callSI C [.long r17.toInt64, .long ((97 : Int64)), .long ((122 : Int64))] [] (ok_X7_in hI  h) (cw_RX7_134 _) rfl dc_X7_in ⟨Nat.le_of_ble_eq_true rfl, Nat.le_of_ble_eq_true rfl⟩ rfl (Nat.le_of_ble_eq_true rfl) dX7_next_97 (fun r19 m18 h => ?_)
  refine g_if_eq C 274 dX7_next_100 (by decide) (fun c20 => ?_) (fun c20 => ?_)
  · replace h := h.1 c20
    exact hr _ _ _ _ dX7_next_274 h
  · replace h := h.2 c20
    refine g_aload_n C 0 dX7_next_103 rfl ?_
    refine g_dup C dX7_next_104 rfl ?_
    refine gf_RX7_155 C h0 dX7_next_105 ?_
    refine g_iconst C (v := (1 : Int32)) dX7_next_108 (by decide) ?_
    refine g_iadd C dX7_next_109 ?_
    refine gp_RX7_155 C h0 dX7_next_110 ?_
    refine g_goto C 82 dX7_next_113 (by decide) ?_
    exact h
set_option maxRecDepth 20000 in
set_option maxHeartbeats 4000000 in
theorem tX7_next_201 {X : XT} {Y : YT} {l0 : Launch} {b : Nat} {Q : Mem → Prop} (C : Cx X Y 2 cX7_next RX7 WX7_next (rmB 1 25) l0) (hr : RV X Y cX7_next Q) (hI : YI Y) (h0 : isX7 Y b) (w0 : Int32) (μ : Mem) (h : nX7_next_201 b Q (SX7_next_8 X Y b) (SX7_next_82 X Y b) (SX7_next_140 X Y b) w0 μ) : G X Y 2 201 [(0, .ref (Y.ad b))] [.int w0, .ref (Y.ad b)] μ := by
  unfold nX7_next_201 at h
  refine gp_RX7_181 C h0 dX7_next_201 ?_
  refine g_aload_n C 0 dX7_next_204 rfl ?_
  refine g_dup C dX7_next_205 rfl ?_
  refine gf_RX7_155 C h0 dX7_next_206 ?_
  refine g_iconst C (v := (1 : Int32)) dX7_next_209 (by decide) ?_
  refine g_iadd C dX7_next_210 ?_
  refine gp_RX7_155 C h0 dX7_next_211 ?_
  refine g_mem (fun m30 em30 => ?_)
  replace h := h m30 em30
  refine g_goto C 140 dX7_next_214 (by decide) ?_
  exact h
set_option maxRecDepth 20000 in
set_option maxHeartbeats 4000000 in
theorem tX7_next_236 {X : XT} {Y : YT} {l0 : Launch} {b : Nat} {Q : Mem → Prop} (C : Cx X Y 2 cX7_next RX7 WX7_next (rmB 1 25) l0) (hr : RV X Y cX7_next Q) (hI : YI Y) (h0 : isX7 Y b) (w0 : Int32) (μ : Mem) (h : nX7_next_236 b Q (SX7_next_8 X Y b) (SX7_next_82 X Y b) (SX7_next_140 X Y b) w0 μ) : G X Y 2 236 [(0, .ref (Y.ad b))] [.int w0, .ref (Y.ad b)] μ := by
  unfold nX7_next_236 at h
  refine g_iconst C (v := (1 : Int32)) dX7_next_236 (by decide) ?_
  refine g_callVV C [.int w0, .int ((1 : Int32))] [] (ok_X7_needs hI h0 h) (cw_RX7_184 _) rfl dc_X7_needs ⟨Nat.le_of_ble_eq_true rfl, Nat.le_of_ble_eq_true rfl⟩ (isX7_lt h0) (isX7_sh h0) rfl rfl rfl rfl (Nat.le_of_ble_eq_true rfl) dX7_next_237 (fun m31 h => ?_)
  refine g_goto C 274 dX7_next_240 (by decide) ?_
  exact hr _ _ _ _ dX7_next_274 h
set_option maxRecDepth 20000 in
set_option maxHeartbeats 4000000 in
theorem tX7_next_140 {X : XT} {Y : YT} {l0 : Launch} {b : Nat} {Q : Mem → Prop} (C : Cx X Y 2 cX7_next RX7 WX7_next (rmB 1 25) l0) (hr : RV X Y cX7_next Q) (hI : YI Y) (h0 : isX7 Y b) (μ : Mem) (h : nX7_next_140 b Q (SX7_next_8 X Y b) (SX7_next_82 X Y b) (SX7_next_140 X Y b) μ) : G X Y 2 140 [(0, .ref (Y.ad b))] [] μ := by
  unfold nX7_next_140 at h
  refine g_aload_n C 0 dX7_next_140 rfl ?_
  refine g_aload_n C 0 dX7_next_141 rfl ?_
  refine gf_RX7_155 C h0 dX7_next_142 ?_
  refine g_callVI C [.int (μ.1 b 27)] [] (ok_X7_look hI h0 h) (cw_RX7_158 _) rfl dc_X7_look ⟨Nat.le_of_ble_eq_true rfl, Nat.le_of_ble_eq_true rfl⟩ (isX7_lt h0) (isX7_sh h0) rfl rfl rfl rfl (Nat.le_of_ble_eq_true rfl) dX7_next_145 (fun r22 m21 h => ?_)
  refine g_i2l C dX7_next_148 ?_
  refine g_ldc2 C (v := (48 : Int64)) (List.mem_cons_of_mem _ mL_RX7_177) dX7_next_149 ?_
  refine g_ldc2 C (v := (57 : Int64)) (List.mem_cons_of_mem _ mL_RX7_179) dX7_next_152 ?_
  refine g_callSI C [.long r22.toInt64, .long ((48 : Int64)), .long ((57 : Int64))] [] (ok_X7_in hI  h) (cw_RX7_134 _) rfl dc_X7_in ⟨Nat.le_of_ble_eq_true rfl, Nat.le_of_ble_eq_true rfl⟩ rfl (Nat.le_of_ble_eq_true rfl) dX7_next_155 (fun r24 m23 h => ?_)
  refine g_if_eq C 217 dX7_next_158 (by decide) (fun c25 => ?_) (fun c25 => ?_)
  · replace h := h.1 c25
    refine g_aload_n C 0 dX7_next_217 rfl ?_
    refine g_aload_n C 0 dX7_next_218 rfl ?_
    refine gf_RX7_155 C h0 dX7_next_219 ?_
    refine g_aload_n C 0 dX7_next_222 rfl ?_
    refine gf_RX7_149 C h0 dX7_next_223 ?_
    refine g_isub C dX7_next_226 ?_
    refine g_iconst C (v := (2 : Int32)) dX7_next_227 (by decide) ?_
    refine g_icmp_gt C 235 dX7_next_228 (by decide) (fun c26 => ?_) (fun c26 => ?_)
    · replace h := h.1 c26
      refine g_iconst C (v := (0 : Int32)) dX7_next_235 (by decide) ?_
      exact tX7_next_236 C hr hI h0 _ _ h
    · replace h := h.2 c26
      refine g_iconst C (v := (1 : Int32)) dX7_next_231 (by decide) ?_
      refine g_goto C 236 dX7_next_232 (by decide) ?_
      exact tX7_next_236 C hr hI h0 _ _ h
  · replace h := h.2 c25
    refine g_aload_n C 0 dX7_next_161 rfl ?_
    refine g_aload_n C 0 dX7_next_162 rfl ?_
    refine gf_RX7_155 C h0 dX7_next_163 ?_
    refine g_aload_n C 0 dX7_next_166 rfl ?_
    refine gf_RX7_149 C h0 dX7_next_167 ?_
    refine g_isub C dX7_next_170 ?_
    refine g_iconst C (v := (2 : Int32)) dX7_next_171 (by decide) ?_
    refine g_icmp_ge C 197 dX7_next_172 (by decide) (fun c27 => ?_) (fun c27 => ?_)
    · replace h := h.1 c27
      refine g_aload_n C 0 dX7_next_197 rfl ?_
      refine gf_RX7_181 C h0 dX7_next_198 ?_
      exact tX7_next_201 C hr hI h0 _ _ h
    · replace h := h.2 c27
      refine g_bipush C (v := (10 : Int32)) dX7_next_175 (by decide) ?_
      refine g_aload_n C 0 dX7_next_177 rfl ?_
      refine gf_RX7_181 C h0 dX7_next_178 ?_
      refine g_imul C dX7_next_181 ?_
      refine g_aload_n C 0 dX7_next_182 rfl ?_
      refine g_aload_n C 0 dX7_next_183 rfl ?_
      refine gf_RX7_155 C h0 dX7_next_184 ?_
      refine g_callVI C [.int (m23.1 b 27)] [.int (((10 : Int32)) * (m23.1 b 30)), .ref (Y.ad b)] (ok_X7_look hI h0 h) (cw_RX7_158 _) rfl dc_X7_look ⟨Nat.le_of_ble_eq_true rfl, Nat.le_of_ble_eq_true rfl⟩ (isX7_lt h0) (isX7_sh h0) rfl rfl rfl rfl (Nat.le_of_ble_eq_true rfl) dX7_next_187 (fun r29 m28 h => ?_)
      refine g_iadd C dX7_next_190 ?_
      refine g_bipush C (v := (48 : Int32)) dX7_next_191 (by decide) ?_
      refine g_isub C dX7_next_193 ?_
      refine g_goto C 201 dX7_next_194 (by decide) ?_
      exact tX7_next_201 C hr hI h0 _ _ h
set_option maxRecDepth 20000 in
set_option maxHeartbeats 4000000 in
theorem ok_X7_next {Y : YT} {l0 : Launch} {b : Nat} {μ : Mem} {Q : Mem → Prop} (hI : YI Y) (h0 : isX7 Y b) (h : PX7_next b μ Q) : MV l0 yX7_next WX7_next 1 25 Y [.ref (Y.ad b)] μ Q := by
  refine mV_of (cc := cX7_next) (maxL := 2) (by decide +kernel) rfl hI (Nat.le_of_ble_eq_true rfl) (fun X C hr => ?_)
  replace C : Cx X Y 2 cX7_next RX7 WX7_next (rmB 1 25) l0 := C
  refine g_lv (lv2 := [(0, .ref (Y.ad b))]) [0] ?_ rfl
  unfold PX7_next at h
  replace h := h (SX7_next_8 X Y b) (SX7_next_82 X Y b) (SX7_next_140 X Y b) (fun  μ z => tX7_next_8 C hr hI h0  μ z) (fun  μ z => tX7_next_82 C hr hI h0  μ z) (fun  μ z => tX7_next_140 C hr hI h0  μ z)
  refine g_aload_n C 0 dX7_next_0 rfl ?_
  refine gf_RX7_146 C h0 dX7_next_1 ?_
  refine g_if_le C 8 dX7_next_4 (by decide) (fun c1 => ?_) (fun c1 => ?_)
  · replace h := h.1 c1
    exact h
  · replace h := h.2 c1
    exact hr _ _ _ _ dX7_next_7 h
set_option maxRecDepth 20000 in
set_option maxHeartbeats 4000000 in
theorem tX7_isNumber_25 {X : XT} {Y : YT} {l0 : Launch} {b : Nat} {p1 : Int32} {p2 : Int32} {Q : Mem → Prop} (C : Cx X Y 3 cX7_isNumber RX7 WX7_isNumber (rmB 1 25) l0) (hr : RV X Y cX7_isNumber Q) (hI : YI Y) (h0 : isX7 Y b) (μ : Mem) (h : nX7_isNumber_25 b p1 p2 Q  μ) : G X Y 3 25 [(0, .ref (Y.ad b)), (1, .int p1), (2, .int p2)] [] μ := by
  unfold nX7_isNumber_25 at h
  refine g_aload_n C 0 dX7_isNumber_25 rfl ?_
  refine gf_RX7_146 C h0 dX7_isNumber_26 ?_
  refine g_if_ne C 49 dX7_isNumber_29 (by decide) (fun c5 => ?_) (fun c5 => ?_)
  · replace h := h.1 c5
    exact hr _ _ _ _ dX7_isNumber_49 h
  · replace h := h.2 c5
    refine g_aload_n C 0 dX7_isNumber_32 rfl ?_
    refine g_aload_n C 0 dX7_isNumber_33 rfl ?_
    refine gf_RX7_181 C h0 dX7_isNumber_34 ?_
    refine g_i2l C dX7_isNumber_37 ?_
    refine g_iload_n C 1 dX7_isNumber_38 rfl ?_
    refine g_i2l C dX7_isNumber_39 ?_
    refine g_iload_n C 2 dX7_isNumber_40 rfl ?_
    refine g_i2l C dX7_isNumber_41 ?_
    refine g_callSI C [.long ((μ.1 b 30).toInt64), .long p1.toInt64, .long p2.toInt64] [.ref (Y.ad b)] (ok_X7_in hI  h) (cw_RX7_134 _) rfl dc_X7_in ⟨Nat.le_of_ble_eq_true rfl, Nat.le_of_ble_eq_true rfl⟩ rfl (Nat.le_of_ble_eq_true rfl) dX7_isNumber_42 (fun r7 m6 h => ?_)
    refine g_iconst C (v := (3 : Int32)) dX7_isNumber_45 (by decide) ?_
    refine g_callVV C [.int r7, .int ((3 : Int32))] [] (ok_X7_needs hI h0 h) (cw_RX7_184 _) rfl dc_X7_needs ⟨Nat.le_of_ble_eq_true rfl, Nat.le_of_ble_eq_true rfl⟩ (isX7_lt h0) (isX7_sh h0) rfl rfl rfl rfl (Nat.le_of_ble_eq_true rfl) dX7_isNumber_46 (fun m8 h => ?_)
    exact hr _ _ _ _ dX7_isNumber_49 h
set_option maxRecDepth 20000 in
set_option maxHeartbeats 4000000 in
theorem tX7_isNumber_21 {X : XT} {Y : YT} {l0 : Launch} {b : Nat} {p1 : Int32} {p2 : Int32} {Q : Mem → Prop} (C : Cx X Y 3 cX7_isNumber RX7 WX7_isNumber (rmB 1 25) l0) (hr : RV X Y cX7_isNumber Q) (hI : YI Y) (h0 : isX7 Y b) (w0 : Int32) (μ : Mem) (h : nX7_isNumber_21 b p1 p2 Q w0 μ) : G X Y 3 21 [(0, .ref (Y.ad b)), (1, .int p1), (2, .int p2)] [.int w0, .ref (Y.ad b)] μ := by
  unfold nX7_isNumber_21 at h
  refine g_iconst C (v := (2 : Int32)) dX7_isNumber_21 (by decide) ?_
  refine g_callVV C [.int w0, .int ((2 : Int32))] [] (ok_X7_needs hI h0 h) (cw_RX7_184 _) rfl dc_X7_needs ⟨Nat.le_of_ble_eq_true rfl, Nat.le_of_ble_eq_true rfl⟩ (isX7_lt h0) (isX7_sh h0) rfl rfl rfl rfl (Nat.le_of_ble_eq_true rfl) dX7_isNumber_22 (fun m3 h => ?_)
  exact tX7_isNumber_25 C hr hI h0 _ h
set_option maxRecDepth 20000 in
set_option maxHeartbeats 4000000 in
theorem ok_X7_isNumber {Y : YT} {l0 : Launch} {b : Nat} {p1 : Int32} {p2 : Int32} {μ : Mem} {Q : Mem → Prop} (hI : YI Y) (h0 : isX7 Y b) (h : PX7_isNumber b p1 p2 μ Q) : MV l0 yX7_isNumber WX7_isNumber 1 25 Y [.ref (Y.ad b), .int p1, .int p2] μ Q := by
  refine mV_of (cc := cX7_isNumber) (maxL := 3) (by decide +kernel) rfl hI (Nat.le_of_ble_eq_true rfl) (fun X C hr => ?_)
  replace C : Cx X Y 3 cX7_isNumber RX7 WX7_isNumber (rmB 1 25) l0 := C
  refine g_lv (lv2 := [(0, .ref (Y.ad b)), (1, .int p1), (2, .int p2)]) [0, 1, 2] ?_ rfl
  unfold PX7_isNumber at h
  refine g_aload_n C 0 dX7_isNumber_0 rfl ?_
  refine gf_RX7_146 C h0 dX7_isNumber_1 ?_
  refine g_if_ne C 25 dX7_isNumber_4 (by decide) (fun c1 => ?_) (fun c1 => ?_)
  · replace h := h.1 c1
    exact tX7_isNumber_25 C hr hI h0 _ h
  · replace h := h.2 c1
    refine g_aload_n C 0 dX7_isNumber_7 rfl ?_
    refine g_aload_n C 0 dX7_isNumber_8 rfl ?_
    refine gf_RX7_170 C h0 dX7_isNumber_9 ?_
    refine g_iconst C (v := (2 : Int32)) dX7_isNumber_12 (by decide) ?_
    refine g_icmp_ne C 20 dX7_isNumber_13 (by decide) (fun c2 => ?_) (fun c2 => ?_)
    · replace h := h.1 c2
      refine g_iconst C (v := (0 : Int32)) dX7_isNumber_20 (by decide) ?_
      exact tX7_isNumber_21 C hr hI h0 _ _ h
    · replace h := h.2 c2
      refine g_iconst C (v := (1 : Int32)) dX7_isNumber_16 (by decide) ?_
      refine g_goto C 21 dX7_isNumber_17 (by decide) ?_
      exact tX7_isNumber_21 C hr hI h0 _ _ h
set_option maxRecDepth 20000 in
set_option maxHeartbeats 4000000 in
theorem ok_X7_readNumber {Y : YT} {l0 : Launch} {b : Nat} {p1 : Int32} {p2 : Int32} {μ : Mem} {Q : Int32 → Mem → Prop} (hI : YI Y) (h0 : isX7 Y b) (h : PX7_readNumber b p1 p2 μ Q) : MI l0 yX7_readNumber WX7_readNumber 2 47 Y [.ref (Y.ad b), .int p1, .int p2] μ Q := by
  refine mI_of (ty := .int) (cc := cX7_readNumber) (maxL := 4) (by decide +kernel) rfl hI (Nat.le_of_ble_eq_true rfl) (fun X C hr => ?_)
  replace C : Cx X Y 4 cX7_readNumber RX7 WX7_readNumber (rmB 2 47) l0 := C
  refine g_lv (lv2 := [(0, .ref (Y.ad b)), (1, .int p1), (2, .int p2)]) [0, 1, 2] ?_ rfl
  unfold PX7_readNumber at h
  refine g_aload_n C 0 dX7_readNumber_0 rfl ?_
  refine g_iload_n C 1 dX7_readNumber_1 rfl ?_
  refine g_iload_n C 2 dX7_readNumber_2 rfl ?_
  refine g_callVV C [.int p1, .int p2] [] (ok_X7_isNumber hI h0 h) (cw_RX7_188 _) rfl dc_X7_isNumber ⟨Nat.le_of_ble_eq_true rfl, Nat.le_of_ble_eq_true rfl⟩ (isX7_lt h0) (isX7_sh h0) rfl rfl rfl rfl (Nat.le_of_ble_eq_true rfl) dX7_readNumber_3 (fun m1 h => ?_)
  refine g_aload_n C 0 dX7_readNumber_6 rfl ?_
  refine gf_RX7_181 C h0 dX7_readNumber_7 ?_
  refine g_istore_n C [(3, .int (m1.1 b 30)), (0, .ref (Y.ad b)), (1, .int p1), (2, .int p2)] dX7_readNumber_10 (by decide) rfl ?_
  refine g_aload_n C 1 dX7_readNumber_11 rfl ?_
  refine g_callVV C [] [] (ok_X7_next hI h0 h) (cw_RX7_192 _) rfl dc_X7_next ⟨Nat.le_of_ble_eq_true rfl, Nat.le_of_ble_eq_true rfl⟩ (isX7_lt h0) (isX7_sh h0) rfl rfl rfl rfl (Nat.le_of_ble_eq_true rfl) dX7_readNumber_12 (fun m3 h => ?_)
  refine g_iload_n C 0 dX7_readNumber_15 rfl ?_
  exact hr _ _ _ _ _ dX7_readNumber_16 rfl h
def SX7_letters_8 (X : XT) (Y : YT) (b : Nat) (p1 : Int32) (p2 : Int32) : Int32 → Int32 → Mem → Prop := fun v3 v4 μ => G X Y 6 8 [(0, .ref (Y.ad b)), (1, .int p1), (2, .int p2), (3, .int v3), (4, .int v4)] [] μ
set_option maxRecDepth 20000 in
set_option maxHeartbeats 4000000 in
theorem tX7_letters_8 {X : XT} {Y : YT} {l0 : Launch} {b : Nat} {p1 : Int32} {p2 : Int32} {Q : Int32 → Mem → Prop} (C : Cx X Y 6 cX7_letters RX7 WX7_letters (rmB 1 25) l0) (hr : RI X Y cX7_letters .int Q) (hI : YI Y) (h0 : isX7 Y b) (v3 : Int32) (v4 : Int32) (μ : Mem) (h : nX7_letters_8 b p1 p2 Q (SX7_letters_8 X Y b p1 p2) v3 v4 μ) : G X Y 6 8 [(0, .ref (Y.ad b)), (1, .int p1), (2, .int p2), (3, .int v3), (4, .int v4)] [] μ := by
  unfold nX7_letters_8 at h
  refine g_iload C 4 dX7_letters_8 rfl ?_
  refine g_aload_n C 0 dX7_letters_10 rfl ?_
  refine gf_RX7_155 C h0 dX7_letters_11 ?_
  refine g_icmp_ge C 67 dX7_letters_14 (by decide) (fun c1 => ?_) (fun c1 => ?_)
  · replace h := h.1 c1
    refine g_iload_n C 3 dX7_letters_67 rfl ?_
    exact hr _ _ _ _ _ dX7_letters_68 rfl h
  · replace h := h.2 c1
    refine g_aload_n C 0 dX7_letters_17 rfl ?_
    refine g_iload C 4 dX7_letters_18 rfl ?_
    refine g_callVI C [.int v4] [] (ok_X7_look hI h0 h) (cw_RX7_158 _) rfl dc_X7_look ⟨Nat.le_of_ble_eq_true rfl, Nat.le_of_ble_eq_true rfl⟩ (isX7_lt h0) (isX7_sh h0) rfl rfl rfl rfl (Nat.le_of_ble_eq_true rfl) dX7_letters_20 (fun r3 m2 h => ?_)
    refine g_iload_n C 1 dX7_letters_23 rfl ?_
    refine g_isub C dX7_letters_24 ?_
    refine g_istore C [(5, .int (r3 - p1)), (0, .ref (Y.ad b)), (1, .int p1), (2, .int p2), (3, .int v3), (4, .int v4)] dX7_letters_25 (by decide) rfl ?_
    refine g_iload C 0 dX7_letters_27 rfl ?_
    refine g_i2l C dX7_letters_29 ?_
    refine g_lconst C (v := (0 : Int64)) dX7_letters_30 (by decide) ?_
    refine g_iload_n C 3 dX7_letters_31 rfl ?_
    refine g_iconst C (v := (1 : Int32)) dX7_letters_32 (by decide) ?_
    refine g_isub C dX7_letters_33 ?_
    refine g_i2l C dX7_letters_34 ?_
    refine g_callSI C [.long ((r3 - p1).toInt64), .long ((0 : Int64)), .long ((p2 - ((1 : Int32))).toInt64)] [] (ok_X7_in hI  h) (cw_RX7_134 _) rfl dc_X7_in ⟨Nat.le_of_ble_eq_true rfl, Nat.le_of_ble_eq_true rfl⟩ rfl (Nat.le_of_ble_eq_true rfl) dX7_letters_35 (fun r5 m4 h => ?_)
    refine g_if_eq C 51 dX7_letters_38 (by decide) (fun c6 => ?_) (fun c6 => ?_)
    · replace h := h.1 c6
      refine g_bipush C (v := (-4 : Int32)) dX7_letters_51 (by decide) ?_
      exact hr _ _ _ _ _ dX7_letters_53 rfl h
    · replace h := h.2 c6
      refine g_iload_n C 4 dX7_letters_41 rfl ?_
      refine g_iload C 0 dX7_letters_42 rfl ?_
      refine g_ishr C dX7_letters_44 ?_
      refine g_iconst C (v := (1 : Int32)) dX7_letters_45 (by decide) ?_
      refine g_iand C dX7_letters_46 ?_
      refine g_iconst C (v := (1 : Int32)) dX7_letters_47 (by decide) ?_
      refine g_icmp_ne C 54 dX7_letters_48 (by decide) (fun c7 => ?_) (fun c7 => ?_)
      · replace h := h.1 c7
        refine g_iload_n C 4 dX7_letters_54 rfl ?_
        refine g_iconst C (v := (1 : Int32)) dX7_letters_55 (by decide) ?_
        refine g_iload C 0 dX7_letters_56 rfl ?_
        refine g_ishl C dX7_letters_58 ?_
        refine g_ior C dX7_letters_59 ?_
        refine g_istore_n C [(3, .int (v3 ||| (((1 : Int32)) <<< ((r3 - p1) &&& 31)))), (5, .int (r3 - p1)), (0, .ref (Y.ad b)), (1, .int p1), (2, .int p2), (4, .int v4)] dX7_letters_60 (by decide) rfl ?_
        refine g_iinc C (v := v4 + 1) 5 [(4, .int (v4 + 1)), (3, .int (v3 ||| (((1 : Int32)) <<< ((r3 - p1) &&& 31)))), (5, .int (r3 - p1)), (0, .ref (Y.ad b)), (1, .int p1), (2, .int p2)] dX7_letters_61 rfl rfl (by decide) rfl ?_
        refine g_goto C 8 dX7_letters_64 (by decide) ?_
        refine g_lv (lv2 := [(0, .ref (Y.ad b)), (1, .int p1), (2, .int p2), (3, .int (v3 ||| (((1 : Int32)) <<< ((r3 - p1) &&& 31)))), (4, .int (v4 + 1))]) [3, 4, 5, 1, 0] ?_ rfl
        exact h
      · replace h := h.2 c7
        refine g_bipush C (v := (-4 : Int32)) dX7_letters_51 (by decide) ?_
        exact hr _ _ _ _ _ dX7_letters_53 rfl h
set_option maxRecDepth 20000 in
set_option maxHeartbeats 4000000 in
theorem ok_X7_letters {Y : YT} {l0 : Launch} {b : Nat} {p1 : Int32} {p2 : Int32} {μ : Mem} {Q : Int32 → Mem → Prop} (hI : YI Y) (h0 : isX7 Y b) (h : PX7_letters b p1 p2 μ Q) : MI l0 yX7_letters WX7_letters 1 25 Y [.ref (Y.ad b), .int p1, .int p2] μ Q := by
  refine mI_of (ty := .int) (cc := cX7_letters) (maxL := 6) (by decide +kernel) rfl hI (Nat.le_of_ble_eq_true rfl) (fun X C hr => ?_)
  replace C : Cx X Y 6 cX7_letters RX7 WX7_letters (rmB 1 25) l0 := C
  refine g_lv (lv2 := [(0, .ref (Y.ad b)), (1, .int p1), (2, .int p2)]) [0, 1, 2] ?_ rfl
  unfold PX7_letters at h
  replace h := h (SX7_letters_8 X Y b p1 p2) (fun v3 v4 μ z => tX7_letters_8 C hr hI h0 v3 v4 μ z)
  refine g_iconst C (v := (0 : Int32)) dX7_letters_0 (by decide) ?_
  refine g_istore_n C [(3, .int ((0 : Int32))), (0, .ref (Y.ad b)), (1, .int p1), (2, .int p2)] dX7_letters_1 (by decide) rfl ?_
  refine g_aload_n C 1 dX7_letters_2 rfl ?_
  refine gf_RX7_149 C h0 dX7_letters_3 ?_
  refine g_istore C [(4, .int (μ.1 b 28)), (3, .int ((0 : Int32))), (0, .ref (Y.ad b)), (1, .int p1), (2, .int p2)] dX7_letters_6 (by decide) rfl ?_
  refine g_lv (lv2 := [(0, .ref (Y.ad b)), (1, .int p1), (2, .int p2), (3, .int ((0 : Int32))), (4, .int (μ.1 b 28))]) [2, 3, 4, 1, 0] ?_ rfl
  exact h
set_option maxRecDepth 20000 in
set_option maxHeartbeats 4000000 in
theorem ok_X7_uses {Y : YT} {l0 : Launch} {b : Nat} {p1 : Int32} {p2 : Int32} {μ : Mem} {Q : Mem → Prop} (hI : YI Y) (h0 : isX7 Y b) (h : PX7_uses b p1 p2 μ Q) : MV l0 yX7_uses WX7_uses 0 0 Y [.ref (Y.ad b), .int p1, .int p2] μ Q := by
  refine mV_of (cc := cX7_uses) (maxL := 3) (by decide +kernel) rfl hI (Nat.le_of_ble_eq_true rfl) (fun X C hr => ?_)
  replace C : Cx X Y 3 cX7_uses RX7 WX7_uses (rmB 0 0) l0 := C
  refine g_lv (lv2 := [(0, .ref (Y.ad b)), (1, .int p1), (2, .int p2)]) [0, 1, 2] ?_ rfl
  unfold PX7_uses at h
  refine g_aload_n C 0 dX7_uses_0 rfl ?_
  refine gf_RX7_146 C h0 dX7_uses_1 ?_
  refine g_if_ne C 37 dX7_uses_4 (by decide) (fun c1 => ?_) (fun c1 => ?_)
  · replace h := h.1 c1
    exact hr _ _ _ _ dX7_uses_37 h
  · replace h := h.2 c1
    refine g_aload_n C 0 dX7_uses_7 rfl ?_
    refine gf_RX7_40 C h0 dX7_uses_8 ?_
    refine g_aload_n C 0 dX7_uses_11 rfl ?_
    refine gf_RX7_112 C h0 dX7_uses_12 ?_
    refine g_iload_n C 1 dX7_uses_15 rfl ?_
    refine g_iast C (isX7_usedThing h0).1 (isX7_usedThing h0).2 h.1 dX7_uses_16 ?_
    replace h := h.2
    refine g_aload_n C 0 dX7_uses_17 rfl ?_
    refine gf_RX7_43 C h0 dX7_uses_18 ?_
    refine g_aload_n C 0 dX7_uses_21 rfl ?_
    refine gf_RX7_112 C h0 dX7_uses_22 ?_
    refine g_iload_n C 2 dX7_uses_25 rfl ?_
    refine g_iast C (isX7_usedAt h0).1 (isX7_usedAt h0).2 h.1 dX7_uses_26 ?_
    replace h := h.2
    refine g_mem (fun m2 em2 => ?_)
    replace h := h m2 em2
    refine g_aload_n C 0 dX7_uses_27 rfl ?_
    refine g_dup C dX7_uses_28 rfl ?_
    refine gf_RX7_112 C h0 dX7_uses_29 ?_
    refine g_iconst C (v := (1 : Int32)) dX7_uses_32 (by decide) ?_
    refine g_iadd C dX7_uses_33 ?_
    refine gp_RX7_112 C h0 dX7_uses_34 ?_
    exact hr _ _ _ _ dX7_uses_37 h
def SX7_readWants_2 (X : XT) (Y : YT) (b : Nat) (p1 : Int32) : Int32 → Mem → Prop := fun v2 μ => G X Y 5 2 [(0, .ref (Y.ad b)), (1, .int p1), (2, .int v2)] [] μ
set_option maxRecDepth 20000 in
set_option maxHeartbeats 4000000 in
theorem tX7_readWants_192 {X : XT} {Y : YT} {l0 : Launch} {b : Nat} {p1 : Int32} {Q : Int32 → Mem → Prop} (C : Cx X Y 5 cX7_readWants RX7 WX7_readWants (rmB 3 70) l0) (hr : RI X Y cX7_readWants .int Q) (hI : YI Y) (h0 : isX7 Y b) (v2 : Int32) (μ : Mem) (h : nX7_readWants_192 b p1 Q (SX7_readWants_2 X Y b p1) v2 μ) : G X Y 5 192 [(0, .ref (Y.ad b)), (1, .int p1), (2, .int v2)] [] μ := by
  unfold nX7_readWants_192 at h
  refine g_goto C 2 dX7_readWants_192 (by decide) ?_
  exact h
set_option maxRecDepth 20000 in
set_option maxHeartbeats 4000000 in
theorem tX7_readWants_119 {X : XT} {Y : YT} {l0 : Launch} {b : Nat} {p1 : Int32} {Q : Int32 → Mem → Prop} (C : Cx X Y 5 cX7_readWants RX7 WX7_readWants (rmB 3 70) l0) (hr : RI X Y cX7_readWants .int Q) (hI : YI Y) (h0 : isX7 Y b) (v2 : Int32) (v3 : Int32) (μ : Mem) (h : nX7_readWants_119 b p1 Q (SX7_readWants_2 X Y b p1) v2 v3 μ) : G X Y 5 119 [(0, .ref (Y.ad b)), (1, .int p1), (2, .int v2), (3, .int v3)] [] μ := by
  unfold nX7_readWants_119 at h
  refine g_aload_n C 0 dX7_readWants_119 rfl ?_
  refine g_iload_n C 3 dX7_readWants_120 rfl ?_
  refine g_aload_n C 0 dX7_readWants_121 rfl ?_
  refine gf_RX7_149 C h0 dX7_readWants_122 ?_
  refine g_callVV C [.int v3, .int (μ.1 b 28)] [] (ok_X7_uses hI h0 h) (cw_RX7_205 _) rfl dc_X7_uses ⟨Nat.le_of_ble_eq_true rfl, Nat.le_of_ble_eq_true rfl⟩ (isX7_lt h0) (isX7_sh h0) rfl rfl rfl rfl (Nat.le_of_ble_eq_true rfl) dX7_readWants_125 (fun m24 h => ?_)
  refine g_aload_n C 0 dX7_readWants_128 rfl ?_
  refine g_callVV C [] [] (ok_X7_next hI h0 h) (cw_RX7_192 _) rfl dc_X7_next ⟨Nat.le_of_ble_eq_true rfl, Nat.le_of_ble_eq_true rfl⟩ (isX7_lt h0) (isX7_sh h0) rfl rfl rfl rfl (Nat.le_of_ble_eq_true rfl) dX7_readWants_129 (fun m26 h => ?_)
  refine g_aload_n C 0 dX7_readWants_132 rfl ?_
  refine g_iconst C (v := (1 : Int32)) dX7_readWants_133 (by decide) ?_
  refine g_iconst C (v := (3 : Int32)) dX7_readWants_134 (by decide) ?_
  refine g_callVI C [.int ((1 : Int32)), .int ((3 : Int32))] [] (ok_X7_readNumber hI h0 h) (cw_RX7_208 _) rfl dc_X7_readNumber ⟨Nat.le_of_ble_eq_true rfl, Nat.le_of_ble_eq_true rfl⟩ (isX7_lt h0) (isX7_sh h0) rfl rfl rfl rfl (Nat.le_of_ble_eq_true rfl) dX7_readWants_135 (fun r29 m28 h => ?_)
  refine g_istore C [(4, .int r29), (0, .ref (Y.ad b)), (1, .int p1), (2, .int v2), (3, .int v3)] dX7_readWants_138 (by decide) rfl ?_
  refine g_aload_n C 1 dX7_readWants_140 rfl ?_
  refine gf_RX7_146 C h0 dX7_readWants_141 ?_
  refine g_if_ne C 192 dX7_readWants_144 (by decide) (fun c30 => ?_) (fun c30 => ?_)
  · replace h := h.1 c30
    refine g_lv (lv2 := [(0, .ref (Y.ad b)), (1, .int p1), (2, .int v2)]) [1, 2, 3] ?_ rfl
    exact tX7_readWants_192 C hr hI h0 _ _ h
  · replace h := h.2 c30
    refine g_iload_n C 3 dX7_readWants_147 rfl ?_
    refine g_iconst C (v := (1 : Int32)) dX7_readWants_148 (by decide) ?_
    refine g_iload_n C 4 dX7_readWants_149 rfl ?_
    refine g_ishl C dX7_readWants_150 ?_
    refine g_ior C dX7_readWants_151 ?_
    refine g_istore_n C [(2, .int (v2 ||| (((1 : Int32)) <<< (v3 &&& 31)))), (4, .int r29), (0, .ref (Y.ad b)), (1, .int p1), (3, .int v3)] dX7_readWants_152 (by decide) rfl ?_
    refine g_iload_n C 3 dX7_readWants_153 rfl ?_
    refine g_if_eq C 176 dX7_readWants_154 (by decide) (fun c31 => ?_) (fun c31 => ?_)
    · replace h := h.1 c31
      refine g_aload_n C 2 dX7_readWants_176 rfl ?_
      refine gf_RX7_31 C h0 dX7_readWants_177 ?_
      refine g_bipush C (v := (6 : Int32)) dX7_readWants_180 (by decide) ?_
      refine g_aload_n C 2 dX7_readWants_182 rfl ?_
      refine gf_RX7_93 C h0 dX7_readWants_183 ?_
      refine g_imul C dX7_readWants_186 ?_
      refine g_iload_n C 4 dX7_readWants_187 rfl ?_
      refine g_iadd C dX7_readWants_188 ?_
      refine g_iload C 1 dX7_readWants_189 rfl ?_
      refine g_iast C (isX7_dWants h0).1 (isX7_dWants h0).2 h.1 dX7_readWants_191 ?_
      replace h := h.2
      refine g_lv (lv2 := [(0, .ref (Y.ad b)), (1, .int p1), (2, .int (v2 ||| (((1 : Int32)) <<< (v3 &&& 31))))]) [2, 3, 0] ?_ rfl
      exact tX7_readWants_192 C hr hI h0 _ _ h
    · replace h := h.2 c31
      refine g_aload_n C 2 dX7_readWants_157 rfl ?_
      refine gf_RX7_34 C h0 dX7_readWants_158 ?_
      refine g_bipush C (v := (6 : Int32)) dX7_readWants_161 (by decide) ?_
      refine g_aload_n C 2 dX7_readWants_163 rfl ?_
      refine gf_RX7_93 C h0 dX7_readWants_164 ?_
      refine g_imul C dX7_readWants_167 ?_
      refine g_iload_n C 4 dX7_readWants_168 rfl ?_
      refine g_iadd C dX7_readWants_169 ?_
      refine g_iload C 1 dX7_readWants_170 rfl ?_
      refine g_iast C (isX7_dLeaves h0).1 (isX7_dLeaves h0).2 h.1 dX7_readWants_172 ?_
      replace h := h.2
      refine g_goto C 192 dX7_readWants_173 (by decide) ?_
      refine g_lv (lv2 := [(0, .ref (Y.ad b)), (1, .int p1), (2, .int (v2 ||| (((1 : Int32)) <<< (v3 &&& 31))))]) [2, 3, 0] ?_ rfl
      exact tX7_readWants_192 C hr hI h0 _ _ h
set_option maxRecDepth 20000 in
set_option maxHeartbeats 4000000 in
theorem tX7_readWants_115 {X : XT} {Y : YT} {l0 : Launch} {b : Nat} {p1 : Int32} {Q : Int32 → Mem → Prop} (C : Cx X Y 5 cX7_readWants RX7 WX7_readWants (rmB 3 70) l0) (hr : RI X Y cX7_readWants .int Q) (hI : YI Y) (h0 : isX7 Y b) (v2 : Int32) (v3 : Int32) (w0 : Int32) (μ : Mem) (h : nX7_readWants_115 b p1 Q (SX7_readWants_2 X Y b p1) v2 v3 w0 μ) : G X Y 5 115 [(0, .ref (Y.ad b)), (1, .int p1), (2, .int v2), (3, .int v3)] [.int w0, .ref (Y.ad b)] μ := by
  unfold nX7_readWants_115 at h
  refine g_iconst C (v := (4 : Int32)) dX7_readWants_115 (by decide) ?_
  refine g_callVV C [.int w0, .int ((4 : Int32))] [] (ok_X7_needs hI h0 h) (cw_RX7_184 _) rfl dc_X7_needs ⟨Nat.le_of_ble_eq_true rfl, Nat.le_of_ble_eq_true rfl⟩ (isX7_lt h0) (isX7_sh h0) rfl rfl rfl rfl (Nat.le_of_ble_eq_true rfl) dX7_readWants_116 (fun m22 h => ?_)
  exact tX7_readWants_119 C hr hI h0 _ _ _ h
set_option maxRecDepth 20000 in
set_option maxHeartbeats 4000000 in
theorem tX7_readWants_90 {X : XT} {Y : YT} {l0 : Launch} {b : Nat} {p1 : Int32} {Q : Int32 → Mem → Prop} (C : Cx X Y 5 cX7_readWants RX7 WX7_readWants (rmB 3 70) l0) (hr : RI X Y cX7_readWants .int Q) (hI : YI Y) (h0 : isX7 Y b) (v2 : Int32) (v3 : Int32) (w0 : Int32) (μ : Mem) (h : nX7_readWants_90 b p1 Q (SX7_readWants_2 X Y b p1) v2 v3 w0 μ) : G X Y 5 90 [(0, .ref (Y.ad b)), (1, .int p1), (2, .int v2), (3, .int v3)] [.int w0, .ref (Y.ad b)] μ := by
  unfold nX7_readWants_90 at h
  refine g_iconst C (v := (3 : Int32)) dX7_readWants_90 (by decide) ?_
  refine g_callVV C [.int w0, .int ((3 : Int32))] [] (ok_X7_needs hI h0 h) (cw_RX7_184 _) rfl dc_X7_needs ⟨Nat.le_of_ble_eq_true rfl, Nat.le_of_ble_eq_true rfl⟩ (isX7_lt h0) (isX7_sh h0) rfl rfl rfl rfl (Nat.le_of_ble_eq_true rfl) dX7_readWants_91 (fun m18 h => ?_)
  refine g_aload_n C 0 dX7_readWants_94 rfl ?_
  refine gf_RX7_146 C h0 dX7_readWants_95 ?_
  refine g_if_ne C 119 dX7_readWants_98 (by decide) (fun c20 => ?_) (fun c20 => ?_)
  · replace h := h.1 c20
    exact tX7_readWants_119 C hr hI h0 _ _ _ h
  · replace h := h.2 c20
    refine g_aload_n C 0 dX7_readWants_101 rfl ?_
    refine g_iload_n C 2 dX7_readWants_102 rfl ?_
    refine g_iload_n C 3 dX7_readWants_103 rfl ?_
    refine g_ishr C dX7_readWants_104 ?_
    refine g_iconst C (v := (1 : Int32)) dX7_readWants_105 (by decide) ?_
    refine g_iand C dX7_readWants_106 ?_
    refine g_if_ne C 114 dX7_readWants_107 (by decide) (fun c21 => ?_) (fun c21 => ?_)
    · replace h := h.1 c21
      refine g_iconst C (v := (0 : Int32)) dX7_readWants_114 (by decide) ?_
      exact tX7_readWants_115 C hr hI h0 _ _ _ _ h
    · replace h := h.2 c21
      refine g_iconst C (v := (1 : Int32)) dX7_readWants_110 (by decide) ?_
      refine g_goto C 115 dX7_readWants_111 (by decide) ?_
      exact tX7_readWants_115 C hr hI h0 _ _ _ _ h
set_option maxRecDepth 20000 in
set_option maxHeartbeats 4000000 in
theorem tX7_readWants_89 {X : XT} {Y : YT} {l0 : Launch} {b : Nat} {p1 : Int32} {Q : Int32 → Mem → Prop} (C : Cx X Y 5 cX7_readWants RX7 WX7_readWants (rmB 3 70) l0) (hr : RI X Y cX7_readWants .int Q) (hI : YI Y) (h0 : isX7 Y b) (v2 : Int32) (v3 : Int32) (μ : Mem) (h : nX7_readWants_89 b p1 Q (SX7_readWants_2 X Y b p1) v2 v3 μ) : G X Y 5 89 [(0, .ref (Y.ad b)), (1, .int p1), (2, .int v2), (3, .int v3)] [.ref (Y.ad b)] μ := by
  unfold nX7_readWants_89 at h
  refine g_iconst C (v := (0 : Int32)) dX7_readWants_89 (by decide) ?_
  exact tX7_readWants_90 C hr hI h0 _ _ _ _ h
set_option maxRecDepth 20000 in
set_option maxHeartbeats 4000000 in
theorem tX7_readWants_47 {X : XT} {Y : YT} {l0 : Launch} {b : Nat} {p1 : Int32} {Q : Int32 → Mem → Prop} (C : Cx X Y 5 cX7_readWants RX7 WX7_readWants (rmB 3 70) l0) (hr : RI X Y cX7_readWants .int Q) (hI : YI Y) (h0 : isX7 Y b) (v2 : Int32) (μ : Mem) (h : nX7_readWants_47 b p1 Q (SX7_readWants_2 X Y b p1) v2 μ) : G X Y 5 47 [(0, .ref (Y.ad b)), (1, .int p1), (2, .int v2)] [] μ := by
  unfold nX7_readWants_47 at h
  refine g_aload_n C 0 dX7_readWants_47 rfl ?_
  refine g_aload_n C 0 dX7_readWants_48 rfl ?_
  refine gf_RX7_149 C h0 dX7_readWants_49 ?_
  refine g_callVI C [.int (μ.1 b 28)] [] (ok_X7_look hI h0 h) (cw_RX7_158 _) rfl dc_X7_look ⟨Nat.le_of_ble_eq_true rfl, Nat.le_of_ble_eq_true rfl⟩ (isX7_lt h0) (isX7_sh h0) rfl rfl rfl rfl (Nat.le_of_ble_eq_true rfl) dX7_readWants_52 (fun r13 m12 h => ?_)
  refine g_bipush C (v := (97 : Int32)) dX7_readWants_55 (by decide) ?_
  refine g_isub C dX7_readWants_57 ?_
  refine g_istore_n C [(3, .int (r13 - ((97 : Int32)))), (0, .ref (Y.ad b)), (1, .int p1), (2, .int v2)] dX7_readWants_58 (by decide) rfl ?_
  refine g_aload_n C 1 dX7_readWants_59 rfl ?_
  refine g_aload_n C 1 dX7_readWants_60 rfl ?_
  refine gf_RX7_155 C h0 dX7_readWants_61 ?_
  refine g_aload_n C 1 dX7_readWants_64 rfl ?_
  refine gf_RX7_149 C h0 dX7_readWants_65 ?_
  refine g_isub C dX7_readWants_68 ?_
  refine g_iconst C (v := (1 : Int32)) dX7_readWants_69 (by decide) ?_
  refine g_icmp_ne C 89 dX7_readWants_70 (by decide) (fun c14 => ?_) (fun c14 => ?_)
  · replace h := h.1 c14
    refine g_lv (lv2 := [(0, .ref (Y.ad b)), (1, .int p1), (2, .int v2), (3, .int (r13 - ((97 : Int32))))]) [1, 2, 3, 0] ?_ rfl
    exact tX7_readWants_89 C hr hI h0 _ _ _ h
  · replace h := h.2 c14
    refine g_iload_n C 0 dX7_readWants_73 rfl ?_
    refine g_i2l C dX7_readWants_74 ?_
    refine g_lconst C (v := (0 : Int64)) dX7_readWants_75 (by decide) ?_
    refine g_ldc2 C (v := (5 : Int64)) (List.mem_cons_of_mem _ mL_RX7_203) dX7_readWants_76 ?_
    refine g_callSI C [.long ((r13 - ((97 : Int32))).toInt64), .long ((0 : Int64)), .long ((5 : Int64))] [.ref (Y.ad b)] (ok_X7_in hI  h) (cw_RX7_134 _) rfl dc_X7_in ⟨Nat.le_of_ble_eq_true rfl, Nat.le_of_ble_eq_true rfl⟩ rfl (Nat.le_of_ble_eq_true rfl) dX7_readWants_79 (fun r16 m15 h => ?_)
    refine g_if_eq C 89 dX7_readWants_82 (by decide) (fun c17 => ?_) (fun c17 => ?_)
    · replace h := h.1 c17
      refine g_lv (lv2 := [(0, .ref (Y.ad b)), (1, .int p1), (2, .int v2), (3, .int (r13 - ((97 : Int32))))]) [1, 2, 3, 0] ?_ rfl
      exact tX7_readWants_89 C hr hI h0 _ _ _ h
    · replace h := h.2 c17
      refine g_iconst C (v := (1 : Int32)) dX7_readWants_85 (by decide) ?_
      refine g_goto C 90 dX7_readWants_86 (by decide) ?_
      refine g_lv (lv2 := [(0, .ref (Y.ad b)), (1, .int p1), (2, .int v2), (3, .int (r13 - ((97 : Int32))))]) [1, 2, 3, 0] ?_ rfl
      exact tX7_readWants_90 C hr hI h0 _ _ _ _ h
set_option maxRecDepth 20000 in
set_option maxHeartbeats 4000000 in
theorem tX7_readWants_2 {X : XT} {Y : YT} {l0 : Launch} {b : Nat} {p1 : Int32} {Q : Int32 → Mem → Prop} (C : Cx X Y 5 cX7_readWants RX7 WX7_readWants (rmB 3 70) l0) (hr : RI X Y cX7_readWants .int Q) (hI : YI Y) (h0 : isX7 Y b) (v2 : Int32) (μ : Mem) (h : nX7_readWants_2 b p1 Q (SX7_readWants_2 X Y b p1) v2 μ) : G X Y 5 2 [(0, .ref (Y.ad b)), (1, .int p1), (2, .int v2)] [] μ := by
  unfold nX7_readWants_2 at h
  refine g_aload_n C 0 dX7_readWants_2 rfl ?_
  refine gf_RX7_146 C h0 dX7_readWants_3 ?_
  refine g_if_ne C 195 dX7_readWants_6 (by decide) (fun c1 => ?_) (fun c1 => ?_)
  · replace h := h.1 c1
    refine g_iload_n C 2 dX7_readWants_195 rfl ?_
    exact hr _ _ _ _ _ dX7_readWants_196 rfl h
  · replace h := h.2 c1
    refine g_aload_n C 0 dX7_readWants_9 rfl ?_
    refine gf_RX7_170 C h0 dX7_readWants_10 ?_
    refine g_iconst C (v := (1 : Int32)) dX7_readWants_13 (by decide) ?_
    refine g_icmp_ne C 195 dX7_readWants_14 (by decide) (fun c2 => ?_) (fun c2 => ?_)
    · replace h := h.1 c2
      refine g_iload_n C 2 dX7_readWants_195 rfl ?_
      exact hr _ _ _ _ _ dX7_readWants_196 rfl h
    · replace h := h.2 c2
      refine g_aload_n C 0 dX7_readWants_17 rfl ?_
      refine g_callVI C [] [] (ok_X7_nameNow hI h0 h) (cw_RX7_195 _) rfl dc_X7_nameNow ⟨Nat.le_of_ble_eq_true rfl, Nat.le_of_ble_eq_true rfl⟩ (isX7_lt h0) (isX7_sh h0) rfl rfl rfl rfl (Nat.le_of_ble_eq_true rfl) dX7_readWants_18 (fun r4 m3 h => ?_)
      refine g_i2l C dX7_readWants_21 ?_
      refine g_ldc2 C (v := (15 : Int64)) (List.mem_cons_of_mem _ mL_RX7_199) dX7_readWants_22 ?_
      refine g_ldc2 C (v := (17 : Int64)) (List.mem_cons_of_mem _ mL_RX7_201) dX7_readWants_25 ?_
      refine g_callSI C [.long r4.toInt64, .long ((15 : Int64)), .long ((17 : Int64))] [] (ok_X7_in hI  h) (cw_RX7_134 _) rfl dc_X7_in ⟨Nat.le_of_ble_eq_true rfl, Nat.le_of_ble_eq_true rfl⟩ rfl (Nat.le_of_ble_eq_true rfl) dX7_readWants_28 (fun r6 m5 h => ?_)
      refine g_if_eq C 47 dX7_readWants_31 (by decide) (fun c7 => ?_) (fun c7 => ?_)
      · replace h := h.1 c7
        exact tX7_readWants_47 C hr hI h0 _ _ h
      · replace h := h.2 c7
        refine g_iload_n C 1 dX7_readWants_34 rfl ?_
        refine g_if_eq C 195 dX7_readWants_35 (by decide) (fun c8 => ?_) (fun c8 => ?_)
        · replace h := h.1 c8
          refine g_iload_n C 2 dX7_readWants_195 rfl ?_
          exact hr _ _ _ _ _ dX7_readWants_196 rfl h
        · replace h := h.2 c8
          refine g_aload_n C 0 dX7_readWants_38 rfl ?_
          refine g_callVI C [] [] (ok_X7_nameNow hI h0 h) (cw_RX7_195 _) rfl dc_X7_nameNow ⟨Nat.le_of_ble_eq_true rfl, Nat.le_of_ble_eq_true rfl⟩ (isX7_lt h0) (isX7_sh h0) rfl rfl rfl rfl (Nat.le_of_ble_eq_true rfl) dX7_readWants_39 (fun r10 m9 h => ?_)
          refine g_bipush C (v := (15 : Int32)) dX7_readWants_42 (by decide) ?_
          refine g_icmp_ne C 195 dX7_readWants_44 (by decide) (fun c11 => ?_) (fun c11 => ?_)
          · replace h := h.1 c11
            refine g_iload_n C 2 dX7_readWants_195 rfl ?_
            exact hr _ _ _ _ _ dX7_readWants_196 rfl h
          · replace h := h.2 c11
            exact tX7_readWants_47 C hr hI h0 _ _ h
set_option maxRecDepth 20000 in
set_option maxHeartbeats 4000000 in
theorem ok_X7_readWants {Y : YT} {l0 : Launch} {b : Nat} {p1 : Int32} {μ : Mem} {Q : Int32 → Mem → Prop} (hI : YI Y) (h0 : isX7 Y b) (h : PX7_readWants b p1 μ Q) : MI l0 yX7_readWants WX7_readWants 3 70 Y [.ref (Y.ad b), .int p1] μ Q := by
  refine mI_of (ty := .int) (cc := cX7_readWants) (maxL := 5) (by decide +kernel) rfl hI (Nat.le_of_ble_eq_true rfl) (fun X C hr => ?_)
  replace C : Cx X Y 5 cX7_readWants RX7 WX7_readWants (rmB 3 70) l0 := C
  refine g_lv (lv2 := [(0, .ref (Y.ad b)), (1, .int p1)]) [0, 1] ?_ rfl
  unfold PX7_readWants at h
  replace h := h (SX7_readWants_2 X Y b p1) (fun v2 μ z => tX7_readWants_2 C hr hI h0 v2 μ z)
  refine g_iconst C (v := (0 : Int32)) dX7_readWants_0 (by decide) ?_
  refine g_istore_n C [(2, .int ((0 : Int32))), (0, .ref (Y.ad b)), (1, .int p1)] dX7_readWants_1 (by decide) rfl ?_
  refine g_lv (lv2 := [(0, .ref (Y.ad b)), (1, .int p1), (2, .int ((0 : Int32)))]) [1, 2, 0] ?_ rfl
  exact h
set_option maxRecDepth 20000 in
set_option maxHeartbeats 4000000 in
theorem tX7_readLetters_62 {X : XT} {Y : YT} {l0 : Launch} {b : Nat} {p1 : Int32} {p2 : Int32} {Q : Int32 → Mem → Prop} (C : Cx X Y 4 cX7_readLetters RX7 WX7_readLetters (rmB 2 50) l0) (hr : RI X Y cX7_readLetters .int Q) (hI : YI Y) (h0 : isX7 Y b) (v3 : Int32) (w0 : Int32) (μ : Mem) (h : nX7_readLetters_62 b p1 p2 Q v3 w0 μ) : G X Y 4 62 [(0, .ref (Y.ad b)), (1, .int p1), (2, .int p2), (3, .int v3)] [.int w0, .ref (Y.ad b)] μ := by
  unfold nX7_readLetters_62 at h
  refine g_iconst C (v := (3 : Int32)) dX7_readLetters_62 (by decide) ?_
  refine g_callVV C [.int w0, .int ((3 : Int32))] [] (ok_X7_needs hI h0 h) (cw_RX7_184 _) rfl dc_X7_needs ⟨Nat.le_of_ble_eq_true rfl, Nat.le_of_ble_eq_true rfl⟩ (isX7_lt h0) (isX7_sh h0) rfl rfl rfl rfl (Nat.le_of_ble_eq_true rfl) dX7_readLetters_63 (fun m10 h => ?_)
  refine g_iload_n C 3 dX7_readLetters_66 rfl ?_
  exact hr _ _ _ _ _ dX7_readLetters_67 rfl h
set_option maxRecDepth 20000 in
set_option maxHeartbeats 4000000 in
theorem tX7_readLetters_42 {X : XT} {Y : YT} {l0 : Launch} {b : Nat} {p1 : Int32} {p2 : Int32} {Q : Int32 → Mem → Prop} (C : Cx X Y 4 cX7_readLetters RX7 WX7_readLetters (rmB 2 50) l0) (hr : RI X Y cX7_readLetters .int Q) (hI : YI Y) (h0 : isX7 Y b) (w0 : Int32) (μ : Mem) (h : nX7_readLetters_42 b p1 p2 Q w0 μ) : G X Y 4 42 [(0, .ref (Y.ad b)), (1, .int p1), (2, .int p2)] [.int w0] μ := by
  unfold nX7_readLetters_42 at h
  refine g_istore_n C [(3, .int w0), (0, .ref (Y.ad b)), (1, .int p1), (2, .int p2)] dX7_readLetters_42 (by decide) rfl ?_
  refine g_aload_n C 1 dX7_readLetters_43 rfl ?_
  refine gf_RX7_146 C h0 dX7_readLetters_44 ?_
  refine g_if_ne C 66 dX7_readLetters_47 (by decide) (fun c8 => ?_) (fun c8 => ?_)
  · replace h := h.1 c8
    refine g_iload_n C 0 dX7_readLetters_66 rfl ?_
    exact hr _ _ _ _ _ dX7_readLetters_67 rfl h
  · replace h := h.2 c8
    refine g_aload_n C 1 dX7_readLetters_50 rfl ?_
    refine g_iload_n C 0 dX7_readLetters_51 rfl ?_
    refine g_bipush C (v := (-4 : Int32)) dX7_readLetters_52 (by decide) ?_
    refine g_icmp_eq C 61 dX7_readLetters_54 (by decide) (fun c9 => ?_) (fun c9 => ?_)
    · replace h := h.1 c9
      refine g_iconst C (v := (0 : Int32)) dX7_readLetters_61 (by decide) ?_
      refine g_lv (lv2 := [(0, .ref (Y.ad b)), (1, .int p1), (2, .int p2), (3, .int w0)]) [1, 2, 3, 0] ?_ rfl
      exact tX7_readLetters_62 C hr hI h0 _ _ _ h
    · replace h := h.2 c9
      refine g_iconst C (v := (1 : Int32)) dX7_readLetters_57 (by decide) ?_
      refine g_goto C 62 dX7_readLetters_58 (by decide) ?_
      refine g_lv (lv2 := [(0, .ref (Y.ad b)), (1, .int p1), (2, .int p2), (3, .int w0)]) [1, 2, 3, 0] ?_ rfl
      exact tX7_readLetters_62 C hr hI h0 _ _ _ h
set_option maxRecDepth 20000 in
set_option maxHeartbeats 4000000 in
theorem tX7_readLetters_25 {X : XT} {Y : YT} {l0 : Launch} {b : Nat} {p1 : Int32} {p2 : Int32} {Q : Int32 → Mem → Prop} (C : Cx X Y 4 cX7_readLetters RX7 WX7_readLetters (rmB 2 50) l0) (hr : RI X Y cX7_readLetters .int Q) (hI : YI Y) (h0 : isX7 Y b) (μ : Mem) (h : nX7_readLetters_25 b p1 p2 Q  μ) : G X Y 4 25 [(0, .ref (Y.ad b)), (1, .int p1), (2, .int p2)] [] μ := by
  unfold nX7_readLetters_25 at h
  refine g_aload_n C 0 dX7_readLetters_25 rfl ?_
  refine gf_RX7_146 C h0 dX7_readLetters_26 ?_
  refine g_if_ne C 41 dX7_readLetters_29 (by decide) (fun c5 => ?_) (fun c5 => ?_)
  · replace h := h.1 c5
    refine g_iconst C (v := (0 : Int32)) dX7_readLetters_41 (by decide) ?_
    exact tX7_readLetters_42 C hr hI h0 _ _ h
  · replace h := h.2 c5
    refine g_aload_n C 0 dX7_readLetters_32 rfl ?_
    refine g_iload_n C 1 dX7_readLetters_33 rfl ?_
    refine g_iload_n C 2 dX7_readLetters_34 rfl ?_
    refine g_callVI C [.int p1, .int p2] [] (ok_X7_letters hI h0 h) (cw_RX7_212 _) rfl dc_X7_letters ⟨Nat.le_of_ble_eq_true rfl, Nat.le_of_ble_eq_true rfl⟩ (isX7_lt h0) (isX7_sh h0) rfl rfl rfl rfl (Nat.le_of_ble_eq_true rfl) dX7_readLetters_35 (fun r7 m6 h => ?_)
    refine g_goto C 42 dX7_readLetters_38 (by decide) ?_
    exact tX7_readLetters_42 C hr hI h0 _ _ h
set_option maxRecDepth 20000 in
set_option maxHeartbeats 4000000 in
theorem tX7_readLetters_21 {X : XT} {Y : YT} {l0 : Launch} {b : Nat} {p1 : Int32} {p2 : Int32} {Q : Int32 → Mem → Prop} (C : Cx X Y 4 cX7_readLetters RX7 WX7_readLetters (rmB 2 50) l0) (hr : RI X Y cX7_readLetters .int Q) (hI : YI Y) (h0 : isX7 Y b) (w0 : Int32) (μ : Mem) (h : nX7_readLetters_21 b p1 p2 Q w0 μ) : G X Y 4 21 [(0, .ref (Y.ad b)), (1, .int p1), (2, .int p2)] [.int w0, .ref (Y.ad b)] μ := by
  unfold nX7_readLetters_21 at h
  refine g_iconst C (v := (2 : Int32)) dX7_readLetters_21 (by decide) ?_
  refine g_callVV C [.int w0, .int ((2 : Int32))] [] (ok_X7_needs hI h0 h) (cw_RX7_184 _) rfl dc_X7_needs ⟨Nat.le_of_ble_eq_true rfl, Nat.le_of_ble_eq_true rfl⟩ (isX7_lt h0) (isX7_sh h0) rfl rfl rfl rfl (Nat.le_of_ble_eq_true rfl) dX7_readLetters_22 (fun m3 h => ?_)
  exact tX7_readLetters_25 C hr hI h0 _ h
set_option maxRecDepth 20000 in
set_option maxHeartbeats 4000000 in
theorem ok_X7_readLetters {Y : YT} {l0 : Launch} {b : Nat} {p1 : Int32} {p2 : Int32} {μ : Mem} {Q : Int32 → Mem → Prop} (hI : YI Y) (h0 : isX7 Y b) (h : PX7_readLetters b p1 p2 μ Q) : MI l0 yX7_readLetters WX7_readLetters 2 50 Y [.ref (Y.ad b), .int p1, .int p2] μ Q := by
  refine mI_of (ty := .int) (cc := cX7_readLetters) (maxL := 4) (by decide +kernel) rfl hI (Nat.le_of_ble_eq_true rfl) (fun X C hr => ?_)
  replace C : Cx X Y 4 cX7_readLetters RX7 WX7_readLetters (rmB 2 50) l0 := C
  refine g_lv (lv2 := [(0, .ref (Y.ad b)), (1, .int p1), (2, .int p2)]) [0, 1, 2] ?_ rfl
  unfold PX7_readLetters at h
  refine g_aload_n C 0 dX7_readLetters_0 rfl ?_
  refine gf_RX7_146 C h0 dX7_readLetters_1 ?_
  refine g_if_ne C 25 dX7_readLetters_4 (by decide) (fun c1 => ?_) (fun c1 => ?_)
  · replace h := h.1 c1
    exact tX7_readLetters_25 C hr hI h0 _ h
  · replace h := h.2 c1
    refine g_aload_n C 0 dX7_readLetters_7 rfl ?_
    refine g_aload_n C 0 dX7_readLetters_8 rfl ?_
    refine gf_RX7_170 C h0 dX7_readLetters_9 ?_
    refine g_iconst C (v := (1 : Int32)) dX7_readLetters_12 (by decide) ?_
    refine g_icmp_ne C 20 dX7_readLetters_13 (by decide) (fun c2 => ?_) (fun c2 => ?_)
    · replace h := h.1 c2
      refine g_iconst C (v := (0 : Int32)) dX7_readLetters_20 (by decide) ?_
      exact tX7_readLetters_21 C hr hI h0 _ _ h
    · replace h := h.2 c2
      refine g_iconst C (v := (1 : Int32)) dX7_readLetters_16 (by decide) ?_
      refine g_goto C 21 dX7_readLetters_17 (by decide) ?_
      exact tX7_readLetters_21 C hr hI h0 _ _ h
