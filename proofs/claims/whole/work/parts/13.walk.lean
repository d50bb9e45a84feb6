set_option maxRecDepth 20000 in
set_option maxHeartbeats 4000000 in
theorem ok_X6_fault {Y : YT} {l0 : Launch} {b : Nat} {μ : Mem} {Q : Int32 → Mem → Prop} (hI : YI Y) (h0 : isX6 Y b) (h : PX6_fault b μ Q) : MI l0 yX6_fault WX6_fault 0 0 Y [.ref (Y.ad b)] μ Q := by
  refine mI_of (ty := .int) (cc := cX6_fault) (maxL := 1) (by decide +kernel) rfl hI (Nat.le_of_ble_eq_true rfl) (fun X C hr => ?_)
  replace C : Cx X Y 1 cX6_fault RX6 WX6_fault (rmB 0 0) l0 := C
  refine g_lv (lv2 := [(0, .ref (Y.ad b))]) [0] ?_ rfl
  unfold PX6_fault at h
  refine g_aload_n C 0 dX6_fault_0 rfl ?_
  refine gf_RX6_26 C h0 dX6_fault_1 ?_
  exact hr _ _ _ _ _ dX6_fault_4 rfl h
set_option maxRecDepth 20000 in
set_option maxHeartbeats 4000000 in
theorem ok_X6_thing {Y : YT} {l0 : Launch} {b : Nat} {p1 : Int32} {p2 : Int32} {μ : Mem} {Q : Int32 → Mem → Prop} (hI : YI Y) (h0 : isX6 Y b) (h : PX6_thing b p1 p2 μ Q) : MI l0 yX6_thing WX6_thing 1 21 Y [.ref (Y.ad b), .int p1, .int p2] μ Q := by
  refine mI_of (ty := .int) (cc := cX6_thing) (maxL := 3) (by decide +kernel) rfl hI (Nat.le_of_ble_eq_true rfl) (fun X C hr => ?_)
  replace C : Cx X Y 3 cX6_thing RX6 WX6_thing (rmB 1 21) l0 := C
  refine g_lv (lv2 := [(0, .ref (Y.ad b)), (1, .int p1), (2, .int p2)]) [0, 1, 2] ?_ rfl
  unfold PX6_thing at h
  refine g_aload_n C 0 dX6_thing_0 rfl ?_
  refine gf_RX6_10 C h0 dX6_thing_1 ?_
  refine g_iload_n C 1 dX6_thing_4 rfl ?_
  refine g_callVI C [.int p1] [] (ok_X2_hasThing hI (isX6_rules h0) h) (cw_RX6_103 _) rfl dc_X2_hasThing ⟨Nat.le_of_ble_eq_true rfl, Nat.le_of_ble_eq_true rfl⟩ (isX2_lt (isX6_rules h0)) (isX2_sh (isX6_rules h0)) rfl rfl rfl rfl (Nat.le_of_ble_eq_true rfl) dX6_thing_5 (fun r2 m1 h => ?_)
  refine g_if_ne C 13 dX6_thing_8 (by decide) (fun c3 => ?_) (fun c3 => ?_)
  · replace h := h.1 c3
    refine g_iload_n C 2 dX6_thing_13 rfl ?_
    by_cases c4 : p2 = 0
    · refine g_tableIn C 40 dX6_thing_14 (by rw [c4]; decide) (by rw [c4]; decide) (by rw [c4]; rfl) (by decide) ?_
      replace h := h.1 c4
      refine g_aload_n C 0 dX6_thing_40 rfl ?_
      refine gf_RX6_10 C h0 dX6_thing_41 ?_
      refine gf_RX6_107 C (isX6_rules h0) dX6_thing_44 ?_
      refine g_iload_n C 1 dX6_thing_47 rfl ?_
      refine g_iald C (isX2_keeps (isX6_rules h0)).1 (isX2_keeps (isX6_rules h0)).2 h.1 dX6_thing_48 ?_
      replace h := h.2
      exact hr _ _ _ _ _ dX6_thing_49 rfl h
    by_cases c5 : p2 = 1
    · refine g_tableIn C 50 dX6_thing_14 (by rw [c5]; decide) (by rw [c5]; decide) (by rw [c5]; rfl) (by decide) ?_
      replace h := h.2.1 c5
      refine g_aload_n C 0 dX6_thing_50 rfl ?_
      refine gf_RX6_10 C h0 dX6_thing_51 ?_
      refine gf_RX6_110 C (isX6_rules h0) dX6_thing_54 ?_
      refine g_iload_n C 1 dX6_thing_57 rfl ?_
      refine g_iald C (isX2_pack (isX6_rules h0)).1 (isX2_pack (isX6_rules h0)).2 h.1 dX6_thing_58 ?_
      replace h := h.2
      exact hr _ _ _ _ _ dX6_thing_59 rfl h
    by_cases c6 : p2 = 2
    · refine g_tableIn C 60 dX6_thing_14 (by rw [c6]; decide) (by rw [c6]; decide) (by rw [c6]; rfl) (by decide) ?_
      replace h := h.2.2.1 c6
      refine g_aload_n C 0 dX6_thing_60 rfl ?_
      refine gf_RX6_10 C h0 dX6_thing_61 ?_
      refine gf_RX6_113 C (isX6_rules h0) dX6_thing_64 ?_
      refine g_iload_n C 1 dX6_thing_67 rfl ?_
      refine g_iald C (isX2_price (isX6_rules h0)).1 (isX2_price (isX6_rules h0)).2 h.1 dX6_thing_68 ?_
      replace h := h.2
      exact hr _ _ _ _ _ dX6_thing_69 rfl h
    have c7 : p2.toInt < 0 ∨ 2 < p2.toInt := by
      have z := (And.intro True.intro ⟨lv_neT (a := 0) c4 rfl, lv_neT (a := 1) c5 rfl, lv_neT (a := 2) c6 rfl⟩ : True ∧ ¬ p2.toInt = 0 ∧ ¬ p2.toInt = 1 ∧ ¬ p2.toInt = 2)
      omega
    refine g_tableOut C 70 dX6_thing_14 c7 (by decide) ?_
    replace h := h.2.2.2 c7
    refine g_iconst C (v := (-1 : Int32)) dX6_thing_70 (by decide) ?_
    exact hr _ _ _ _ _ dX6_thing_71 rfl h
  · replace h := h.2 c3
    refine g_iconst C (v := (-1 : Int32)) dX6_thing_11 (by decide) ?_
    exact hr _ _ _ _ _ dX6_thing_12 rfl h
set_option maxRecDepth 20000 in
set_option maxHeartbeats 4000000 in
theorem ok_X6_supper {Y : YT} {l0 : Launch} {b : Nat} {p1 : Int32} {p2 : Int32} {μ : Mem} {Q : Int32 → Mem → Prop} (hI : YI Y) (h0 : isX6 Y b) (h : PX6_supper b p1 p2 μ Q) : MI l0 yX6_supper WX6_supper 1 23 Y [.ref (Y.ad b), .int p1, .int p2] μ Q := by
  refine mI_of (ty := .int) (cc := cX6_supper) (maxL := 3) (by decide +kernel) rfl hI (Nat.le_of_ble_eq_true rfl) (fun X C hr => ?_)
  replace C : Cx X Y 3 cX6_supper RX6 WX6_supper (rmB 1 23) l0 := C
  refine g_lv (lv2 := [(0, .ref (Y.ad b)), (1, .int p1), (2, .int p2)]) [0, 1, 2] ?_ rfl
  unfold PX6_supper at h
  refine g_aload_n C 0 dX6_supper_0 rfl ?_
  refine gf_RX6_10 C h0 dX6_supper_1 ?_
  refine g_iload_n C 1 dX6_supper_4 rfl ?_
  refine g_callVI C [.int p1] [] (ok_X2_hasSupper hI (isX6_rules h0) h) (cw_RX6_116 _) rfl dc_X2_hasSupper ⟨Nat.le_of_ble_eq_true rfl, Nat.le_of_ble_eq_true rfl⟩ (isX2_lt (isX6_rules h0)) (isX2_sh (isX6_rules h0)) rfl rfl rfl rfl (Nat.le_of_ble_eq_true rfl) dX6_supper_5 (fun r2 m1 h => ?_)
  refine g_if_ne C 13 dX6_supper_8 (by decide) (fun c3 => ?_) (fun c3 => ?_)
  · replace h := h.1 c3
    refine g_iload_n C 2 dX6_supper_13 rfl ?_
    refine g_bipush C (v := (20 : Int32)) dX6_supper_14 (by decide) ?_
    refine g_icmp_lt C 55 dX6_supper_16 (by decide) (fun c4 => ?_) (fun c4 => ?_)
    · replace h := h.1 c4
      refine g_iload_n C 2 dX6_supper_55 rfl ?_
      refine g_bipush C (v := (10 : Int32)) dX6_supper_56 (by decide) ?_
      refine g_icmp_lt C 97 dX6_supper_58 (by decide) (fun c5 => ?_) (fun c5 => ?_)
      · replace h := h.1 c5
        refine g_iload_n C 2 dX6_supper_97 rfl ?_
        by_cases c6 : p2 = 0
        · refine g_tableIn C 132 dX6_supper_98 (by rw [c6]; decide) (by rw [c6]; decide) (by rw [c6]; rfl) (by decide) ?_
          replace h := h.1 c6
          refine g_aload_n C 0 dX6_supper_132 rfl ?_
          refine gf_RX6_10 C h0 dX6_supper_133 ?_
          refine gf_RX6_125 C (isX6_rules h0) dX6_supper_136 ?_
          refine g_iload_n C 1 dX6_supper_139 rfl ?_
          refine g_iald C (isX2_kind (isX6_rules h0)).1 (isX2_kind (isX6_rules h0)).2 h.1 dX6_supper_140 ?_
          replace h := h.2
          exact hr _ _ _ _ _ dX6_supper_141 rfl h
        by_cases c7 : p2 = 1
        · refine g_tableIn C 142 dX6_supper_98 (by rw [c7]; decide) (by rw [c7]; decide) (by rw [c7]; rfl) (by decide) ?_
          replace h := h.2.1 c7
          refine g_aload_n C 0 dX6_supper_142 rfl ?_
          refine gf_RX6_10 C h0 dX6_supper_143 ?_
          refine gf_RX6_128 C (isX6_rules h0) dX6_supper_146 ?_
          refine g_iload_n C 1 dX6_supper_149 rfl ?_
          refine g_iald C (isX2_likes (isX6_rules h0)).1 (isX2_likes (isX6_rules h0)).2 h.1 dX6_supper_150 ?_
          replace h := h.2
          exact hr _ _ _ _ _ dX6_supper_151 rfl h
        by_cases c8 : p2 = 2
        · refine g_tableIn C 152 dX6_supper_98 (by rw [c8]; decide) (by rw [c8]; decide) (by rw [c8]; rfl) (by decide) ?_
          replace h := h.2.2.1 c8
          refine g_aload_n C 0 dX6_supper_152 rfl ?_
          refine gf_RX6_10 C h0 dX6_supper_153 ?_
          refine gf_RX6_131 C (isX6_rules h0) dX6_supper_156 ?_
          refine g_iload_n C 1 dX6_supper_159 rfl ?_
          refine g_iald C (isX2_wont (isX6_rules h0)).1 (isX2_wont (isX6_rules h0)).2 h.1 dX6_supper_160 ?_
          replace h := h.2
          exact hr _ _ _ _ _ dX6_supper_161 rfl h
        by_cases c9 : p2 = 3
        · refine g_tableIn C 162 dX6_supper_98 (by rw [c9]; decide) (by rw [c9]; decide) (by rw [c9]; rfl) (by decide) ?_
          replace h := h.2.2.2.1 c9
          refine g_aload_n C 0 dX6_supper_162 rfl ?_
          refine gf_RX6_10 C h0 dX6_supper_163 ?_
          refine gf_RX6_134 C (isX6_rules h0) dX6_supper_166 ?_
          refine g_iload_n C 1 dX6_supper_169 rfl ?_
          refine g_iald C (isX2_soupUnits (isX6_rules h0)).1 (isX2_soupUnits (isX6_rules h0)).2 h.1 dX6_supper_170 ?_
          replace h := h.2
          exact hr _ _ _ _ _ dX6_supper_171 rfl h
        by_cases c10 : p2 = 4
        · refine g_tableIn C 172 dX6_supper_98 (by rw [c10]; decide) (by rw [c10]; decide) (by rw [c10]; rfl) (by decide) ?_
          replace h := h.2.2.2.2.1 c10
          refine g_aload_n C 0 dX6_supper_172 rfl ?_
          refine gf_RX6_10 C h0 dX6_supper_173 ?_
          refine g_iload_n C 1 dX6_supper_176 rfl ?_
          refine g_callVI C [.int p1] [] (ok_X2_thingsOf hI (isX6_rules h0) h) (cw_RX6_137 _) rfl dc_X2_thingsOf ⟨Nat.le_of_ble_eq_true rfl, Nat.le_of_ble_eq_true rfl⟩ (isX2_lt (isX6_rules h0)) (isX2_sh (isX6_rules h0)) rfl rfl rfl rfl (Nat.le_of_ble_eq_true rfl) dX6_supper_177 (fun r12 m11 h => ?_)
          exact hr _ _ _ _ _ dX6_supper_180 rfl h
        have c13 : p2.toInt < 0 ∨ 4 < p2.toInt := by
          have z := (And.intro True.intro ⟨lv_neT (a := 0) c6 rfl, lv_neT (a := 1) c7 rfl, lv_neT (a := 2) c8 rfl, lv_neT (a := 3) c9 rfl, lv_neT (a := 4) c10 rfl⟩ : True ∧ ¬ p2.toInt = 0 ∧ ¬ p2.toInt = 1 ∧ ¬ p2.toInt = 2 ∧ ¬ p2.toInt = 3 ∧ ¬ p2.toInt = 4)
          omega
        refine g_tableOut C 181 dX6_supper_98 c13 (by decide) ?_
        replace h := h.2.2.2.2.2 c13
        refine g_iconst C (v := (-1 : Int32)) dX6_supper_181 (by decide) ?_
        exact hr _ _ _ _ _ dX6_supper_182 rfl h
      · replace h := h.2 c5
        refine g_aload_n C 0 dX6_supper_61 rfl ?_
        refine gf_RX6_10 C h0 dX6_supper_62 ?_
        refine g_iload_n C 2 dX6_supper_65 rfl ?_
        refine g_bipush C (v := (10 : Int32)) dX6_supper_66 (by decide) ?_
        refine g_isub C dX6_supper_68 ?_
        refine g_callVI C [.int (p2 - ((10 : Int32)))] [] (ok_X2_hasThing hI (isX6_rules h0) h) (cw_RX6_103 _) rfl dc_X2_hasThing ⟨Nat.le_of_ble_eq_true rfl, Nat.le_of_ble_eq_true rfl⟩ (isX2_lt (isX6_rules h0)) (isX2_sh (isX6_rules h0)) rfl rfl rfl rfl (Nat.le_of_ble_eq_true rfl) dX6_supper_69 (fun r15 m14 h => ?_)
        refine g_if_eq C 95 dX6_supper_72 (by decide) (fun c16 => ?_) (fun c16 => ?_)
        · replace h := h.1 c16
          refine g_iconst C (v := (-1 : Int32)) dX6_supper_95 (by decide) ?_
          exact hr _ _ _ _ _ dX6_supper_96 rfl h
        · replace h := h.2 c16
          refine g_aload_n C 0 dX6_supper_75 rfl ?_
          refine gf_RX6_10 C h0 dX6_supper_76 ?_
          refine gf_RX6_122 C (isX6_rules h0) dX6_supper_79 ?_
          refine g_iload_n C 1 dX6_supper_82 rfl ?_
          refine g_bipush C (v := (6 : Int32)) dX6_supper_83 (by decide) ?_
          refine g_imul C dX6_supper_85 ?_
          refine g_iload_n C 2 dX6_supper_86 rfl ?_
          refine g_iadd C dX6_supper_87 ?_
          refine g_bipush C (v := (10 : Int32)) dX6_supper_88 (by decide) ?_
          refine g_isub C dX6_supper_90 ?_
          refine g_iald C (isX2_wants (isX6_rules h0)).1 (isX2_wants (isX6_rules h0)).2 h.1 dX6_supper_91 ?_
          replace h := h.2
          refine g_goto C 96 dX6_supper_92 (by decide) ?_
          exact hr _ _ _ _ _ dX6_supper_96 rfl h
    · replace h := h.2 c4
      refine g_aload_n C 0 dX6_supper_19 rfl ?_
      refine gf_RX6_10 C h0 dX6_supper_20 ?_
      refine g_iload_n C 2 dX6_supper_23 rfl ?_
      refine g_bipush C (v := (20 : Int32)) dX6_supper_24 (by decide) ?_
      refine g_isub C dX6_supper_26 ?_
      refine g_callVI C [.int (p2 - ((20 : Int32)))] [] (ok_X2_hasThing hI (isX6_rules h0) h) (cw_RX6_103 _) rfl dc_X2_hasThing ⟨Nat.le_of_ble_eq_true rfl, Nat.le_of_ble_eq_true rfl⟩ (isX2_lt (isX6_rules h0)) (isX2_sh (isX6_rules h0)) rfl rfl rfl rfl (Nat.le_of_ble_eq_true rfl) dX6_supper_27 (fun r18 m17 h => ?_)
      refine g_if_eq C 53 dX6_supper_30 (by decide) (fun c19 => ?_) (fun c19 => ?_)
      · replace h := h.1 c19
        refine g_iconst C (v := (-1 : Int32)) dX6_supper_53 (by decide) ?_
        exact hr _ _ _ _ _ dX6_supper_54 rfl h
      · replace h := h.2 c19
        refine g_aload_n C 0 dX6_supper_33 rfl ?_
        refine gf_RX6_10 C h0 dX6_supper_34 ?_
        refine gf_RX6_119 C (isX6_rules h0) dX6_supper_37 ?_
        refine g_iload_n C 1 dX6_supper_40 rfl ?_
        refine g_bipush C (v := (6 : Int32)) dX6_supper_41 (by decide) ?_
        refine g_imul C dX6_supper_43 ?_
        refine g_iload_n C 2 dX6_supper_44 rfl ?_
        refine g_iadd C dX6_supper_45 ?_
        refine g_bipush C (v := (20 : Int32)) dX6_supper_46 (by decide) ?_
        refine g_isub C dX6_supper_48 ?_
        refine g_iald C (isX2_leaves (isX6_rules h0)).1 (isX2_leaves (isX6_rules h0)).2 h.1 dX6_supper_49 ?_
        replace h := h.2
        refine g_goto C 54 dX6_supper_50 (by decide) ?_
        exact hr _ _ _ _ _ dX6_supper_54 rfl h
  · replace h := h.2 c3
    refine g_iconst C (v := (-1 : Int32)) dX6_supper_11 (by decide) ?_
    exact hr _ _ _ _ _ dX6_supper_12 rfl h
set_option maxRecDepth 20000 in
set_option maxHeartbeats 4000000 in
theorem tX6_rule_25 {X : XT} {Y : YT} {l0 : Launch} {b : Nat} {p1 : Int32} {Q : Int32 → Mem → Prop} (C : Cx X Y 2 cX6_rule RX6 WX6_rule (rmB 0 0) l0) (hr : RI X Y cX6_rule .int Q) (hI : YI Y) (h0 : isX6 Y b) (μ : Mem) (h : nX6_rule_25 b p1 Q  μ) : G X Y 2 25 [(0, .ref (Y.ad b)), (1, .int p1)] [] μ := by
  unfold nX6_rule_25 at h
  refine g_iload_n C 1 dX6_rule_25 rfl ?_
  by_cases c3 : p1 = 0
  · refine g_tableIn C 52 dX6_rule_26 (by rw [c3]; decide) (by rw [c3]; decide) (by rw [c3]; rfl) (by decide) ?_
    replace h := h.1 c3
    refine g_aload_n C 0 dX6_rule_52 rfl ?_
    refine gf_RX6_10 C h0 dX6_rule_53 ?_
    refine gf_RX6_144 C (isX6_rules h0) dX6_rule_56 ?_
    exact hr _ _ _ _ _ dX6_rule_59 rfl h
  by_cases c4 : p1 = 1
  · refine g_tableIn C 60 dX6_rule_26 (by rw [c4]; decide) (by rw [c4]; decide) (by rw [c4]; rfl) (by decide) ?_
    replace h := h.2.1 c4
    refine g_aload_n C 0 dX6_rule_60 rfl ?_
    refine gf_RX6_10 C h0 dX6_rule_61 ?_
    refine gf_RX6_147 C (isX6_rules h0) dX6_rule_64 ?_
    exact hr _ _ _ _ _ dX6_rule_67 rfl h
  by_cases c5 : p1 = 2
  · refine g_tableIn C 68 dX6_rule_26 (by rw [c5]; decide) (by rw [c5]; decide) (by rw [c5]; rfl) (by decide) ?_
    replace h := h.2.2.1 c5
    refine g_aload_n C 0 dX6_rule_68 rfl ?_
    refine gf_RX6_10 C h0 dX6_rule_69 ?_
    refine gf_RX6_150 C (isX6_rules h0) dX6_rule_72 ?_
    exact hr _ _ _ _ _ dX6_rule_75 rfl h
  have c6 : p1.toInt < 0 ∨ 2 < p1.toInt := by
    have z := (And.intro True.intro ⟨lv_neT (a := 0) c3 rfl, lv_neT (a := 1) c4 rfl, lv_neT (a := 2) c5 rfl⟩ : True ∧ ¬ p1.toInt = 0 ∧ ¬ p1.toInt = 1 ∧ ¬ p1.toInt = 2)
    omega
  refine g_tableOut C 76 dX6_rule_26 c6 (by decide) ?_
  replace h := h.2.2.2 c6
  refine g_iconst C (v := (-1 : Int32)) dX6_rule_76 (by decide) ?_
  exact hr _ _ _ _ _ dX6_rule_77 rfl h
set_option maxRecDepth 20000 in
set_option maxHeartbeats 4000000 in
theorem ok_X6_rule {Y : YT} {l0 : Launch} {b : Nat} {p1 : Int32} {μ : Mem} {Q : Int32 → Mem → Prop} (hI : YI Y) (h0 : isX6 Y b) (h : PX6_rule b p1 μ Q) : MI l0 yX6_rule WX6_rule 0 0 Y [.ref (Y.ad b), .int p1] μ Q := by
  refine mI_of (ty := .int) (cc := cX6_rule) (maxL := 2) (by decide +kernel) rfl hI (Nat.le_of_ble_eq_true rfl) (fun X C hr => ?_)
  replace C : Cx X Y 2 cX6_rule RX6 WX6_rule (rmB 0 0) l0 := C
  refine g_lv (lv2 := [(0, .ref (Y.ad b)), (1, .int p1)]) [0, 1] ?_ rfl
  unfold PX6_rule at h
  refine g_iload_n C 1 dX6_rule_0 rfl ?_
  refine g_bipush C (v := (10 : Int32)) dX6_rule_1 (by decide) ?_
  refine g_icmp_lt C 25 dX6_rule_3 (by decide) (fun c1 => ?_) (fun c1 => ?_)
  · replace h := h.1 c1
    exact tX6_rule_25 C hr hI h0 _ h
  · replace h := h.2 c1
    refine g_iload_n C 1 dX6_rule_6 rfl ?_
    refine g_bipush C (v := (17 : Int32)) dX6_rule_7 (by decide) ?_
    refine g_icmp_ge C 25 dX6_rule_9 (by decide) (fun c2 => ?_) (fun c2 => ?_)
    · replace h := h.1 c2
      exact tX6_rule_25 C hr hI h0 _ h
    · replace h := h.2 c2
      refine g_aload_n C 0 dX6_rule_12 rfl ?_
      refine gf_RX6_10 C h0 dX6_rule_13 ?_
      refine gf_RX6_141 C (isX6_rules h0) dX6_rule_16 ?_
      refine g_iload_n C 1 dX6_rule_19 rfl ?_
      refine g_bipush C (v := (10 : Int32)) dX6_rule_20 (by decide) ?_
      refine g_isub C dX6_rule_22 ?_
      refine g_iald C (isX2_chances (isX6_rules h0)).1 (isX2_chances (isX6_rules h0)).2 h.1 dX6_rule_23 ?_
      replace h := h.2
      exact hr _ _ _ _ _ dX6_rule_24 rfl h
set_option maxRecDepth 20000 in
set_option maxHeartbeats 4000000 in
theorem tX6_canPut_42 {X : XT} {Y : YT} {l0 : Launch} {b : Nat} {p1 : Int32} {p2 : Int32} {p3 : Int32} {Q : Int32 → Mem → Prop} (C : Cx X Y 4 cX6_canPut RX6 WX6_canPut (rmB 1 21) l0) (hr : RI X Y cX6_canPut .boolean Q) (hI : YI Y) (h0 : isX6 Y b) (μ : Mem) (h : nX6_canPut_42 b p1 p2 p3 Q  μ) : G X Y 4 42 [(0, .ref (Y.ad b)), (1, .int p1), (2, .int p2), (3, .int p3)] [] μ := by
  unfold nX6_canPut_42 at h
  refine g_iconst C (v := (0 : Int32)) dX6_canPut_42 (by decide) ?_
  exact hr _ _ _ _ _ dX6_canPut_43 rfl h
set_option maxRecDepth 20000 in
set_option maxHeartbeats 4000000 in
theorem ok_X6_canPut {Y : YT} {l0 : Launch} {b : Nat} {p1 : Int32} {p2 : Int32} {p3 : Int32} {μ : Mem} {Q : Int32 → Mem → Prop} (hI : YI Y) (h0 : isX6 Y b) (h : PX6_canPut b p1 p2 p3 μ Q) : MI l0 yX6_canPut WX6_canPut 1 21 Y [.ref (Y.ad b), .int p1, .int p2, .int p3] μ Q := by
  refine mI_of (ty := .boolean) (cc := cX6_canPut) (maxL := 4) (by decide +kernel) rfl hI (Nat.le_of_ble_eq_true rfl) (fun X C hr => ?_)
  replace C : Cx X Y 4 cX6_canPut RX6 WX6_canPut (rmB 1 21) l0 := C
  refine g_lv (lv2 := [(0, .ref (Y.ad b)), (1, .int p1), (2, .int p2), (3, .int p3)]) [0, 1, 2, 3] ?_ rfl
  unfold PX6_canPut at h
  refine g_aload_n C 0 dX6_canPut_0 rfl ?_
  refine gf_RX6_10 C h0 dX6_canPut_1 ?_
  refine g_iload_n C 1 dX6_canPut_4 rfl ?_
  refine g_callVI C [.int p1] [] (ok_X2_hasThing hI (isX6_rules h0) h) (cw_RX6_103 _) rfl dc_X2_hasThing ⟨Nat.le_of_ble_eq_true rfl, Nat.le_of_ble_eq_true rfl⟩ (isX2_lt (isX6_rules h0)) (isX2_sh (isX6_rules h0)) rfl rfl rfl rfl (Nat.le_of_ble_eq_true rfl) dX6_canPut_5 (fun r2 m1 h => ?_)
  refine g_if_eq C 42 dX6_canPut_8 (by decide) (fun c3 => ?_) (fun c3 => ?_)
  · replace h := h.1 c3
    exact tX6_canPut_42 C hr hI h0 _ h
  · replace h := h.2 c3
    refine g_iload_n C 2 dX6_canPut_11 rfl ?_
    refine g_if_lt C 42 dX6_canPut_12 (by decide) (fun c4 => ?_) (fun c4 => ?_)
    · replace h := h.1 c4
      exact tX6_canPut_42 C hr hI h0 _ h
    · replace h := h.2 c4
      refine g_iload_n C 2 dX6_canPut_15 rfl ?_
      refine g_aload_n C 0 dX6_canPut_16 rfl ?_
      refine gf_RX6_10 C h0 dX6_canPut_17 ?_
      refine gf_RX6_107 C (isX6_rules h0) dX6_canPut_20 ?_
      refine g_iload_n C 1 dX6_canPut_23 rfl ?_
      refine g_iald C (isX2_keeps (isX6_rules h0)).1 (isX2_keeps (isX6_rules h0)).2 h.1 dX6_canPut_24 ?_
      replace h := h.2
      refine g_icmp_ge C 42 dX6_canPut_25 (by decide) (fun c5 => ?_) (fun c5 => ?_)
      · replace h := h.1 c5
        exact tX6_canPut_42 C hr hI h0 _ h
      · replace h := h.2 c5
        refine g_iload_n C 3 dX6_canPut_28 rfl ?_
        refine g_if_lt C 42 dX6_canPut_29 (by decide) (fun c6 => ?_) (fun c6 => ?_)
        · replace h := h.1 c6
          exact tX6_canPut_42 C hr hI h0 _ h
        · replace h := h.2 c6
          refine g_iload_n C 3 dX6_canPut_32 rfl ?_
          refine g_bipush C (v := (9 : Int32)) dX6_canPut_33 (by decide) ?_
          refine g_icmp_gt C 42 dX6_canPut_35 (by decide) (fun c7 => ?_) (fun c7 => ?_)
          · replace h := h.1 c7
            exact tX6_canPut_42 C hr hI h0 _ h
          · replace h := h.2 c7
            refine g_iconst C (v := (1 : Int32)) dX6_canPut_38 (by decide) ?_
            refine g_goto C 43 dX6_canPut_39 (by decide) ?_
            exact hr _ _ _ _ _ dX6_canPut_43 rfl h
set_option maxRecDepth 20000 in
set_option maxHeartbeats 4000000 in
theorem ok_X6_put {Y : YT} {l0 : Launch} {b : Nat} {p1 : Int32} {p2 : Int32} {p3 : Int32} {μ : Mem} {Q : Int32 → Mem → Prop} (hI : YI Y) (h0 : isX6 Y b) (h : PX6_put b p1 p2 p3 μ Q) : MI l0 yX6_put WX6_put 2 44 Y [.ref (Y.ad b), .int p1, .int p2, .int p3] μ Q := by
  refine mI_of (ty := .int) (cc := cX6_put) (maxL := 5) (by decide +kernel) rfl hI (Nat.le_of_ble_eq_true rfl) (fun X C hr => ?_)
  replace C : Cx X Y 5 cX6_put RX6 WX6_put (rmB 2 44) l0 := C
  refine g_lv (lv2 := [(0, .ref (Y.ad b)), (1, .int p1), (2, .int p2), (3, .int p3)]) [0, 1, 2, 3] ?_ rfl
  unfold PX6_put at h
  refine g_aload_n C 0 dX6_put_0 rfl ?_
  refine g_iload_n C 1 dX6_put_1 rfl ?_
  refine g_iload_n C 2 dX6_put_2 rfl ?_
  refine g_iload_n C 3 dX6_put_3 rfl ?_
  refine g_callVI C [.int p1, .int p2, .int p3] [] (ok_X6_canPut hI h0 h) (cw_RX6_153 _) rfl dc_X6_canPut ⟨Nat.le_of_ble_eq_true rfl, Nat.le_of_ble_eq_true rfl⟩ (isX6_lt h0) (isX6_sh h0) rfl rfl rfl rfl (Nat.le_of_ble_eq_true rfl) dX6_put_4 (fun r2 m1 h => ?_)
  refine g_if_ne C 12 dX6_put_7 (by decide) (fun c3 => ?_) (fun c3 => ?_)
  · replace h := h.1 c3
    refine g_aload_n C 0 dX6_put_12 rfl ?_
    refine gf_RX6_33 C h0 dX6_put_13 ?_
    refine gf_RX6_157 C (isX6_kitchen h0) dX6_put_16 ?_
    refine g_iload_n C 1 dX6_put_19 rfl ?_
    refine g_iconst C (v := (4 : Int32)) dX6_put_20 (by decide) ?_
    refine g_imul C dX6_put_21 ?_
    refine g_iload_n C 2 dX6_put_22 rfl ?_
    refine g_iadd C dX6_put_23 ?_
    refine g_iald C (isX0_units (isX6_kitchen h0)).1 (isX0_units (isX6_kitchen h0)).2 h.1 dX6_put_24 ?_
    replace h := h.2
    refine g_istore C [(4, .int (m1.1 (b + 40 + 1) ((p1 * ((4 : Int32))) + p2).toNatClampNeg)), (0, .ref (Y.ad b)), (1, .int p1), (2, .int p2), (3, .int p3)] dX6_put_25 (by decide) rfl ?_
    refine g_aload_n C 1 dX6_put_27 rfl ?_
    refine gf_RX6_33 C h0 dX6_put_28 ?_
    refine gf_RX6_157 C (isX6_kitchen h0) dX6_put_31 ?_
    refine g_iload_n C 2 dX6_put_34 rfl ?_
    refine g_iconst C (v := (4 : Int32)) dX6_put_35 (by decide) ?_
    refine g_imul C dX6_put_36 ?_
    refine g_iload_n C 3 dX6_put_37 rfl ?_
    refine g_iadd C dX6_put_38 ?_
    refine g_iload_n C 4 dX6_put_39 rfl ?_
    refine g_iast C (isX0_units (isX6_kitchen h0)).1 (isX0_units (isX6_kitchen h0)).2 h.1 dX6_put_40 ?_
    replace h := h.2
    refine g_iload C 0 dX6_put_41 rfl ?_
    exact hr _ _ _ _ _ dX6_put_43 rfl h
  · replace h := h.2 c3
    refine g_iconst C (v := (-1 : Int32)) dX6_put_10 (by decide) ?_
    exact hr _ _ _ _ _ dX6_put_11 rfl h
set_option maxRecDepth 20000 in
set_option maxHeartbeats 4000000 in
theorem tX6_has_36 {X : XT} {Y : YT} {l0 : Launch} {b : Nat} {p1 : Int32} {p2 : Int32} {Q : Int32 → Mem → Prop} (C : Cx X Y 3 cX6_has RX6 WX6_has (rmB 1 21) l0) (hr : RI X Y cX6_has .int Q) (hI : YI Y) (h0 : isX6 Y b) (μ : Mem) (h : nX6_has_36 b p1 p2 Q  μ) : G X Y 3 36 [(0, .ref (Y.ad b)), (1, .int p1), (2, .int p2)] [] μ := by
  unfold nX6_has_36 at h
  refine g_iconst C (v := (-1 : Int32)) dX6_has_36 (by decide) ?_
  exact hr _ _ _ _ _ dX6_has_37 rfl h
set_option maxRecDepth 20000 in
set_option maxHeartbeats 4000000 in
theorem ok_X6_has {Y : YT} {l0 : Launch} {b : Nat} {p1 : Int32} {p2 : Int32} {μ : Mem} {Q : Int32 → Mem → Prop} (hI : YI Y) (h0 : isX6 Y b) (h : PX6_has b p1 p2 μ Q) : MI l0 yX6_has WX6_has 1 21 Y [.ref (Y.ad b), .int p1, .int p2] μ Q := by
  refine mI_of (ty := .int) (cc := cX6_has) (maxL := 3) (by decide +kernel) rfl hI (Nat.le_of_ble_eq_true rfl) (fun X C hr => ?_)
  replace C : Cx X Y 3 cX6_has RX6 WX6_has (rmB 1 21) l0 := C
  refine g_lv (lv2 := [(0, .ref (Y.ad b)), (1, .int p1), (2, .int p2)]) [0, 1, 2] ?_ rfl
  unfold PX6_has at h
  refine g_aload_n C 0 dX6_has_0 rfl ?_
  refine gf_RX6_10 C h0 dX6_has_1 ?_
  refine g_iload_n C 1 dX6_has_4 rfl ?_
  refine g_callVI C [.int p1] [] (ok_X2_hasThing hI (isX6_rules h0) h) (cw_RX6_103 _) rfl dc_X2_hasThing ⟨Nat.le_of_ble_eq_true rfl, Nat.le_of_ble_eq_true rfl⟩ (isX2_lt (isX6_rules h0)) (isX2_sh (isX6_rules h0)) rfl rfl rfl rfl (Nat.le_of_ble_eq_true rfl) dX6_has_5 (fun r2 m1 h => ?_)
  refine g_if_eq C 36 dX6_has_8 (by decide) (fun c3 => ?_) (fun c3 => ?_)
  · replace h := h.1 c3
    exact tX6_has_36 C hr hI h0 _ h
  · replace h := h.2 c3
    refine g_iload_n C 2 dX6_has_11 rfl ?_
    refine g_if_lt C 36 dX6_has_12 (by decide) (fun c4 => ?_) (fun c4 => ?_)
    · replace h := h.1 c4
      exact tX6_has_36 C hr hI h0 _ h
    · replace h := h.2 c4
      refine g_iload_n C 2 dX6_has_15 rfl ?_
      refine g_iconst C (v := (4 : Int32)) dX6_has_16 (by decide) ?_
      refine g_icmp_ge C 36 dX6_has_17 (by decide) (fun c5 => ?_) (fun c5 => ?_)
      · replace h := h.1 c5
        exact tX6_has_36 C hr hI h0 _ h
      · replace h := h.2 c5
        refine g_aload_n C 0 dX6_has_20 rfl ?_
        refine gf_RX6_33 C h0 dX6_has_21 ?_
        refine gf_RX6_157 C (isX6_kitchen h0) dX6_has_24 ?_
        refine g_iload_n C 1 dX6_has_27 rfl ?_
        refine g_iconst C (v := (4 : Int32)) dX6_has_28 (by decide) ?_
        refine g_imul C dX6_has_29 ?_
        refine g_iload_n C 2 dX6_has_30 rfl ?_
        refine g_iadd C dX6_has_31 ?_
        refine g_iald C (isX0_units (isX6_kitchen h0)).1 (isX0_units (isX6_kitchen h0)).2 h.1 dX6_has_32 ?_
        replace h := h.2
        refine g_goto C 37 dX6_has_33 (by decide) ?_
        exact hr _ _ _ _ _ dX6_has_37 rfl h
set_option maxRecDepth 20000 in
set_option maxHeartbeats 4000000 in
theorem ok_X6_may {Y : YT} {l0 : Launch} {b : Nat} {p1 : Int32} {p2 : Int32} {μ : Mem} {Q : Int32 → Mem → Prop} (hI : YI Y) (h0 : isX6 Y b) (h : PX6_may b p1 p2 μ Q) : MI l0 yX6_may WX6_may 3 74 Y [.ref (Y.ad b), .int p1, .int p2] μ Q := by
  refine mI_of (ty := .int) (cc := cX6_may) (maxL := 3) (by decide +kernel) rfl hI (Nat.le_of_ble_eq_true rfl) (fun X C hr => ?_)
  replace C : Cx X Y 3 cX6_may RX6 WX6_may (rmB 3 74) l0 := C
  refine g_lv (lv2 := [(0, .ref (Y.ad b)), (1, .int p1), (2, .int p2)]) [0, 1, 2] ?_ rfl
  unfold PX6_may at h
  refine g_aload_n C 0 dX6_may_0 rfl ?_
  refine gf_RX6_10 C h0 dX6_may_1 ?_
  refine g_iload_n C 1 dX6_may_4 rfl ?_
  refine g_callVI C [.int p1] [] (ok_X2_hasSupper hI (isX6_rules h0) h) (cw_RX6_116 _) rfl dc_X2_hasSupper ⟨Nat.le_of_ble_eq_true rfl, Nat.le_of_ble_eq_true rfl⟩ (isX2_lt (isX6_rules h0)) (isX2_sh (isX6_rules h0)) rfl rfl rfl rfl (Nat.le_of_ble_eq_true rfl) dX6_may_5 (fun r2 m1 h => ?_)
  refine g_if_eq C 27 dX6_may_8 (by decide) (fun c3 => ?_) (fun c3 => ?_)
  · replace h := h.1 c3
    refine g_iconst C (v := (-1 : Int32)) dX6_may_27 (by decide) ?_
    exact hr _ _ _ _ _ dX6_may_28 rfl h
  · replace h := h.2 c3
    refine g_aload_n C 0 dX6_may_11 rfl ?_
    refine gf_RX6_33 C h0 dX6_may_12 ?_
    refine g_aload_n C 0 dX6_may_15 rfl ?_
    refine gf_RX6_10 C h0 dX6_may_16 ?_
    refine g_iload_n C 1 dX6_may_19 rfl ?_
    refine g_iload_n C 2 dX6_may_20 rfl ?_
    refine g_callVI C [.ref (Y.ad (b + 1)), .int p1, .int p2] [] (ok_X0_whyNot hI (isX6_kitchen h0) (isX6_rules h0) h) (cw_RX6_160 _) rfl dc_X0_whyNot ⟨Nat.le_of_ble_eq_true rfl, Nat.le_of_ble_eq_true rfl⟩ (isX0_lt (isX6_kitchen h0)) (isX0_sh (isX6_kitchen h0)) rfl rfl rfl rfl (Nat.le_of_ble_eq_true rfl) dX6_may_21 (fun r5 m4 h => ?_)
    refine g_goto C 28 dX6_may_24 (by decide) ?_
    exact hr _ _ _ _ _ dX6_may_28 rfl h
set_option maxRecDepth 20000 in
set_option maxHeartbeats 4000000 in
theorem ok_X6_lacks {Y : YT} {l0 : Launch} {b : Nat} {p1 : Int32} {p2 : Int32} {p3 : Int32} {p4 : Int32} {μ : Mem} {Q : Int32 → Mem → Prop} (hI : YI Y) (h0 : isX6 Y b) (h : PX6_lacks b p1 p2 p3 p4 μ Q) : MI l0 yX6_lacks WX6_lacks 4 97 Y [.ref (Y.ad b), .int p1, .int p2, .int p3, .int p4] μ Q := by
  refine mI_of (ty := .int) (cc := cX6_lacks) (maxL := 5) (by decide +kernel) rfl hI (Nat.le_of_ble_eq_true rfl) (fun X C hr => ?_)
  replace C : Cx X Y 5 cX6_lacks RX6 WX6_lacks (rmB 4 97) l0 := C
  refine g_lv (lv2 := [(0, .ref (Y.ad b)), (1, .int p1), (2, .int p2), (3, .int p3), (4, .int p4)]) [0, 1, 2, 3, 4] ?_ rfl
  unfold PX6_lacks at h
  refine g_aload_n C 0 dX6_lacks_0 rfl ?_
  refine gf_RX6_10 C h0 dX6_lacks_1 ?_
  refine g_iload_n C 1 dX6_lacks_4 rfl ?_
  refine g_callVI C [.int p1] [] (ok_X2_hasSupper hI (isX6_rules h0) h) (cw_RX6_116 _) rfl dc_X2_hasSupper ⟨Nat.le_of_ble_eq_true rfl, Nat.le_of_ble_eq_true rfl⟩ (isX2_lt (isX6_rules h0)) (isX2_sh (isX6_rules h0)) rfl rfl rfl rfl (Nat.le_of_ble_eq_true rfl) dX6_lacks_5 (fun r2 m1 h => ?_)
  refine g_if_eq C 22 dX6_lacks_8 (by decide) (fun c3 => ?_) (fun c3 => ?_)
  · replace h := h.1 c3
    refine g_iconst C (v := (-1 : Int32)) dX6_lacks_22 (by decide) ?_
    exact hr _ _ _ _ _ dX6_lacks_23 rfl h
  · replace h := h.2 c3
    refine g_aload_n C 0 dX6_lacks_11 rfl ?_
    refine gf_RX6_10 C h0 dX6_lacks_12 ?_
    refine g_iload_n C 3 dX6_lacks_15 rfl ?_
    refine g_callVI C [.int p3] [] (ok_X2_hasThing hI (isX6_rules h0) h) (cw_RX6_103 _) rfl dc_X2_hasThing ⟨Nat.le_of_ble_eq_true rfl, Nat.le_of_ble_eq_true rfl⟩ (isX2_lt (isX6_rules h0)) (isX2_sh (isX6_rules h0)) rfl rfl rfl rfl (Nat.le_of_ble_eq_true rfl) dX6_lacks_16 (fun r5 m4 h => ?_)
    refine g_if_ne C 24 dX6_lacks_19 (by decide) (fun c6 => ?_) (fun c6 => ?_)
    · replace h := h.1 c6
      refine g_iload C 4 dX6_lacks_24 rfl ?_
      by_cases c7 : p4 = 0
      · refine g_tableIn C 52 dX6_lacks_26 (by rw [c7]; decide) (by rw [c7]; decide) (by rw [c7]; rfl) (by decide) ?_
        replace h := h.1 c7
        refine g_aload_n C 0 dX6_lacks_52 rfl ?_
        refine gf_RX6_33 C h0 dX6_lacks_53 ?_
        refine g_aload_n C 0 dX6_lacks_56 rfl ?_
        refine gf_RX6_10 C h0 dX6_lacks_57 ?_
        refine g_iload_n C 1 dX6_lacks_60 rfl ?_
        refine g_iload_n C 2 dX6_lacks_61 rfl ?_
        refine g_iload_n C 3 dX6_lacks_62 rfl ?_
        refine g_callVI C [.ref (Y.ad (b + 1)), .int p1, .int p2, .int p3] [] (ok_X0_lacking hI (isX6_kitchen h0) (isX6_rules h0) h) (cw_RX6_164 _) rfl dc_X0_lacking ⟨Nat.le_of_ble_eq_true rfl, Nat.le_of_ble_eq_true rfl⟩ (isX0_lt (isX6_kitchen h0)) (isX0_sh (isX6_kitchen h0)) rfl rfl rfl rfl (Nat.le_of_ble_eq_true rfl) dX6_lacks_63 (fun r9 m8 h => ?_)
        exact hr _ _ _ _ _ dX6_lacks_66 rfl h
      by_cases c10 : p4 = 1
      · refine g_tableIn C 67 dX6_lacks_26 (by rw [c10]; decide) (by rw [c10]; decide) (by rw [c10]; rfl) (by decide) ?_
        replace h := h.2.1 c10
        refine g_aload_n C 0 dX6_lacks_67 rfl ?_
        refine gf_RX6_33 C h0 dX6_lacks_68 ?_
        refine g_aload_n C 0 dX6_lacks_71 rfl ?_
        refine gf_RX6_10 C h0 dX6_lacks_72 ?_
        refine g_iload_n C 1 dX6_lacks_75 rfl ?_
        refine g_iload_n C 2 dX6_lacks_76 rfl ?_
        refine g_iload_n C 3 dX6_lacks_77 rfl ?_
        refine g_callVI C [.ref (Y.ad (b + 1)), .int p1, .int p2, .int p3] [] (ok_X0_packs hI (isX6_kitchen h0) (isX6_rules h0) h) (cw_RX6_168 _) rfl dc_X0_packs ⟨Nat.le_of_ble_eq_true rfl, Nat.le_of_ble_eq_true rfl⟩ (isX0_lt (isX6_kitchen h0)) (isX0_sh (isX6_kitchen h0)) rfl rfl rfl rfl (Nat.le_of_ble_eq_true rfl) dX6_lacks_78 (fun r12 m11 h => ?_)
        exact hr _ _ _ _ _ dX6_lacks_81 rfl h
      by_cases c13 : p4 = 2
      · refine g_tableIn C 82 dX6_lacks_26 (by rw [c13]; decide) (by rw [c13]; decide) (by rw [c13]; rfl) (by decide) ?_
        replace h := h.2.2.1 c13
        refine g_aload_n C 0 dX6_lacks_82 rfl ?_
        refine gf_RX6_33 C h0 dX6_lacks_83 ?_
        refine g_aload_n C 0 dX6_lacks_86 rfl ?_
        refine gf_RX6_10 C h0 dX6_lacks_87 ?_
        refine g_iload_n C 1 dX6_lacks_90 rfl ?_
        refine g_iload_n C 2 dX6_lacks_91 rfl ?_
        refine g_iload_n C 3 dX6_lacks_92 rfl ?_
        refine g_callVI C [.ref (Y.ad (b + 1)), .int p1, .int p2, .int p3] [] (ok_X0_taking hI (isX6_kitchen h0) (isX6_rules h0) h) (cw_RX6_171 _) rfl dc_X0_taking ⟨Nat.le_of_ble_eq_true rfl, Nat.le_of_ble_eq_true rfl⟩ (isX0_lt (isX6_kitchen h0)) (isX0_sh (isX6_kitchen h0)) rfl rfl rfl rfl (Nat.le_of_ble_eq_true rfl) dX6_lacks_93 (fun r15 m14 h => ?_)
        exact hr _ _ _ _ _ dX6_lacks_96 rfl h
      have c16 : p4.toInt < 0 ∨ 2 < p4.toInt := by
        have z := (And.intro True.intro ⟨lv_neT (a := 0) c7 rfl, lv_neT (a := 1) c10 rfl, lv_neT (a := 2) c13 rfl⟩ : True ∧ ¬ p4.toInt = 0 ∧ ¬ p4.toInt = 1 ∧ ¬ p4.toInt = 2)
        omega
      refine g_tableOut C 97 dX6_lacks_26 c16 (by decide) ?_
      replace h := h.2.2.2 c16
      refine g_iconst C (v := (-1 : Int32)) dX6_lacks_97 (by decide) ?_
      exact hr _ _ _ _ _ dX6_lacks_98 rfl h
    · replace h := h.2 c6
      refine g_iconst C (v := (-1 : Int32)) dX6_lacks_22 (by decide) ?_
      exact hr _ _ _ _ _ dX6_lacks_23 rfl h
set_option maxRecDepth 20000 in
set_option maxHeartbeats 4000000 in
theorem ok_X6_eat {Y : YT} {l0 : Launch} {b : Nat} {p1 : Int32} {p2 : Int32} {μ : Mem} {Q : Int32 → Mem → Prop} (hI : YI Y) (h0 : isX6 Y b) (h : PX6_eat b p1 p2 μ Q) : MI l0 yX6_eat WX6_eat 4 101 Y [.ref (Y.ad b), .int p1, .int p2] μ Q := by
  refine mI_of (ty := .int) (cc := cX6_eat) (maxL := 3) (by decide +kernel) rfl hI (Nat.le_of_ble_eq_true rfl) (fun X C hr => ?_)
  replace C : Cx X Y 3 cX6_eat RX6 WX6_eat (rmB 4 101) l0 := C
  refine g_lv (lv2 := [(0, .ref (Y.ad b)), (1, .int p1), (2, .int p2)]) [0, 1, 2] ?_ rfl
  unfold PX6_eat at h
  refine g_aload_n C 0 dX6_eat_0 rfl ?_
  refine gf_RX6_10 C h0 dX6_eat_1 ?_
  refine g_iload_n C 1 dX6_eat_4 rfl ?_
  refine g_callVI C [.int p1] [] (ok_X2_hasSupper hI (isX6_rules h0) h) (cw_RX6_116 _) rfl dc_X2_hasSupper ⟨Nat.le_of_ble_eq_true rfl, Nat.le_of_ble_eq_true rfl⟩ (isX2_lt (isX6_rules h0)) (isX2_sh (isX6_rules h0)) rfl rfl rfl rfl (Nat.le_of_ble_eq_true rfl) dX6_eat_5 (fun r2 m1 h => ?_)
  refine g_if_ne C 13 dX6_eat_8 (by decide) (fun c3 => ?_) (fun c3 => ?_)
  · replace h := h.1 c3
    refine g_aload_n C 0 dX6_eat_13 rfl ?_
    refine gf_RX6_33 C h0 dX6_eat_14 ?_
    refine gf_RX6_174 C (isX6_kitchen h0) dX6_eat_17 ?_
    refine g_bipush C (v := (-4 : Int32)) dX6_eat_20 (by decide) ?_
    refine g_icmp_ne C 41 dX6_eat_22 (by decide) (fun c4 => ?_) (fun c4 => ?_)
    · replace h := h.1 c4
      refine g_bipush C (v := (-2 : Int32)) dX6_eat_41 (by decide) ?_
      exact hr _ _ _ _ _ dX6_eat_43 rfl h
    · replace h := h.2 c4
      refine g_aload_n C 0 dX6_eat_25 rfl ?_
      refine gf_RX6_33 C h0 dX6_eat_26 ?_
      refine g_aload_n C 0 dX6_eat_29 rfl ?_
      refine gf_RX6_10 C h0 dX6_eat_30 ?_
      refine g_iload_n C 1 dX6_eat_33 rfl ?_
      refine g_iload_n C 2 dX6_eat_34 rfl ?_
      refine g_callVI C [.ref (Y.ad (b + 1)), .int p1, .int p2] [] (ok_X0_whyNot hI (isX6_kitchen h0) (isX6_rules h0) h) (cw_RX6_160 _) rfl dc_X0_whyNot ⟨Nat.le_of_ble_eq_true rfl, Nat.le_of_ble_eq_true rfl⟩ (isX0_lt (isX6_kitchen h0)) (isX0_sh (isX6_kitchen h0)) rfl rfl rfl rfl (Nat.le_of_ble_eq_true rfl) dX6_eat_35 (fun r6 m5 h => ?_)
      refine g_if_eq C 44 dX6_eat_38 (by decide) (fun c7 => ?_) (fun c7 => ?_)
      · replace h := h.1 c7
        refine g_aload_n C 0 dX6_eat_44 rfl ?_
        refine gf_RX6_33 C h0 dX6_eat_45 ?_
        refine g_aload_n C 0 dX6_eat_48 rfl ?_
        refine gf_RX6_10 C h0 dX6_eat_49 ?_
        refine g_iload_n C 1 dX6_eat_52 rfl ?_
        refine g_iload_n C 2 dX6_eat_53 rfl ?_
        refine g_callVI C [.ref (Y.ad (b + 1)), .int p1, .int p2] [] (ok_X0_serve hI (isX6_kitchen h0) (isX6_rules h0) h) (cw_RX6_177 _) rfl dc_X0_serve ⟨Nat.le_of_ble_eq_true rfl, Nat.le_of_ble_eq_true rfl⟩ (isX0_lt (isX6_kitchen h0)) (isX0_sh (isX6_kitchen h0)) rfl rfl rfl rfl (Nat.le_of_ble_eq_true rfl) dX6_eat_54 (fun r9 m8 h => ?_)
        exact hr _ _ _ _ _ dX6_eat_57 rfl h
      · replace h := h.2 c7
        refine g_bipush C (v := (-2 : Int32)) dX6_eat_41 (by decide) ?_
        exact hr _ _ _ _ _ dX6_eat_43 rfl h
  · replace h := h.2 c3
    refine g_iconst C (v := (-1 : Int32)) dX6_eat_11 (by decide) ?_
    exact hr _ _ _ _ _ dX6_eat_12 rfl h
set_option maxRecDepth 20000 in
set_option maxHeartbeats 4000000 in
theorem ok_X6_night {Y : YT} {l0 : Launch} {b : Nat} {μ : Mem} {Q : Int32 → Mem → Prop} (hI : YI Y) (h0 : isX6 Y b) (h : PX6_night b μ Q) : MI l0 yX6_night WX6_night 1 25 Y [.ref (Y.ad b)] μ Q := by
  refine mI_of (ty := .int) (cc := cX6_night) (maxL := 1) (by decide +kernel) rfl hI (Nat.le_of_ble_eq_true rfl) (fun X C hr => ?_)
  replace C : Cx X Y 1 cX6_night RX6 WX6_night (rmB 1 25) l0 := C
  refine g_lv (lv2 := [(0, .ref (Y.ad b))]) [0] ?_ rfl
  unfold PX6_night at h
  refine g_aload_n C 0 dX6_night_0 rfl ?_
  refine gf_RX6_33 C h0 dX6_night_1 ?_
  refine g_aload_n C 0 dX6_night_4 rfl ?_
  refine gf_RX6_10 C h0 dX6_night_5 ?_
  refine g_callVI C [.ref (Y.ad (b + 1))] [] (ok_X0_passNight hI (isX6_kitchen h0) (isX6_rules h0) h) (cw_RX6_180 _) rfl dc_X0_passNight ⟨Nat.le_of_ble_eq_true rfl, Nat.le_of_ble_eq_true rfl⟩ (isX0_lt (isX6_kitchen h0)) (isX0_sh (isX6_kitchen h0)) rfl rfl rfl rfl (Nat.le_of_ble_eq_true rfl) dX6_night_8 (fun r2 m1 h => ?_)
  exact hr _ _ _ _ _ dX6_night_11 rfl h
set_option maxRecDepth 20000 in
set_option maxHeartbeats 4000000 in
theorem ok_X6_now {Y : YT} {l0 : Launch} {b : Nat} {p1 : Int32} {μ : Mem} {Q : Int32 → Mem → Prop} (hI : YI Y) (h0 : isX6 Y b) (h : PX6_now b p1 μ Q) : MI l0 yX6_now WX6_now 1 22 Y [.ref (Y.ad b), .int p1] μ Q := by
  refine mI_of (ty := .int) (cc := cX6_now) (maxL := 2) (by decide +kernel) rfl hI (Nat.le_of_ble_eq_true rfl) (fun X C hr => ?_)
  replace C : Cx X Y 2 cX6_now RX6 WX6_now (rmB 1 22) l0 := C
  refine g_lv (lv2 := [(0, .ref (Y.ad b)), (1, .int p1)]) [0, 1] ?_ rfl
  unfold PX6_now at h
  refine g_iload_n C 1 dX6_now_0 rfl ?_
  by_cases c1 : p1 = 0
  · refine g_tableIn C 40 dX6_now_1 (by rw [c1]; decide) (by rw [c1]; decide) (by rw [c1]; rfl) (by decide) ?_
    replace h := h.1 c1
    refine g_aload_n C 0 dX6_now_40 rfl ?_
    refine gf_RX6_33 C h0 dX6_now_41 ?_
    refine gf_RX6_184 C (isX6_kitchen h0) dX6_now_44 ?_
    exact hr _ _ _ _ _ dX6_now_47 rfl h
  by_cases c2 : p1 = 1
  · refine g_tableIn C 48 dX6_now_1 (by rw [c2]; decide) (by rw [c2]; decide) (by rw [c2]; rfl) (by decide) ?_
    replace h := h.2.1 c2
    refine g_aload_n C 0 dX6_now_48 rfl ?_
    refine gf_RX6_33 C h0 dX6_now_49 ?_
    refine gf_RX6_174 C (isX6_kitchen h0) dX6_now_52 ?_
    exact hr _ _ _ _ _ dX6_now_55 rfl h
  by_cases c3 : p1 = 2
  · refine g_tableIn C 56 dX6_now_1 (by rw [c3]; decide) (by rw [c3]; decide) (by rw [c3]; rfl) (by decide) ?_
    replace h := h.2.2.1 c3
    refine g_aload_n C 0 dX6_now_56 rfl ?_
    refine gf_RX6_33 C h0 dX6_now_57 ?_
    refine gf_RX6_187 C (isX6_kitchen h0) dX6_now_60 ?_
    exact hr _ _ _ _ _ dX6_now_63 rfl h
  by_cases c4 : p1 = 3
  · refine g_tableIn C 64 dX6_now_1 (by rw [c4]; decide) (by rw [c4]; decide) (by rw [c4]; rfl) (by decide) ?_
    replace h := h.2.2.2.1 c4
    refine g_aload_n C 0 dX6_now_64 rfl ?_
    refine gf_RX6_33 C h0 dX6_now_65 ?_
    refine gf_RX6_190 C (isX6_kitchen h0) dX6_now_68 ?_
    exact hr _ _ _ _ _ dX6_now_71 rfl h
  by_cases c5 : p1 = 4
  · refine g_tableIn C 72 dX6_now_1 (by rw [c5]; decide) (by rw [c5]; decide) (by rw [c5]; rfl) (by decide) ?_
    replace h := h.2.2.2.2.1 c5
    refine g_aload_n C 0 dX6_now_72 rfl ?_
    refine gf_RX6_33 C h0 dX6_now_73 ?_
    refine gf_RX6_193 C (isX6_kitchen h0) dX6_now_76 ?_
    exact hr _ _ _ _ _ dX6_now_79 rfl h
  by_cases c6 : p1 = 5
  · refine g_tableIn C 80 dX6_now_1 (by rw [c6]; decide) (by rw [c6]; decide) (by rw [c6]; rfl) (by decide) ?_
    replace h := h.2.2.2.2.2.1 c6
    refine g_aload_n C 0 dX6_now_80 rfl ?_
    refine gf_RX6_33 C h0 dX6_now_81 ?_
    refine g_callVI C [] [] (ok_X0_unitsInAll hI (isX6_kitchen h0) h) (cw_RX6_196 _) rfl dc_X0_unitsInAll ⟨Nat.le_of_ble_eq_true rfl, Nat.le_of_ble_eq_true rfl⟩ (isX0_lt (isX6_kitchen h0)) (isX0_sh (isX6_kitchen h0)) rfl rfl rfl rfl (Nat.le_of_ble_eq_true rfl) dX6_now_84 (fun r8 m7 h => ?_)
    exact hr _ _ _ _ _ dX6_now_87 rfl h
  have c9 : p1.toInt < 0 ∨ 5 < p1.toInt := by
    have z := (And.intro True.intro ⟨lv_neT (a := 0) c1 rfl, lv_neT (a := 1) c2 rfl, lv_neT (a := 2) c3 rfl, lv_neT (a := 3) c4 rfl, lv_neT (a := 4) c5 rfl, lv_neT (a := 5) c6 rfl⟩ : True ∧ ¬ p1.toInt = 0 ∧ ¬ p1.toInt = 1 ∧ ¬ p1.toInt = 2 ∧ ¬ p1.toInt = 3 ∧ ¬ p1.toInt = 4 ∧ ¬ p1.toInt = 5)
    omega
  refine g_tableOut C 88 dX6_now_1 c9 (by decide) ?_
  replace h := h.2.2.2.2.2.2 c9
  refine g_iconst C (v := (-1 : Int32)) dX6_now_88 (by decide) ?_
  exact hr _ _ _ _ _ dX6_now_89 rfl h
set_option maxRecDepth 20000 in
set_option maxHeartbeats 4000000 in
theorem ok_X6_last {Y : YT} {l0 : Launch} {b : Nat} {p1 : Int32} {μ : Mem} {Q : Int32 → Mem → Prop} (hI : YI Y) (h0 : isX6 Y b) (h : PX6_last b p1 μ Q) : MI l0 yX6_last WX6_last 1 21 Y [.ref (Y.ad b), .int p1] μ Q := by
  refine mI_of (ty := .int) (cc := cX6_last) (maxL := 2) (by decide +kernel) rfl hI (Nat.le_of_ble_eq_true rfl) (fun X C hr => ?_)
  replace C : Cx X Y 2 cX6_last RX6 WX6_last (rmB 1 21) l0 := C
  refine g_lv (lv2 := [(0, .ref (Y.ad b)), (1, .int p1)]) [0, 1] ?_ rfl
  unfold PX6_last at h
  refine g_aload_n C 0 dX6_last_0 rfl ?_
  refine gf_RX6_10 C h0 dX6_last_1 ?_
  refine g_iload_n C 1 dX6_last_4 rfl ?_
  refine g_callVI C [.int p1] [] (ok_X2_hasSupper hI (isX6_rules h0) h) (cw_RX6_116 _) rfl dc_X2_hasSupper ⟨Nat.le_of_ble_eq_true rfl, Nat.le_of_ble_eq_true rfl⟩ (isX2_lt (isX6_rules h0)) (isX2_sh (isX6_rules h0)) rfl rfl rfl rfl (Nat.le_of_ble_eq_true rfl) dX6_last_5 (fun r2 m1 h => ?_)
  refine g_if_eq C 23 dX6_last_8 (by decide) (fun c3 => ?_) (fun c3 => ?_)
  · replace h := h.1 c3
    refine g_iconst C (v := (-1 : Int32)) dX6_last_23 (by decide) ?_
    exact hr _ _ _ _ _ dX6_last_24 rfl h
  · replace h := h.2 c3
    refine g_aload_n C 0 dX6_last_11 rfl ?_
    refine gf_RX6_33 C h0 dX6_last_12 ?_
    refine gf_RX6_199 C (isX6_kitchen h0) dX6_last_15 ?_
    refine g_iload_n C 1 dX6_last_18 rfl ?_
    refine g_iald C (isX0_eatenLast (isX6_kitchen h0)).1 (isX0_eatenLast (isX6_kitchen h0)).2 h.1 dX6_last_19 ?_
    replace h := h.2
    refine g_goto C 24 dX6_last_20 (by decide) ?_
    exact hr _ _ _ _ _ dX6_last_24 rfl h
set_option maxRecDepth 20000 in
set_option maxHeartbeats 4000000 in
theorem tX6_keep_25 {X : XT} {Y : YT} {l0 : Launch} {b : Nat} {p1 : Int32} {Q : Int32 → Mem → Prop} (C : Cx X Y 3 cX6_keep RX6 WX6_keep (rmB 2 39) l0) (hr : RI X Y cX6_keep .int Q) (hI : YI Y) (h0 : isX6 Y b) (w0 : Int32) (μ : Mem) (h : nX6_keep_25 b p1 Q w0 μ) : G X Y 3 25 [(0, .ref (Y.ad b)), (1, .int p1)] [.int w0] μ := by
  unfold nX6_keep_25 at h
  refine g_istore_n C [(2, .int w0), (0, .ref (Y.ad b)), (1, .int p1)] dX6_keep_25 (by decide) rfl ?_
  refine g_aload_n C 1 dX6_keep_26 rfl ?_
  refine gf_RX6_37 C h0 dX6_keep_27 ?_
  refine g_iload_n C 2 dX6_keep_30 rfl ?_
  refine g_aald C (isX6_images h0).1 (isX6_images h0).2.1 h.1 dX6_keep_31 ?_
  have k4 := h.1
  replace h := h.2
  refine g_aload_n C 1 dX6_keep_32 rfl ?_
  refine gf_RX6_33 C h0 dX6_keep_33 ?_
  refine g_callVV C [.ref (Y.ad (b + 40))] [] (ok_X0_copyFrom hI ((isX6_images h0).2.2 _ (vpin_lt k4)) (isX6_kitchen h0) h) (cw_RX6_202 _) rfl dc_X0_copyFrom ⟨Nat.le_of_ble_eq_true rfl, Nat.le_of_ble_eq_true rfl⟩ (isX0_lt ((isX6_images h0).2.2 _ (vpin_lt k4))) (isX0_sh ((isX6_images h0).2.2 _ (vpin_lt k4))) rfl rfl rfl rfl (Nat.le_of_ble_eq_true rfl) dX6_keep_36 (fun m5 h => ?_)
  refine g_aload_n C 1 dX6_keep_39 rfl ?_
  refine gf_RX6_41 C h0 dX6_keep_40 ?_
  refine g_iload_n C 2 dX6_keep_43 rfl ?_
  refine g_iconst C (v := (1 : Int32)) dX6_keep_44 (by decide) ?_
  refine g_zast C (isX6_imageKept h0).1 (isX6_imageKept h0).2 h.1 dX6_keep_45 ?_
  replace h := h.2
  refine g_iload_n C 0 dX6_keep_46 rfl ?_
  exact hr _ _ _ _ _ dX6_keep_47 rfl h
set_option maxRecDepth 20000 in
set_option maxHeartbeats 4000000 in
theorem ok_X6_keep {Y : YT} {l0 : Launch} {b : Nat} {p1 : Int32} {μ : Mem} {Q : Int32 → Mem → Prop} (hI : YI Y) (h0 : isX6 Y b) (h : PX6_keep b p1 μ Q) : MI l0 yX6_keep WX6_keep 2 39 Y [.ref (Y.ad b), .int p1] μ Q := by
  refine mI_of (ty := .int) (cc := cX6_keep) (maxL := 3) (by decide +kernel) rfl hI (Nat.le_of_ble_eq_true rfl) (fun X C hr => ?_)
  replace C : Cx X Y 3 cX6_keep RX6 WX6_keep (rmB 2 39) l0 := C
  refine g_lv (lv2 := [(0, .ref (Y.ad b)), (1, .int p1)]) [0, 1] ?_ rfl
  unfold PX6_keep at h
  refine g_iload_n C 1 dX6_keep_0 rfl ?_
  refine g_if_lt C 9 dX6_keep_1 (by decide) (fun c1 => ?_) (fun c1 => ?_)
  · replace h := h.1 c1
    refine g_iconst C (v := (-1 : Int32)) dX6_keep_9 (by decide) ?_
    exact hr _ _ _ _ _ dX6_keep_10 rfl h
  · replace h := h.2 c1
    refine g_iload_n C 1 dX6_keep_4 rfl ?_
    refine g_iconst C (v := (2 : Int32)) dX6_keep_5 (by decide) ?_
    refine g_icmp_lt C 11 dX6_keep_6 (by decide) (fun c2 => ?_) (fun c2 => ?_)
    · replace h := h.1 c2
      refine g_aload_n C 0 dX6_keep_11 rfl ?_
      refine gf_RX6_41 C h0 dX6_keep_12 ?_
      refine g_iload_n C 1 dX6_keep_15 rfl ?_
      refine g_zald C (isX6_imageKept h0).1 (isX6_imageKept h0).2 h.1 dX6_keep_16 ?_
      replace h := h.2
      refine g_if_eq C 24 dX6_keep_17 (by decide) (fun c3 => ?_) (fun c3 => ?_)
      · replace h := h.1 c3
        refine g_iconst C (v := (0 : Int32)) dX6_keep_24 (by decide) ?_
        exact tX6_keep_25 C hr hI h0 _ _ h
      · replace h := h.2 c3
        refine g_iconst C (v := (1 : Int32)) dX6_keep_20 (by decide) ?_
        refine g_goto C 25 dX6_keep_21 (by decide) ?_
        exact tX6_keep_25 C hr hI h0 _ _ h
    · replace h := h.2 c2
      refine g_iconst C (v := (-1 : Int32)) dX6_keep_9 (by decide) ?_
      exact hr _ _ _ _ _ dX6_keep_10 rfl h
set_option maxRecDepth 20000 in
set_option maxHeartbeats 4000000 in
theorem ok_X6_back {Y : YT} {l0 : Launch} {b : Nat} {p1 : Int32} {μ : Mem} {Q : Int32 → Mem → Prop} (hI : YI Y) (h0 : isX6 Y b) (h : PX6_back b p1 μ Q) : MI l0 yX6_back WX6_back 2 39 Y [.ref (Y.ad b), .int p1] μ Q := by
  refine mI_of (ty := .int) (cc := cX6_back) (maxL := 2) (by decide +kernel) rfl hI (Nat.le_of_ble_eq_true rfl) (fun X C hr => ?_)
  replace C : Cx X Y 2 cX6_back RX6 WX6_back (rmB 2 39) l0 := C
  refine g_lv (lv2 := [(0, .ref (Y.ad b)), (1, .int p1)]) [0, 1] ?_ rfl
  unfold PX6_back at h
  refine g_iload_n C 1 dX6_back_0 rfl ?_
  refine g_if_lt C 9 dX6_back_1 (by decide) (fun c1 => ?_) (fun c1 => ?_)
  · replace h := h.1 c1
    refine g_iconst C (v := (-1 : Int32)) dX6_back_9 (by decide) ?_
    exact hr _ _ _ _ _ dX6_back_10 rfl h
  · replace h := h.2 c1
    refine g_iload_n C 1 dX6_back_4 rfl ?_
    refine g_iconst C (v := (2 : Int32)) dX6_back_5 (by decide) ?_
    refine g_icmp_lt C 11 dX6_back_6 (by decide) (fun c2 => ?_) (fun c2 => ?_)
    · replace h := h.1 c2
      refine g_aload_n C 0 dX6_back_11 rfl ?_
      refine gf_RX6_41 C h0 dX6_back_12 ?_
      refine g_iload_n C 1 dX6_back_15 rfl ?_
      refine g_zald C (isX6_imageKept h0).1 (isX6_imageKept h0).2 h.1 dX6_back_16 ?_
      replace h := h.2
      refine g_if_ne C 23 dX6_back_17 (by decide) (fun c3 => ?_) (fun c3 => ?_)
      · replace h := h.1 c3
        refine g_aload_n C 0 dX6_back_23 rfl ?_
        refine gf_RX6_33 C h0 dX6_back_24 ?_
        refine g_aload_n C 0 dX6_back_27 rfl ?_
        refine gf_RX6_37 C h0 dX6_back_28 ?_
        refine g_iload_n C 1 dX6_back_31 rfl ?_
        refine g_aald C (isX6_images h0).1 (isX6_images h0).2.1 h.1 dX6_back_32 ?_
        have k4 := h.1
        replace h := h.2
        refine g_callVV C [.ref (Y.ad (b + 44 + 1 + 4 * p1.toNatClampNeg))] [] (ok_X0_copyFrom hI (isX6_kitchen h0) ((isX6_images h0).2.2 _ (vpin_lt k4)) h) (cw_RX6_202 _) rfl dc_X0_copyFrom ⟨Nat.le_of_ble_eq_true rfl, Nat.le_of_ble_eq_true rfl⟩ (isX0_lt (isX6_kitchen h0)) (isX0_sh (isX6_kitchen h0)) rfl rfl rfl rfl (Nat.le_of_ble_eq_true rfl) dX6_back_33 (fun m5 h => ?_)
        refine g_aload_n C 0 dX6_back_36 rfl ?_
        refine gf_RX6_33 C h0 dX6_back_37 ?_
        refine gf_RX6_184 C (isX6_kitchen h0) dX6_back_40 ?_
        exact hr _ _ _ _ _ dX6_back_43 rfl h
      · replace h := h.2 c3
        refine g_bipush C (v := (-2 : Int32)) dX6_back_20 (by decide) ?_
        exact hr _ _ _ _ _ dX6_back_22 rfl h
    · replace h := h.2 c2
      refine g_iconst C (v := (-1 : Int32)) dX6_back_9 (by decide) ?_
      exact hr _ _ _ _ _ dX6_back_10 rfl h
set_option maxRecDepth 20000 in
set_option maxHeartbeats 4000000 in
theorem tX6_day_19 {X : XT} {Y : YT} {l0 : Launch} {b : Nat} {p1 : Int32} {Q : Int32 → Mem → Prop} (C : Cx X Y 2 cX6_day RX6 WX6_day (rmB 1 21) l0) (hr : RI X Y cX6_day .int Q) (hI : YI Y) (h0 : isX6 Y b) (μ : Mem) (h : nX6_day_19 b p1 Q  μ) : G X Y 2 19 [(0, .ref (Y.ad b)), (1, .int p1)] [] μ := by
  unfold nX6_day_19 at h
  refine g_aload_n C 0 dX6_day_19 rfl ?_
  refine gf_RX6_49 C h0 dX6_day_20 ?_
  refine g_bipush C (v := (7 : Int32)) dX6_day_23 (by decide) ?_
  refine g_icmp_lt C 31 dX6_day_25 (by decide) (fun c5 => ?_) (fun c5 => ?_)
  · replace h := h.1 c5
    refine g_aload_n C 0 dX6_day_31 rfl ?_
    refine gf_RX6_45 C h0 dX6_day_32 ?_
    refine g_aload_n C 0 dX6_day_35 rfl ?_
    refine gf_RX6_49 C h0 dX6_day_36 ?_
    refine g_iload_n C 1 dX6_day_39 rfl ?_
    refine g_iast C (isX6_rowByHand h0).1 (isX6_rowByHand h0).2 h.1 dX6_day_40 ?_
    replace h := h.2
    refine g_aload_n C 0 dX6_day_41 rfl ?_
    refine g_dup C dX6_day_42 rfl ?_
    refine gf_RX6_49 C h0 dX6_day_43 ?_
    refine g_iconst C (v := (1 : Int32)) dX6_day_46 (by decide) ?_
    refine g_iadd C dX6_day_47 ?_
    refine gp_RX6_49 C h0 dX6_day_48 ?_
    refine g_mem (fun m6 em6 => ?_)
    replace h := h m6 em6
    refine g_aload_n C 0 dX6_day_51 rfl ?_
    refine gf_RX6_49 C h0 dX6_day_52 ?_
    exact hr _ _ _ _ _ dX6_day_55 rfl h
  · replace h := h.2 c5
    refine g_bipush C (v := (-3 : Int32)) dX6_day_28 (by decide) ?_
    exact hr _ _ _ _ _ dX6_day_30 rfl h
set_option maxRecDepth 20000 in
set_option maxHeartbeats 4000000 in
theorem ok_X6_day {Y : YT} {l0 : Launch} {b : Nat} {p1 : Int32} {μ : Mem} {Q : Int32 → Mem → Prop} (hI : YI Y) (h0 : isX6 Y b) (h : PX6_day b p1 μ Q) : MI l0 yX6_day WX6_day 1 21 Y [.ref (Y.ad b), .int p1] μ Q := by
  refine mI_of (ty := .int) (cc := cX6_day) (maxL := 2) (by decide +kernel) rfl hI (Nat.le_of_ble_eq_true rfl) (fun X C hr => ?_)
  replace C : Cx X Y 2 cX6_day RX6 WX6_day (rmB 1 21) l0 := C
  refine g_lv (lv2 := [(0, .ref (Y.ad b)), (1, .int p1)]) [0, 1] ?_ rfl
  unfold PX6_day at h
  refine g_iload_n C 1 dX6_day_0 rfl ?_
  refine g_bipush C (v := (-4 : Int32)) dX6_day_1 (by decide) ?_
  refine g_icmp_eq C 19 dX6_day_3 (by decide) (fun c1 => ?_) (fun c1 => ?_)
  · replace h := h.1 c1
    exact tX6_day_19 C hr hI h0 _ h
  · replace h := h.2 c1
    refine g_aload_n C 0 dX6_day_6 rfl ?_
    refine gf_RX6_10 C h0 dX6_day_7 ?_
    refine g_iload_n C 1 dX6_day_10 rfl ?_
    refine g_callVI C [.int p1] [] (ok_X2_hasSupper hI (isX6_rules h0) h) (cw_RX6_116 _) rfl dc_X2_hasSupper ⟨Nat.le_of_ble_eq_true rfl, Nat.le_of_ble_eq_true rfl⟩ (isX2_lt (isX6_rules h0)) (isX2_sh (isX6_rules h0)) rfl rfl rfl rfl (Nat.le_of_ble_eq_true rfl) dX6_day_11 (fun r3 m2 h => ?_)
    refine g_if_ne C 19 dX6_day_14 (by decide) (fun c4 => ?_) (fun c4 => ?_)
    · replace h := h.1 c4
      exact tX6_day_19 C hr hI h0 _ h
    · replace h := h.2 c4
      refine g_iconst C (v := (-1 : Int32)) dX6_day_17 (by decide) ?_
      exact hr _ _ _ _ _ dX6_day_18 rfl h
set_option maxRecDepth 20000 in
set_option maxHeartbeats 4000000 in
theorem ok_X6_clear {Y : YT} {l0 : Launch} {b : Nat} {μ : Mem} {Q : Int32 → Mem → Prop} (hI : YI Y) (h0 : isX6 Y b) (h : PX6_clear b μ Q) : MI l0 yX6_clear WX6_clear 0 0 Y [.ref (Y.ad b)] μ Q := by
  refine mI_of (ty := .int) (cc := cX6_clear) (maxL := 2) (by decide +kernel) rfl hI (Nat.le_of_ble_eq_true rfl) (fun X C hr => ?_)
  replace C : Cx X Y 2 cX6_clear RX6 WX6_clear (rmB 0 0) l0 := C
  refine g_lv (lv2 := [(0, .ref (Y.ad b))]) [0] ?_ rfl
  unfold PX6_clear at h
  refine g_aload_n C 0 dX6_clear_0 rfl ?_
  refine gf_RX6_49 C h0 dX6_clear_1 ?_
  refine g_istore_n C [(1, .int (μ.1 b 8)), (0, .ref (Y.ad b))] dX6_clear_4 (by decide) rfl ?_
  refine g_aload_n C 1 dX6_clear_5 rfl ?_
  refine g_iconst C (v := (0 : Int32)) dX6_clear_6 (by decide) ?_
  refine gp_RX6_49 C h0 dX6_clear_7 ?_
  refine g_iload_n C 0 dX6_clear_10 rfl ?_
  exact hr _ _ _ _ _ dX6_clear_11 rfl h
def SX6_rowByHandCloses_20 (X : XT) (Y : YT) (b : Nat) : Int32 → Mem → Prop := fun v1 μ => G X Y 2 20 [(0, .ref (Y.ad b)), (1, .int v1)] [] μ
set_option maxRecDepth 20000 in
set_option maxHeartbeats 4000000 in
theorem tX6_rowByHandCloses_60 {X : XT} {Y : YT} {l0 : Launch} {b : Nat} {Q : Int32 → Mem → Prop} (C : Cx X Y 2 cX6_rowByHandCloses RX6 WX6_rowByHandCloses (rmB 3 71) l0) (hr : RI X Y cX6_rowByHandCloses .boolean Q) (hI : YI Y) (h0 : isX6 Y b) (v1 : Int32) (μ : Mem) (h : nX6_rowByHandCloses_60 b Q (SX6_rowByHandCloses_20 X Y b) v1 μ) : G X Y 2 60 [(0, .ref (Y.ad b)), (1, .int v1)] [] μ := by
  unfold nX6_rowByHandCloses_60 at h
  refine g_iinc C (v := v1 + 1) 1 [(1, .int (v1 + 1)), (0, .ref (Y.ad b))] dX6_rowByHandCloses_60 rfl rfl (by decide) rfl ?_
  refine g_goto C 20 dX6_rowByHandCloses_63 (by decide) ?_
  refine g_lv (lv2 := [(0, .ref (Y.ad b)), (1, .int (v1 + 1))]) [1, 0] ?_ rfl
  exact h
set_option maxRecDepth 20000 in
set_option maxHeartbeats 4000000 in
theorem tX6_rowByHandCloses_20 {X : XT} {Y : YT} {l0 : Launch} {b : Nat} {Q : Int32 → Mem → Prop} (C : Cx X Y 2 cX6_rowByHandCloses RX6 WX6_rowByHandCloses (rmB 3 71) l0) (hr : RI X Y cX6_rowByHandCloses .boolean Q) (hI : YI Y) (h0 : isX6 Y b) (v1 : Int32) (μ : Mem) (h : nX6_rowByHandCloses_20 b Q (SX6_rowByHandCloses_20 X Y b) v1 μ) : G X Y 2 20 [(0, .ref (Y.ad b)), (1, .int v1)] [] μ := by
  unfold nX6_rowByHandCloses_20 at h
  refine g_iload_n C 1 dX6_rowByHandCloses_20 rfl ?_
  refine g_aload_n C 0 dX6_rowByHandCloses_21 rfl ?_
  refine gf_RX6_49 C h0 dX6_rowByHandCloses_22 ?_
  refine g_icmp_ge C 66 dX6_rowByHandCloses_25 (by decide) (fun c3 => ?_) (fun c3 => ?_)
  · replace h := h.1 c3
    refine g_aload_n C 0 dX6_rowByHandCloses_66 rfl ?_
    refine gf_RX6_10 C h0 dX6_rowByHandCloses_67 ?_
    refine g_aload_n C 0 dX6_rowByHandCloses_70 rfl ?_
    refine gf_RX6_33 C h0 dX6_rowByHandCloses_71 ?_
    refine g_aload_n C 0 dX6_rowByHandCloses_74 rfl ?_
    refine gf_RX6_55 C h0 dX6_rowByHandCloses_75 ?_
    refine gf_RX6_216 C (isX6_walk h0) dX6_rowByHandCloses_78 ?_
    refine g_aload_n C 0 dX6_rowByHandCloses_81 rfl ?_
    refine gf_RX6_45 C h0 dX6_rowByHandCloses_82 ?_
    refine g_aload_n C 0 dX6_rowByHandCloses_85 rfl ?_
    refine gf_RX6_49 C h0 dX6_rowByHandCloses_86 ?_
    refine g_callVI C [.ref (Y.ad (b + 40)), .ref (Y.ad (b + 55 + 1)), .ref (Y.ad (b + 54)), .int (μ.1 b 8)] [] (ok_X2_isClosed hI (isX6_rules h0) (isX6_kitchen h0) (isX5_behind (isX6_walk h0)) (isX6_rowByHand h0) h) (cw_RX6_226 _) rfl dc_X2_isClosed ⟨Nat.le_of_ble_eq_true rfl, Nat.le_of_ble_eq_true rfl⟩ (isX2_lt (isX6_rules h0)) (isX2_sh (isX6_rules h0)) rfl rfl rfl rfl (Nat.le_of_ble_eq_true rfl) dX6_rowByHandCloses_89 (fun r5 m4 h => ?_)
    exact hr _ _ _ _ _ dX6_rowByHandCloses_92 h.1.1 h.2
  · replace h := h.2 c3
    refine g_aload_n C 0 dX6_rowByHandCloses_28 rfl ?_
    refine gf_RX6_45 C h0 dX6_rowByHandCloses_29 ?_
    refine g_iload_n C 1 dX6_rowByHandCloses_32 rfl ?_
    refine g_iald C (isX6_rowByHand h0).1 (isX6_rowByHand h0).2 h.1 dX6_rowByHandCloses_33 ?_
    replace h := h.2
    refine g_bipush C (v := (-4 : Int32)) dX6_rowByHandCloses_34 (by decide) ?_
    refine g_icmp_ne C 60 dX6_rowByHandCloses_36 (by decide) (fun c6 => ?_) (fun c6 => ?_)
    · replace h := h.1 c6
      exact tX6_rowByHandCloses_60 C hr hI h0 _ _ h
    · replace h := h.2 c6
      refine g_aload_n C 0 dX6_rowByHandCloses_39 rfl ?_
      refine gf_RX6_10 C h0 dX6_rowByHandCloses_40 ?_
      refine g_aload_n C 0 dX6_rowByHandCloses_43 rfl ?_
      refine gf_RX6_33 C h0 dX6_rowByHandCloses_44 ?_
      refine gf_RX6_184 C (isX6_kitchen h0) dX6_rowByHandCloses_47 ?_
      refine g_iload_n C 1 dX6_rowByHandCloses_50 rfl ?_
      refine g_iadd C dX6_rowByHandCloses_51 ?_
      refine g_callVI C [.int ((μ.1 (b + 40) 2) + v1)] [] (ok_X2_isOut hI (isX6_rules h0) h) (cw_RX6_223 _) rfl dc_X2_isOut ⟨Nat.le_of_ble_eq_true rfl, Nat.le_of_ble_eq_true rfl⟩ (isX2_lt (isX6_rules h0)) (isX2_sh (isX6_rules h0)) rfl rfl rfl rfl (Nat.le_of_ble_eq_true rfl) dX6_rowByHandCloses_52 (fun r8 m7 h => ?_)
      refine g_if_ne C 60 dX6_rowByHandCloses_55 (by decide) (fun c9 => ?_) (fun c9 => ?_)
      · replace h := h.1 c9
        exact tX6_rowByHandCloses_60 C hr hI h0 _ _ h
      · replace h := h.2 c9
        refine g_iconst C (v := (0 : Int32)) dX6_rowByHandCloses_58 (by decide) ?_
        exact hr _ _ _ _ _ dX6_rowByHandCloses_59 rfl h
set_option maxRecDepth 20000 in
set_option maxHeartbeats 4000000 in
theorem ok_X6_rowByHandCloses {Y : YT} {l0 : Launch} {b : Nat} {μ : Mem} {Q : Int32 → Mem → Prop} (hI : YI Y) (h0 : isX6 Y b) (h : PX6_rowByHandCloses b μ Q) : MI l0 yX6_rowByHandCloses WX6_rowByHandCloses 3 71 Y [.ref (Y.ad b)] μ Q := by
  refine mI_of (ty := .boolean) (cc := cX6_rowByHandCloses) (maxL := 2) (by decide +kernel) rfl hI (Nat.le_of_ble_eq_true rfl) (fun X C hr => ?_)
  replace C : Cx X Y 2 cX6_rowByHandCloses RX6 WX6_rowByHandCloses (rmB 3 71) l0 := C
  refine g_lv (lv2 := [(0, .ref (Y.ad b))]) [0] ?_ rfl
  unfold PX6_rowByHandCloses at h
  replace h := h (SX6_rowByHandCloses_20 X Y b) (fun v1 μ z => tX6_rowByHandCloses_20 C hr hI h0 v1 μ z)
  refine g_aload_n C 0 dX6_rowByHandCloses_0 rfl ?_
  refine gf_RX6_49 C h0 dX6_rowByHandCloses_1 ?_
  refine g_iconst C (v := (1 : Int32)) dX6_rowByHandCloses_4 (by decide) ?_
  refine g_icmp_lt C 16 dX6_rowByHandCloses_5 (by decide) (fun c1 => ?_) (fun c1 => ?_)
  · replace h := h.1 c1
    refine g_iconst C (v := (0 : Int32)) dX6_rowByHandCloses_16 (by decide) ?_
    exact hr _ _ _ _ _ dX6_rowByHandCloses_17 rfl h
  · replace h := h.2 c1
    refine g_aload_n C 0 dX6_rowByHandCloses_8 rfl ?_
    refine gf_RX6_49 C h0 dX6_rowByHandCloses_9 ?_
    refine g_iconst C (v := (5 : Int32)) dX6_rowByHandCloses_12 (by decide) ?_
    refine g_icmp_le C 18 dX6_rowByHandCloses_13 (by decide) (fun c2 => ?_) (fun c2 => ?_)
    · replace h := h.1 c2
      refine g_iconst C (v := (0 : Int32)) dX6_rowByHandCloses_18 (by decide) ?_
      refine g_istore_n C [(1, .int ((0 : Int32))), (0, .ref (Y.ad b))] dX6_rowByHandCloses_19 (by decide) rfl ?_
      refine g_lv (lv2 := [(0, .ref (Y.ad b)), (1, .int ((0 : Int32)))]) [1, 0] ?_ rfl
      exact h
    · replace h := h.2 c2
      refine g_iconst C (v := (0 : Int32)) dX6_rowByHandCloses_16 (by decide) ?_
      exact hr _ _ _ _ _ dX6_rowByHandCloses_17 rfl h
set_option maxRecDepth 20000 in
set_option maxHeartbeats 4000000 in
theorem tX6_row_191 {X : XT} {Y : YT} {l0 : Launch} {b : Nat} {p1 : Int32} {Q : Int32 → Mem → Prop} (C : Cx X Y 4 cX6_row RX6 WX6_row (rmB 5 128) l0) (hr : RI X Y cX6_row .int Q) (hI : YI Y) (h0 : isX6 Y b) (μ : Mem) (h : nX6_row_191 b p1 Q  μ) : G X Y 4 191 [(0, .ref (Y.ad b)), (1, .int p1)] [] μ := by
  unfold nX6_row_191 at h
  refine g_iconst C (v := (0 : Int32)) dX6_row_191 (by decide) ?_
  exact hr _ _ _ _ _ dX6_row_192 rfl h
set_option maxRecDepth 20000 in
set_option maxHeartbeats 4000000 in
theorem tX6_row_33 {X : XT} {Y : YT} {l0 : Launch} {b : Nat} {p1 : Int32} {Q : Int32 → Mem → Prop} (C : Cx X Y 4 cX6_row RX6 WX6_row (rmB 5 128) l0) (hr : RI X Y cX6_row .int Q) (hI : YI Y) (h0 : isX6 Y b) (v2 : Int32) (μ : Mem) (h : nX6_row_33 b p1 Q v2 μ) : G X Y 4 33 [(0, .ref (Y.ad b)), (1, .int p1), (2, .int v2)] [] μ := by
  unfold nX6_row_33 at h
  refine g_aload_n C 0 dX6_row_33 rfl ?_
  refine gf_RX6_55 C h0 dX6_row_34 ?_
  refine g_aload_n C 0 dX6_row_37 rfl ?_
  refine gf_RX6_10 C h0 dX6_row_38 ?_
  refine g_aload_n C 0 dX6_row_41 rfl ?_
  refine gf_RX6_33 C h0 dX6_row_42 ?_
  refine g_aload_n C 0 dX6_row_45 rfl ?_
  refine gf_RX6_45 C h0 dX6_row_46 ?_
  refine g_aload_n C 0 dX6_row_49 rfl ?_
  refine gf_RX6_49 C h0 dX6_row_50 ?_
  refine g_iconst C (v := (0 : Int32)) dX6_row_53 (by decide) ?_
  refine g_callVI C [.ref (Y.ad (b + 1)), .ref (Y.ad (b + 40)), .ref (Y.ad (b + 54)), .int (μ.1 b 8), .int ((0 : Int32))] [] (ok_X5_go hI (isX6_walk h0) (isX6_rules h0) (isX6_kitchen h0) (isX6_rowByHand h0) h) (cw_RX6_205 _) rfl dc_X5_go ⟨Nat.le_of_ble_eq_true rfl, Nat.le_of_ble_eq_true rfl⟩ (isX5_lt (isX6_walk h0)) (isX5_sh (isX6_walk h0)) rfl rfl rfl rfl (Nat.le_of_ble_eq_true rfl) dX6_row_54 (fun r7 m6 h => ?_)
  refine g_istore_n C [(3, .int r7), (0, .ref (Y.ad b)), (1, .int p1), (2, .int v2)] dX6_row_57 (by decide) rfl ?_
  refine g_iload_n C 3 dX6_row_58 rfl ?_
  refine g_if_eq C 79 dX6_row_59 (by decide) (fun c8 => ?_) (fun c8 => ?_)
  · replace h := h.1 c8
    refine g_iload_n C 2 dX6_row_79 rfl ?_
    by_cases c9 : p1 = 0
    · refine g_tableIn C 116 dX6_row_80 (by rw [c9]; decide) (by rw [c9]; decide) (by rw [c9]; rfl) (by decide) ?_
      replace h := h.1 c9
      refine g_iload_n C 0 dX6_row_116 rfl ?_
      refine g_aload_n C 1 dX6_row_117 rfl ?_
      refine gf_RX6_49 C h0 dX6_row_118 ?_
      refine g_icmp_ge C 128 dX6_row_121 (by decide) (fun c10 => ?_) (fun c10 => ?_)
      · replace h := h.1 c10
        refine g_bipush C (v := (-4 : Int32)) dX6_row_128 (by decide) ?_
        exact hr _ _ _ _ _ dX6_row_130 rfl h
      · replace h := h.2 c10
        refine g_iload_n C 0 dX6_row_124 rfl ?_
        refine g_goto C 130 dX6_row_125 (by decide) ?_
        exact hr _ _ _ _ _ dX6_row_130 rfl h
    by_cases c11 : p1 = 1
    · refine g_tableIn C 131 dX6_row_80 (by rw [c11]; decide) (by rw [c11]; decide) (by rw [c11]; rfl) (by decide) ?_
      replace h := h.2.1 c11
      refine g_aload_n C 1 dX6_row_131 rfl ?_
      refine gf_RX6_55 C h0 dX6_row_132 ?_
      refine gf_RX6_213 C (isX6_walk h0) dX6_row_135 ?_
      exact hr _ _ _ _ _ dX6_row_138 rfl h
    by_cases c12 : p1 = 2
    · refine g_tableIn C 139 dX6_row_80 (by rw [c12]; decide) (by rw [c12]; decide) (by rw [c12]; rfl) (by decide) ?_
      replace h := h.2.2.1 c12
      refine g_aload_n C 1 dX6_row_139 rfl ?_
      refine gf_RX6_55 C h0 dX6_row_140 ?_
      refine gf_RX6_216 C (isX6_walk h0) dX6_row_143 ?_
      refine gf_RX6_187 C (isX5_behind (isX6_walk h0)) dX6_row_146 ?_
      exact hr _ _ _ _ _ dX6_row_149 rfl h
    by_cases c13 : p1 = 3
    · refine g_tableIn C 150 dX6_row_80 (by rw [c13]; decide) (by rw [c13]; decide) (by rw [c13]; rfl) (by decide) ?_
      replace h := h.2.2.2.1 c13
      refine g_aload_n C 1 dX6_row_150 rfl ?_
      refine gf_RX6_55 C h0 dX6_row_151 ?_
      refine gf_RX6_216 C (isX6_walk h0) dX6_row_154 ?_
      refine gf_RX6_190 C (isX5_behind (isX6_walk h0)) dX6_row_157 ?_
      exact hr _ _ _ _ _ dX6_row_160 rfl h
    by_cases c14 : p1 = 4
    · refine g_tableIn C 161 dX6_row_80 (by rw [c14]; decide) (by rw [c14]; decide) (by rw [c14]; rfl) (by decide) ?_
      replace h := h.2.2.2.2.1 c14
      refine g_aload_n C 1 dX6_row_161 rfl ?_
      refine gf_RX6_55 C h0 dX6_row_162 ?_
      refine gf_RX6_216 C (isX6_walk h0) dX6_row_165 ?_
      refine gf_RX6_193 C (isX5_behind (isX6_walk h0)) dX6_row_168 ?_
      exact hr _ _ _ _ _ dX6_row_171 rfl h
    have c19 : p1.toInt < 0 ∨ 4 < p1.toInt := by
      have z := (And.intro True.intro ⟨lv_neT (a := 0) c9 rfl, lv_neT (a := 1) c11 rfl, lv_neT (a := 2) c12 rfl, lv_neT (a := 3) c13 rfl, lv_neT (a := 4) c14 rfl⟩ : True ∧ ¬ p1.toInt = 0 ∧ ¬ p1.toInt = 1 ∧ ¬ p1.toInt = 2 ∧ ¬ p1.toInt = 3 ∧ ¬ p1.toInt = 4)
      omega
    refine g_tableOut C 172 dX6_row_80 c19 (by decide) ?_
    replace h := h.2.2.2.2.2 c19
    refine g_iload_n C 0 dX6_row_172 rfl ?_
    refine g_aload_n C 1 dX6_row_173 rfl ?_
    refine gf_RX6_49 C h0 dX6_row_174 ?_
    refine g_icmp_ne C 191 dX6_row_177 (by decide) (fun c15 => ?_) (fun c15 => ?_)
    · replace h := h.1 c15
      refine g_lv (lv2 := [(0, .ref (Y.ad b)), (1, .int p1)]) [1, 2] ?_ rfl
      exact tX6_row_191 C hr hI h0 _ h
    · replace h := h.2 c15
      refine g_aload_n C 1 dX6_row_180 rfl ?_
      refine g_callVI C [] [] (ok_X6_rowByHandCloses hI h0 h) (cw_RX6_219 _) rfl dc_X6_rowByHandCloses ⟨Nat.le_of_ble_eq_true rfl, Nat.le_of_ble_eq_true rfl⟩ (isX6_lt h0) (isX6_sh h0) rfl rfl rfl rfl (Nat.le_of_ble_eq_true rfl) dX6_row_181 (fun r17 m16 h => ?_)
      refine g_if_eq C 191 dX6_row_184 (by decide) (fun c18 => ?_) (fun c18 => ?_)
      · replace h := h.1 c18
        refine g_lv (lv2 := [(0, .ref (Y.ad b)), (1, .int p1)]) [1, 2] ?_ rfl
        exact tX6_row_191 C hr hI h0 _ h
      · replace h := h.2 c18
        refine g_iconst C (v := (1 : Int32)) dX6_row_187 (by decide) ?_
        refine g_goto C 192 dX6_row_188 (by decide) ?_
        exact hr _ _ _ _ _ dX6_row_192 rfl h
  · replace h := h.2 c8
    refine g_aload_n C 1 dX6_row_62 rfl ?_
    refine gf_RX6_10 C h0 dX6_row_63 ?_
    refine g_aload_n C 1 dX6_row_66 rfl ?_
    refine gf_RX6_45 C h0 dX6_row_67 ?_
    refine g_iload_n C 0 dX6_row_70 rfl ?_
    refine g_iload_n C 2 dX6_row_71 rfl ?_
    refine g_bipush C (v := (10 : Int32)) dX6_row_72 (by decide) ?_
    refine g_isub C dX6_row_74 ?_
    refine g_callVI C [.ref (Y.ad (b + 54)), .int r7, .int (p1 - ((10 : Int32)))] [] (ok_X2_timesFed hI (isX6_rules h0) (isX6_rowByHand h0) h) (cw_RX6_209 _) rfl dc_X2_timesFed ⟨Nat.le_of_ble_eq_true rfl, Nat.le_of_ble_eq_true rfl⟩ (isX2_lt (isX6_rules h0)) (isX2_sh (isX6_rules h0)) rfl rfl rfl rfl (Nat.le_of_ble_eq_true rfl) dX6_row_75 (fun r21 m20 h => ?_)
    exact hr _ _ _ _ _ dX6_row_78 rfl h
set_option maxRecDepth 20000 in
set_option maxHeartbeats 4000000 in
theorem tX6_row_17 {X : XT} {Y : YT} {l0 : Launch} {b : Nat} {p1 : Int32} {Q : Int32 → Mem → Prop} (C : Cx X Y 4 cX6_row RX6 WX6_row (rmB 5 128) l0) (hr : RI X Y cX6_row .int Q) (hI : YI Y) (h0 : isX6 Y b) (w0 : Int32) (μ : Mem) (h : nX6_row_17 b p1 Q w0 μ) : G X Y 4 17 [(0, .ref (Y.ad b)), (1, .int p1)] [.int w0] μ := by
  unfold nX6_row_17 at h
  refine g_istore_n C [(2, .int w0), (0, .ref (Y.ad b)), (1, .int p1)] dX6_row_17 (by decide) rfl ?_
  refine g_iload_n C 0 dX6_row_18 rfl ?_
  refine g_if_ne C 33 dX6_row_19 (by decide) (fun c3 => ?_) (fun c3 => ?_)
  · replace h := h.1 c3
    refine g_lv (lv2 := [(0, .ref (Y.ad b)), (1, .int p1), (2, .int w0)]) [1, 2, 0] ?_ rfl
    exact tX6_row_33 C hr hI h0 _ _ h
  · replace h := h.2 c3
    refine g_iload_n C 2 dX6_row_22 rfl ?_
    refine g_if_lt C 31 dX6_row_23 (by decide) (fun c4 => ?_) (fun c4 => ?_)
    · replace h := h.1 c4
      refine g_iconst C (v := (-1 : Int32)) dX6_row_31 (by decide) ?_
      exact hr _ _ _ _ _ dX6_row_32 rfl h
    · replace h := h.2 c4
      refine g_iload_n C 2 dX6_row_26 rfl ?_
      refine g_iconst C (v := (5 : Int32)) dX6_row_27 (by decide) ?_
      refine g_icmp_le C 33 dX6_row_28 (by decide) (fun c5 => ?_) (fun c5 => ?_)
      · replace h := h.1 c5
        refine g_lv (lv2 := [(0, .ref (Y.ad b)), (1, .int p1), (2, .int w0)]) [1, 2, 0] ?_ rfl
        exact tX6_row_33 C hr hI h0 _ _ h
      · replace h := h.2 c5
        refine g_iconst C (v := (-1 : Int32)) dX6_row_31 (by decide) ?_
        exact hr _ _ _ _ _ dX6_row_32 rfl h
set_option maxRecDepth 20000 in
set_option maxHeartbeats 4000000 in
theorem tX6_row_16 {X : XT} {Y : YT} {l0 : Launch} {b : Nat} {p1 : Int32} {Q : Int32 → Mem → Prop} (C : Cx X Y 4 cX6_row RX6 WX6_row (rmB 5 128) l0) (hr : RI X Y cX6_row .int Q) (hI : YI Y) (h0 : isX6 Y b) (μ : Mem) (h : nX6_row_16 b p1 Q  μ) : G X Y 4 16 [(0, .ref (Y.ad b)), (1, .int p1)] [] μ := by
  unfold nX6_row_16 at h
  refine g_iconst C (v := (0 : Int32)) dX6_row_16 (by decide) ?_
  exact tX6_row_17 C hr hI h0 _ _ h
set_option maxRecDepth 20000 in
set_option maxHeartbeats 4000000 in
theorem ok_X6_row {Y : YT} {l0 : Launch} {b : Nat} {p1 : Int32} {μ : Mem} {Q : Int32 → Mem → Prop} (hI : YI Y) (h0 : isX6 Y b) (h : PX6_row b p1 μ Q) : MI l0 yX6_row WX6_row 5 128 Y [.ref (Y.ad b), .int p1] μ Q := by
  refine mI_of (ty := .int) (cc := cX6_row) (maxL := 4) (by decide +kernel) rfl hI (Nat.le_of_ble_eq_true rfl) (fun X C hr => ?_)
  replace C : Cx X Y 4 cX6_row RX6 WX6_row (rmB 5 128) l0 := C
  refine g_lv (lv2 := [(0, .ref (Y.ad b)), (1, .int p1)]) [0, 1] ?_ rfl
  unfold PX6_row at h
  refine g_iload_n C 1 dX6_row_0 rfl ?_
  refine g_bipush C (v := (10 : Int32)) dX6_row_1 (by decide) ?_
  refine g_icmp_lt C 16 dX6_row_3 (by decide) (fun c1 => ?_) (fun c1 => ?_)
  · replace h := h.1 c1
    exact tX6_row_16 C hr hI h0 _ h
  · replace h := h.2 c1
    refine g_iload_n C 1 dX6_row_6 rfl ?_
    refine g_bipush C (v := (14 : Int32)) dX6_row_7 (by decide) ?_
    refine g_icmp_ge C 16 dX6_row_9 (by decide) (fun c2 => ?_) (fun c2 => ?_)
    · replace h := h.1 c2
      exact tX6_row_16 C hr hI h0 _ h
    · replace h := h.2 c2
      refine g_iconst C (v := (1 : Int32)) dX6_row_12 (by decide) ?_
      refine g_goto C 17 dX6_row_13 (by decide) ?_
      exact tX6_row_17 C hr hI h0 _ _ h
def SX6_lowestTerms_9 (X : XT) (Y : YT) (p0 : Int32) (p1 : Int32) (p2 : Int32) : Int32 → Int32 → Mem → Prop := fun v3 v4 μ => G X Y 5 9 [(0, .int p0), (1, .int p1), (2, .int p2), (3, .int v3), (4, .int v4)] [] μ
set_option maxRecDepth 20000 in
set_option maxHeartbeats 4000000 in
theorem tX6_lowestTerms_34 {X : XT} {Y : YT} {l0 : Launch} {p0 : Int32} {p1 : Int32} {p2 : Int32} {Q : Int32 → Mem → Prop} (C : Cx X Y 5 cX6_lowestTerms RX6 WX6_lowestTerms (rmB 0 0) l0) (hr : RI X Y cX6_lowestTerms .int Q) (hI : YI Y) (v3 : Int32) (v4 : Int32) (μ : Mem) (h : nX6_lowestTerms_34 p0 p1 p2 Q (SX6_lowestTerms_9 X Y p0 p1 p2) v3 v4 μ) : G X Y 5 34 [(0, .int p0), (1, .int p1), (2, .int p2), (3, .int v3), (4, .int v4)] [] μ := by
  unfold nX6_lowestTerms_34 at h
  refine g_iload_n C 2 dX6_lowestTerms_34 rfl ?_
  refine g_if_ne C 42 dX6_lowestTerms_35 (by decide) (fun c3 => ?_) (fun c3 => ?_)
  · replace h := h.1 c3
    refine g_iload C 4 dX6_lowestTerms_42 rfl ?_
    exact hr _ _ _ _ _ dX6_lowestTerms_44 rfl h
  · replace h := h.2 c3
    refine g_iload_n C 3 dX6_lowestTerms_38 rfl ?_
    refine g_goto C 44 dX6_lowestTerms_39 (by decide) ?_
    exact hr _ _ _ _ _ dX6_lowestTerms_44 rfl h
set_option maxRecDepth 20000 in
set_option maxHeartbeats 4000000 in
theorem tX6_lowestTerms_9 {X : XT} {Y : YT} {l0 : Launch} {p0 : Int32} {p1 : Int32} {p2 : Int32} {Q : Int32 → Mem → Prop} (C : Cx X Y 5 cX6_lowestTerms RX6 WX6_lowestTerms (rmB 0 0) l0) (hr : RI X Y cX6_lowestTerms .int Q) (hI : YI Y) (v3 : Int32) (v4 : Int32) (μ : Mem) (h : nX6_lowestTerms_9 p0 p1 p2 Q (SX6_lowestTerms_9 X Y p0 p1 p2) v3 v4 μ) : G X Y 5 9 [(0, .int p0), (1, .int p1), (2, .int p2), (3, .int v3), (4, .int v4)] [] μ := by
  unfold nX6_lowestTerms_9 at h
  refine g_iload C 4 dX6_lowestTerms_9 rfl ?_
  refine g_iconst C (v := (1 : Int32)) dX6_lowestTerms_11 (by decide) ?_
  refine g_icmp_le C 34 dX6_lowestTerms_12 (by decide) (fun c1 => ?_) (fun c1 => ?_)
  · replace h := h.1 c1
    exact tX6_lowestTerms_34 C hr hI  _ _ _ h
  · replace h := h.2 c1
    refine g_iload_n C 3 dX6_lowestTerms_15 rfl ?_
    refine g_iconst C (v := (2 : Int32)) dX6_lowestTerms_16 (by decide) ?_
    refine g_irem C dX6_lowestTerms_17 (by decide) ?_
    refine g_if_ne C 34 dX6_lowestTerms_18 (by decide) (fun c2 => ?_) (fun c2 => ?_)
    · replace h := h.1 c2
      exact tX6_lowestTerms_34 C hr hI  _ _ _ h
    · replace h := h.2 c2
      refine g_iload_n C 3 dX6_lowestTerms_21 rfl ?_
      refine g_iconst C (v := (2 : Int32)) dX6_lowestTerms_22 (by decide) ?_
      refine g_idiv C dX6_lowestTerms_23 (by decide) ?_
      refine g_istore_n C [(3, .int (v3 / ((2 : Int32)))), (0, .int p0), (1, .int p1), (2, .int p2), (4, .int v4)] dX6_lowestTerms_24 (by decide) rfl ?_
      refine g_iload C 4 dX6_lowestTerms_25 rfl ?_
      refine g_iconst C (v := (2 : Int32)) dX6_lowestTerms_27 (by decide) ?_
      refine g_idiv C dX6_lowestTerms_28 (by decide) ?_
      refine g_istore C [(4, .int (v4 / ((2 : Int32)))), (3, .int (v3 / ((2 : Int32)))), (0, .int p0), (1, .int p1), (2, .int p2)] dX6_lowestTerms_29 (by decide) rfl ?_
      refine g_goto C 9 dX6_lowestTerms_31 (by decide) ?_
      refine g_lv (lv2 := [(0, .int p0), (1, .int p1), (2, .int p2), (3, .int (v3 / ((2 : Int32)))), (4, .int (v4 / ((2 : Int32))))]) [2, 3, 4, 1, 0] ?_ rfl
      exact h
set_option maxRecDepth 20000 in
set_option maxHeartbeats 4000000 in
theorem ok_X6_lowestTerms {Y : YT} {l0 : Launch} {p0 : Int32} {p1 : Int32} {p2 : Int32} {μ : Mem} {Q : Int32 → Mem → Prop} (hI : YI Y) (h : PX6_lowestTerms p0 p1 p2 μ Q) : MI l0 yX6_lowestTerms WX6_lowestTerms 0 0 Y [.int p0, .int p1, .int p2] μ Q := by
  refine mI_of (ty := .int) (cc := cX6_lowestTerms) (maxL := 5) (by decide +kernel) rfl hI (Nat.le_of_ble_eq_true rfl) (fun X C hr => ?_)
  replace C : Cx X Y 5 cX6_lowestTerms RX6 WX6_lowestTerms (rmB 0 0) l0 := C
  refine g_lv (lv2 := [(0, .int p0), (1, .int p1), (2, .int p2)]) [0, 1, 2] ?_ rfl
  unfold PX6_lowestTerms at h
  replace h := h (SX6_lowestTerms_9 X Y p0 p1 p2) (fun v3 v4 μ z => tX6_lowestTerms_9 C hr hI  v3 v4 μ z)
  refine g_iload_n C 0 dX6_lowestTerms_0 rfl ?_
  refine g_istore_n C [(3, .int p0), (0, .int p0), (1, .int p1), (2, .int p2)] dX6_lowestTerms_1 (by decide) rfl ?_
  refine g_iconst C (v := (1 : Int32)) dX6_lowestTerms_2 (by decide) ?_
  refine g_iconst C (v := (2 : Int32)) dX6_lowestTerms_3 (by decide) ?_
  refine g_iload_n C 2 dX6_lowestTerms_4 rfl ?_
  refine g_imul C dX6_lowestTerms_5 ?_
  refine g_ishl C dX6_lowestTerms_6 ?_
  refine g_istore C [(4, .int (((1 : Int32)) <<< ((((2 : Int32)) * p1) &&& 31))), (3, .int p0), (0, .int p0), (1, .int p1), (2, .int p2)] dX6_lowestTerms_7 (by decide) rfl ?_
  refine g_lv (lv2 := [(0, .int p0), (1, .int p1), (2, .int p2), (3, .int p0), (4, .int (((1 : Int32)) <<< ((((2 : Int32)) * p1) &&& 31)))]) [2, 3, 4, 1, 0] ?_ rfl
  exact h
set_option maxRecDepth 20000 in
set_option maxHeartbeats 4000000 in
theorem ok_X6_bears {Y : YT} {l0 : Launch} {b : Nat} {p1 : Int32} {μ : Mem} {Q : Int32 → Mem → Prop} (hI : YI Y) (h0 : isX6 Y b) (h : PX6_bears b p1 μ Q) : MI l0 yX6_bears WX6_bears 6 155 Y [.ref (Y.ad b), .int p1] μ Q := by
  refine mI_of (ty := .int) (cc := cX6_bears) (maxL := 2) (by decide +kernel) rfl hI (Nat.le_of_ble_eq_true rfl) (fun X C hr => ?_)
  replace C : Cx X Y 2 cX6_bears RX6 WX6_bears (rmB 6 155) l0 := C
  refine g_lv (lv2 := [(0, .ref (Y.ad b)), (1, .int p1)]) [0, 1] ?_ rfl
  unfold PX6_bears at h
  refine g_iload_n C 1 dX6_bears_0 rfl ?_
  refine g_if_lt C 9 dX6_bears_1 (by decide) (fun c1 => ?_) (fun c1 => ?_)
  · replace h := h.1 c1
    refine g_iconst C (v := (-1 : Int32)) dX6_bears_9 (by decide) ?_
    exact hr _ _ _ _ _ dX6_bears_10 rfl h
  · replace h := h.2 c1
    refine g_iload_n C 1 dX6_bears_4 rfl ?_
    refine g_iconst C (v := (1 : Int32)) dX6_bears_5 (by decide) ?_
    refine g_icmp_le C 11 dX6_bears_6 (by decide) (fun c2 => ?_) (fun c2 => ?_)
    · replace h := h.1 c2
      refine g_aload_n C 0 dX6_bears_11 rfl ?_
      refine gf_RX6_55 C h0 dX6_bears_12 ?_
      refine g_aload_n C 0 dX6_bears_15 rfl ?_
      refine gf_RX6_10 C h0 dX6_bears_16 ?_
      refine g_aload_n C 0 dX6_bears_19 rfl ?_
      refine gf_RX6_33 C h0 dX6_bears_20 ?_
      refine g_aload_n C 0 dX6_bears_23 rfl ?_
      refine gf_RX6_45 C h0 dX6_bears_24 ?_
      refine g_aload_n C 0 dX6_bears_27 rfl ?_
      refine gf_RX6_49 C h0 dX6_bears_28 ?_
      refine g_callVI C [.ref (Y.ad (b + 1)), .ref (Y.ad (b + 40)), .ref (Y.ad (b + 54)), .int (μ.1 b 8)] [] (ok_X5_bearing hI (isX6_walk h0) (isX6_rules h0) (isX6_kitchen h0) (isX6_rowByHand h0) h) (cw_RX6_230 _) rfl dc_X5_bearing ⟨Nat.le_of_ble_eq_true rfl, Nat.le_of_ble_eq_true rfl⟩ (isX5_lt (isX6_walk h0)) (isX5_sh (isX6_walk h0)) rfl rfl rfl rfl (Nat.le_of_ble_eq_true rfl) dX6_bears_31 (fun r4 m3 h => ?_)
      refine g_aload_n C 0 dX6_bears_34 rfl ?_
      refine gf_RX6_49 C h0 dX6_bears_35 ?_
      refine g_iload_n C 1 dX6_bears_38 rfl ?_
      refine g_callSI C [.int r4, .int (m3.1 b 8), .int p1] [] (ok_X6_lowestTerms hI  h) (cw_RX6_234 _) rfl dc_X6_lowestTerms ⟨Nat.le_of_ble_eq_true rfl, Nat.le_of_ble_eq_true rfl⟩ rfl (Nat.le_of_ble_eq_true rfl) dX6_bears_39 (fun r6 m5 h => ?_)
      exact hr _ _ _ _ _ dX6_bears_42 rfl h
    · replace h := h.2 c2
      refine g_iconst C (v := (-1 : Int32)) dX6_bears_9 (by decide) ?_
      exact hr _ _ _ _ _ dX6_bears_10 rfl h
set_option maxRecDepth 20000 in
set_option maxHeartbeats 4000000 in
theorem tX6_isPlace_18 {X : XT} {Y : YT} {l0 : Launch} {p0 : Int32} {p1 : Int32} {Q : Int32 → Mem → Prop} (C : Cx X Y 2 cX6_isPlace RX6 WX6_isPlace (rmB 0 0) l0) (hr : RI X Y cX6_isPlace .boolean Q) (hI : YI Y)  (μ : Mem) (h : nX6_isPlace_18 p0 p1 Q  μ) : G X Y 2 18 [(0, .int p0), (1, .int p1)] [] μ := by
  unfold nX6_isPlace_18 at h
  refine g_iconst C (v := (0 : Int32)) dX6_isPlace_18 (by decide) ?_
  exact hr _ _ _ _ _ dX6_isPlace_19 rfl h
set_option maxRecDepth 20000 in
set_option maxHeartbeats 4000000 in
theorem ok_X6_isPlace {Y : YT} {l0 : Launch} {p0 : Int32} {p1 : Int32} {μ : Mem} {Q : Int32 → Mem → Prop} (hI : YI Y) (h : PX6_isPlace p0 p1 μ Q) : MI l0 yX6_isPlace WX6_isPlace 0 0 Y [.int p0, .int p1] μ Q := by
  refine mI_of (ty := .boolean) (cc := cX6_isPlace) (maxL := 2) (by decide +kernel) rfl hI (Nat.le_of_ble_eq_true rfl) (fun X C hr => ?_)
  replace C : Cx X Y 2 cX6_isPlace RX6 WX6_isPlace (rmB 0 0) l0 := C
  refine g_lv (lv2 := [(0, .int p0), (1, .int p1)]) [0, 1] ?_ rfl
  unfold PX6_isPlace at h
  refine g_iload_n C 0 dX6_isPlace_0 rfl ?_
  refine g_bipush C (v := (10 : Int32)) dX6_isPlace_1 (by decide) ?_
  refine g_icmp_lt C 18 dX6_isPlace_3 (by decide) (fun c1 => ?_) (fun c1 => ?_)
  · replace h := h.1 c1
    exact tX6_isPlace_18 C hr hI  _ h
  · replace h := h.2 c1
    refine g_iload_n C 0 dX6_isPlace_6 rfl ?_
    refine g_bipush C (v := (10 : Int32)) dX6_isPlace_7 (by decide) ?_
    refine g_iload_n C 1 dX6_isPlace_9 rfl ?_
    refine g_iadd C dX6_isPlace_10 ?_
    refine g_icmp_ge C 18 dX6_isPlace_11 (by decide) (fun c2 => ?_) (fun c2 => ?_)
    · replace h := h.1 c2
      exact tX6_isPlace_18 C hr hI  _ h
    · replace h := h.2 c2
      refine g_iconst C (v := (1 : Int32)) dX6_isPlace_14 (by decide) ?_
      refine g_goto C 19 dX6_isPlace_15 (by decide) ?_
      exact hr _ _ _ _ _ dX6_isPlace_19 rfl h
set_option maxRecDepth 20000 in
set_option maxHeartbeats 4000000 in
theorem tX6_best_39 {X : XT} {Y : YT} {l0 : Launch} {b : Nat} {p1 : Int32} {p2 : Int32} {Q : Int32 → Mem → Prop} (C : Cx X Y 4 cX6_best RX6 WX6_best (rmB 7 182) l0) (hr : RI X Y cX6_best .int Q) (hI : YI Y) (h0 : isX6 Y b) (μ : Mem) (h : nX6_best_39 b p1 p2 Q  μ) : G X Y 4 39 [(0, .ref (Y.ad b)), (1, .int p1), (2, .int p2)] [] μ := by
  unfold nX6_best_39 at h
  refine g_aload_n C 0 dX6_best_39 rfl ?_
  refine gf_RX6_62 C h0 dX6_best_40 ?_
  refine g_aload_n C 0 dX6_best_43 rfl ?_
  refine gf_RX6_10 C h0 dX6_best_44 ?_
  refine g_aload_n C 0 dX6_best_47 rfl ?_
  refine gf_RX6_33 C h0 dX6_best_48 ?_
  refine g_iload_n C 1 dX6_best_51 rfl ?_
  refine g_iconst C (v := (0 : Int32)) dX6_best_52 (by decide) ?_
  refine g_callVV C [.ref (Y.ad (b + 1)), .ref (Y.ad (b + 40)), .int p1, .int ((0 : Int32))] [] (ok_X3_lookAtRows hI (isX6_search h0) (isX6_rules h0) (isX6_kitchen h0) h) (cw_RX6_242 _) rfl dc_X3_lookAtRows ⟨Nat.le_of_ble_eq_true rfl, Nat.le_of_ble_eq_true rfl⟩ (isX3_lt (isX6_search h0)) (isX3_sh (isX6_search h0)) rfl rfl rfl rfl (Nat.le_of_ble_eq_true rfl) dX6_best_53 (fun m9 h => ?_)
  refine g_iload_n C 2 dX6_best_56 rfl ?_
  refine g_iconst C (v := (4 : Int32)) dX6_best_57 (by decide) ?_
  refine g_icmp_ne C 69 dX6_best_58 (by decide) (fun c11 => ?_) (fun c11 => ?_)
  · replace h := h.1 c11
    refine g_aload_n C 0 dX6_best_69 rfl ?_
    refine gf_RX6_62 C h0 dX6_best_70 ?_
    refine gf_RX6_246 C (isX6_search h0) dX6_best_73 ?_
    refine g_if_ne C 82 dX6_best_76 (by decide) (fun c12 => ?_) (fun c12 => ?_)
    · replace h := h.1 c12
      refine g_iload_n C 2 dX6_best_82 rfl ?_
      by_cases c13 : p2 = 0
      · refine g_tableIn C 112 dX6_best_83 (by rw [c13]; decide) (by rw [c13]; decide) (by rw [c13]; rfl) (by decide) ?_
        replace h := h.1 c13
        refine g_aload_n C 0 dX6_best_112 rfl ?_
        refine gf_RX6_62 C h0 dX6_best_113 ?_
        refine gf_RX6_249 C (isX6_search h0) dX6_best_116 ?_
        exact hr _ _ _ _ _ dX6_best_119 rfl h
      by_cases c14 : p2 = 1
      · refine g_tableIn C 120 dX6_best_83 (by rw [c14]; decide) (by rw [c14]; decide) (by rw [c14]; rfl) (by decide) ?_
        replace h := h.2.1 c14
        refine g_aload_n C 0 dX6_best_120 rfl ?_
        refine gf_RX6_62 C h0 dX6_best_121 ?_
        refine gf_RX6_252 C (isX6_search h0) dX6_best_124 ?_
        exact hr _ _ _ _ _ dX6_best_127 rfl h
      by_cases c15 : p2 = 2
      · refine g_tableIn C 128 dX6_best_83 (by rw [c15]; decide) (by rw [c15]; decide) (by rw [c15]; rfl) (by decide) ?_
        replace h := h.2.2.1 c15
        refine g_aload_n C 0 dX6_best_128 rfl ?_
        refine gf_RX6_62 C h0 dX6_best_129 ?_
        refine gf_RX6_255 C (isX6_search h0) dX6_best_132 ?_
        exact hr _ _ _ _ _ dX6_best_135 rfl h
      by_cases c16 : p2 = 3
      · refine g_tableIn C 136 dX6_best_83 (by rw [c16]; decide) (by rw [c16]; decide) (by rw [c16]; rfl) (by decide) ?_
        replace h := h.2.2.2.1 c16
        refine g_aload_n C 0 dX6_best_136 rfl ?_
        refine gf_RX6_62 C h0 dX6_best_137 ?_
        refine gf_RX6_258 C (isX6_search h0) dX6_best_140 ?_
        exact hr _ _ _ _ _ dX6_best_143 rfl h
      have c17 : p2.toInt < 0 ∨ 3 < p2.toInt := by
        have z := (And.intro True.intro ⟨lv_neT (a := 0) c13 rfl, lv_neT (a := 1) c14 rfl, lv_neT (a := 2) c15 rfl, lv_neT (a := 3) c16 rfl⟩ : True ∧ ¬ p2.toInt = 0 ∧ ¬ p2.toInt = 1 ∧ ¬ p2.toInt = 2 ∧ ¬ p2.toInt = 3)
        omega
      refine g_tableOut C 144 dX6_best_83 c17 (by decide) ?_
      replace h := h.2.2.2.2 c17
      refine g_aload_n C 0 dX6_best_144 rfl ?_
      refine gf_RX6_62 C h0 dX6_best_145 ?_
      refine gf_RX6_261 C (isX6_search h0) dX6_best_148 ?_
      refine g_iload_n C 2 dX6_best_151 rfl ?_
      refine g_bipush C (v := (10 : Int32)) dX6_best_152 (by decide) ?_
      refine g_isub C dX6_best_154 ?_
      refine g_iald C (isX3_bestRow (isX6_search h0)).1 (isX3_bestRow (isX6_search h0)).2 h.1 dX6_best_155 ?_
      replace h := h.2
      exact hr _ _ _ _ _ dX6_best_156 rfl h
    · replace h := h.2 c12
      refine g_bipush C (v := (-4 : Int32)) dX6_best_79 (by decide) ?_
      exact hr _ _ _ _ _ dX6_best_81 rfl h
  · replace h := h.2 c11
    refine g_aload_n C 0 dX6_best_61 rfl ?_
    refine gf_RX6_62 C h0 dX6_best_62 ?_
    refine gf_RX6_246 C (isX6_search h0) dX6_best_65 ?_
    exact hr _ _ _ _ _ dX6_best_68 rfl h
set_option maxRecDepth 20000 in
set_option maxHeartbeats 4000000 in
theorem tX6_best_14 {X : XT} {Y : YT} {l0 : Launch} {b : Nat} {p1 : Int32} {p2 : Int32} {Q : Int32 → Mem → Prop} (C : Cx X Y 4 cX6_best RX6 WX6_best (rmB 7 182) l0) (hr : RI X Y cX6_best .int Q) (hI : YI Y) (h0 : isX6 Y b) (w0 : Int32) (μ : Mem) (h : nX6_best_14 b p1 p2 Q w0 μ) : G X Y 4 14 [(0, .ref (Y.ad b)), (1, .int p1), (2, .int p2)] [.int w0] μ := by
  unfold nX6_best_14 at h
  refine g_istore_n C [(3, .int w0), (0, .ref (Y.ad b)), (1, .int p1), (2, .int p2)] dX6_best_14 (by decide) rfl ?_
  refine g_iload_n C 2 dX6_best_15 rfl ?_
  refine g_iconst C (v := (1 : Int32)) dX6_best_16 (by decide) ?_
  refine g_icmp_lt C 37 dX6_best_17 (by decide) (fun c3 => ?_) (fun c3 => ?_)
  · replace h := h.1 c3
    refine g_iconst C (v := (-1 : Int32)) dX6_best_37 (by decide) ?_
    exact hr _ _ _ _ _ dX6_best_38 rfl h
  · replace h := h.2 c3
    refine g_iload_n C 2 dX6_best_20 rfl ?_
    refine g_iconst C (v := (5 : Int32)) dX6_best_21 (by decide) ?_
    refine g_icmp_gt C 37 dX6_best_22 (by decide) (fun c4 => ?_) (fun c4 => ?_)
    · replace h := h.1 c4
      refine g_iconst C (v := (-1 : Int32)) dX6_best_37 (by decide) ?_
      exact hr _ _ _ _ _ dX6_best_38 rfl h
    · replace h := h.2 c4
      refine g_iload_n C 0 dX6_best_25 rfl ?_
      refine g_if_ne C 39 dX6_best_26 (by decide) (fun c5 => ?_) (fun c5 => ?_)
      · replace h := h.1 c5
        refine g_lv (lv2 := [(0, .ref (Y.ad b)), (1, .int p1), (2, .int p2)]) [1, 2, 3] ?_ rfl
        exact tX6_best_39 C hr hI h0 _ h
      · replace h := h.2 c5
        refine g_iload_n C 3 dX6_best_29 rfl ?_
        refine g_iload_n C 2 dX6_best_30 rfl ?_
        refine g_callSI C [.int p2, .int p1] [] (ok_X6_isPlace hI  h) (cw_RX6_238 _) rfl dc_X6_isPlace ⟨Nat.le_of_ble_eq_true rfl, Nat.le_of_ble_eq_true rfl⟩ rfl (Nat.le_of_ble_eq_true rfl) dX6_best_31 (fun r7 m6 h => ?_)
        refine g_if_ne C 39 dX6_best_34 (by decide) (fun c8 => ?_) (fun c8 => ?_)
        · replace h := h.1 c8
          refine g_lv (lv2 := [(0, .ref (Y.ad b)), (1, .int p1), (2, .int p2)]) [1, 2, 3] ?_ rfl
          exact tX6_best_39 C hr hI h0 _ h
        · replace h := h.2 c8
          refine g_iconst C (v := (-1 : Int32)) dX6_best_37 (by decide) ?_
          exact hr _ _ _ _ _ dX6_best_38 rfl h
set_option maxRecDepth 20000 in
set_option maxHeartbeats 4000000 in
theorem tX6_best_13 {X : XT} {Y : YT} {l0 : Launch} {b : Nat} {p1 : Int32} {p2 : Int32} {Q : Int32 → Mem → Prop} (C : Cx X Y 4 cX6_best RX6 WX6_best (rmB 7 182) l0) (hr : RI X Y cX6_best .int Q) (hI : YI Y) (h0 : isX6 Y b) (μ : Mem) (h : nX6_best_13 b p1 p2 Q  μ) : G X Y 4 13 [(0, .ref (Y.ad b)), (1, .int p1), (2, .int p2)] [] μ := by
  unfold nX6_best_13 at h
  refine g_iconst C (v := (0 : Int32)) dX6_best_13 (by decide) ?_
  exact tX6_best_14 C hr hI h0 _ _ h
set_option maxRecDepth 20000 in
set_option maxHeartbeats 4000000 in
theorem ok_X6_best {Y : YT} {l0 : Launch} {b : Nat} {p1 : Int32} {p2 : Int32} {μ : Mem} {Q : Int32 → Mem → Prop} (hI : YI Y) (h0 : isX6 Y b) (h : PX6_best b p1 p2 μ Q) : MI l0 yX6_best WX6_best 7 182 Y [.ref (Y.ad b), .int p1, .int p2] μ Q := by
  refine mI_of (ty := .int) (cc := cX6_best) (maxL := 4) (by decide +kernel) rfl hI (Nat.le_of_ble_eq_true rfl) (fun X C hr => ?_)
  replace C : Cx X Y 4 cX6_best RX6 WX6_best (rmB 7 182) l0 := C
  refine g_lv (lv2 := [(0, .ref (Y.ad b)), (1, .int p1), (2, .int p2)]) [0, 1, 2] ?_ rfl
  unfold PX6_best at h
  refine g_iload_n C 2 dX6_best_0 rfl ?_
  refine g_if_lt C 13 dX6_best_1 (by decide) (fun c1 => ?_) (fun c1 => ?_)
  · replace h := h.1 c1
    exact tX6_best_13 C hr hI h0 _ h
  · replace h := h.2 c1
    refine g_iload_n C 2 dX6_best_4 rfl ?_
    refine g_iconst C (v := (4 : Int32)) dX6_best_5 (by decide) ?_
    refine g_icmp_gt C 13 dX6_best_6 (by decide) (fun c2 => ?_) (fun c2 => ?_)
    · replace h := h.1 c2
      exact tX6_best_13 C hr hI h0 _ h
    · replace h := h.2 c2
      refine g_iconst C (v := (1 : Int32)) dX6_best_9 (by decide) ?_
      refine g_goto C 14 dX6_best_10 (by decide) ?_
      exact tX6_best_14 C hr hI h0 _ _ h
set_option maxRecDepth 20000 in
set_option maxHeartbeats 4000000 in
theorem tX6_fairest_24 {X : XT} {Y : YT} {l0 : Launch} {b : Nat} {p1 : Int32} {p2 : Int32} {Q : Int32 → Mem → Prop} (C : Cx X Y 3 cX6_fairest RX6 WX6_fairest (rmB 7 182) l0) (hr : RI X Y cX6_fairest .int Q) (hI : YI Y) (h0 : isX6 Y b) (μ : Mem) (h : nX6_fairest_24 b p1 p2 Q  μ) : G X Y 3 24 [(0, .ref (Y.ad b)), (1, .int p1), (2, .int p2)] [] μ := by
  unfold nX6_fairest_24 at h
  refine g_aload_n C 0 dX6_fairest_24 rfl ?_
  refine gf_RX6_62 C h0 dX6_fairest_25 ?_
  refine g_aload_n C 0 dX6_fairest_28 rfl ?_
  refine gf_RX6_10 C h0 dX6_fairest_29 ?_
  refine g_aload_n C 0 dX6_fairest_32 rfl ?_
  refine gf_RX6_33 C h0 dX6_fairest_33 ?_
  refine g_iload_n C 1 dX6_fairest_36 rfl ?_
  refine g_iconst C (v := (0 : Int32)) dX6_fairest_37 (by decide) ?_
  refine g_callVV C [.ref (Y.ad (b + 1)), .ref (Y.ad (b + 40)), .int p1, .int ((0 : Int32))] [] (ok_X3_lookAtRows hI (isX6_search h0) (isX6_rules h0) (isX6_kitchen h0) h) (cw_RX6_242 _) rfl dc_X3_lookAtRows ⟨Nat.le_of_ble_eq_true rfl, Nat.le_of_ble_eq_true rfl⟩ (isX3_lt (isX6_search h0)) (isX3_sh (isX6_search h0)) rfl rfl rfl rfl (Nat.le_of_ble_eq_true rfl) dX6_fairest_38 (fun m7 h => ?_)
  refine g_aload_n C 0 dX6_fairest_41 rfl ?_
  refine gf_RX6_62 C h0 dX6_fairest_42 ?_
  refine gf_RX6_246 C (isX6_search h0) dX6_fairest_45 ?_
  refine g_if_ne C 54 dX6_fairest_48 (by decide) (fun c9 => ?_) (fun c9 => ?_)
  · replace h := h.1 c9
    refine g_iload_n C 2 dX6_fairest_54 rfl ?_
    refine g_if_ne C 68 dX6_fairest_55 (by decide) (fun c10 => ?_) (fun c10 => ?_)
    · replace h := h.1 c10
      refine g_aload_n C 0 dX6_fairest_68 rfl ?_
      refine gf_RX6_62 C h0 dX6_fairest_69 ?_
      refine gf_RX6_267 C (isX6_search h0) dX6_fairest_72 ?_
      refine g_iload_n C 2 dX6_fairest_75 rfl ?_
      refine g_bipush C (v := (10 : Int32)) dX6_fairest_76 (by decide) ?_
      refine g_isub C dX6_fairest_78 ?_
      refine g_iald C (isX3_fairestRow (isX6_search h0)).1 (isX3_fairestRow (isX6_search h0)).2 h.1 dX6_fairest_79 ?_
      replace h := h.2
      exact hr _ _ _ _ _ dX6_fairest_80 rfl h
    · replace h := h.2 c10
      refine g_aload_n C 0 dX6_fairest_58 rfl ?_
      refine gf_RX6_62 C h0 dX6_fairest_59 ?_
      refine gf_RX6_264 C (isX6_search h0) dX6_fairest_62 ?_
      refine g_goto C 80 dX6_fairest_65 (by decide) ?_
      exact hr _ _ _ _ _ dX6_fairest_80 rfl h
  · replace h := h.2 c9
    refine g_bipush C (v := (-4 : Int32)) dX6_fairest_51 (by decide) ?_
    exact hr _ _ _ _ _ dX6_fairest_53 rfl h
set_option maxRecDepth 20000 in
set_option maxHeartbeats 4000000 in
theorem ok_X6_fairest {Y : YT} {l0 : Launch} {b : Nat} {p1 : Int32} {p2 : Int32} {μ : Mem} {Q : Int32 → Mem → Prop} (hI : YI Y) (h0 : isX6 Y b) (h : PX6_fairest b p1 p2 μ Q) : MI l0 yX6_fairest WX6_fairest 7 182 Y [.ref (Y.ad b), .int p1, .int p2] μ Q := by
  refine mI_of (ty := .int) (cc := cX6_fairest) (maxL := 3) (by decide +kernel) rfl hI (Nat.le_of_ble_eq_true rfl) (fun X C hr => ?_)
  replace C : Cx X Y 3 cX6_fairest RX6 WX6_fairest (rmB 7 182) l0 := C
  refine g_lv (lv2 := [(0, .ref (Y.ad b)), (1, .int p1), (2, .int p2)]) [0, 1, 2] ?_ rfl
  unfold PX6_fairest at h
  refine g_iload_n C 1 dX6_fairest_0 rfl ?_
  refine g_iconst C (v := (1 : Int32)) dX6_fairest_1 (by decide) ?_
  refine g_icmp_lt C 22 dX6_fairest_2 (by decide) (fun c1 => ?_) (fun c1 => ?_)
  · replace h := h.1 c1
    refine g_iconst C (v := (-1 : Int32)) dX6_fairest_22 (by decide) ?_
    exact hr _ _ _ _ _ dX6_fairest_23 rfl h
  · replace h := h.2 c1
    refine g_iload_n C 1 dX6_fairest_5 rfl ?_
    refine g_iconst C (v := (5 : Int32)) dX6_fairest_6 (by decide) ?_
    refine g_icmp_gt C 22 dX6_fairest_7 (by decide) (fun c2 => ?_) (fun c2 => ?_)
    · replace h := h.1 c2
      refine g_iconst C (v := (-1 : Int32)) dX6_fairest_22 (by decide) ?_
      exact hr _ _ _ _ _ dX6_fairest_23 rfl h
    · replace h := h.2 c2
      refine g_iload_n C 2 dX6_fairest_10 rfl ?_
      refine g_if_eq C 24 dX6_fairest_11 (by decide) (fun c3 => ?_) (fun c3 => ?_)
      · replace h := h.1 c3
        exact tX6_fairest_24 C hr hI h0 _ h
      · replace h := h.2 c3
        refine g_iload_n C 2 dX6_fairest_14 rfl ?_
        refine g_iload_n C 1 dX6_fairest_15 rfl ?_
        refine g_callSI C [.int p2, .int p1] [] (ok_X6_isPlace hI  h) (cw_RX6_238 _) rfl dc_X6_isPlace ⟨Nat.le_of_ble_eq_true rfl, Nat.le_of_ble_eq_true rfl⟩ rfl (Nat.le_of_ble_eq_true rfl) dX6_fairest_16 (fun r5 m4 h => ?_)
        refine g_if_ne C 24 dX6_fairest_19 (by decide) (fun c6 => ?_) (fun c6 => ?_)
        · replace h := h.1 c6
          exact tX6_fairest_24 C hr hI h0 _ h
        · replace h := h.2 c6
          refine g_iconst C (v := (-1 : Int32)) dX6_fairest_22 (by decide) ?_
          exact hr _ _ _ _ _ dX6_fairest_23 rfl h
set_option maxRecDepth 20000 in
set_option maxHeartbeats 4000000 in
theorem tX6_surest_29 {X : XT} {Y : YT} {l0 : Launch} {b : Nat} {p1 : Int32} {p2 : Int32} {Q : Int32 → Mem → Prop} (C : Cx X Y 3 cX6_surest RX6 WX6_surest (rmB 7 182) l0) (hr : RI X Y cX6_surest .int Q) (hI : YI Y) (h0 : isX6 Y b) (μ : Mem) (h : nX6_surest_29 b p1 p2 Q  μ) : G X Y 3 29 [(0, .ref (Y.ad b)), (1, .int p1), (2, .int p2)] [] μ := by
  unfold nX6_surest_29 at h
  refine g_aload_n C 0 dX6_surest_29 rfl ?_
  refine gf_RX6_62 C h0 dX6_surest_30 ?_
  refine g_aload_n C 0 dX6_surest_33 rfl ?_
  refine gf_RX6_10 C h0 dX6_surest_34 ?_
  refine g_aload_n C 0 dX6_surest_37 rfl ?_
  refine gf_RX6_33 C h0 dX6_surest_38 ?_
  refine g_iload_n C 1 dX6_surest_41 rfl ?_
  refine g_iconst C (v := (1 : Int32)) dX6_surest_42 (by decide) ?_
  refine g_callVV C [.ref (Y.ad (b + 1)), .ref (Y.ad (b + 40)), .int p1, .int ((1 : Int32))] [] (ok_X3_lookAtRows hI (isX6_search h0) (isX6_rules h0) (isX6_kitchen h0) h) (cw_RX6_242 _) rfl dc_X3_lookAtRows ⟨Nat.le_of_ble_eq_true rfl, Nat.le_of_ble_eq_true rfl⟩ (isX3_lt (isX6_search h0)) (isX3_sh (isX6_search h0)) rfl rfl rfl rfl (Nat.le_of_ble_eq_true rfl) dX6_surest_43 (fun m8 h => ?_)
  refine g_aload_n C 0 dX6_surest_46 rfl ?_
  refine gf_RX6_62 C h0 dX6_surest_47 ?_
  refine gf_RX6_246 C (isX6_search h0) dX6_surest_50 ?_
  refine g_if_ne C 59 dX6_surest_53 (by decide) (fun c10 => ?_) (fun c10 => ?_)
  · replace h := h.1 c10
    refine g_iload_n C 2 dX6_surest_59 rfl ?_
    refine g_iconst C (v := (1 : Int32)) dX6_surest_60 (by decide) ?_
    refine g_icmp_gt C 79 dX6_surest_61 (by decide) (fun c11 => ?_) (fun c11 => ?_)
    · replace h := h.1 c11
      refine g_aload_n C 0 dX6_surest_79 rfl ?_
      refine gf_RX6_62 C h0 dX6_surest_80 ?_
      refine gf_RX6_273 C (isX6_search h0) dX6_surest_83 ?_
      refine g_iload_n C 2 dX6_surest_86 rfl ?_
      refine g_bipush C (v := (10 : Int32)) dX6_surest_87 (by decide) ?_
      refine g_isub C dX6_surest_89 ?_
      refine g_iald C (isX3_surestRow (isX6_search h0)).1 (isX3_surestRow (isX6_search h0)).2 h.1 dX6_surest_90 ?_
      replace h := h.2
      exact hr _ _ _ _ _ dX6_surest_91 rfl h
    · replace h := h.2 c11
      refine g_aload_n C 0 dX6_surest_64 rfl ?_
      refine gf_RX6_62 C h0 dX6_surest_65 ?_
      refine gf_RX6_270 C (isX6_search h0) dX6_surest_68 ?_
      refine g_iload_n C 1 dX6_surest_71 rfl ?_
      refine g_iload_n C 2 dX6_surest_72 rfl ?_
      refine g_callSI C [.int (m8.1 (b + 60) 13), .int p1, .int p2] [] (ok_X6_lowestTerms hI  h) (cw_RX6_234 _) rfl dc_X6_lowestTerms ⟨Nat.le_of_ble_eq_true rfl, Nat.le_of_ble_eq_true rfl⟩ rfl (Nat.le_of_ble_eq_true rfl) dX6_surest_73 (fun r13 m12 h => ?_)
      refine g_goto C 91 dX6_surest_76 (by decide) ?_
      exact hr _ _ _ _ _ dX6_surest_91 rfl h
  · replace h := h.2 c10
    refine g_bipush C (v := (-4 : Int32)) dX6_surest_56 (by decide) ?_
    exact hr _ _ _ _ _ dX6_surest_58 rfl h
set_option maxRecDepth 20000 in
set_option maxHeartbeats 4000000 in
theorem ok_X6_surest {Y : YT} {l0 : Launch} {b : Nat} {p1 : Int32} {p2 : Int32} {μ : Mem} {Q : Int32 → Mem → Prop} (hI : YI Y) (h0 : isX6 Y b) (h : PX6_surest b p1 p2 μ Q) : MI l0 yX6_surest WX6_surest 7 182 Y [.ref (Y.ad b), .int p1, .int p2] μ Q := by
  refine mI_of (ty := .int) (cc := cX6_surest) (maxL := 3) (by decide +kernel) rfl hI (Nat.le_of_ble_eq_true rfl) (fun X C hr => ?_)
  replace C : Cx X Y 3 cX6_surest RX6 WX6_surest (rmB 7 182) l0 := C
  refine g_lv (lv2 := [(0, .ref (Y.ad b)), (1, .int p1), (2, .int p2)]) [0, 1, 2] ?_ rfl
  unfold PX6_surest at h
  refine g_iload_n C 1 dX6_surest_0 rfl ?_
  refine g_iconst C (v := (1 : Int32)) dX6_surest_1 (by decide) ?_
  refine g_icmp_lt C 27 dX6_surest_2 (by decide) (fun c1 => ?_) (fun c1 => ?_)
  · replace h := h.1 c1
    refine g_iconst C (v := (-1 : Int32)) dX6_surest_27 (by decide) ?_
    exact hr _ _ _ _ _ dX6_surest_28 rfl h
  · replace h := h.2 c1
    refine g_iload_n C 1 dX6_surest_5 rfl ?_
    refine g_iconst C (v := (3 : Int32)) dX6_surest_6 (by decide) ?_
    refine g_icmp_gt C 27 dX6_surest_7 (by decide) (fun c2 => ?_) (fun c2 => ?_)
    · replace h := h.1 c2
      refine g_iconst C (v := (-1 : Int32)) dX6_surest_27 (by decide) ?_
      exact hr _ _ _ _ _ dX6_surest_28 rfl h
    · replace h := h.2 c2
      refine g_iload_n C 2 dX6_surest_10 rfl ?_
      refine g_if_eq C 29 dX6_surest_11 (by decide) (fun c3 => ?_) (fun c3 => ?_)
      · replace h := h.1 c3
        exact tX6_surest_29 C hr hI h0 _ h
      · replace h := h.2 c3
        refine g_iload_n C 2 dX6_surest_14 rfl ?_
        refine g_iconst C (v := (1 : Int32)) dX6_surest_15 (by decide) ?_
        refine g_icmp_eq C 29 dX6_surest_16 (by decide) (fun c4 => ?_) (fun c4 => ?_)
        · replace h := h.1 c4
          exact tX6_surest_29 C hr hI h0 _ h
        · replace h := h.2 c4
          refine g_iload_n C 2 dX6_surest_19 rfl ?_
          refine g_iload_n C 1 dX6_surest_20 rfl ?_
          refine g_callSI C [.int p2, .int p1] [] (ok_X6_isPlace hI  h) (cw_RX6_238 _) rfl dc_X6_isPlace ⟨Nat.le_of_ble_eq_true rfl, Nat.le_of_ble_eq_true rfl⟩ rfl (Nat.le_of_ble_eq_true rfl) dX6_surest_21 (fun r6 m5 h => ?_)
          refine g_if_ne C 29 dX6_surest_24 (by decide) (fun c7 => ?_) (fun c7 => ?_)
          · replace h := h.1 c7
            exact tX6_surest_29 C hr hI h0 _ h
          · replace h := h.2 c7
            refine g_iconst C (v := (-1 : Int32)) dX6_surest_27 (by decide) ?_
            exact hr _ _ _ _ _ dX6_surest_28 rfl h
set_option maxRecDepth 20000 in
set_option maxHeartbeats 4000000 in
theorem tX6_closes_39 {X : XT} {Y : YT} {l0 : Launch} {b : Nat} {p1 : Int32} {p2 : Int32} {Q : Int32 → Mem → Prop} (C : Cx X Y 4 cX6_closes RX6 WX6_closes (rmB 7 182) l0) (hr : RI X Y cX6_closes .int Q) (hI : YI Y) (h0 : isX6 Y b) (μ : Mem) (h : nX6_closes_39 b p1 p2 Q  μ) : G X Y 4 39 [(0, .ref (Y.ad b)), (1, .int p1), (2, .int p2)] [] μ := by
  unfold nX6_closes_39 at h
  refine g_aload_n C 0 dX6_closes_39 rfl ?_
  refine gf_RX6_62 C h0 dX6_closes_40 ?_
  refine g_aload_n C 0 dX6_closes_43 rfl ?_
  refine gf_RX6_10 C h0 dX6_closes_44 ?_
  refine g_aload_n C 0 dX6_closes_47 rfl ?_
  refine gf_RX6_33 C h0 dX6_closes_48 ?_
  refine g_iload_n C 1 dX6_closes_51 rfl ?_
  refine g_iconst C (v := (0 : Int32)) dX6_closes_52 (by decide) ?_
  refine g_callVV C [.ref (Y.ad (b + 1)), .ref (Y.ad (b + 40)), .int p1, .int ((0 : Int32))] [] (ok_X3_lookAtRows hI (isX6_search h0) (isX6_rules h0) (isX6_kitchen h0) h) (cw_RX6_242 _) rfl dc_X3_lookAtRows ⟨Nat.le_of_ble_eq_true rfl, Nat.le_of_ble_eq_true rfl⟩ (isX3_lt (isX6_search h0)) (isX3_sh (isX6_search h0)) rfl rfl rfl rfl (Nat.le_of_ble_eq_true rfl) dX6_closes_53 (fun m9 h => ?_)
  refine g_iload_n C 2 dX6_closes_56 rfl ?_
  by_cases c11 : p2 = 0
  · refine g_tableIn C 84 dX6_closes_57 (by rw [c11]; decide) (by rw [c11]; decide) (by rw [c11]; rfl) (by decide) ?_
    replace h := h.1 c11
    refine g_aload_n C 0 dX6_closes_84 rfl ?_
    refine gf_RX6_62 C h0 dX6_closes_85 ?_
    refine gf_RX6_276 C (isX6_search h0) dX6_closes_88 ?_
    exact hr _ _ _ _ _ dX6_closes_91 rfl h
  by_cases c12 : p2 = 1
  · refine g_tableIn C 92 dX6_closes_57 (by rw [c12]; decide) (by rw [c12]; decide) (by rw [c12]; rfl) (by decide) ?_
    replace h := h.2.1 c12
    refine g_aload_n C 0 dX6_closes_92 rfl ?_
    refine gf_RX6_62 C h0 dX6_closes_93 ?_
    refine gf_RX6_279 C (isX6_search h0) dX6_closes_96 ?_
    exact hr _ _ _ _ _ dX6_closes_99 rfl h
  by_cases c13 : p2 = 2
  · refine g_tableIn C 100 dX6_closes_57 (by rw [c13]; decide) (by rw [c13]; decide) (by rw [c13]; rfl) (by decide) ?_
    replace h := h.2.2.1 c13
    refine g_iconst C (v := (1 : Int32)) dX6_closes_100 (by decide) ?_
    refine g_aload_n C 0 dX6_closes_101 rfl ?_
    refine gf_RX6_10 C h0 dX6_closes_102 ?_
    refine gf_RX6_282 C (isX6_rules h0) dX6_closes_105 ?_
    refine g_ishl C dX6_closes_108 ?_
    refine g_iconst C (v := (1 : Int32)) dX6_closes_109 (by decide) ?_
    refine g_isub C dX6_closes_110 ?_
    refine g_aload_n C 0 dX6_closes_111 rfl ?_
    refine gf_RX6_62 C h0 dX6_closes_112 ?_
    refine gf_RX6_279 C (isX6_search h0) dX6_closes_115 ?_
    refine g_iconst C (v := (-1 : Int32)) dX6_closes_118 (by decide) ?_
    refine g_ixor C dX6_closes_119 ?_
    refine g_iand C dX6_closes_120 ?_
    exact hr _ _ _ _ _ dX6_closes_121 rfl h
  have c15 : p2.toInt < 0 ∨ 2 < p2.toInt := by
    have z := (And.intro True.intro ⟨lv_neT (a := 0) c11 rfl, lv_neT (a := 1) c12 rfl, lv_neT (a := 2) c13 rfl⟩ : True ∧ ¬ p2.toInt = 0 ∧ ¬ p2.toInt = 1 ∧ ¬ p2.toInt = 2)
    omega
  refine g_tableOut C 122 dX6_closes_57 c15 (by decide) ?_
  replace h := h.2.2.2 c15
  refine g_aload_n C 0 dX6_closes_122 rfl ?_
  refine gf_RX6_62 C h0 dX6_closes_123 ?_
  refine gf_RX6_276 C (isX6_search h0) dX6_closes_126 ?_
  refine g_if_ne C 137 dX6_closes_129 (by decide) (fun c14 => ?_) (fun c14 => ?_)
  · replace h := h.1 c14
    refine g_aload_n C 0 dX6_closes_137 rfl ?_
    refine gf_RX6_62 C h0 dX6_closes_138 ?_
    refine gf_RX6_285 C (isX6_search h0) dX6_closes_141 ?_
    refine g_iload_n C 2 dX6_closes_144 rfl ?_
    refine g_bipush C (v := (10 : Int32)) dX6_closes_145 (by decide) ?_
    refine g_isub C dX6_closes_147 ?_
    refine g_iald C (isX3_closingRow (isX6_search h0)).1 (isX3_closingRow (isX6_search h0)).2 h.1 dX6_closes_148 ?_
    replace h := h.2
    exact hr _ _ _ _ _ dX6_closes_149 rfl h
  · replace h := h.2 c14
    refine g_bipush C (v := (-4 : Int32)) dX6_closes_132 (by decide) ?_
    refine g_goto C 149 dX6_closes_134 (by decide) ?_
    exact hr _ _ _ _ _ dX6_closes_149 rfl h
set_option maxRecDepth 20000 in
set_option maxHeartbeats 4000000 in
theorem tX6_closes_14 {X : XT} {Y : YT} {l0 : Launch} {b : Nat} {p1 : Int32} {p2 : Int32} {Q : Int32 → Mem → Prop} (C : Cx X Y 4 cX6_closes RX6 WX6_closes (rmB 7 182) l0) (hr : RI X Y cX6_closes .int Q) (hI : YI Y) (h0 : isX6 Y b) (w0 : Int32) (μ : Mem) (h : nX6_closes_14 b p1 p2 Q w0 μ) : G X Y 4 14 [(0, .ref (Y.ad b)), (1, .int p1), (2, .int p2)] [.int w0] μ := by
  unfold nX6_closes_14 at h
  refine g_istore_n C [(3, .int w0), (0, .ref (Y.ad b)), (1, .int p1), (2, .int p2)] dX6_closes_14 (by decide) rfl ?_
  refine g_iload_n C 2 dX6_closes_15 rfl ?_
  refine g_iconst C (v := (1 : Int32)) dX6_closes_16 (by decide) ?_
  refine g_icmp_lt C 37 dX6_closes_17 (by decide) (fun c3 => ?_) (fun c3 => ?_)
  · replace h := h.1 c3
    refine g_iconst C (v := (-1 : Int32)) dX6_closes_37 (by decide) ?_
    exact hr _ _ _ _ _ dX6_closes_38 rfl h
  · replace h := h.2 c3
    refine g_iload_n C 2 dX6_closes_20 rfl ?_
    refine g_iconst C (v := (5 : Int32)) dX6_closes_21 (by decide) ?_
    refine g_icmp_gt C 37 dX6_closes_22 (by decide) (fun c4 => ?_) (fun c4 => ?_)
    · replace h := h.1 c4
      refine g_iconst C (v := (-1 : Int32)) dX6_closes_37 (by decide) ?_
      exact hr _ _ _ _ _ dX6_closes_38 rfl h
    · replace h := h.2 c4
      refine g_iload_n C 0 dX6_closes_25 rfl ?_
      refine g_if_ne C 39 dX6_closes_26 (by decide) (fun c5 => ?_) (fun c5 => ?_)
      · replace h := h.1 c5
        refine g_lv (lv2 := [(0, .ref (Y.ad b)), (1, .int p1), (2, .int p2)]) [1, 2, 3] ?_ rfl
        exact tX6_closes_39 C hr hI h0 _ h
      · replace h := h.2 c5
        refine g_iload_n C 3 dX6_closes_29 rfl ?_
        refine g_iload_n C 2 dX6_closes_30 rfl ?_
        refine g_callSI C [.int p2, .int p1] [] (ok_X6_isPlace hI  h) (cw_RX6_238 _) rfl dc_X6_isPlace ⟨Nat.le_of_ble_eq_true rfl, Nat.le_of_ble_eq_true rfl⟩ rfl (Nat.le_of_ble_eq_true rfl) dX6_closes_31 (fun r7 m6 h => ?_)
        refine g_if_ne C 39 dX6_closes_34 (by decide) (fun c8 => ?_) (fun c8 => ?_)
        · replace h := h.1 c8
          refine g_lv (lv2 := [(0, .ref (Y.ad b)), (1, .int p1), (2, .int p2)]) [1, 2, 3] ?_ rfl
          exact tX6_closes_39 C hr hI h0 _ h
        · replace h := h.2 c8
          refine g_iconst C (v := (-1 : Int32)) dX6_closes_37 (by decide) ?_
          exact hr _ _ _ _ _ dX6_closes_38 rfl h
set_option maxRecDepth 20000 in
set_option maxHeartbeats 4000000 in
theorem tX6_closes_13 {X : XT} {Y : YT} {l0 : Launch} {b : Nat} {p1 : Int32} {p2 : Int32} {Q : Int32 → Mem → Prop} (C : Cx X Y 4 cX6_closes RX6 WX6_closes (rmB 7 182) l0) (hr : RI X Y cX6_closes .int Q) (hI : YI Y) (h0 : isX6 Y b) (μ : Mem) (h : nX6_closes_13 b p1 p2 Q  μ) : G X Y 4 13 [(0, .ref (Y.ad b)), (1, .int p1), (2, .int p2)] [] μ := by
  unfold nX6_closes_13 at h
  refine g_iconst C (v := (0 : Int32)) dX6_closes_13 (by decide) ?_
  exact tX6_closes_14 C hr hI h0 _ _ h
set_option maxRecDepth 20000 in
set_option maxHeartbeats 4000000 in
theorem ok_X6_closes {Y : YT} {l0 : Launch} {b : Nat} {p1 : Int32} {p2 : Int32} {μ : Mem} {Q : Int32 → Mem → Prop} (hI : YI Y) (h0 : isX6 Y b) (h : PX6_closes b p1 p2 μ Q) : MI l0 yX6_closes WX6_closes 7 182 Y [.ref (Y.ad b), .int p1, .int p2] μ Q := by
  refine mI_of (ty := .int) (cc := cX6_closes) (maxL := 4) (by decide +kernel) rfl hI (Nat.le_of_ble_eq_true rfl) (fun X C hr => ?_)
  replace C : Cx X Y 4 cX6_closes RX6 WX6_closes (rmB 7 182) l0 := C
  refine g_lv (lv2 := [(0, .ref (Y.ad b)), (1, .int p1), (2, .int p2)]) [0, 1, 2] ?_ rfl
  unfold PX6_closes at h
  refine g_iload_n C 2 dX6_closes_0 rfl ?_
  refine g_if_lt C 13 dX6_closes_1 (by decide) (fun c1 => ?_) (fun c1 => ?_)
  · replace h := h.1 c1
    exact tX6_closes_13 C hr hI h0 _ h
  · replace h := h.2 c1
    refine g_iload_n C 2 dX6_closes_4 rfl ?_
    refine g_iconst C (v := (2 : Int32)) dX6_closes_5 (by decide) ?_
    refine g_icmp_gt C 13 dX6_closes_6 (by decide) (fun c2 => ?_) (fun c2 => ?_)
    · replace h := h.1 c2
      exact tX6_closes_13 C hr hI h0 _ h
    · replace h := h.2 c2
      refine g_iconst C (v := (1 : Int32)) dX6_closes_9 (by decide) ?_
      refine g_goto C 14 dX6_closes_10 (by decide) ?_
      exact tX6_closes_14 C hr hI h0 _ _ h
