def SX7_next_8 (X : XT) (Y : YT) (b : Nat) : Mem → Prop := fun  μ => G X Y 2 8 [(0, .ref (Y.ad b))] [] μ
def SX7_next_82 (X : XT) (Y : YT) (b : Nat) : Mem → Prop := fun  μ => G X Y 2 82 [(0, .ref (Y.ad b))] [] μ
def SX7_next_140 (X : XT) (Y : YT) (b : Nat) : Mem → Prop := fun  μ => G X Y 2 140 [(0, .ref (Y.ad b))] [] μ
set_option maxRecDepth 20000 in
set_option maxHeartbeats 4000000 in
theorem tX7_next_260 {X : XT} {Y : YT} {l0 : Launch} {b : Nat} {Q : Mem → Prop} (C : Cx X Y 2 cX7_next RX7 WX7_next (rmB 1 25) l0) (hr : RV X Y cX7_next Q) (hI : YI Y) (h0 : isX7 Y b) (w0 : Int32) (μ : Mem) (h : nX7_next_260 b Q (SX7_next_8 X Y b) (SX7_next_82 X Y b) (SX7_next_140 X Y b) w0 μ) : G X Y 2 260 [(0, .ref (Y.ad b))] [.int w0, .ref (Y.ad b)] μ := by
  unfold nX7_next_260 at h
  refine g_iconst C (v := (1 : Int32)) dX7_next_260 (by decide) ?_
  refine g_callVV C [.int w0, .int ((1 : Int32))] [] (ok_X7_needs hI h0 h) (cw_RX7_184 _) rfl dc_X7_needs ⟨Nat.le_of_ble_eq_true rfl, Nat.le_of_ble_eq_true rfl⟩ (isX7_lt h0) (isX7_sh h0) rfl rfl rfl rfl (Nat.le_of_ble_eq_true rfl) dX7_next_261 (fun m33 h => ?_)
  refine g_aload_n C 0 dX7_next_264 rfl ?_
  refine g_dup C dX7_next_265 rfl ?_
  refine gf_RX7_155 C h0 dX7_next_266 ?_
  refine g_iconst C (v := (1 : Int32)) dX7_next_269 (by decide) ?_
  refine g_iadd C dX7_next_270 ?_
  refine gp_RX7_155 C h0 dX7_next_271 ?_
  exact hr _ _ _ _ dX7_next_274 h
set_option maxRecDepth 20000 in
set_option maxHeartbeats 4000000 in
theorem tX7_next_8 {X : XT} {Y : YT} {l0 : Launch} {b : Nat} {Q : Mem → Prop} (C : Cx X Y 2 cX7_next RX7 WX7_next (rmB 1 25) l0) (hr : RV X Y cX7_next Q) (hI : YI Y) (h0 : isX7 Y b) (μ : Mem) (h : nX7_next_8 b Q (SX7_next_8 X Y b) (SX7_next_82 X Y b) (SX7_next_140 X Y b) μ) : G X Y 2 8 [(0, .ref (Y.ad b))] [] μ := by
  unfold nX7_next_8 at h
  refine g_aload_n C 0 dX7_next_8 rfl ?_
  refine g_aload_n C 0 dX7_next_9 rfl ?_
  refine gf_RX7_155 C h0 dX7_next_10 ?_
  refine g_callVI C [.int (μ.1 b 27)] [] (ok_X7_look hI h0 h) (cw_RX7_158 _) rfl dc_X7_look ⟨Nat.le_of_ble_eq_true rfl, Nat.le_of_ble_eq_true rfl⟩ (isX7_lt h0) (isX7_sh h0) rfl rfl rfl rfl (Nat.le_of_ble_eq_true rfl) dX7_next_13 (fun r3 m2 h => ?_)
  refine g_bipush C (v := (32 : Int32)) dX7_next_16 (by decide) ?_
  refine g_icmp_ne C 34 dX7_next_18 (by decide) (fun c4 => ?_) (fun c4 => ?_)
  · replace h := h.1 c4
    refine g_aload_n C 0 dX7_next_34 rfl ?_
    refine g_aload_n C 0 dX7_next_35 rfl ?_
    refine gf_RX7_155 C h0 dX7_next_36 ?_
    refine gp_RX7_149 C h0 dX7_next_39 ?_
    refine g_aload_n C 0 dX7_next_42 rfl ?_
    refine g_aload_n C 0 dX7_next_43 rfl ?_
    refine gf_RX7_155 C h0 dX7_next_44 ?_
    refine g_callVI C [.int ((ms m2 b 28 (m2.1 b 27)).1 b 27)] [] (ok_X7_look hI h0 h) (cw_RX7_158 _) rfl dc_X7_look ⟨Nat.le_of_ble_eq_true rfl, Nat.le_of_ble_eq_true rfl⟩ (isX7_lt h0) (isX7_sh h0) rfl rfl rfl rfl (Nat.le_of_ble_eq_true rfl) dX7_next_47 (fun r6 m5 h => ?_)
    refine g_istore_n C [(1, .int r6), (0, .ref (Y.ad b))] dX7_next_50 (by decide) rfl ?_
    refine g_iload_n C 0 dX7_next_51 rfl ?_
    refine g_if_ge C 63 dX7_next_52 (by decide) (fun c7 => ?_) (fun c7 => ?_)
    · replace h := h.1 c7
      refine g_iload_n C 0 dX7_next_63 rfl ?_
      refine g_i2l C dX7_next_64 ?_
      refine g_ldc2 C (v := (97 : Int64)) (List.mem_cons_of_mem _ mL_RX7_173) dX7_next_65 ?_
      refine g_ldc2 C (v := (122 : Int64)) (List.mem_cons_of_mem _ mL_RX7_175) dX7_next_68 ?_
      refine g_callSI C [.long r6.toInt64, .long ((97 : Int64)), .long ((122 : Int64))] [] (ok_X7_in hI  h) (cw_RX7_134 _) rfl dc_X7_in ⟨Nat.le_of_ble_eq_true rfl, Nat.le_of_ble_eq_true rfl⟩ rfl (Nat.le_of_ble_eq_true rfl) dX7_next_71 (fun r9 m8 h => ?_)
      refine g_if_eq C 116 dX7_next_74 (by decide) (fun c10 => ?_) (fun c10 => ?_)
      · replace h := h.1 c10
        refine g_iload_n C 0 dX7_next_116 rfl ?_
        refine g_i2l C dX7_next_117 ?_
        refine g_ldc2 C (v := (48 : Int64)) (List.mem_cons_of_mem _ mL_RX7_177) dX7_next_118 ?_
        refine g_ldc2 C (v := (57 : Int64)) (List.mem_cons_of_mem _ mL_RX7_179) dX7_next_121 ?_
        refine g_callSI C [.long r6.toInt64, .long ((48 : Int64)), .long ((57 : Int64))] [] (ok_X7_in hI  h) (cw_RX7_134 _) rfl dc_X7_in ⟨Nat.le_of_ble_eq_true rfl, Nat.le_of_ble_eq_true rfl⟩ rfl (Nat.le_of_ble_eq_true rfl) dX7_next_124 (fun r12 m11 h => ?_)
        refine g_if_eq C 243 dX7_next_127 (by decide) (fun c13 => ?_) (fun c13 => ?_)
        · replace h := h.1 c13
          refine g_aload_n C 1 dX7_next_243 rfl ?_
          refine g_iconst C (v := (3 : Int32)) dX7_next_244 (by decide) ?_
          refine gp_RX7_170 C h0 dX7_next_245 ?_
          refine g_aload_n C 1 dX7_next_248 rfl ?_
          refine g_iload_n C 0 dX7_next_249 rfl ?_
          refine g_bipush C (v := (59 : Int32)) dX7_next_250 (by decide) ?_
          refine g_icmp_ne C 259 dX7_next_252 (by decide) (fun c14 => ?_) (fun c14 => ?_)
          · replace h := h.1 c14
            refine g_iconst C (v := (0 : Int32)) dX7_next_259 (by decide) ?_
            refine g_lv (lv2 := [(0, .ref (Y.ad b))]) [1] ?_ rfl
            exact tX7_next_260 C hr hI h0 _ _ h
          · replace h := h.2 c14
            refine g_iconst C (v := (1 : Int32)) dX7_next_255 (by decide) ?_
            refine g_goto C 260 dX7_next_256 (by decide) ?_
            refine g_lv (lv2 := [(0, .ref (Y.ad b))]) [1] ?_ rfl
            exact tX7_next_260 C hr hI h0 _ _ h
        · replace h := h.2 c13
          refine g_aload_n C 1 dX7_next_130 rfl ?_
          refine g_iconst C (v := (2 : Int32)) dX7_next_131 (by decide) ?_
          refine gp_RX7_170 C h0 dX7_next_132 ?_
          refine g_aload_n C 1 dX7_next_135 rfl ?_
          refine g_iconst C (v := (0 : Int32)) dX7_next_136 (by decide) ?_
          refine gp_RX7_181 C h0 dX7_next_137 ?_
          refine g_mem (fun m15 em15 => ?_)
          replace h := h m15 em15
          refine g_lv (lv2 := [(0, .ref (Y.ad b))]) [1] ?_ rfl
          exact h
      · replace h := h.2 c10
        refine g_aload_n C 1 dX7_next_77 rfl ?_
        refine g_iconst C (v := (1 : Int32)) dX7_next_78 (by decide) ?_
        refine gp_RX7_170 C h0 dX7_next_79 ?_
        refine g_lv (lv2 := [(0, .ref (Y.ad b))]) [1] ?_ rfl
        exact h
    · replace h := h.2 c7
      refine g_aload_n C 1 dX7_next_55 rfl ?_
      refine g_iconst C (v := (0 : Int32)) dX7_next_56 (by decide) ?_
      refine gp_RX7_170 C h0 dX7_next_57 ?_
      refine g_goto C 274 dX7_next_60 (by decide) ?_
      exact hr _ _ _ _ dX7_next_274 h
  · replace h := h.2 c4
    refine g_aload_n C 0 dX7_next_21 rfl ?_
    refine g_dup C dX7_next_22 rfl ?_
    refine gf_RX7_155 C h0 dX7_next_23 ?_
    refine g_iconst C (v := (1 : Int32)) dX7_next_26 (by decide) ?_
    refine g_iadd C dX7_next_27 ?_
    refine gp_RX7_155 C h0 dX7_next_28 ?_
    refine g_goto C 8 dX7_next_31 (by decide) ?_
    exact h
set_option maxRecDepth 20000 in
set_option maxHeartbeats 4000000 in
theorem tX7_next_82 {X : XT} {Y : YT} {l0 : Launch} {b : Nat} {Q : Mem → Prop} (C : Cx X Y 2 cX7_next RX7 WX7_next (rmB 1 25) l0) (hr : RV X Y cX7_next Q) (hI : YI Y) (h0 : isX7 Y b) (μ : Mem) (h : nX7_next_82 b Q (SX7_next_8 X Y b) (SX7_next_82 X Y b) (SX7_next_140 X Y b) μ) : G X Y 2 82 [(0, .ref (Y.ad b))] [] μ := by
  unfold nX7_next_82 at h
  refine g_aload_n C 0 dX7_next_82 rfl ?_
  refine g_aload_n C 0 dX7_next_83 rfl ?_
  refine gf_RX7_155 C h0 dX7_next_84 ?_
  refine g_callVI C [.int (μ.1 b 27)] [] (ok_X7_look hI h0 h) (cw_RX7_158 _) rfl dc_X7_look ⟨Nat.le_of_ble_eq_true rfl, Nat.le_of_ble_eq_true rfl⟩ (isX7_lt h0) (isX7_sh h0) rfl rfl rfl rfl (Nat.le_of_ble_eq_true rfl) dX7_next_87 (fun r17 m16 h => ?_)
  refine g_i2l C dX7_next_90 ?_
  refine g_ldc2 C (v := (97 : Int64)) (List.mem_cons_of_mem _ mL_RX7_173) dX7_next_91 ?_
  refine g_ldc2 C (v := (122 : Int64)) (List.mem_cons_of_mem _ mL_RX7_175) dX7_next_94 ?_
  refine g_callSI C [.long r17.toInt64, .long ((97 : Int64)), .long ((122 : Int64))] [] (ok_X7_in hI  h) (cw_RX7_134 _) rfl dc_X7_in ⟨Nat.le_of_ble_eq_true rfl, Nat.le_of_ble_eq_true rfl⟩ rfl (Nat.le_of_ble_eq_true rfl) dX7_next_97 (fun r19 m18 h => ?_)
  refine g_if_eq C 274 dX7_next_100 (by decide) (fun c20 => ?_) (fun c20 => ?_)
  · replace h := h.1 c20
    exact hr _ _ _ _ dX7_next_274 h
  · replace h := h.2 c20
    refine g_aload_n C 0 dX7_next_103 rfl ?_
    refine g_dup C dX7_next_104 rfl ?_
    refine gf_RX7_155 C h0 dX7_next_105 ?_
    refine g_iconst C (v := (1 : Int32)) dX7_next_108 (by decide) ?_
    refine g_iadd C dX7_next_109 ?_
    refine gp_RX7_155 C h0 dX7_next_110 ?_
    refine g_goto C 82 dX7_next_113 (by decide) ?_
    exact h
set_option maxRecDepth 20000 in
set_option maxHeartbeats 4000000 in
theorem tX7_next_201 {X : XT} {Y : YT} {l0 : Launch} {b : Nat} {Q : Mem → Prop} (C : Cx X Y 2 cX7_next RX7 WX7_next (rmB 1 25) l0) (hr : RV X Y cX7_next Q) (hI : YI Y) (h0 : isX7 Y b) (w0 : Int32) (μ : Mem) (h : nX7_next_201 b Q (SX7_next_8 X Y b) (SX7_next_82 X Y b) (SX7_next_140 X Y b) w0 μ) : G X Y 2 201 [(0, .ref (Y.ad b))] [.int w0, .ref (Y.ad b)] μ := by
  unfold nX7_next_201 at h
  refine gp_RX7_181 C h0 dX7_next_201 ?_
  refine g_aload_n C 0 dX7_next_204 rfl ?_
  refine g_dup C dX7_next_205 rfl ?_
  refine gf_RX7_155 C h0 dX7_next_206 ?_
  refine g_iconst C (v := (1 : Int32)) dX7_next_209 (by decide) ?_
  refine g_iadd C dX7_next_210 ?_
  refine gp_RX7_155 C h0 dX7_next_211 ?_
  refine g_mem (fun m30 em30 => ?_)
  replace h := h m30 em30
  refine g_goto C 140 dX7_next_214 (by decide) ?_
  exact h
set_option maxRecDepth 20000 in
set_option maxHeartbeats 4000000 in
theorem tX7_next_236 {X : XT} {Y : YT} {l0 : Launch} {b : Nat} {Q : Mem → Prop} (C : Cx X Y 2 cX7_next RX7 WX7_next (rmB 1 25) l0) (hr : RV X Y cX7_next Q) (hI : YI Y) (h0 : isX7 Y b) (w0 : Int32) (μ : Mem) (h : nX7_next_236 b Q (SX7_next_8 X Y b) (SX7_next_82 X Y b) (SX7_next_140 X Y b) w0 μ) : G X Y 2 236 [(0, .ref (Y.ad b))] [.int w0, .ref (Y.ad b)] μ := by
  unfold nX7_next_236 at h
  refine g_iconst C (v := (1 : Int32)) dX7_next_236 (by decide) ?_
  refine g_callVV C [.int w0, .int ((1 : Int32))] [] (ok_X7_needs hI h0 h) (cw_RX7_184 _) rfl dc_X7_needs ⟨Nat.le_of_ble_eq_true rfl, Nat.le_of_ble_eq_true rfl⟩ (isX7_lt h0) (isX7_sh h0) rfl rfl rfl rfl (Nat.le_of_ble_eq_true rfl) dX7_next_237 (fun m31 h => ?_)
  refine g_goto C 274 dX7_next_240 (by decide) ?_
  exact hr _ _ _ _ dX7_next_274 h
set_option maxRecDepth 20000 in
set_option maxHeartbeats 4000000 in
theorem tX7_next_140 {X : XT} {Y : YT} {l0 : Launch} {b : Nat} {Q : Mem → Prop} (C : Cx X Y 2 cX7_next RX7 WX7_next (rmB 1 25) l0) (hr : RV X Y cX7_next Q) (hI : YI Y) (h0 : isX7 Y b) (μ : Mem) (h : nX7_next_140 b Q (SX7_next_8 X Y b) (SX7_next_82 X Y b) (SX7_next_140 X Y b) μ) : G X Y 2 140 [(0, .ref (Y.ad b))] [] μ := by
  unfold nX7_next_140 at h
  refine g_aload_n C 0 dX7_next_140 rfl ?_
  refine g_aload_n C 0 dX7_next_141 rfl ?_
  refine gf_RX7_155 C h0 dX7_next_142 ?_
  refine g_callVI C [.int (μ.1 b 27)] [] (ok_X7_look hI h0 h) (cw_RX7_158 _) rfl dc_X7_look ⟨Nat.le_of_ble_eq_true rfl, Nat.le_of_ble_eq_true rfl⟩ (isX7_lt h0) (isX7_sh h0) rfl rfl rfl rfl (Nat.le_of_ble_eq_true rfl) dX7_next_145 (fun r22 m21 h => ?_)
  refine g_i2l C dX7_next_148 ?_
  refine g_ldc2 C (v := (48 : Int64)) (List.mem_cons_of_mem _ mL_RX7_177) dX7_next_149 ?_
  refine g_ldc2 C (v := (57 : Int64)) (List.mem_cons_of_mem _ mL_RX7_179) dX7_next_152 ?_
  refine g_callSI C [.long r22.toInt64, .long ((48 : Int64)), .long ((57 : Int64))] [] (ok_X7_in hI  h) (cw_RX7_134 _) rfl dc_X7_in ⟨Nat.le_of_ble_eq_true rfl, Nat.le_of_ble_eq_true rfl⟩ rfl (Nat.le_of_ble_eq_true rfl) dX7_next_155 (fun r24 m23 h => ?_)
  refine g_if_eq C 217 dX7_next_158 (by decide) (fun c25 => ?_) (fun c25 => ?_)
  · replace h := h.1 c25
    refine g_aload_n C 0 dX7_next_217 rfl ?_
    refine g_aload_n C 0 dX7_next_218 rfl ?_
    refine gf_RX7_155 C h0 dX7_next_219 ?_
    refine g_aload_n C 0 dX7_next_222 rfl ?_
    refine gf_RX7_149 C h0 dX7_next_223 ?_
    refine g_isub C dX7_next_226 ?_
    refine g_iconst C (v := (2 : Int32)) dX7_next_227 (by decide) ?_
    refine g_icmp_gt C 235 dX7_next_228 (by decide) (fun c26 => ?_) (fun c26 => ?_)
    · replace h := h.1 c26
      refine g_iconst C (v := (0 : Int32)) dX7_next_235 (by decide) ?_
      exact tX7_next_236 C hr hI h0 _ _ h
    · replace h := h.2 c26
      refine g_iconst C (v := (1 : Int32)) dX7_next_231 (by decide) ?_
      refine g_goto C 236 dX7_next_232 (by decide) ?_
      exact tX7_next_236 C hr hI h0 _ _ h
  · replace h := h.2 c25
    refine g_aload_n C 0 dX7_next_161 rfl ?_
    refine g_aload_n C 0 dX7_next_162 rfl ?_
    refine gf_RX7_155 C h0 dX7_next_163 ?_
    refine g_aload_n C 0 dX7_next_166 rfl ?_
    refine gf_RX7_149 C h0 dX7_next_167 ?_
    refine g_isub C dX7_next_170 ?_
    refine g_iconst C (v := (2 : Int32)) dX7_next_171 (by decide) ?_
    refine g_icmp_ge C 197 dX7_next_172 (by decide) (fun c27 => ?_) (fun c27 => ?_)
    · replace h := h.1 c27
      refine g_aload_n C 0 dX7_next_197 rfl ?_
      refine gf_RX7_181 C h0 dX7_next_198 ?_
      exact tX7_next_201 C hr hI h0 _ _ h
    · replace h := h.2 c27
      refine g_bipush C (v := (10 : Int32)) dX7_next_175 (by decide) ?_
      refine g_aload_n C 0 dX7_next_177 rfl ?_
      refine gf_RX7_181 C h0 dX7_next_178 ?_
      refine g_imul C dX7_next_181 ?_
      refine g_aload_n C 0 dX7_next_182 rfl ?_
      refine g_aload_n C 0 dX7_next_183 rfl ?_
      refine gf_RX7_155 C h0 dX7_next_184 ?_
      refine g_callVI C [.int (m23.1 b 27)] [.int (((10 : Int32)) * (m23.1 b 30)), .ref (Y.ad b)] (ok_X7_look hI h0 h) (cw_RX7_158 _) rfl dc_X7_look ⟨Nat.le_of_ble_eq_true rfl, Nat.le_of_ble_eq_true rfl⟩ (isX7_lt h0) (isX7_sh h0) rfl rfl rfl rfl (Nat.le_of_ble_eq_true rfl) dX7_next_187 (fun r29 m28 h => ?_)
      refine g_iadd C dX7_next_190 ?_
      refine g_bipush C (v := (48 : Int32)) dX7_next_191 (by decide) ?_
      refine g_isub C dX7_next_193 ?_
      refine g_goto C 201 dX7_next_194 (by decide) ?_
      exact tX7_next_201 C hr hI h0 _ _ h
set_option maxRecDepth 20000 in
set_option maxHeartbeats 4000000 in
theorem ok_X7_next {Y : YT} {l0 : Launch} {b : Nat} {μ : Mem} {Q : Mem → Prop} (hI : YI Y) (h0 : isX7 Y b) (h : PX7_next b μ Q) : MV l0 yX7_next WX7_next 1 25 Y [.ref (Y.ad b)] μ Q := by
  refine mV_of (cc := cX7_next) (maxL := 2) (by decide +kernel) rfl hI (Nat.le_of_ble_eq_true rfl) (fun X C hr => ?_)
  replace C : Cx X Y 2 cX7_next RX7 WX7_next (rmB 1 25) l0 := C
  refine g_lv (lv2 := [(0, .ref (Y.ad b))]) [0] ?_ rfl
  unfold PX7_next at h
  replace h := h (SX7_next_8 X Y b) (SX7_next_82 X Y b) (SX7_next_140 X Y b) (fun  μ z => tX7_next_8 C hr hI h0  μ z) (fun  μ z => tX7_next_82 C hr hI h0  μ z) (fun  μ z => tX7_next_140 C hr hI h0  μ z)
  refine g_aload_n C 0 dX7_next_0 rfl ?_
  refine gf_RX7_146 C h0 dX7_next_1 ?_
  refine g_if_le C 8 dX7_next_4 (by decide) (fun c1 => ?_) (fun c1 => ?_)
  · replace h := h.1 c1
    exact h
  · replace h := h.2 c1
    exact hr _ _ _ _ dX7_next_7 h
set_option maxRecDepth 20000 in
set_option maxHeartbeats 4000000 in
theorem tX7_isNumber_25 {X : XT} {Y : YT} {l0 : Launch} {b : Nat} {p1 : Int32} {p2 : Int32} {Q : Mem → Prop} (C : Cx X Y 3 cX7_isNumber RX7 WX7_isNumber (rmB 1 25) l0) (hr : RV X Y cX7_isNumber Q) (hI : YI Y) (h0 : isX7 Y b) (μ : Mem) (h : nX7_isNumber_25 b p1 p2 Q  μ) : G X Y 3 25 [(0, .ref (Y.ad b)), (1, .int p1), (2, .int p2)] [] μ := by
  unfold nX7_isNumber_25 at h
  refine g_aload_n C 0 dX7_isNumber_25 rfl ?_
  refine gf_RX7_146 C h0 dX7_isNumber_26 ?_
  refine g_if_ne C 49 dX7_isNumber_29 (by decide) (fun c5 => ?_) (fun c5 => ?_)
  · replace h := h.1 c5
    exact hr _ _ _ _ dX7_isNumber_49 h
  · replace h := h.2 c5
    refine g_aload_n C 0 dX7_isNumber_32 rfl ?_
    refine g_aload_n C 0 dX7_isNumber_33 rfl ?_
    refine gf_RX7_181 C h0 dX7_isNumber_34 ?_
    refine g_i2l C dX7_isNumber_37 ?_
    refine g_iload_n C 1 dX7_isNumber_38 rfl ?_
    refine g_i2l C dX7_isNumber_39 ?_
    refine g_iload_n C 2 dX7_isNumber_40 rfl ?_
    refine g_i2l C dX7_isNumber_41 ?_
    refine g_callSI C [.long ((μ.1 b 30).toInt64), .long p1.toInt64, .long p2.toInt64] [.ref (Y.ad b)] (ok_X7_in hI  h) (cw_RX7_134 _) rfl dc_X7_in ⟨Nat.le_of_ble_eq_true rfl, Nat.le_of_ble_eq_true rfl⟩ rfl (Nat.le_of_ble_eq_true rfl) dX7_isNumber_42 (fun r7 m6 h => ?_)
    refine g_iconst C (v := (3 : Int32)) dX7_isNumber_45 (by decide) ?_
    refine g_callVV C [.int r7, .int ((3 : Int32))] [] (ok_X7_needs hI h0 h) (cw_RX7_184 _) rfl dc_X7_needs ⟨Nat.le_of_ble_eq_true rfl, Nat.le_of_ble_eq_true rfl⟩ (isX7_lt h0) (isX7_sh h0) rfl rfl rfl rfl (Nat.le_of_ble_eq_true rfl) dX7_isNumber_46 (fun m8 h => ?_)
    exact hr _ _ _ _ dX7_isNumber_49 h
set_option maxRecDepth 20000 in
set_option maxHeartbeats 4000000 in
theorem tX7_isNumber_21 {X : XT} {Y : YT} {l0 : Launch} {b : Nat} {p1 : Int32} {p2 : Int32} {Q : Mem → Prop} (C : Cx X Y 3 cX7_isNumber RX7 WX7_isNumber (rmB 1 25) l0) (hr : RV X Y cX7_isNumber Q) (hI : YI Y) (h0 : isX7 Y b) (w0 : Int32) (μ : Mem) (h : nX7_isNumber_21 b p1 p2 Q w0 μ) : G X Y 3 21 [(0, .ref (Y.ad b)), (1, .int p1), (2, .int p2)] [.int w0, .ref (Y.ad b)] μ := by
  unfold nX7_isNumber_21 at h
  refine g_iconst C (v := (2 : Int32)) dX7_isNumber_21 (by decide) ?_
  refine g_callVV C [.int w0, .int ((2 : Int32))] [] (ok_X7_needs hI h0 h) (cw_RX7_184 _) rfl dc_X7_needs ⟨Nat.le_of_ble_eq_true rfl, Nat.le_of_ble_eq_true rfl⟩ (isX7_lt h0) (isX7_sh h0) rfl rfl rfl rfl (Nat.le_of_ble_eq_true rfl) dX7_isNumber_22 (fun m3 h => ?_)
  exact tX7_isNumber_25 C hr hI h0 _ h
set_option maxRecDepth 20000 in
set_option maxHeartbeats 4000000 in
theorem ok_X7_isNumber {Y : YT} {l0 : Launch} {b : Nat} {p1 : Int32} {p2 : Int32} {μ : Mem} {Q : Mem → Prop} (hI : YI Y) (h0 : isX7 Y b) (h : PX7_isNumber b p1 p2 μ Q) : MV l0 yX7_isNumber WX7_isNumber 1 25 Y [.ref (Y.ad b), .int p1, .int p2] μ Q := by
  refine mV_of (cc := cX7_isNumber) (maxL := 3) (by decide +kernel) rfl hI (Nat.le_of_ble_eq_true rfl) (fun X C hr => ?_)
  replace C : Cx X Y 3 cX7_isNumber RX7 WX7_isNumber (rmB 1 25) l0 := C
  refine g_lv (lv2 := [(0, .ref (Y.ad b)), (1, .int p1), (2, .int p2)]) [0, 1, 2] ?_ rfl
  unfold PX7_isNumber at h
  refine g_aload_n C 0 dX7_isNumber_0 rfl ?_
  refine gf_RX7_146 C h0 dX7_isNumber_1 ?_
  refine g_if_ne C 25 dX7_isNumber_4 (by decide) (fun c1 => ?_) (fun c1 => ?_)
  · replace h := h.1 c1
    exact tX7_isNumber_25 C hr hI h0 _ h
  · replace h := h.2 c1
    refine g_aload_n C 0 dX7_isNumber_7 rfl ?_
    refine g_aload_n C 0 dX7_isNumber_8 rfl ?_
    refine gf_RX7_170 C h0 dX7_isNumber_9 ?_
    refine g_iconst C (v := (2 : Int32)) dX7_isNumber_12 (by decide) ?_
    refine g_icmp_ne C 20 dX7_isNumber_13 (by decide) (fun c2 => ?_) (fun c2 => ?_)
    · replace h := h.1 c2
      refine g_iconst C (v := (0 : Int32)) dX7_isNumber_20 (by decide) ?_
      exact tX7_isNumber_21 C hr hI h0 _ _ h
    · replace h := h.2 c2
      refine g_iconst C (v := (1 : Int32)) dX7_isNumber_16 (by decide) ?_
      refine g_goto C 21 dX7_isNumber_17 (by decide) ?_
      exact tX7_isNumber_21 C hr hI h0 _ _ h
set_option maxRecDepth 20000 in
set_option maxHeartbeats 4000000 in
theorem ok_X7_readNumber {Y : YT} {l0 : Launch} {b : Nat} {p1 : Int32} {p2 : Int32} {μ : Mem} {Q : Int32 → Mem → Prop} (hI : YI Y) (h0 : isX7 Y b) (h : PX7_readNumber b p1 p2 μ Q) : MI l0 yX7_readNumber WX7_readNumber 2 47 Y [.ref (Y.ad b), .int p1, .int p2] μ Q := by
  refine mI_of (ty := .int) (cc := cX7_readNumber) (maxL := 4) (by decide +kernel) rfl hI (Nat.le_of_ble_eq_true rfl) (fun X C hr => ?_)
  replace C : Cx X Y 4 cX7_readNumber RX7 WX7_readNumber (rmB 2 47) l0 := C
  refine g_lv (lv2 := [(0, .ref (Y.ad b)), (1, .int p1), (2, .int p2)]) [0, 1, 2] ?_ rfl
  unfold PX7_readNumber at h
  refine g_aload_n C 0 dX7_readNumber_0 rfl ?_
  refine g_iload_n C 1 dX7_readNumber_1 rfl ?_
  refine g_iload_n C 2 dX7_readNumber_2 rfl ?_
  refine g_callVV C [.int p1, .int p2] [] (ok_X7_isNumber hI h0 h) (cw_RX7_188 _) rfl dc_X7_isNumber ⟨Nat.le_of_ble_eq_true rfl, Nat.le_of_ble_eq_true rfl⟩ (isX7_lt h0) (isX7_sh h0) rfl rfl rfl rfl (Nat.le_of_ble_eq_true rfl) dX7_readNumber_3 (fun m1 h => ?_)
  refine g_aload_n C 0 dX7_readNumber_6 rfl ?_
  refine gf_RX7_181 C h0 dX7_readNumber_7 ?_
  refine g_istore_n C [(3, .int (m1.1 b 30)), (0, .ref (Y.ad b)), (1, .int p1), (2, .int p2)] dX7_readNumber_10 (by decide) rfl ?_
  refine g_aload_n C 1 dX7_readNumber_11 rfl ?_
  refine g_callVV C [] [] (ok_X7_next hI h0 h) (cw_RX7_192 _) rfl dc_X7_next ⟨Nat.le_of_ble_eq_true rfl, Nat.le_of_ble_eq_true rfl⟩ (isX7_lt h0) (isX7_sh h0) rfl rfl rfl rfl (Nat.le_of_ble_eq_true rfl) dX7_readNumber_12 (fun m3 h => ?_)
  refine g_iload_n C 0 dX7_readNumber_15 rfl ?_
  exact hr _ _ _ _ _ dX7_readNumber_16 rfl h
def SX7_letters_8 (X : XT) (Y : YT) (b : Nat) (p1 : Int32) (p2 : Int32) : Int32 → Int32 → Mem → Prop := fun v3 v4 μ => G X Y 6 8 [(0, .ref (Y.ad b)), (1, .int p1), (2, .int p2), (3, .int v3), (4, .int v4)] [] μ
set_option maxRecDepth 20000 in
set_option maxHeartbeats 4000000 in
theorem tX7_letters_8 {X : XT} {Y : YT} {l0 : Launch} {b : Nat} {p1 : Int32} {p2 : Int32} {Q : Int32 → Mem → Prop} (C : Cx X Y 6 cX7_letters RX7 WX7_letters (rmB 1 25) l0) (hr : RI X Y cX7_letters .int Q) (hI : YI Y) (h0 : isX7 Y b) (v3 : Int32) (v4 : Int32) (μ : Mem) (h : nX7_letters_8 b p1 p2 Q (SX7_letters_8 X Y b p1 p2) v3 v4 μ) : G X Y 6 8 [(0, .ref (Y.ad b)), (1, .int p1), (2, .int p2), (3, .int v3), (4, .int v4)] [] μ := by
  unfold nX7_letters_8 at h
  refine g_iload C 4 dX7_letters_8 rfl ?_
  refine g_aload_n C 0 dX7_letters_10 rfl ?_
  refine gf_RX7_155 C h0 dX7_letters_11 ?_
  refine g_icmp_ge C 67 dX7_letters_14 (by decide) (fun c1 => ?_) (fun c1 => ?_)
  · replace h := h.1 c1
    refine g_iload_n C 3 dX7_letters_67 rfl ?_
    exact hr _ _ _ _ _ dX7_letters_68 rfl h
  · replace h := h.2 c1
    refine g_aload_n C 0 dX7_letters_17 rfl ?_
    refine g_iload C 4 dX7_letters_18 rfl ?_
    refine g_callVI C [.int v4] [] (ok_X7_look hI h0 h) (cw_RX7_158 _) rfl dc_X7_look ⟨Nat.le_of_ble_eq_true rfl, Nat.le_of_ble_eq_true rfl⟩ (isX7_lt h0) (isX7_sh h0) rfl rfl rfl rfl (Nat.le_of_ble_eq_true rfl) dX7_letters_20 (fun r3 m2 h => ?_)
    refine g_iload_n C 1 dX7_letters_23 rfl ?_
    refine g_isub C dX7_letters_24 ?_
    refine g_istore C [(5, .int (r3 - p1)), (0, .ref (Y.ad b)), (1, .int p1), (2, .int p2), (3, .int v3), (4, .int v4)] dX7_letters_25 (by decide) rfl ?_
    refine g_iload C 0 dX7_letters_27 rfl ?_
    refine g_i2l C dX7_letters_29 ?_
    refine g_lconst C (v := (0 : Int64)) dX7_letters_30 (by decide) ?_
    refine g_iload_n C 3 dX7_letters_31 rfl ?_
    refine g_iconst C (v := (1 : Int32)) dX7_letters_32 (by decide) ?_
    refine g_isub C dX7_letters_33 ?_
    refine g_i2l C dX7_letters_34 ?_
    refine g_callSI C [.long ((r3 - p1).toInt64), .long ((0 : Int64)), .long ((p2 - ((1 : Int32))).toInt64)] [] (ok_X7_in hI  h) (cw_RX7_134 _) rfl dc_X7_in ⟨Nat.le_of_ble_eq_true rfl, Nat.le_of_ble_eq_true rfl⟩ rfl (Nat.le_of_ble_eq_true rfl) dX7_letters_35 (fun r5 m4 h => ?_)
    refine g_if_eq C 51 dX7_letters_38 (by decide) (fun c6 => ?_) (fun c6 => ?_)
    · replace h := h.1 c6
      refine g_bipush C (v := (-4 : Int32)) dX7_letters_51 (by decide) ?_
      exact hr _ _ _ _ _ dX7_letters_53 rfl h
    · replace h := h.2 c6
      refine g_iload_n C 4 dX7_letters_41 rfl ?_
      refine g_iload C 0 dX7_letters_42 rfl ?_
      refine g_ishr C dX7_letters_44 ?_
      refine g_iconst C (v := (1 : Int32)) dX7_letters_45 (by decide) ?_
      refine g_iand C dX7_letters_46 ?_
      refine g_iconst C (v := (1 : Int32)) dX7_letters_47 (by decide) ?_
      refine g_icmp_ne C 54 dX7_letters_48 (by decide) (fun c7 => ?_) (fun c7 => ?_)
      · replace h := h.1 c7
        refine g_iload_n C 4 dX7_letters_54 rfl ?_
        refine g_iconst C (v := (1 : Int32)) dX7_letters_55 (by decide) ?_
        refine g_iload C 0 dX7_letters_56 rfl ?_
        refine g_ishl C dX7_letters_58 ?_
        refine g_ior C dX7_letters_59 ?_
        refine g_istore_n C [(3, .int (v3 ||| (((1 : Int32)) <<< ((r3 - p1) &&& 31)))), (5, .int (r3 - p1)), (0, .ref (Y.ad b)), (1, .int p1), (2, .int p2), (4, .int v4)] dX7_letters_60 (by decide) rfl ?_
        refine g_iinc C (v := v4 + 1) 5 [(4, .int (v4 + 1)), (3, .int (v3 ||| (((1 : Int32)) <<< ((r3 - p1) &&& 31)))), (5, .int (r3 - p1)), (0, .ref (Y.ad b)), (1, .int p1), (2, .int p2)] dX7_letters_61 rfl rfl (by decide) rfl ?_
        refine g_goto C 8 dX7_letters_64 (by decide) ?_
        refine g_lv (lv2 := [(0, .ref (Y.ad b)), (1, .int p1), (2, .int p2), (3, .int (v3 ||| (((1 : Int32)) <<< ((r3 - p1) &&& 31)))), (4, .int (v4 + 1))]) [3, 4, 5, 1, 0] ?_ rfl
        exact h
      · replace h := h.2 c7
        refine g_bipush C (v := (-4 : Int32)) dX7_letters_51 (by decide) ?_
        exact hr _ _ _ _ _ dX7_letters_53 rfl h
set_option maxRecDepth 20000 in
set_option maxHeartbeats 4000000 in
theorem ok_X7_letters {Y : YT} {l0 : Launch} {b : Nat} {p1 : Int32} {p2 : Int32} {μ : Mem} {Q : Int32 → Mem → Prop} (hI : YI Y) (h0 : isX7 Y b) (h : PX7_letters b p1 p2 μ Q) : MI l0 yX7_letters WX7_letters 1 25 Y [.ref (Y.ad b), .int p1, .int p2] μ Q := by
  refine mI_of (ty := .int) (cc := cX7_letters) (maxL := 6) (by decide +kernel) rfl hI (Nat.le_of_ble_eq_true rfl) (fun X C hr => ?_)
  replace C : Cx X Y 6 cX7_letters RX7 WX7_letters (rmB 1 25) l0 := C
  refine g_lv (lv2 := [(0, .ref (Y.ad b)), (1, .int p1), (2, .int p2)]) [0, 1, 2] ?_ rfl
  unfold PX7_letters at h
  replace h := h (SX7_letters_8 X Y b p1 p2) (fun v3 v4 μ z => tX7_letters_8 C hr hI h0 v3 v4 μ z)
  refine g_iconst C (v := (0 : Int32)) dX7_letters_0 (by decide) ?_
  refine g_istore_n C [(3, .int ((0 : Int32))), (0, .ref (Y.ad b)), (1, .int p1), (2, .int p2)] dX7_letters_1 (by decide) rfl ?_
  refine g_aload_n C 1 dX7_letters_2 rfl ?_
  refine gf_RX7_149 C h0 dX7_letters_3 ?_
  refine g_istore C [(4, .int (μ.1 b 28)), (3, .int ((0 : Int32))), (0, .ref (Y.ad b)), (1, .int p1), (2, .int p2)] dX7_letters_6 (by decide) rfl ?_
  refine g_lv (lv2 := [(0, .ref (Y.ad b)), (1, .int p1), (2, .int p2), (3, .int ((0 : Int32))), (4, .int (μ.1 b 28))]) [2, 3, 4, 1, 0] ?_ rfl
  exact h
set_option maxRecDepth 20000 in
set_option maxHeartbeats 4000000 in
theorem ok_X7_uses {Y : YT} {l0 : Launch} {b : Nat} {p1 : Int32} {p2 : Int32} {μ : Mem} {Q : Mem → Prop} (hI : YI Y) (h0 : isX7 Y b) (h : PX7_uses b p1 p2 μ Q) : MV l0 yX7_uses WX7_uses 0 0 Y [.ref (Y.ad b), .int p1, .int p2] μ Q := by
  refine mV_of (cc := cX7_uses) (maxL := 3) (by decide +kernel) rfl hI (Nat.le_of_ble_eq_true rfl) (fun X C hr => ?_)
  replace C : Cx X Y 3 cX7_uses RX7 WX7_uses (rmB 0 0) l0 := C
  refine g_lv (lv2 := [(0, .ref (Y.ad b)), (1, .int p1), (2, .int p2)]) [0, 1, 2] ?_ rfl
  unfold PX7_uses at h
  refine g_aload_n C 0 dX7_uses_0 rfl ?_
  refine gf_RX7_146 C h0 dX7_uses_1 ?_
  refine g_if_ne C 37 dX7_uses_4 (by decide) (fun c1 => ?_) (fun c1 => ?_)
  · replace h := h.1 c1
    exact hr _ _ _ _ dX7_uses_37 h
  · replace h := h.2 c1
    refine g_aload_n C 0 dX7_uses_7 rfl ?_
    refine gf_RX7_40 C h0 dX7_uses_8 ?_
    refine g_aload_n C 0 dX7_uses_11 rfl ?_
    refine gf_RX7_112 C h0 dX7_uses_12 ?_
    refine g_iload_n C 1 dX7_uses_15 rfl ?_
    refine g_iast C (isX7_usedThing h0).1 (isX7_usedThing h0).2 h.1 dX7_uses_16 ?_
    replace h := h.2
    refine g_aload_n C 0 dX7_uses_17 rfl ?_
    refine gf_RX7_43 C h0 dX7_uses_18 ?_
    refine g_aload_n C 0 dX7_uses_21 rfl ?_
    refine gf_RX7_112 C h0 dX7_uses_22 ?_
    refine g_iload_n C 2 dX7_uses_25 rfl ?_
    refine g_iast C (isX7_usedAt h0).1 (isX7_usedAt h0).2 h.1 dX7_uses_26 ?_
    replace h := h.2
    refine g_mem (fun m2 em2 => ?_)
    replace h := h m2 em2
    refine g_aload_n C 0 dX7_uses_27 rfl ?_
    refine g_dup C dX7_uses_28 rfl ?_
    refine gf_RX7_112 C h0 dX7_uses_29 ?_
    refine g_iconst C (v := (1 : Int32)) dX7_uses_32 (by decide) ?_
    refine g_iadd C dX7_uses_33 ?_
    refine gp_RX7_112 C h0 dX7_uses_34 ?_
    exact hr _ _ _ _ dX7_uses_37 h
def SX7_readWants_2 (X : XT) (Y : YT) (b : Nat) (p1 : Int32) : Int32 → Mem → Prop := fun v2 μ => G X Y 5 2 [(0, .ref (Y.ad b)), (1, .int p1), (2, .int v2)] [] μ
set_option maxRecDepth 20000 in
set_option maxHeartbeats 4000000 in
theorem tX7_readWants_192 {X : XT} {Y : YT} {l0 : Launch} {b : Nat} {p1 : Int32} {Q : Int32 → Mem → Prop} (C : Cx X Y 5 cX7_readWants RX7 WX7_readWants (rmB 3 70) l0) (hr : RI X Y cX7_readWants .int Q) (hI : YI Y) (h0 : isX7 Y b) (v2 : Int32) (μ : Mem) (h : nX7_readWants_192 b p1 Q (SX7_readWants_2 X Y b p1) v2 μ) : G X Y 5 192 [(0, .ref (Y.ad b)), (1, .int p1), (2, .int v2)] [] μ := by
  unfold nX7_readWants_192 at h
  refine g_goto C 2 dX7_readWants_192 (by decide) ?_
  exact h
set_option maxRecDepth 20000 in
set_option maxHeartbeats 4000000 in
theorem tX7_readWants_119 {X : XT} {Y : YT} {l0 : Launch} {b : Nat} {p1 : Int32} {Q : Int32 → Mem → Prop} (C : Cx X Y 5 cX7_readWants RX7 WX7_readWants (rmB 3 70) l0) (hr : RI X Y cX7_readWants .int Q) (hI : YI Y) (h0 : isX7 Y b) (v2 : Int32) (v3 : Int32) (μ : Mem) (h : nX7_readWants_119 b p1 Q (SX7_readWants_2 X Y b p1) v2 v3 μ) : G X Y 5 119 [(0, .ref (Y.ad b)), (1, .int p1), (2, .int v2), (3, .int v3)] [] μ := by
  unfold nX7_readWants_119 at h
  refine g_aload_n C 0 dX7_readWants_119 rfl ?_
  refine g_iload_n C 3 dX7_readWants_120 rfl ?_
  refine g_aload_n C 0 dX7_readWants_121 rfl ?_
  refine gf_RX7_149 C h0 dX7_readWants_122 ?_
  refine g_callVV C [.int v3, .int (μ.1 b 28)] [] (ok_X7_uses hI h0 h) (cw_RX7_205 _) rfl dc_X7_uses ⟨Nat.le_of_ble_eq_true rfl, Nat.le_of_ble_eq_true rfl⟩ (isX7_lt h0) (isX7_sh h0) rfl rfl rfl rfl (Nat.le_of_ble_eq_true rfl) dX7_readWants_125 (fun m24 h => ?_)
  refine g_aload_n C 0 dX7_readWants_128 rfl ?_
  refine g_callVV C [] [] (ok_X7_next hI h0 h) (cw_RX7_192 _) rfl dc_X7_next ⟨Nat.le_of_ble_eq_true rfl, Nat.le_of_ble_eq_true rfl⟩ (isX7_lt h0) (isX7_sh h0) rfl rfl rfl rfl (Nat.le_of_ble_eq_true rfl) dX7_readWants_129 (fun m26 h => ?_)
  refine g_aload_n C 0 dX7_readWants_132 rfl ?_
  refine g_iconst C (v := (1 : Int32)) dX7_readWants_133 (by decide) ?_
  refine g_iconst C (v := (3 : Int32)) dX7_readWants_134 (by decide) ?_
  refine g_callVI C [.int ((1 : Int32)), .int ((3 : Int32))] [] (ok_X7_readNumber hI h0 h) (cw_RX7_208 _) rfl dc_X7_readNumber ⟨Nat.le_of_ble_eq_true rfl, Nat.le_of_ble_eq_true rfl⟩ (isX7_lt h0) (isX7_sh h0) rfl rfl rfl rfl (Nat.le_of_ble_eq_true rfl) dX7_readWants_135 (fun r29 m28 h => ?_)
  refine g_istore C [(4, .int r29), (0, .ref (Y.ad b)), (1, .int p1), (2, .int v2), (3, .int v3)] dX7_readWants_138 (by decide) rfl ?_
  refine g_aload_n C 1 dX7_readWants_140 rfl ?_
  refine gf_RX7_146 C h0 dX7_readWants_141 ?_
  refine g_if_ne C 192 dX7_readWants_144 (by decide) (fun c30 => ?_) (fun c30 => ?_)
  · replace h := h.1 c30
    refine g_lv (lv2 := [(0, .ref (Y.ad b)), (1, .int p1), (2, .int v2)]) [1, 2, 3] ?_ rfl
    exact tX7_readWants_192 C hr hI h0 _ _ h
  · replace h := h.2 c30
    refine g_iload_n C 3 dX7_readWants_147 rfl ?_
    refine g_iconst C (v := (1 : Int32)) dX7_readWants_148 (by decide) ?_
    refine g_iload_n C 4 dX7_readWants_149 rfl ?_
    refine g_ishl C dX7_readWants_150 ?_
    refine g_ior C dX7_readWants_151 ?_
    refine g_istore_n C [(2, .int (v2 ||| (((1 : Int32)) <<< (v3 &&& 31)))), (4, .int r29), (0, .ref (Y.ad b)), (1, .int p1), (3, .int v3)] dX7_readWants_152 (by decide) rfl ?_
    refine g_iload_n C 3 dX7_readWants_153 rfl ?_
    refine g_if_eq C 176 dX7_readWants_154 (by decide) (fun c31 => ?_) (fun c31 => ?_)
    · replace h := h.1 c31
      refine g_aload_n C 2 dX7_readWants_176 rfl ?_
      refine gf_RX7_31 C h0 dX7_readWants_177 ?_
      refine g_bipush C (v := (6 : Int32)) dX7_readWants_180 (by decide) ?_
      refine g_aload_n C 2 dX7_readWants_182 rfl ?_
      refine gf_RX7_93 C h0 dX7_readWants_183 ?_
      refine g_imul C dX7_readWants_186 ?_
      refine g_iload_n C 4 dX7_readWants_187 rfl ?_
      refine g_iadd C dX7_readWants_188 ?_
      refine g_iload C 1 dX7_readWants_189 rfl ?_
      refine g_iast C (isX7_dWants h0).1 (isX7_dWants h0).2 h.1 dX7_readWants_191 ?_
      replace h := h.2
      refine g_lv (lv2 := [(0, .ref (Y.ad b)), (1, .int p1), (2, .int (v2 ||| (((1 : Int32)) <<< (v3 &&& 31))))]) [2, 3, 0] ?_ rfl
      exact tX7_readWants_192 C hr hI h0 _ _ h
    · replace h := h.2 c31
      refine g_aload_n C 2 dX7_readWants_157 rfl ?_
      refine gf_RX7_34 C h0 dX7_readWants_158 ?_
      refine g_bipush C (v := (6 : Int32)) dX7_readWants_161 (by decide) ?_
      refine g_aload_n C 2 dX7_readWants_163 rfl ?_
      refine gf_RX7_93 C h0 dX7_readWants_164 ?_
      refine g_imul C dX7_readWants_167 ?_
      refine g_iload_n C 4 dX7_readWants_168 rfl ?_
      refine g_iadd C dX7_readWants_169 ?_
      refine g_iload C 1 dX7_readWants_170 rfl ?_
      refine g_iast C (isX7_dLeaves h0).1 (isX7_dLeaves h0).2 h.1 dX7_readWants_172 ?_
      replace h := h.2
      refine g_goto C 192 dX7_readWants_173 (by decide) ?_
      refine g_lv (lv2 := [(0, .ref (Y.ad b)), (1, .int p1), (2, .int (v2 ||| (((1 : Int32)) <<< (v3 &&& 31))))]) [2, 3, 0] ?_ rfl
      exact tX7_readWants_192 C hr hI h0 _ _ h
set_option maxRecDepth 20000 in
set_option maxHeartbeats 4000000 in
theorem tX7_readWants_115 {X : XT} {Y : YT} {l0 : Launch} {b : Nat} {p1 : Int32} {Q : Int32 → Mem → Prop} (C : Cx X Y 5 cX7_readWants RX7 WX7_readWants (rmB 3 70) l0) (hr : RI X Y cX7_readWants .int Q) (hI : YI Y) (h0 : isX7 Y b) (v2 : Int32) (v3 : Int32) (w0 : Int32) (μ : Mem) (h : nX7_readWants_115 b p1 Q (SX7_readWants_2 X Y b p1) v2 v3 w0 μ) : G X Y 5 115 [(0, .ref (Y.ad b)), (1, .int p1), (2, .int v2), (3, .int v3)] [.int w0, .ref (Y.ad b)] μ := by
  unfold nX7_readWants_115 at h
  refine g_iconst C (v := (4 : Int32)) dX7_readWants_115 (by decide) ?_
  refine g_callVV C [.int w0, .int ((4 : Int32))] [] (ok_X7_needs hI h0 h) (cw_RX7_184 _) rfl dc_X7_needs ⟨Nat.le_of_ble_eq_true rfl, Nat.le_of_ble_eq_true rfl⟩ (isX7_lt h0) (isX7_sh h0) rfl rfl rfl rfl (Nat.le_of_ble_eq_true rfl) dX7_readWants_116 (fun m22 h => ?_)
  exact tX7_readWants_119 C hr hI h0 _ _ _ h
set_option maxRecDepth 20000 in
set_option maxHeartbeats 4000000 in
theorem tX7_readWants_90 {X : XT} {Y : YT} {l0 : Launch} {b : Nat} {p1 : Int32} {Q : Int32 → Mem → Prop} (C : Cx X Y 5 cX7_readWants RX7 WX7_readWants (rmB 3 70) l0) (hr : RI X Y cX7_readWants .int Q) (hI : YI Y) (h0 : isX7 Y b) (v2 : Int32) (v3 : Int32) (w0 : Int32) (μ : Mem) (h : nX7_readWants_90 b p1 Q (SX7_readWants_2 X Y b p1) v2 v3 w0 μ) : G X Y 5 90 [(0, .ref (Y.ad b)), (1, .int p1), (2, .int v2), (3, .int v3)] [.int w0, .ref (Y.ad b)] μ := by
  unfold nX7_readWants_90 at h
  refine g_iconst C (v := (3 : Int32)) dX7_readWants_90 (by decide) ?_
  refine g_callVV C [.int w0, .int ((3 : Int32))] [] (ok_X7_needs hI h0 h) (cw_RX7_184 _) rfl dc_X7_needs ⟨Nat.le_of_ble_eq_true rfl, Nat.le_of_ble_eq_true rfl⟩ (isX7_lt h0) (isX7_sh h0) rfl rfl rfl rfl (Nat.le_of_ble_eq_true rfl) dX7_readWants_91 (fun m18 h => ?_)
  refine g_aload_n C 0 dX7_readWants_94 rfl ?_
  refine gf_RX7_146 C h0 dX7_readWants_95 ?_
  refine g_if_ne C 119 dX7_readWants_98 (by decide) (fun c20 => ?_) (fun c20 => ?_)
  · replace h := h.1 c20
    exact tX7_readWants_119 C hr hI h0 _ _ _ h
  · replace h := h.2 c20
    refine g_aload_n C 0 dX7_readWants_101 rfl ?_
    refine g_iload_n C 2 dX7_readWants_102 rfl ?_
    refine g_iload_n C 3 dX7_readWants_103 rfl ?_
    refine g_ishr C dX7_readWants_104 ?_
    refine g_iconst C (v := (1 : Int32)) dX7_readWants_105 (by decide) ?_
    refine g_iand C dX7_readWants_106 ?_
    refine g_if_ne C 114 dX7_readWants_107 (by decide) (fun c21 => ?_) (fun c21 => ?_)
    · replace h := h.1 c21
      refine g_iconst C (v := (0 : Int32)) dX7_readWants_114 (by decide) ?_
      exact tX7_readWants_115 C hr hI h0 _ _ _ _ h
    · replace h := h.2 c21
      refine g_iconst C (v := (1 : Int32)) dX7_readWants_110 (by decide) ?_
      refine g_goto C 115 dX7_readWants_111 (by decide) ?_
      exact tX7_readWants_115 C hr hI h0 _ _ _ _ h
set_option maxRecDepth 20000 in
set_option maxHeartbeats 4000000 in
theorem tX7_readWants_89 {X : XT} {Y : YT} {l0 : Launch} {b : Nat} {p1 : Int32} {Q : Int32 → Mem → Prop} (C : Cx X Y 5 cX7_readWants RX7 WX7_readWants (rmB 3 70) l0) (hr : RI X Y cX7_readWants .int Q) (hI : YI Y) (h0 : isX7 Y b) (v2 : Int32) (v3 : Int32) (μ : Mem) (h : nX7_readWants_89 b p1 Q (SX7_readWants_2 X Y b p1) v2 v3 μ) : G X Y 5 89 [(0, .ref (Y.ad b)), (1, .int p1), (2, .int v2), (3, .int v3)] [.ref (Y.ad b)] μ := by
  unfold nX7_readWants_89 at h
  refine g_iconst C (v := (0 : Int32)) dX7_readWants_89 (by decide) ?_
  exact tX7_readWants_90 C hr hI h0 _ _ _ _ h
set_option maxRecDepth 20000 in
set_option maxHeartbeats 4000000 in
theorem tX7_readWants_47 {X : XT} {Y : YT} {l0 : Launch} {b : Nat} {p1 : Int32} {Q : Int32 → Mem → Prop} (C : Cx X Y 5 cX7_readWants RX7 WX7_readWants (rmB 3 70) l0) (hr : RI X Y cX7_readWants .int Q) (hI : YI Y) (h0 : isX7 Y b) (v2 : Int32) (μ : Mem) (h : nX7_readWants_47 b p1 Q (SX7_readWants_2 X Y b p1) v2 μ) : G X Y 5 47 [(0, .ref (Y.ad b)), (1, .int p1), (2, .int v2)] [] μ := by
  unfold nX7_readWants_47 at h
  refine g_aload_n C 0 dX7_readWants_47 rfl ?_
  refine g_aload_n C 0 dX7_readWants_48 rfl ?_
  refine gf_RX7_149 C h0 dX7_readWants_49 ?_
  refine g_callVI C [.int (μ.1 b 28)] [] (ok_X7_look hI h0 h) (cw_RX7_158 _) rfl dc_X7_look ⟨Nat.le_of_ble_eq_true rfl, Nat.le_of_ble_eq_true rfl⟩ (isX7_lt h0) (isX7_sh h0) rfl rfl rfl rfl (Nat.le_of_ble_eq_true rfl) dX7_readWants_52 (fun r13 m12 h => ?_)
  refine g_bipush C (v := (97 : Int32)) dX7_readWants_55 (by decide) ?_
  refine g_isub C dX7_readWants_57 ?_
  refine g_istore_n C [(3, .int (r13 - ((97 : Int32)))), (0, .ref (Y.ad b)), (1, .int p1), (2, .int v2)] dX7_readWants_58 (by decide) rfl ?_
  refine g_aload_n C 1 dX7_readWants_59 rfl ?_
  refine g_aload_n C 1 dX7_readWants_60 rfl ?_
  refine gf_RX7_155 C h0 dX7_readWants_61 ?_
  refine g_aload_n C 1 dX7_readWants_64 rfl ?_
  refine gf_RX7_149 C h0 dX7_readWants_65 ?_
  refine g_isub C dX7_readWants_68 ?_
  refine g_iconst C (v := (1 : Int32)) dX7_readWants_69 (by decide) ?_
  refine g_icmp_ne C 89 dX7_readWants_70 (by decide) (fun c14 => ?_) (fun c14 => ?_)
  · replace h := h.1 c14
    refine g_lv (lv2 := [(0, .ref (Y.ad b)), (1, .int p1), (2, .int v2), (3, .int (r13 - ((97 : Int32))))]) [1, 2, 3, 0] ?_ rfl
    exact tX7_readWants_89 C hr hI h0 _ _ _ h
  · replace h := h.2 c14
    refine g_iload_n C 0 dX7_readWants_73 rfl ?_
    refine g_i2l C dX7_readWants_74 ?_
    refine g_lconst C (v := (0 : Int64)) dX7_readWants_75 (by decide) ?_
    refine g_ldc2 C (v := (5 : Int64)) (List.mem_cons_of_mem _ mL_RX7_203) dX7_readWants_76 ?_
    refine g_callSI C [.long ((r13 - ((97 : Int32))).toInt64), .long ((0 : Int64)), .long ((5 : Int64))] [.ref (Y.ad b)] (ok_X7_in hI  h) (cw_RX7_134 _) rfl dc_X7_in ⟨Nat.le_of_ble_eq_true rfl, Nat.le_of_ble_eq_true rfl⟩ rfl (Nat.le_of_ble_eq_true rfl) dX7_readWants_79 (fun r16 m15 h => ?_)
    refine g_if_eq C 89 dX7_readWants_82 (by decide) (fun c17 => ?_) (fun c17 => ?_)
    · replace h := h.1 c17
      refine g_lv (lv2 := [(0, .ref (Y.ad b)), (1, .int p1), (2, .int v2), (3, .int (r13 - ((97 : Int32))))]) [1, 2, 3, 0] ?_ rfl
      exact tX7_readWants_89 C hr hI h0 _ _ _ h
    · replace h := h.2 c17
      refine g_iconst C (v := (1 : Int32)) dX7_readWants_85 (by decide) ?_
      refine g_goto C 90 dX7_readWants_86 (by decide) ?_
      refine g_lv (lv2 := [(0, .ref (Y.ad b)), (1, .int p1), (2, .int v2), (3, .int (r13 - ((97 : Int32))))]) [1, 2, 3, 0] ?_ rfl
      exact tX7_readWants_90 C hr hI h0 _ _ _ _ h
set_option maxRecDepth 20000 in
set_option maxHeartbeats 4000000 in
theorem tX7_readWants_2 {X : XT} {Y : YT} {l0 : Launch} {b : Nat} {p1 : Int32} {Q : Int32 → Mem → Prop} (C : Cx X Y 5 cX7_readWants RX7 WX7_readWants (rmB 3 70) l0) (hr : RI X Y cX7_readWants .int Q) (hI : YI Y) (h0 : isX7 Y b) (v2 : Int32) (μ : Mem) (h : nX7_readWants_2 b p1 Q (SX7_readWants_2 X Y b p1) v2 μ) : G X Y 5 2 [(0, .ref (Y.ad b)), (1, .int p1), (2, .int v2)] [] μ := by
  unfold nX7_readWants_2 at h
  refine g_aload_n C 0 dX7_readWants_2 rfl ?_
  refine gf_RX7_146 C h0 dX7_readWants_3 ?_
  refine g_if_ne C 195 dX7_readWants_6 (by decide) (fun c1 => ?_) (fun c1 => ?_)
  · replace h := h.1 c1
    refine g_iload_n C 2 dX7_readWants_195 rfl ?_
    exact hr _ _ _ _ _ dX7_readWants_196 rfl h
  · replace h := h.2 c1
    refine g_aload_n C 0 dX7_readWants_9 rfl ?_
    refine gf_RX7_170 C h0 dX7_readWants_10 ?_
    refine g_iconst C (v := (1 : Int32)) dX7_readWants_13 (by decide) ?_
    refine g_icmp_ne C 195 dX7_readWants_14 (by decide) (fun c2 => ?_) (fun c2 => ?_)
    · replace h := h.1 c2
      refine g_iload_n C 2 dX7_readWants_195 rfl ?_
      exact hr _ _ _ _ _ dX7_readWants_196 rfl h
    · replace h := h.2 c2
      refine g_aload_n C 0 dX7_readWants_17 rfl ?_
      refine g_callVI C [] [] (ok_X7_nameNow hI h0 h) (cw_RX7_195 _) rfl dc_X7_nameNow ⟨Nat.le_of_ble_eq_true rfl, Nat.le_of_ble_eq_true rfl⟩ (isX7_lt h0) (isX7_sh h0) rfl rfl rfl rfl (Nat.le_of_ble_eq_true rfl) dX7_readWants_18 (fun r4 m3 h => ?_)
      refine g_i2l C dX7_readWants_21 ?_
      refine g_ldc2 C (v := (15 : Int64)) (List.mem_cons_of_mem _ mL_RX7_199) dX7_readWants_22 ?_
      refine g_ldc2 C (v := (17 : Int64)) (List.mem_cons_of_mem _ mL_RX7_201) dX7_readWants_25 ?_
      refine g_callSI C [.long r4.toInt64, .long ((15 : Int64)), .long ((17 : Int64))] [] (ok_X7_in hI  h) (cw_RX7_134 _) rfl dc_X7_in ⟨Nat.le_of_ble_eq_true rfl, Nat.le_of_ble_eq_true rfl⟩ rfl (Nat.le_of_ble_eq_true rfl) dX7_readWants_28 (fun r6 m5 h => ?_)
      refine g_if_eq C 47 dX7_readWants_31 (by decide) (fun c7 => ?_) (fun c7 => ?_)
      · replace h := h.1 c7
        exact tX7_readWants_47 C hr hI h0 _ _ h
      · replace h := h.2 c7
        refine g_iload_n C 1 dX7_readWants_34 rfl ?_
        refine g_if_eq C 195 dX7_readWants_35 (by decide) (fun c8 => ?_) (fun c8 => ?_)
        · replace h := h.1 c8
          refine g_iload_n C 2 dX7_readWants_195 rfl ?_
          exact hr _ _ _ _ _ dX7_readWants_196 rfl h
        · replace h := h.2 c8
          refine g_aload_n C 0 dX7_readWants_38 rfl ?_
          refine g_callVI C [] [] (ok_X7_nameNow hI h0 h) (cw_RX7_195 _) rfl dc_X7_nameNow ⟨Nat.le_of_ble_eq_true rfl, Nat.le_of_ble_eq_true rfl⟩ (isX7_lt h0) (isX7_sh h0) rfl rfl rfl rfl (Nat.le_of_ble_eq_true rfl) dX7_readWants_39 (fun r10 m9 h => ?_)
          refine g_bipush C (v := (15 : Int32)) dX7_readWants_42 (by decide) ?_
          refine g_icmp_ne C 195 dX7_readWants_44 (by decide) (fun c11 => ?_) (fun c11 => ?_)
          · replace h := h.1 c11
            refine g_iload_n C 2 dX7_readWants_195 rfl ?_
            exact hr _ _ _ _ _ dX7_readWants_196 rfl h
          · replace h := h.2 c11
            exact tX7_readWants_47 C hr hI h0 _ _ h
set_option maxRecDepth 20000 in
set_option maxHeartbeats 4000000 in
theorem ok_X7_readWants {Y : YT} {l0 : Launch} {b : Nat} {p1 : Int32} {μ : Mem} {Q : Int32 → Mem → Prop} (hI : YI Y) (h0 : isX7 Y b) (h : PX7_readWants b p1 μ Q) : MI l0 yX7_readWants WX7_readWants 3 70 Y [.ref (Y.ad b), .int p1] μ Q := by
  refine mI_of (ty := .int) (cc := cX7_readWants) (maxL := 5) (by decide +kernel) rfl hI (Nat.le_of_ble_eq_true rfl) (fun X C hr => ?_)
  replace C : Cx X Y 5 cX7_readWants RX7 WX7_readWants (rmB 3 70) l0 := C
  refine g_lv (lv2 := [(0, .ref (Y.ad b)), (1, .int p1)]) [0, 1] ?_ rfl
  unfold PX7_readWants at h
  replace h := h (SX7_readWants_2 X Y b p1) (fun v2 μ z => tX7_readWants_2 C hr hI h0 v2 μ z)
  refine g_iconst C (v := (0 : Int32)) dX7_readWants_0 (by decide) ?_
  refine g_istore_n C [(2, .int ((0 : Int32))), (0, .ref (Y.ad b)), (1, .int p1)] dX7_readWants_1 (by decide) rfl ?_
  refine g_lv (lv2 := [(0, .ref (Y.ad b)), (1, .int p1), (2, .int ((0 : Int32)))]) [1, 2, 0] ?_ rfl
  exact h
set_option maxRecDepth 20000 in
set_option maxHeartbeats 4000000 in
theorem tX7_readLetters_62 {X : XT} {Y : YT} {l0 : Launch} {b : Nat} {p1 : Int32} {p2 : Int32} {Q : Int32 → Mem → Prop} (C : Cx X Y 4 cX7_readLetters RX7 WX7_readLetters (rmB 2 50) l0) (hr : RI X Y cX7_readLetters .int Q) (hI : YI Y) (h0 : isX7 Y b) (v3 : Int32) (w0 : Int32) (μ : Mem) (h : nX7_readLetters_62 b p1 p2 Q v3 w0 μ) : G X Y 4 62 [(0, .ref (Y.ad b)), (1, .int p1), (2, .int p2), (3, .int v3)] [.int w0, .ref (Y.ad b)] μ := by
  unfold nX7_readLetters_62 at h
  refine g_iconst C (v := (3 : Int32)) dX7_readLetters_62 (by decide) ?_
  refine g_callVV C [.int w0, .int ((3 : Int32))] [] (ok_X7_needs hI h0 h) (cw_RX7_184 _) rfl dc_X7_needs ⟨Nat.le_of_ble_eq_true rfl, Nat.le_of_ble_eq_true rfl⟩ (isX7_lt h0) (isX7_sh h0) rfl rfl rfl rfl (Nat.le_of_ble_eq_true rfl) dX7_readLetters_63 (fun m10 h => ?_)
  refine g_iload_n C 3 dX7_readLetters_66 rfl ?_
  exact hr _ _ _ _ _ dX7_readLetters_67 rfl h
set_option maxRecDepth 20000 in
set_option maxHeartbeats 4000000 in
theorem tX7_readLetters_42 {X : XT} {Y : YT} {l0 : Launch} {b : Nat} {p1 : Int32} {p2 : Int32} {Q : Int32 → Mem → Prop} (C : Cx X Y 4 cX7_readLetters RX7 WX7_readLetters (rmB 2 50) l0) (hr : RI X Y cX7_readLetters .int Q) (hI : YI Y) (h0 : isX7 Y b) (w0 : Int32) (μ : Mem) (h : nX7_readLetters_42 b p1 p2 Q w0 μ) : G X Y 4 42 [(0, .ref (Y.ad b)), (1, .int p1), (2, .int p2)] [.int w0] μ := by
  unfold nX7_readLetters_42 at h
  refine g_istore_n C [(3, .int w0), (0, .ref (Y.ad b)), (1, .int p1), (2, .int p2)] dX7_readLetters_42 (by decide) rfl ?_
  refine g_aload_n C 1 dX7_readLetters_43 rfl ?_
  refine gf_RX7_146 C h0 dX7_readLetters_44 ?_
  refine g_if_ne C 66 dX7_readLetters_47 (by decide) (fun c8 => ?_) (fun c8 => ?_)
  · replace h := h.1 c8
    refine g_iload_n C 0 dX7_readLetters_66 rfl ?_
    exact hr _ _ _ _ _ dX7_readLetters_67 rfl h
  · replace h := h.2 c8
    refine g_aload_n C 1 dX7_readLetters_50 rfl ?_
    refine g_iload_n C 0 dX7_readLetters_51 rfl ?_
    refine g_bipush C (v := (-4 : Int32)) dX7_readLetters_52 (by decide) ?_
    refine g_icmp_eq C 61 dX7_readLetters_54 (by decide) (fun c9 => ?_) (fun c9 => ?_)
    · replace h := h.1 c9
      refine g_iconst C (v := (0 : Int32)) dX7_readLetters_61 (by decide) ?_
      refine g_lv (lv2 := [(0, .ref (Y.ad b)), (1, .int p1), (2, .int p2), (3, .int w0)]) [1, 2, 3, 0] ?_ rfl
      exact tX7_readLetters_62 C hr hI h0 _ _ _ h
    · replace h := h.2 c9
      refine g_iconst C (v := (1 : Int32)) dX7_readLetters_57 (by decide) ?_
      refine g_goto C 62 dX7_readLetters_58 (by decide) ?_
      refine g_lv (lv2 := [(0, .ref (Y.ad b)), (1, .int p1), (2, .int p2), (3, .int w0)]) [1, 2, 3, 0] ?_ rfl
      exact tX7_readLetters_62 C hr hI h0 _ _ _ h
set_option maxRecDepth 20000 in
set_option maxHeartbeats 4000000 in
theorem tX7_readLetters_25 {X : XT} {Y : YT} {l0 : Launch} {b : Nat} {p1 : Int32} {p2 : Int32} {Q : Int32 → Mem → Prop} (C : Cx X Y 4 cX7_readLetters RX7 WX7_readLetters (rmB 2 50) l0) (hr : RI X Y cX7_readLetters .int Q) (hI : YI Y) (h0 : isX7 Y b) (μ : Mem) (h : nX7_readLetters_25 b p1 p2 Q  μ) : G X Y 4 25 [(0, .ref (Y.ad b)), (1, .int p1), (2, .int p2)] [] μ := by
  unfold nX7_readLetters_25 at h
  refine g_aload_n C 0 dX7_readLetters_25 rfl ?_
  refine gf_RX7_146 C h0 dX7_readLetters_26 ?_
  refine g_if_ne C 41 dX7_readLetters_29 (by decide) (fun c5 => ?_) (fun c5 => ?_)
  · replace h := h.1 c5
    refine g_iconst C (v := (0 : Int32)) dX7_readLetters_41 (by decide) ?_
    exact tX7_readLetters_42 C hr hI h0 _ _ h
  · replace h := h.2 c5
    refine g_aload_n C 0 dX7_readLetters_32 rfl ?_
    refine g_iload_n C 1 dX7_readLetters_33 rfl ?_
    refine g_iload_n C 2 dX7_readLetters_34 rfl ?_
    refine g_callVI C [.int p1, .int p2] [] (ok_X7_letters hI h0 h) (cw_RX7_212 _) rfl dc_X7_letters ⟨Nat.le_of_ble_eq_true rfl, Nat.le_of_ble_eq_true rfl⟩ (isX7_lt h0) (isX7_sh h0) rfl rfl rfl rfl (Nat.le_of_ble_eq_true rfl) dX7_readLetters_35 (fun r7 m6 h => ?_)
    refine g_goto C 42 dX7_readLetters_38 (by decide) ?_
    exact tX7_readLetters_42 C hr hI h0 _ _ h
set_option maxRecDepth 20000 in
set_option maxHeartbeats 4000000 in
theorem tX7_readLetters_21 {X : XT} {Y : YT} {l0 : Launch} {b : Nat} {p1 : Int32} {p2 : Int32} {Q : Int32 → Mem → Prop} (C : Cx X Y 4 cX7_readLetters RX7 WX7_readLetters (rmB 2 50) l0) (hr : RI X Y cX7_readLetters .int Q) (hI : YI Y) (h0 : isX7 Y b) (w0 : Int32) (μ : Mem) (h : nX7_readLetters_21 b p1 p2 Q w0 μ) : G X Y 4 21 [(0, .ref (Y.ad b)), (1, .int p1), (2, .int p2)] [.int w0, .ref (Y.ad b)] μ := by
  unfold nX7_readLetters_21 at h
  refine g_iconst C (v := (2 : Int32)) dX7_readLetters_21 (by decide) ?_
  refine g_callVV C [.int w0, .int ((2 : Int32))] [] (ok_X7_needs hI h0 h) (cw_RX7_184 _) rfl dc_X7_needs ⟨Nat.le_of_ble_eq_true rfl, Nat.le_of_ble_eq_true rfl⟩ (isX7_lt h0) (isX7_sh h0) rfl rfl rfl rfl (Nat.le_of_ble_eq_true rfl) dX7_readLetters_22 (fun m3 h => ?_)
  exact tX7_readLetters_25 C hr hI h0 _ h
set_option maxRecDepth 20000 in
set_option maxHeartbeats 4000000 in
theorem ok_X7_readLetters {Y : YT} {l0 : Launch} {b : Nat} {p1 : Int32} {p2 : Int32} {μ : Mem} {Q : Int32 → Mem → Prop} (hI : YI Y) (h0 : isX7 Y b) (h : PX7_readLetters b p1 p2 μ Q) : MI l0 yX7_readLetters WX7_readLetters 2 50 Y [.ref (Y.ad b), .int p1, .int p2] μ Q := by
  refine mI_of (ty := .int) (cc := cX7_readLetters) (maxL := 4) (by decide +kernel) rfl hI (Nat.le_of_ble_eq_true rfl) (fun X C hr => ?_)
  replace C : Cx X Y 4 cX7_readLetters RX7 WX7_readLetters (rmB 2 50) l0 := C
  refine g_lv (lv2 := [(0, .ref (Y.ad b)), (1, .int p1), (2, .int p2)]) [0, 1, 2] ?_ rfl
  unfold PX7_readLetters at h
  refine g_aload_n C 0 dX7_readLetters_0 rfl ?_
  refine gf_RX7_146 C h0 dX7_readLetters_1 ?_
  refine g_if_ne C 25 dX7_readLetters_4 (by decide) (fun c1 => ?_) (fun c1 => ?_)
  · replace h := h.1 c1
    exact tX7_readLetters_25 C hr hI h0 _ h
  · replace h := h.2 c1
    refine g_aload_n C 0 dX7_readLetters_7 rfl ?_
    refine g_aload_n C 0 dX7_readLetters_8 rfl ?_
    refine gf_RX7_170 C h0 dX7_readLetters_9 ?_
    refine g_iconst C (v := (1 : Int32)) dX7_readLetters_12 (by decide) ?_
    refine g_icmp_ne C 20 dX7_readLetters_13 (by decide) (fun c2 => ?_) (fun c2 => ?_)
    · replace h := h.1 c2
      refine g_iconst C (v := (0 : Int32)) dX7_readLetters_20 (by decide) ?_
      exact tX7_readLetters_21 C hr hI h0 _ _ h
    · replace h := h.2 c2
      refine g_iconst C (v := (1 : Int32)) dX7_readLetters_16 (by decide) ?_
      refine g_goto C 21 dX7_readLetters_17 (by decide) ?_
      exact tX7_readLetters_21 C hr hI h0 _ _ h
def SX7_readSupper_9 (X : XT) (Y : YT) (b : Nat) (p1 : Int32) : Int32 → Int32 → Mem → Prop := fun v2 v3 μ => G X Y 7 9 [(0, .ref (Y.ad b)), (1, .int p1), (2, .int v2), (3, .int v3)] [] μ
def SX7_readSupper_82 (X : XT) (Y : YT) (b : Nat) (p1 : Int32) : Int32 → Int32 → Int32 → Int32 → Mem → Prop := fun v2 v3 v4 v5 μ => G X Y 7 82 [(0, .ref (Y.ad b)), (1, .int p1), (2, .int v2), (3, .int v3), (4, .int v4), (5, .int v5)] [] μ
set_option maxRecDepth 20000 in
set_option maxHeartbeats 4000000 in
theorem tX7_readSupper_255 {X : XT} {Y : YT} {l0 : Launch} {b : Nat} {p1 : Int32} {Q : Mem → Prop} (C : Cx X Y 7 cX7_readSupper RX7 WX7_readSupper (rmB 4 94) l0) (hr : RV X Y cX7_readSupper Q) (hI : YI Y) (h0 : isX7 Y b) (v2 : Int32) (v3 : Int32) (v4 : Int32) (v5 : Int32) (v6 : Int32) (μ : Mem) (h : nX7_readSupper_255 b p1 Q (SX7_readSupper_9 X Y b p1) (SX7_readSupper_82 X Y b p1) v2 v3 v4 v5 v6 μ) : G X Y 7 255 [(0, .ref (Y.ad b)), (1, .int p1), (2, .int v2), (3, .int v3), (4, .int v4), (5, .int v5), (6, .int v6)] [] μ := by
  unfold nX7_readSupper_255 at h
  refine g_aload_n C 0 dX7_readSupper_255 rfl ?_
  refine gf_RX7_146 C h0 dX7_readSupper_256 ?_
  refine g_if_ne C 318 dX7_readSupper_259 (by decide) (fun c46 => ?_) (fun c46 => ?_)
  · replace h := h.1 c46
    exact hr _ _ _ _ dX7_readSupper_318 h
  · replace h := h.2 c46
    refine g_aload_n C 0 dX7_readSupper_262 rfl ?_
    refine gf_RX7_28 C h0 dX7_readSupper_263 ?_
    refine g_iload_n C 2 dX7_readSupper_266 rfl ?_
    refine g_iload_n C 1 dX7_readSupper_267 rfl ?_
    refine g_iast C (isX7_dSupper h0).1 (isX7_dSupper h0).2 h.1 dX7_readSupper_268 ?_
    replace h := h.2
    refine g_aload_n C 0 dX7_readSupper_269 rfl ?_
    refine gf_RX7_28 C h0 dX7_readSupper_270 ?_
    refine g_iload_n C 2 dX7_readSupper_273 rfl ?_
    refine g_iconst C (v := (1 : Int32)) dX7_readSupper_274 (by decide) ?_
    refine g_iadd C dX7_readSupper_275 ?_
    refine g_iload C 5 dX7_readSupper_276 rfl ?_
    refine g_iast C (isX7_dSupper h0).1 (isX7_dSupper h0).2 h.1 dX7_readSupper_278 ?_
    replace h := h.2
    refine g_mem (fun m47 em47 => ?_)
    replace h := h m47 em47
    refine g_aload_n C 0 dX7_readSupper_279 rfl ?_
    refine gf_RX7_28 C h0 dX7_readSupper_280 ?_
    refine g_iload_n C 2 dX7_readSupper_283 rfl ?_
    refine g_iconst C (v := (2 : Int32)) dX7_readSupper_284 (by decide) ?_
    refine g_iadd C dX7_readSupper_285 ?_
    refine g_iload C 6 dX7_readSupper_286 rfl ?_
    refine g_iast C (isX7_dSupper h0).1 (isX7_dSupper h0).2 h.1 dX7_readSupper_288 ?_
    replace h := h.2
    refine g_aload_n C 0 dX7_readSupper_289 rfl ?_
    refine gf_RX7_28 C h0 dX7_readSupper_290 ?_
    refine g_iload_n C 2 dX7_readSupper_293 rfl ?_
    refine g_iconst C (v := (3 : Int32)) dX7_readSupper_294 (by decide) ?_
    refine g_iadd C dX7_readSupper_295 ?_
    refine g_iload_n C 3 dX7_readSupper_296 rfl ?_
    refine g_iast C (isX7_dSupper h0).1 (isX7_dSupper h0).2 h.1 dX7_readSupper_297 ?_
    replace h := h.2
    refine g_mem (fun m48 em48 => ?_)
    replace h := h m48 em48
    refine g_aload_n C 0 dX7_readSupper_298 rfl ?_
    refine gf_RX7_28 C h0 dX7_readSupper_299 ?_
    refine g_iload_n C 2 dX7_readSupper_302 rfl ?_
    refine g_iconst C (v := (4 : Int32)) dX7_readSupper_303 (by decide) ?_
    refine g_iadd C dX7_readSupper_304 ?_
    refine g_iload C 4 dX7_readSupper_305 rfl ?_
    refine g_iast C (isX7_dSupper h0).1 (isX7_dSupper h0).2 h.1 dX7_readSupper_307 ?_
    replace h := h.2
    refine g_aload_n C 0 dX7_readSupper_308 rfl ?_
    refine g_dup C dX7_readSupper_309 rfl ?_
    refine gf_RX7_93 C h0 dX7_readSupper_310 ?_
    refine g_iconst C (v := (1 : Int32)) dX7_readSupper_313 (by decide) ?_
    refine g_iadd C dX7_readSupper_314 ?_
    refine gp_RX7_93 C h0 dX7_readSupper_315 ?_
    refine g_mem (fun m49 em49 => ?_)
    replace h := h m49 em49
    exact hr _ _ _ _ dX7_readSupper_318 h
set_option maxRecDepth 20000 in
set_option maxHeartbeats 4000000 in
theorem tX7_readSupper_214 {X : XT} {Y : YT} {l0 : Launch} {b : Nat} {p1 : Int32} {Q : Mem → Prop} (C : Cx X Y 7 cX7_readSupper RX7 WX7_readSupper (rmB 4 94) l0) (hr : RV X Y cX7_readSupper Q) (hI : YI Y) (h0 : isX7 Y b) (v2 : Int32) (v3 : Int32) (v4 : Int32) (v5 : Int32) (v6 : Int32) (μ : Mem) (h : nX7_readSupper_214 b p1 Q (SX7_readSupper_9 X Y b p1) (SX7_readSupper_82 X Y b p1) v2 v3 v4 v5 v6 μ) : G X Y 7 214 [(0, .ref (Y.ad b)), (1, .int p1), (2, .int v2), (3, .int v3), (4, .int v4), (5, .int v5), (6, .int v6)] [] μ := by
  unfold nX7_readSupper_214 at h
  refine g_aload_n C 0 dX7_readSupper_214 rfl ?_
  refine gf_RX7_146 C h0 dX7_readSupper_215 ?_
  refine g_if_ne C 255 dX7_readSupper_218 (by decide) (fun c35 => ?_) (fun c35 => ?_)
  · replace h := h.1 c35
    exact tX7_readSupper_255 C hr hI h0 _ _ _ _ _ _ h
  · replace h := h.2 c35
    refine g_aload_n C 0 dX7_readSupper_221 rfl ?_
    refine gf_RX7_170 C h0 dX7_readSupper_222 ?_
    refine g_iconst C (v := (1 : Int32)) dX7_readSupper_225 (by decide) ?_
    refine g_icmp_ne C 255 dX7_readSupper_226 (by decide) (fun c36 => ?_) (fun c36 => ?_)
    · replace h := h.1 c36
      exact tX7_readSupper_255 C hr hI h0 _ _ _ _ _ _ h
    · replace h := h.2 c36
      refine g_aload_n C 0 dX7_readSupper_229 rfl ?_
      refine g_callVI C [] [] (ok_X7_nameNow hI h0 h) (cw_RX7_195 _) rfl dc_X7_nameNow ⟨Nat.le_of_ble_eq_true rfl, Nat.le_of_ble_eq_true rfl⟩ (isX7_lt h0) (isX7_sh h0) rfl rfl rfl rfl (Nat.le_of_ble_eq_true rfl) dX7_readSupper_230 (fun r38 m37 h => ?_)
      refine g_bipush C (v := (17 : Int32)) dX7_readSupper_233 (by decide) ?_
      refine g_icmp_ne C 255 dX7_readSupper_235 (by decide) (fun c39 => ?_) (fun c39 => ?_)
      · replace h := h.1 c39
        exact tX7_readSupper_255 C hr hI h0 _ _ _ _ _ _ h
      · replace h := h.2 c39
        refine g_aload_n C 0 dX7_readSupper_238 rfl ?_
        refine g_callVV C [] [] (ok_X7_next hI h0 h) (cw_RX7_192 _) rfl dc_X7_next ⟨Nat.le_of_ble_eq_true rfl, Nat.le_of_ble_eq_true rfl⟩ (isX7_lt h0) (isX7_sh h0) rfl rfl rfl rfl (Nat.le_of_ble_eq_true rfl) dX7_readSupper_239 (fun m40 h => ?_)
        refine g_aload_n C 0 dX7_readSupper_242 rfl ?_
        refine g_bipush C (v := (112 : Int32)) dX7_readSupper_243 (by decide) ?_
        refine g_iconst C (v := (4 : Int32)) dX7_readSupper_245 (by decide) ?_
        refine g_callVI C [.int ((112 : Int32)), .int ((4 : Int32))] [] (ok_X7_readLetters hI h0 h) (cw_RX7_215 _) rfl dc_X7_readLetters ⟨Nat.le_of_ble_eq_true rfl, Nat.le_of_ble_eq_true rfl⟩ (isX7_lt h0) (isX7_sh h0) rfl rfl rfl rfl (Nat.le_of_ble_eq_true rfl) dX7_readSupper_246 (fun r43 m42 h => ?_)
        refine g_istore C [(6, .int r43), (0, .ref (Y.ad b)), (1, .int p1), (2, .int v2), (3, .int v3), (4, .int v4), (5, .int v5)] dX7_readSupper_249 (by decide) rfl ?_
        refine g_aload_n C 1 dX7_readSupper_251 rfl ?_
        refine g_callVV C [] [] (ok_X7_next hI h0 h) (cw_RX7_192 _) rfl dc_X7_next ⟨Nat.le_of_ble_eq_true rfl, Nat.le_of_ble_eq_true rfl⟩ (isX7_lt h0) (isX7_sh h0) rfl rfl rfl rfl (Nat.le_of_ble_eq_true rfl) dX7_readSupper_252 (fun m44 h => ?_)
        refine g_lv (lv2 := [(0, .ref (Y.ad b)), (1, .int p1), (2, .int v2), (3, .int v3), (4, .int v4), (5, .int v5), (6, .int r43)]) [1, 2, 3, 4, 5, 6, 0] ?_ rfl
        exact tX7_readSupper_255 C hr hI h0 _ _ _ _ _ _ h
set_option maxRecDepth 20000 in
set_option maxHeartbeats 4000000 in
theorem tX7_readSupper_177 {X : XT} {Y : YT} {l0 : Launch} {b : Nat} {p1 : Int32} {Q : Mem → Prop} (C : Cx X Y 7 cX7_readSupper RX7 WX7_readSupper (rmB 4 94) l0) (hr : RV X Y cX7_readSupper Q) (hI : YI Y) (h0 : isX7 Y b) (v2 : Int32) (v3 : Int32) (v4 : Int32) (v5 : Int32) (v6 : Int32) (μ : Mem) (h : nX7_readSupper_177 b p1 Q (SX7_readSupper_9 X Y b p1) (SX7_readSupper_82 X Y b p1) v2 v3 v4 v5 v6 μ) : G X Y 7 177 [(0, .ref (Y.ad b)), (1, .int p1), (2, .int v2), (3, .int v3), (4, .int v4), (5, .int v5), (6, .int v6)] [] μ := by
  unfold nX7_readSupper_177 at h
  refine g_aload_n C 0 dX7_readSupper_177 rfl ?_
  refine gf_RX7_146 C h0 dX7_readSupper_178 ?_
  refine g_if_ne C 214 dX7_readSupper_181 (by decide) (fun c26 => ?_) (fun c26 => ?_)
  · replace h := h.1 c26
    exact tX7_readSupper_214 C hr hI h0 _ _ _ _ _ _ h
  · replace h := h.2 c26
    refine g_aload_n C 0 dX7_readSupper_184 rfl ?_
    refine gf_RX7_170 C h0 dX7_readSupper_185 ?_
    refine g_iconst C (v := (1 : Int32)) dX7_readSupper_188 (by decide) ?_
    refine g_icmp_ne C 214 dX7_readSupper_189 (by decide) (fun c27 => ?_) (fun c27 => ?_)
    · replace h := h.1 c27
      exact tX7_readSupper_214 C hr hI h0 _ _ _ _ _ _ h
    · replace h := h.2 c27
      refine g_aload_n C 0 dX7_readSupper_192 rfl ?_
      refine g_callVI C [] [] (ok_X7_nameNow hI h0 h) (cw_RX7_195 _) rfl dc_X7_nameNow ⟨Nat.le_of_ble_eq_true rfl, Nat.le_of_ble_eq_true rfl⟩ (isX7_lt h0) (isX7_sh h0) rfl rfl rfl rfl (Nat.le_of_ble_eq_true rfl) dX7_readSupper_193 (fun r29 m28 h => ?_)
      refine g_bipush C (v := (16 : Int32)) dX7_readSupper_196 (by decide) ?_
      refine g_icmp_ne C 214 dX7_readSupper_198 (by decide) (fun c30 => ?_) (fun c30 => ?_)
      · replace h := h.1 c30
        exact tX7_readSupper_214 C hr hI h0 _ _ _ _ _ _ h
      · replace h := h.2 c30
        refine g_aload_n C 0 dX7_readSupper_201 rfl ?_
        refine g_callVV C [] [] (ok_X7_next hI h0 h) (cw_RX7_192 _) rfl dc_X7_next ⟨Nat.le_of_ble_eq_true rfl, Nat.le_of_ble_eq_true rfl⟩ (isX7_lt h0) (isX7_sh h0) rfl rfl rfl rfl (Nat.le_of_ble_eq_true rfl) dX7_readSupper_202 (fun m31 h => ?_)
        refine g_aload_n C 0 dX7_readSupper_205 rfl ?_
        refine g_iconst C (v := (0 : Int32)) dX7_readSupper_206 (by decide) ?_
        refine g_bipush C (v := (9 : Int32)) dX7_readSupper_207 (by decide) ?_
        refine g_callVI C [.int ((0 : Int32)), .int ((9 : Int32))] [] (ok_X7_readNumber hI h0 h) (cw_RX7_208 _) rfl dc_X7_readNumber ⟨Nat.le_of_ble_eq_true rfl, Nat.le_of_ble_eq_true rfl⟩ (isX7_lt h0) (isX7_sh h0) rfl rfl rfl rfl (Nat.le_of_ble_eq_true rfl) dX7_readSupper_209 (fun r34 m33 h => ?_)
        refine g_istore C [(5, .int r34), (0, .ref (Y.ad b)), (1, .int p1), (2, .int v2), (3, .int v3), (4, .int v4), (6, .int v6)] dX7_readSupper_212 (by decide) rfl ?_
        refine g_lv (lv2 := [(0, .ref (Y.ad b)), (1, .int p1), (2, .int v2), (3, .int v3), (4, .int v4), (5, .int r34), (6, .int v6)]) [1, 2, 3, 4, 5, 0, 6] ?_ rfl
        exact tX7_readSupper_214 C hr hI h0 _ _ _ _ _ _ h
set_option maxRecDepth 20000 in
set_option maxHeartbeats 4000000 in
theorem tX7_readSupper_137 {X : XT} {Y : YT} {l0 : Launch} {b : Nat} {p1 : Int32} {Q : Mem → Prop} (C : Cx X Y 7 cX7_readSupper RX7 WX7_readSupper (rmB 4 94) l0) (hr : RV X Y cX7_readSupper Q) (hI : YI Y) (h0 : isX7 Y b) (v2 : Int32) (v3 : Int32) (v4 : Int32) (μ : Mem) (h : nX7_readSupper_137 b p1 Q (SX7_readSupper_9 X Y b p1) (SX7_readSupper_82 X Y b p1) v2 v3 v4 μ) : G X Y 7 137 [(0, .ref (Y.ad b)), (1, .int p1), (2, .int v2), (3, .int v3), (4, .int v4)] [] μ := by
  unfold nX7_readSupper_137 at h
  refine g_iconst C (v := (0 : Int32)) dX7_readSupper_137 (by decide) ?_
  refine g_istore C [(5, .int ((0 : Int32))), (0, .ref (Y.ad b)), (1, .int p1), (2, .int v2), (3, .int v3), (4, .int v4)] dX7_readSupper_138 (by decide) rfl ?_
  refine g_iconst C (v := (0 : Int32)) dX7_readSupper_140 (by decide) ?_
  refine g_istore C [(6, .int ((0 : Int32))), (5, .int ((0 : Int32))), (0, .ref (Y.ad b)), (1, .int p1), (2, .int v2), (3, .int v3), (4, .int v4)] dX7_readSupper_141 (by decide) rfl ?_
  refine g_aload_n C 2 dX7_readSupper_143 rfl ?_
  refine gf_RX7_146 C h0 dX7_readSupper_144 ?_
  refine g_if_ne C 177 dX7_readSupper_147 (by decide) (fun c17 => ?_) (fun c17 => ?_)
  · replace h := h.1 c17
    refine g_lv (lv2 := [(0, .ref (Y.ad b)), (1, .int p1), (2, .int v2), (3, .int v3), (4, .int v4), (5, .int ((0 : Int32))), (6, .int ((0 : Int32)))]) [2, 3, 4, 5, 6, 1, 0] ?_ rfl
    exact tX7_readSupper_177 C hr hI h0 _ _ _ _ _ _ h
  · replace h := h.2 c17
    refine g_aload_n C 2 dX7_readSupper_150 rfl ?_
    refine gf_RX7_170 C h0 dX7_readSupper_151 ?_
    refine g_iconst C (v := (1 : Int32)) dX7_readSupper_154 (by decide) ?_
    refine g_icmp_ne C 177 dX7_readSupper_155 (by decide) (fun c18 => ?_) (fun c18 => ?_)
    · replace h := h.1 c18
      refine g_lv (lv2 := [(0, .ref (Y.ad b)), (1, .int p1), (2, .int v2), (3, .int v3), (4, .int v4), (5, .int ((0 : Int32))), (6, .int ((0 : Int32)))]) [2, 3, 4, 5, 6, 1, 0] ?_ rfl
      exact tX7_readSupper_177 C hr hI h0 _ _ _ _ _ _ h
    · replace h := h.2 c18
      refine g_aload_n C 2 dX7_readSupper_158 rfl ?_
      refine g_callVI C [] [] (ok_X7_nameNow hI h0 h) (cw_RX7_195 _) rfl dc_X7_nameNow ⟨Nat.le_of_ble_eq_true rfl, Nat.le_of_ble_eq_true rfl⟩ (isX7_lt h0) (isX7_sh h0) rfl rfl rfl rfl (Nat.le_of_ble_eq_true rfl) dX7_readSupper_159 (fun r20 m19 h => ?_)
      refine g_bipush C (v := (15 : Int32)) dX7_readSupper_162 (by decide) ?_
      refine g_icmp_ne C 177 dX7_readSupper_164 (by decide) (fun c21 => ?_) (fun c21 => ?_)
      · replace h := h.1 c21
        refine g_lv (lv2 := [(0, .ref (Y.ad b)), (1, .int p1), (2, .int v2), (3, .int v3), (4, .int v4), (5, .int ((0 : Int32))), (6, .int ((0 : Int32)))]) [2, 3, 4, 5, 6, 1, 0] ?_ rfl
        exact tX7_readSupper_177 C hr hI h0 _ _ _ _ _ _ h
      · replace h := h.2 c21
        refine g_aload_n C 2 dX7_readSupper_167 rfl ?_
        refine g_callVV C [] [] (ok_X7_next hI h0 h) (cw_RX7_192 _) rfl dc_X7_next ⟨Nat.le_of_ble_eq_true rfl, Nat.le_of_ble_eq_true rfl⟩ (isX7_lt h0) (isX7_sh h0) rfl rfl rfl rfl (Nat.le_of_ble_eq_true rfl) dX7_readSupper_168 (fun m22 h => ?_)
        refine g_aload_n C 2 dX7_readSupper_171 rfl ?_
        refine g_iconst C (v := (1 : Int32)) dX7_readSupper_172 (by decide) ?_
        refine g_callVI C [.int ((1 : Int32))] [] (ok_X7_readWants hI h0 h) (cw_RX7_218 _) rfl dc_X7_readWants ⟨Nat.le_of_ble_eq_true rfl, Nat.le_of_ble_eq_true rfl⟩ (isX7_lt h0) (isX7_sh h0) rfl rfl rfl rfl (Nat.le_of_ble_eq_true rfl) dX7_readSupper_173 (fun r25 m24 h => ?_)
        refine g_pop C dX7_readSupper_176 rfl ?_
        refine g_lv (lv2 := [(0, .ref (Y.ad b)), (1, .int p1), (2, .int v2), (3, .int v3), (4, .int v4), (5, .int ((0 : Int32))), (6, .int ((0 : Int32)))]) [2, 3, 4, 5, 6, 1, 0] ?_ rfl
        exact tX7_readSupper_177 C hr hI h0 _ _ _ _ _ _ h
set_option maxRecDepth 20000 in
set_option maxHeartbeats 4000000 in
theorem tX7_readSupper_9 {X : XT} {Y : YT} {l0 : Launch} {b : Nat} {p1 : Int32} {Q : Mem → Prop} (C : Cx X Y 7 cX7_readSupper RX7 WX7_readSupper (rmB 4 94) l0) (hr : RV X Y cX7_readSupper Q) (hI : YI Y) (h0 : isX7 Y b) (v2 : Int32) (v3 : Int32) (μ : Mem) (h : nX7_readSupper_9 b p1 Q (SX7_readSupper_9 X Y b p1) (SX7_readSupper_82 X Y b p1) v2 v3 μ) : G X Y 7 9 [(0, .ref (Y.ad b)), (1, .int p1), (2, .int v2), (3, .int v3)] [] μ := by
  unfold nX7_readSupper_9 at h
  refine g_iload_n C 3 dX7_readSupper_9 rfl ?_
  refine g_bipush C (v := (6 : Int32)) dX7_readSupper_10 (by decide) ?_
  refine g_icmp_ge C 51 dX7_readSupper_12 (by decide) (fun c1 => ?_) (fun c1 => ?_)
  · replace h := h.1 c1
    refine g_iconst C (v := (0 : Int32)) dX7_readSupper_51 (by decide) ?_
    refine g_istore_n C [(3, .int ((0 : Int32))), (0, .ref (Y.ad b)), (1, .int p1), (2, .int v2)] dX7_readSupper_52 (by decide) rfl ?_
    refine g_iconst C (v := (0 : Int32)) dX7_readSupper_53 (by decide) ?_
    refine g_istore C [(4, .int ((0 : Int32))), (3, .int ((0 : Int32))), (0, .ref (Y.ad b)), (1, .int p1), (2, .int v2)] dX7_readSupper_54 (by decide) rfl ?_
    refine g_iload_n C 3 dX7_readSupper_56 rfl ?_
    refine g_iconst C (v := (3 : Int32)) dX7_readSupper_57 (by decide) ?_
    refine g_icmp_ne C 130 dX7_readSupper_58 (by decide) (fun c2 => ?_) (fun c2 => ?_)
    · replace h := h.1 c2
      refine g_aload_n C 2 dX7_readSupper_130 rfl ?_
      refine g_iconst C (v := (0 : Int32)) dX7_readSupper_131 (by decide) ?_
      refine g_callVI C [.int ((0 : Int32))] [] (ok_X7_readWants hI h0 h) (cw_RX7_218 _) rfl dc_X7_readWants ⟨Nat.le_of_ble_eq_true rfl, Nat.le_of_ble_eq_true rfl⟩ (isX7_lt h0) (isX7_sh h0) rfl rfl rfl rfl (Nat.le_of_ble_eq_true rfl) dX7_readSupper_132 (fun r4 m3 h => ?_)
      refine g_istore C [(4, .int r4), (3, .int ((0 : Int32))), (0, .ref (Y.ad b)), (1, .int p1), (2, .int v2)] dX7_readSupper_135 (by decide) rfl ?_
      refine g_lv (lv2 := [(0, .ref (Y.ad b)), (1, .int p1), (2, .int v2), (3, .int ((0 : Int32))), (4, .int r4)]) [2, 3, 4, 1, 0] ?_ rfl
      exact tX7_readSupper_137 C hr hI h0 _ _ _ _ h
    · replace h := h.2 c2
      refine g_aload_n C 2 dX7_readSupper_61 rfl ?_
      refine g_iconst C (v := (1 : Int32)) dX7_readSupper_62 (by decide) ?_
      refine g_bipush C (v := (9 : Int32)) dX7_readSupper_63 (by decide) ?_
      refine g_callVI C [.int ((1 : Int32)), .int ((9 : Int32))] [] (ok_X7_readNumber hI h0 h) (cw_RX7_208 _) rfl dc_X7_readNumber ⟨Nat.le_of_ble_eq_true rfl, Nat.le_of_ble_eq_true rfl⟩ (isX7_lt h0) (isX7_sh h0) rfl rfl rfl rfl (Nat.le_of_ble_eq_true rfl) dX7_readSupper_65 (fun r6 m5 h => ?_)
      refine g_istore_n C [(3, .int r6), (4, .int ((0 : Int32))), (0, .ref (Y.ad b)), (1, .int p1), (2, .int v2)] dX7_readSupper_68 (by decide) rfl ?_
      refine g_aload_n C 2 dX7_readSupper_69 rfl ?_
      refine g_bipush C (v := (97 : Int32)) dX7_readSupper_70 (by decide) ?_
      refine g_bipush C (v := (6 : Int32)) dX7_readSupper_72 (by decide) ?_
      refine g_callVI C [.int ((97 : Int32)), .int ((6 : Int32))] [] (ok_X7_readLetters hI h0 h) (cw_RX7_215 _) rfl dc_X7_readLetters ⟨Nat.le_of_ble_eq_true rfl, Nat.le_of_ble_eq_true rfl⟩ (isX7_lt h0) (isX7_sh h0) rfl rfl rfl rfl (Nat.le_of_ble_eq_true rfl) dX7_readSupper_74 (fun r8 m7 h => ?_)
      refine g_istore C [(4, .int r8), (3, .int r6), (0, .ref (Y.ad b)), (1, .int p1), (2, .int v2)] dX7_readSupper_77 (by decide) rfl ?_
      refine g_iconst C (v := (0 : Int32)) dX7_readSupper_79 (by decide) ?_
      refine g_istore C [(5, .int ((0 : Int32))), (4, .int r8), (3, .int r6), (0, .ref (Y.ad b)), (1, .int p1), (2, .int v2)] dX7_readSupper_80 (by decide) rfl ?_
      refine g_lv (lv2 := [(0, .ref (Y.ad b)), (1, .int p1), (2, .int v2), (3, .int r6), (4, .int r8), (5, .int ((0 : Int32)))]) [3, 4, 5, 2, 1, 0] ?_ rfl
      exact h
  · replace h := h.2 c1
    refine g_aload_n C 0 dX7_readSupper_15 rfl ?_
    refine gf_RX7_31 C h0 dX7_readSupper_16 ?_
    refine g_bipush C (v := (6 : Int32)) dX7_readSupper_19 (by decide) ?_
    refine g_aload_n C 0 dX7_readSupper_21 rfl ?_
    refine gf_RX7_93 C h0 dX7_readSupper_22 ?_
    refine g_imul C dX7_readSupper_25 ?_
    refine g_iload_n C 3 dX7_readSupper_26 rfl ?_
    refine g_iadd C dX7_readSupper_27 ?_
    refine g_iconst C (v := (0 : Int32)) dX7_readSupper_28 (by decide) ?_
    refine g_iast C (isX7_dWants h0).1 (isX7_dWants h0).2 h.1 dX7_readSupper_29 ?_
    replace h := h.2
    refine g_aload_n C 0 dX7_readSupper_30 rfl ?_
    refine gf_RX7_34 C h0 dX7_readSupper_31 ?_
    refine g_bipush C (v := (6 : Int32)) dX7_readSupper_34 (by decide) ?_
    refine g_aload_n C 0 dX7_readSupper_36 rfl ?_
    refine gf_RX7_93 C h0 dX7_readSupper_37 ?_
    refine g_imul C dX7_readSupper_40 ?_
    refine g_iload_n C 3 dX7_readSupper_41 rfl ?_
    refine g_iadd C dX7_readSupper_42 ?_
    refine g_iconst C (v := (0 : Int32)) dX7_readSupper_43 (by decide) ?_
    refine g_iast C (isX7_dLeaves h0).1 (isX7_dLeaves h0).2 h.1 dX7_readSupper_44 ?_
    replace h := h.2
    refine g_mem (fun m9 em9 => ?_)
    replace h := h m9 em9
    refine g_iinc C (v := v3 + 1) 3 [(3, .int (v3 + 1)), (0, .ref (Y.ad b)), (1, .int p1), (2, .int v2)] dX7_readSupper_45 rfl rfl (by decide) rfl ?_
    refine g_goto C 9 dX7_readSupper_48 (by decide) ?_
    refine g_lv (lv2 := [(0, .ref (Y.ad b)), (1, .int p1), (2, .int v2), (3, .int (v3 + 1))]) [1, 2, 3, 0] ?_ rfl
    exact h
set_option maxRecDepth 20000 in
set_option maxHeartbeats 4000000 in
theorem tX7_readSupper_117 {X : XT} {Y : YT} {l0 : Launch} {b : Nat} {p1 : Int32} {Q : Mem → Prop} (C : Cx X Y 7 cX7_readSupper RX7 WX7_readSupper (rmB 4 94) l0) (hr : RV X Y cX7_readSupper Q) (hI : YI Y) (h0 : isX7 Y b) (v2 : Int32) (v3 : Int32) (v4 : Int32) (v5 : Int32) (μ : Mem) (h : nX7_readSupper_117 b p1 Q (SX7_readSupper_9 X Y b p1) (SX7_readSupper_82 X Y b p1) v2 v3 v4 v5 μ) : G X Y 7 117 [(0, .ref (Y.ad b)), (1, .int p1), (2, .int v2), (3, .int v3), (4, .int v4), (5, .int v5)] [] μ := by
  unfold nX7_readSupper_117 at h
  refine g_iinc C (v := v5 + 1) 5 [(5, .int (v5 + 1)), (0, .ref (Y.ad b)), (1, .int p1), (2, .int v2), (3, .int v3), (4, .int v4)] dX7_readSupper_117 rfl rfl (by decide) rfl ?_
  refine g_goto C 82 dX7_readSupper_120 (by decide) ?_
  refine g_lv (lv2 := [(0, .ref (Y.ad b)), (1, .int p1), (2, .int v2), (3, .int v3), (4, .int v4), (5, .int (v5 + 1))]) [1, 2, 3, 4, 5, 0] ?_ rfl
  exact h
set_option maxRecDepth 20000 in
set_option maxHeartbeats 4000000 in
theorem tX7_readSupper_82 {X : XT} {Y : YT} {l0 : Launch} {b : Nat} {p1 : Int32} {Q : Mem → Prop} (C : Cx X Y 7 cX7_readSupper RX7 WX7_readSupper (rmB 4 94) l0) (hr : RV X Y cX7_readSupper Q) (hI : YI Y) (h0 : isX7 Y b) (v2 : Int32) (v3 : Int32) (v4 : Int32) (v5 : Int32) (μ : Mem) (h : nX7_readSupper_82 b p1 Q (SX7_readSupper_9 X Y b p1) (SX7_readSupper_82 X Y b p1) v2 v3 v4 v5 μ) : G X Y 7 82 [(0, .ref (Y.ad b)), (1, .int p1), (2, .int v2), (3, .int v3), (4, .int v4), (5, .int v5)] [] μ := by
  unfold nX7_readSupper_82 at h
  refine g_iload C 5 dX7_readSupper_82 rfl ?_
  refine g_bipush C (v := (6 : Int32)) dX7_readSupper_84 (by decide) ?_
  refine g_icmp_ge C 123 dX7_readSupper_86 (by decide) (fun c10 => ?_) (fun c10 => ?_)
  · replace h := h.1 c10
    refine g_aload_n C 0 dX7_readSupper_123 rfl ?_
    refine g_callVV C [] [] (ok_X7_next hI h0 h) (cw_RX7_192 _) rfl dc_X7_next ⟨Nat.le_of_ble_eq_true rfl, Nat.le_of_ble_eq_true rfl⟩ (isX7_lt h0) (isX7_sh h0) rfl rfl rfl rfl (Nat.le_of_ble_eq_true rfl) dX7_readSupper_124 (fun m11 h => ?_)
    refine g_goto C 137 dX7_readSupper_127 (by decide) ?_
    refine g_lv (lv2 := [(0, .ref (Y.ad b)), (1, .int p1), (2, .int v2), (3, .int v3), (4, .int v4)]) [0, 1, 2, 3, 4] ?_ rfl
    exact tX7_readSupper_137 C hr hI h0 _ _ _ _ h
  · replace h := h.2 c10
    refine g_aload_n C 0 dX7_readSupper_89 rfl ?_
    refine gf_RX7_146 C h0 dX7_readSupper_90 ?_
    refine g_if_ne C 117 dX7_readSupper_93 (by decide) (fun c13 => ?_) (fun c13 => ?_)
    · replace h := h.1 c13
      exact tX7_readSupper_117 C hr hI h0 _ _ _ _ _ h
    · replace h := h.2 c13
      refine g_iload C 4 dX7_readSupper_96 rfl ?_
      refine g_iload C 5 dX7_readSupper_98 rfl ?_
      refine g_ishr C dX7_readSupper_100 ?_
      refine g_iconst C (v := (1 : Int32)) dX7_readSupper_101 (by decide) ?_
      refine g_iand C dX7_readSupper_102 ?_
      refine g_iconst C (v := (1 : Int32)) dX7_readSupper_103 (by decide) ?_
      refine g_icmp_ne C 117 dX7_readSupper_104 (by decide) (fun c14 => ?_) (fun c14 => ?_)
      · replace h := h.1 c14
        exact tX7_readSupper_117 C hr hI h0 _ _ _ _ _ h
      · replace h := h.2 c14
        refine g_aload_n C 0 dX7_readSupper_107 rfl ?_
        refine g_iload C 5 dX7_readSupper_108 rfl ?_
        refine g_aload_n C 0 dX7_readSupper_110 rfl ?_
        refine gf_RX7_149 C h0 dX7_readSupper_111 ?_
        refine g_callVV C [.int v5, .int (μ.1 b 28)] [] (ok_X7_uses hI h0 h) (cw_RX7_205 _) rfl dc_X7_uses ⟨Nat.le_of_ble_eq_true rfl, Nat.le_of_ble_eq_true rfl⟩ (isX7_lt h0) (isX7_sh h0) rfl rfl rfl rfl (Nat.le_of_ble_eq_true rfl) dX7_readSupper_114 (fun m15 h => ?_)
        exact tX7_readSupper_117 C hr hI h0 _ _ _ _ _ h
set_option maxRecDepth 20000 in
set_option maxHeartbeats 4000000 in
theorem ok_X7_readSupper {Y : YT} {l0 : Launch} {b : Nat} {p1 : Int32} {μ : Mem} {Q : Mem → Prop} (hI : YI Y) (h0 : isX7 Y b) (h : PX7_readSupper b p1 μ Q) : MV l0 yX7_readSupper WX7_readSupper 4 94 Y [.ref (Y.ad b), .int p1] μ Q := by
  refine mV_of (cc := cX7_readSupper) (maxL := 7) (by decide +kernel) rfl hI (Nat.le_of_ble_eq_true rfl) (fun X C hr => ?_)
  replace C : Cx X Y 7 cX7_readSupper RX7 WX7_readSupper (rmB 4 94) l0 := C
  refine g_lv (lv2 := [(0, .ref (Y.ad b)), (1, .int p1)]) [0, 1] ?_ rfl
  unfold PX7_readSupper at h
  replace h := h (SX7_readSupper_9 X Y b p1) (SX7_readSupper_82 X Y b p1) (fun v2 v3 μ z => tX7_readSupper_9 C hr hI h0 v2 v3 μ z) (fun v2 v3 v4 v5 μ z => tX7_readSupper_82 C hr hI h0 v2 v3 v4 v5 μ z)
  refine g_iconst C (v := (5 : Int32)) dX7_readSupper_0 (by decide) ?_
  refine g_aload_n C 0 dX7_readSupper_1 rfl ?_
  refine gf_RX7_93 C h0 dX7_readSupper_2 ?_
  refine g_imul C dX7_readSupper_5 ?_
  refine g_istore_n C [(2, .int (((5 : Int32)) * (μ.1 b 12))), (0, .ref (Y.ad b)), (1, .int p1)] dX7_readSupper_6 (by decide) rfl ?_
  refine g_iconst C (v := (0 : Int32)) dX7_readSupper_7 (by decide) ?_
  refine g_istore_n C [(3, .int ((0 : Int32))), (2, .int (((5 : Int32)) * (μ.1 b 12))), (0, .ref (Y.ad b)), (1, .int p1)] dX7_readSupper_8 (by decide) rfl ?_
  refine g_lv (lv2 := [(0, .ref (Y.ad b)), (1, .int p1), (2, .int (((5 : Int32)) * (μ.1 b 12))), (3, .int ((0 : Int32)))]) [2, 3, 1, 0] ?_ rfl
  exact h
set_option maxRecDepth 20000 in
set_option maxHeartbeats 4000000 in
theorem ok_X7_readThing {Y : YT} {l0 : Launch} {b : Nat} {μ : Mem} {Q : Mem → Prop} (hI : YI Y) (h0 : isX7 Y b) (h : PX7_readThing b μ Q) : MV l0 yX7_readThing WX7_readThing 3 70 Y [.ref (Y.ad b)] μ Q := by
  refine mV_of (cc := cX7_readThing) (maxL := 5) (by decide +kernel) rfl hI (Nat.le_of_ble_eq_true rfl) (fun X C hr => ?_)
  replace C : Cx X Y 5 cX7_readThing RX7 WX7_readThing (rmB 3 70) l0 := C
  refine g_lv (lv2 := [(0, .ref (Y.ad b))]) [0] ?_ rfl
  unfold PX7_readThing at h
  refine g_iconst C (v := (3 : Int32)) dX7_readThing_0 (by decide) ?_
  refine g_aload_n C 0 dX7_readThing_1 rfl ?_
  refine gf_RX7_89 C h0 dX7_readThing_2 ?_
  refine g_imul C dX7_readThing_5 ?_
  refine g_istore_n C [(1, .int (((3 : Int32)) * (μ.1 b 10))), (0, .ref (Y.ad b))] dX7_readThing_6 (by decide) rfl ?_
  refine g_aload_n C 1 dX7_readThing_7 rfl ?_
  refine g_iconst C (v := (1 : Int32)) dX7_readThing_8 (by decide) ?_
  refine g_iconst C (v := (4 : Int32)) dX7_readThing_9 (by decide) ?_
  refine g_callVI C [.int ((1 : Int32)), .int ((4 : Int32))] [] (ok_X7_readNumber hI h0 h) (cw_RX7_208 _) rfl dc_X7_readNumber ⟨Nat.le_of_ble_eq_true rfl, Nat.le_of_ble_eq_true rfl⟩ (isX7_lt h0) (isX7_sh h0) rfl rfl rfl rfl (Nat.le_of_ble_eq_true rfl) dX7_readThing_10 (fun r2 m1 h => ?_)
  refine g_istore_n C [(2, .int r2), (1, .int (((3 : Int32)) * (μ.1 b 10))), (0, .ref (Y.ad b))] dX7_readThing_13 (by decide) rfl ?_
  refine g_aload_n C 2 dX7_readThing_14 rfl ?_
  refine g_iconst C (v := (1 : Int32)) dX7_readThing_15 (by decide) ?_
  refine g_iconst C (v := (4 : Int32)) dX7_readThing_16 (by decide) ?_
  refine g_callVI C [.int ((1 : Int32)), .int ((4 : Int32))] [] (ok_X7_readNumber hI h0 h) (cw_RX7_208 _) rfl dc_X7_readNumber ⟨Nat.le_of_ble_eq_true rfl, Nat.le_of_ble_eq_true rfl⟩ (isX7_lt h0) (isX7_sh h0) rfl rfl rfl rfl (Nat.le_of_ble_eq_true rfl) dX7_readThing_17 (fun r4 m3 h => ?_)
  refine g_istore_n C [(3, .int r4), (2, .int r2), (1, .int (((3 : Int32)) * (μ.1 b 10))), (0, .ref (Y.ad b))] dX7_readThing_20 (by decide) rfl ?_
  refine g_aload_n C 3 dX7_readThing_21 rfl ?_
  refine g_iconst C (v := (0 : Int32)) dX7_readThing_22 (by decide) ?_
  refine g_bipush C (v := (60 : Int32)) dX7_readThing_23 (by decide) ?_
  refine g_callVI C [.int ((0 : Int32)), .int ((60 : Int32))] [] (ok_X7_readNumber hI h0 h) (cw_RX7_208 _) rfl dc_X7_readNumber ⟨Nat.le_of_ble_eq_true rfl, Nat.le_of_ble_eq_true rfl⟩ (isX7_lt h0) (isX7_sh h0) rfl rfl rfl rfl (Nat.le_of_ble_eq_true rfl) dX7_readThing_25 (fun r6 m5 h => ?_)
  refine g_istore C [(4, .int r6), (3, .int r4), (2, .int r2), (1, .int (((3 : Int32)) * (μ.1 b 10))), (0, .ref (Y.ad b))] dX7_readThing_28 (by decide) rfl ?_
  refine g_aload_n C 4 dX7_readThing_30 rfl ?_
  refine gf_RX7_146 C h0 dX7_readThing_31 ?_
  refine g_if_ne C 73 dX7_readThing_34 (by decide) (fun c7 => ?_) (fun c7 => ?_)
  · replace h := h.1 c7
    exact hr _ _ _ _ dX7_readThing_73 h
  · replace h := h.2 c7
    refine g_aload_n C 4 dX7_readThing_37 rfl ?_
    refine gf_RX7_25 C h0 dX7_readThing_38 ?_
    refine g_iload_n C 3 dX7_readThing_41 rfl ?_
    refine g_iload_n C 2 dX7_readThing_42 rfl ?_
    refine g_iast C (isX7_dThing h0).1 (isX7_dThing h0).2 h.1 dX7_readThing_43 ?_
    replace h := h.2
    refine g_aload_n C 4 dX7_readThing_44 rfl ?_
    refine gf_RX7_25 C h0 dX7_readThing_45 ?_
    refine g_iload_n C 3 dX7_readThing_48 rfl ?_
    refine g_iconst C (v := (1 : Int32)) dX7_readThing_49 (by decide) ?_
    refine g_iadd C dX7_readThing_50 ?_
    refine g_iload_n C 1 dX7_readThing_51 rfl ?_
    refine g_iast C (isX7_dThing h0).1 (isX7_dThing h0).2 h.1 dX7_readThing_52 ?_
    replace h := h.2
    refine g_mem (fun m8 em8 => ?_)
    replace h := h m8 em8
    refine g_aload_n C 4 dX7_readThing_53 rfl ?_
    refine gf_RX7_25 C h0 dX7_readThing_54 ?_
    refine g_iload_n C 3 dX7_readThing_57 rfl ?_
    refine g_iconst C (v := (2 : Int32)) dX7_readThing_58 (by decide) ?_
    refine g_iadd C dX7_readThing_59 ?_
    refine g_iload C 0 dX7_readThing_60 rfl ?_
    refine g_iast C (isX7_dThing h0).1 (isX7_dThing h0).2 h.1 dX7_readThing_62 ?_
    replace h := h.2
    refine g_aload_n C 4 dX7_readThing_63 rfl ?_
    refine g_dup C dX7_readThing_64 rfl ?_
    refine gf_RX7_89 C h0 dX7_readThing_65 ?_
    refine g_iconst C (v := (1 : Int32)) dX7_readThing_68 (by decide) ?_
    refine g_iadd C dX7_readThing_69 ?_
    refine gp_RX7_89 C h0 dX7_readThing_70 ?_
    refine g_mem (fun m9 em9 => ?_)
    replace h := h m9 em9
    exact hr _ _ _ _ dX7_readThing_73 h
def SX7_readShops_4 (X : XT) (Y : YT) (b : Nat) : Int32 → Int32 → Mem → Prop := fun v1 v2 μ => G X Y 4 4 [(0, .ref (Y.ad b)), (1, .int v1), (2, .int v2)] [] μ
set_option maxRecDepth 20000 in
set_option maxHeartbeats 4000000 in
theorem tX7_readShops_40 {X : XT} {Y : YT} {l0 : Launch} {b : Nat} {Q : Mem → Prop} (C : Cx X Y 4 cX7_readShops RX7 WX7_readShops (rmB 3 70) l0) (hr : RV X Y cX7_readShops Q) (hI : YI Y) (h0 : isX7 Y b) (v1 : Int32) (μ : Mem) (h : nX7_readShops_40 b Q (SX7_readShops_4 X Y b) v1 μ) : G X Y 4 40 [(0, .ref (Y.ad b)), (1, .int v1)] [] μ := by
  unfold nX7_readShops_40 at h
  refine g_aload_n C 0 dX7_readShops_40 rfl ?_
  refine g_iload_n C 1 dX7_readShops_41 rfl ?_
  refine gp_RX7_99 C h0 dX7_readShops_42 ?_
  exact hr _ _ _ _ dX7_readShops_45 h
set_option maxRecDepth 20000 in
set_option maxHeartbeats 4000000 in
theorem tX7_readShops_4 {X : XT} {Y : YT} {l0 : Launch} {b : Nat} {Q : Mem → Prop} (C : Cx X Y 4 cX7_readShops RX7 WX7_readShops (rmB 3 70) l0) (hr : RV X Y cX7_readShops Q) (hI : YI Y) (h0 : isX7 Y b) (v1 : Int32) (v2 : Int32) (μ : Mem) (h : nX7_readShops_4 b Q (SX7_readShops_4 X Y b) v1 v2 μ) : G X Y 4 4 [(0, .ref (Y.ad b)), (1, .int v1), (2, .int v2)] [] μ := by
  unfold nX7_readShops_4 at h
  refine g_aload_n C 0 dX7_readShops_4 rfl ?_
  refine gf_RX7_146 C h0 dX7_readShops_5 ?_
  refine g_if_ne C 40 dX7_readShops_8 (by decide) (fun c1 => ?_) (fun c1 => ?_)
  · replace h := h.1 c1
    refine g_lv (lv2 := [(0, .ref (Y.ad b)), (1, .int v1)]) [0, 1] ?_ rfl
    exact tX7_readShops_40 C hr hI h0 _ _ h
  · replace h := h.2 c1
    refine g_aload_n C 0 dX7_readShops_11 rfl ?_
    refine gf_RX7_170 C h0 dX7_readShops_12 ?_
    refine g_iconst C (v := (2 : Int32)) dX7_readShops_15 (by decide) ?_
    refine g_icmp_ne C 40 dX7_readShops_16 (by decide) (fun c2 => ?_) (fun c2 => ?_)
    · replace h := h.1 c2
      refine g_lv (lv2 := [(0, .ref (Y.ad b)), (1, .int v1)]) [0, 1] ?_ rfl
      exact tX7_readShops_40 C hr hI h0 _ _ h
    · replace h := h.2 c2
      refine g_aload_n C 0 dX7_readShops_19 rfl ?_
      refine g_iload_n C 2 dX7_readShops_20 rfl ?_
      refine g_bipush C (v := (6 : Int32)) dX7_readShops_21 (by decide) ?_
      refine g_callVI C [.int v2, .int ((6 : Int32))] [] (ok_X7_readNumber hI h0 h) (cw_RX7_208 _) rfl dc_X7_readNumber ⟨Nat.le_of_ble_eq_true rfl, Nat.le_of_ble_eq_true rfl⟩ (isX7_lt h0) (isX7_sh h0) rfl rfl rfl rfl (Nat.le_of_ble_eq_true rfl) dX7_readShops_23 (fun r4 m3 h => ?_)
      refine g_istore_n C [(3, .int r4), (0, .ref (Y.ad b)), (1, .int v1), (2, .int v2)] dX7_readShops_26 (by decide) rfl ?_
      refine g_iload_n C 2 dX7_readShops_27 rfl ?_
      refine g_iconst C (v := (1 : Int32)) dX7_readShops_28 (by decide) ?_
      refine g_iload_n C 0 dX7_readShops_29 rfl ?_
      refine g_ishl C dX7_readShops_30 ?_
      refine g_ior C dX7_readShops_31 ?_
      refine g_istore_n C [(1, .int (v1 ||| (((1 : Int32)) <<< (r4 &&& 31)))), (3, .int r4), (0, .ref (Y.ad b)), (2, .int v2)] dX7_readShops_32 (by decide) rfl ?_
      refine g_iload_n C 1 dX7_readShops_33 rfl ?_
      refine g_iconst C (v := (1 : Int32)) dX7_readShops_34 (by decide) ?_
      refine g_iadd C dX7_readShops_35 ?_
      refine g_istore_n C [(2, .int (r4 + ((1 : Int32)))), (1, .int (v1 ||| (((1 : Int32)) <<< (r4 &&& 31)))), (3, .int r4), (0, .ref (Y.ad b))] dX7_readShops_36 (by decide) rfl ?_
      refine g_goto C 4 dX7_readShops_37 (by decide) ?_
      refine g_lv (lv2 := [(0, .ref (Y.ad b)), (1, .int (v1 ||| (((1 : Int32)) <<< (r4 &&& 31)))), (2, .int (r4 + ((1 : Int32))))]) [3, 1, 0] ?_ rfl
      exact h
set_option maxRecDepth 20000 in
set_option maxHeartbeats 4000000 in
theorem ok_X7_readShops {Y : YT} {l0 : Launch} {b : Nat} {μ : Mem} {Q : Mem → Prop} (hI : YI Y) (h0 : isX7 Y b) (h : PX7_readShops b μ Q) : MV l0 yX7_readShops WX7_readShops 3 70 Y [.ref (Y.ad b)] μ Q := by
  refine mV_of (cc := cX7_readShops) (maxL := 4) (by decide +kernel) rfl hI (Nat.le_of_ble_eq_true rfl) (fun X C hr => ?_)
  replace C : Cx X Y 4 cX7_readShops RX7 WX7_readShops (rmB 3 70) l0 := C
  refine g_lv (lv2 := [(0, .ref (Y.ad b))]) [0] ?_ rfl
  unfold PX7_readShops at h
  replace h := h (SX7_readShops_4 X Y b) (fun v1 v2 μ z => tX7_readShops_4 C hr hI h0 v1 v2 μ z)
  refine g_iconst C (v := (0 : Int32)) dX7_readShops_0 (by decide) ?_
  refine g_istore_n C [(1, .int ((0 : Int32))), (0, .ref (Y.ad b))] dX7_readShops_1 (by decide) rfl ?_
  refine g_iconst C (v := (0 : Int32)) dX7_readShops_2 (by decide) ?_
  refine g_istore_n C [(2, .int ((0 : Int32))), (1, .int ((0 : Int32))), (0, .ref (Y.ad b))] dX7_readShops_3 (by decide) rfl ?_
  refine g_lv (lv2 := [(0, .ref (Y.ad b)), (1, .int ((0 : Int32))), (2, .int ((0 : Int32)))]) [2, 1, 0] ?_ rfl
  exact h
set_option maxRecDepth 20000 in
set_option maxHeartbeats 4000000 in
theorem tX7_readWeekDay_37 {X : XT} {Y : YT} {l0 : Launch} {b : Nat} {p1 : Int32} {Q : Int32 → Mem → Prop} (C : Cx X Y 3 cX7_readWeekDay RX7 WX7_readWeekDay (rmB 2 47) l0) (hr : RI X Y cX7_readWeekDay .int Q) (hI : YI Y) (h0 : isX7 Y b) (v2 : Int32) (μ : Mem) (h : nX7_readWeekDay_37 b p1 Q v2 μ) : G X Y 3 37 [(0, .ref (Y.ad b)), (1, .int p1), (2, .int v2)] [] μ := by
  unfold nX7_readWeekDay_37 at h
  refine g_aload_n C 0 dX7_readWeekDay_37 rfl ?_
  refine g_callVV C [] [] (ok_X7_next hI h0 h) (cw_RX7_192 _) rfl dc_X7_next ⟨Nat.le_of_ble_eq_true rfl, Nat.le_of_ble_eq_true rfl⟩ (isX7_lt h0) (isX7_sh h0) rfl rfl rfl rfl (Nat.le_of_ble_eq_true rfl) dX7_readWeekDay_38 (fun m7 h => ?_)
  refine g_iload_n C 2 dX7_readWeekDay_41 rfl ?_
  exact hr _ _ _ _ _ dX7_readWeekDay_42 rfl h
set_option maxRecDepth 20000 in
set_option maxHeartbeats 4000000 in
theorem tX7_readWeekDay_33 {X : XT} {Y : YT} {l0 : Launch} {b : Nat} {p1 : Int32} {Q : Int32 → Mem → Prop} (C : Cx X Y 3 cX7_readWeekDay RX7 WX7_readWeekDay (rmB 2 47) l0) (hr : RI X Y cX7_readWeekDay .int Q) (hI : YI Y) (h0 : isX7 Y b) (v2 : Int32) (w0 : Int32) (μ : Mem) (h : nX7_readWeekDay_33 b p1 Q v2 w0 μ) : G X Y 3 33 [(0, .ref (Y.ad b)), (1, .int p1), (2, .int v2)] [.int w0, .ref (Y.ad b)] μ := by
  unfold nX7_readWeekDay_33 at h
  refine g_iconst C (v := (4 : Int32)) dX7_readWeekDay_33 (by decide) ?_
  refine g_callVV C [.int w0, .int ((4 : Int32))] [] (ok_X7_needs hI h0 h) (cw_RX7_184 _) rfl dc_X7_needs ⟨Nat.le_of_ble_eq_true rfl, Nat.le_of_ble_eq_true rfl⟩ (isX7_lt h0) (isX7_sh h0) rfl rfl rfl rfl (Nat.le_of_ble_eq_true rfl) dX7_readWeekDay_34 (fun m5 h => ?_)
  exact tX7_readWeekDay_37 C hr hI h0 _ _ h
set_option maxRecDepth 20000 in
set_option maxHeartbeats 4000000 in
theorem ok_X7_readWeekDay {Y : YT} {l0 : Launch} {b : Nat} {p1 : Int32} {μ : Mem} {Q : Int32 → Mem → Prop} (hI : YI Y) (h0 : isX7 Y b) (h : PX7_readWeekDay b p1 μ Q) : MI l0 yX7_readWeekDay WX7_readWeekDay 2 47 Y [.ref (Y.ad b), .int p1] μ Q := by
  refine mI_of (ty := .int) (cc := cX7_readWeekDay) (maxL := 3) (by decide +kernel) rfl hI (Nat.le_of_ble_eq_true rfl) (fun X C hr => ?_)
  replace C : Cx X Y 3 cX7_readWeekDay RX7 WX7_readWeekDay (rmB 2 47) l0 := C
  refine g_lv (lv2 := [(0, .ref (Y.ad b)), (1, .int p1)]) [0, 1] ?_ rfl
  unfold PX7_readWeekDay at h
  refine g_aload_n C 0 dX7_readWeekDay_0 rfl ?_
  refine g_iconst C (v := (0 : Int32)) dX7_readWeekDay_1 (by decide) ?_
  refine g_bipush C (v := (6 : Int32)) dX7_readWeekDay_2 (by decide) ?_
  refine g_callVV C [.int ((0 : Int32)), .int ((6 : Int32))] [] (ok_X7_isNumber hI h0 h) (cw_RX7_188 _) rfl dc_X7_isNumber ⟨Nat.le_of_ble_eq_true rfl, Nat.le_of_ble_eq_true rfl⟩ (isX7_lt h0) (isX7_sh h0) rfl rfl rfl rfl (Nat.le_of_ble_eq_true rfl) dX7_readWeekDay_4 (fun m1 h => ?_)
  refine g_aload_n C 0 dX7_readWeekDay_7 rfl ?_
  refine gf_RX7_181 C h0 dX7_readWeekDay_8 ?_
  refine g_istore_n C [(2, .int (m1.1 b 30)), (0, .ref (Y.ad b)), (1, .int p1)] dX7_readWeekDay_11 (by decide) rfl ?_
  refine g_aload_n C 1 dX7_readWeekDay_12 rfl ?_
  refine gf_RX7_146 C h0 dX7_readWeekDay_13 ?_
  refine g_if_ne C 37 dX7_readWeekDay_16 (by decide) (fun c3 => ?_) (fun c3 => ?_)
  · replace h := h.1 c3
    refine g_lv (lv2 := [(0, .ref (Y.ad b)), (1, .int p1), (2, .int (m1.1 b 30))]) [1, 2, 0] ?_ rfl
    exact tX7_readWeekDay_37 C hr hI h0 _ _ h
  · replace h := h.2 c3
    refine g_aload_n C 1 dX7_readWeekDay_19 rfl ?_
    refine g_iload_n C 2 dX7_readWeekDay_20 rfl ?_
    refine g_iload_n C 0 dX7_readWeekDay_21 rfl ?_
    refine g_ishr C dX7_readWeekDay_22 ?_
    refine g_iconst C (v := (1 : Int32)) dX7_readWeekDay_23 (by decide) ?_
    refine g_iand C dX7_readWeekDay_24 ?_
    refine g_if_ne C 32 dX7_readWeekDay_25 (by decide) (fun c4 => ?_) (fun c4 => ?_)
    · replace h := h.1 c4
      refine g_iconst C (v := (0 : Int32)) dX7_readWeekDay_32 (by decide) ?_
      refine g_lv (lv2 := [(0, .ref (Y.ad b)), (1, .int p1), (2, .int (m1.1 b 30))]) [1, 2, 0] ?_ rfl
      exact tX7_readWeekDay_33 C hr hI h0 _ _ _ h
    · replace h := h.2 c4
      refine g_iconst C (v := (1 : Int32)) dX7_readWeekDay_28 (by decide) ?_
      refine g_goto C 33 dX7_readWeekDay_29 (by decide) ?_
      refine g_lv (lv2 := [(0, .ref (Y.ad b)), (1, .int p1), (2, .int (m1.1 b 30))]) [1, 2, 0] ?_ rfl
      exact tX7_readWeekDay_33 C hr hI h0 _ _ _ h
def SX7_readGuest_4 (X : XT) (Y : YT) (b : Nat) : Int32 → Int32 → Mem → Prop := fun v1 v2 μ => G X Y 4 4 [(0, .ref (Y.ad b)), (1, .int v1), (2, .int v2)] [] μ
set_option maxRecDepth 20000 in
set_option maxHeartbeats 4000000 in
theorem tX7_readGuest_27 {X : XT} {Y : YT} {l0 : Launch} {b : Nat} {Q : Mem → Prop} (C : Cx X Y 4 cX7_readGuest RX7 WX7_readGuest (rmB 3 70) l0) (hr : RV X Y cX7_readGuest Q) (hI : YI Y) (h0 : isX7 Y b) (v2 : Int32) (w0 : Int32) (w1 : Int32) (μ : Mem) (h : nX7_readGuest_27 b Q (SX7_readGuest_4 X Y b) v2 w0 w1 μ) : G X Y 4 27 [(0, .ref (Y.ad b)), (2, .int v2)] [.int w0, .int w1] μ := by
  unfold nX7_readGuest_27 at h
  refine g_ior C dX7_readGuest_27 ?_
  refine g_istore_n C [(1, .int (w1 ||| w0)), (0, .ref (Y.ad b)), (2, .int v2)] dX7_readGuest_28 (by decide) rfl ?_
  refine g_iinc C (v := v2 + 1) 2 [(2, .int (v2 + 1)), (1, .int (w1 ||| w0)), (0, .ref (Y.ad b))] dX7_readGuest_29 rfl rfl (by decide) rfl ?_
  refine g_goto C 4 dX7_readGuest_32 (by decide) ?_
  refine g_lv (lv2 := [(0, .ref (Y.ad b)), (1, .int (w1 ||| w0)), (2, .int (v2 + 1))]) [2, 1, 0] ?_ rfl
  exact h
set_option maxRecDepth 20000 in
set_option maxHeartbeats 4000000 in
theorem tX7_readGuest_4 {X : XT} {Y : YT} {l0 : Launch} {b : Nat} {Q : Mem → Prop} (C : Cx X Y 4 cX7_readGuest RX7 WX7_readGuest (rmB 3 70) l0) (hr : RV X Y cX7_readGuest Q) (hI : YI Y) (h0 : isX7 Y b) (v1 : Int32) (v2 : Int32) (μ : Mem) (h : nX7_readGuest_4 b Q (SX7_readGuest_4 X Y b) v1 v2 μ) : G X Y 4 4 [(0, .ref (Y.ad b)), (1, .int v1), (2, .int v2)] [] μ := by
  unfold nX7_readGuest_4 at h
  refine g_iload_n C 2 dX7_readGuest_4 rfl ?_
  refine g_bipush C (v := (7 : Int32)) dX7_readGuest_5 (by decide) ?_
  refine g_icmp_ge C 35 dX7_readGuest_7 (by decide) (fun c1 => ?_) (fun c1 => ?_)
  · replace h := h.1 c1
    refine g_aload_n C 0 dX7_readGuest_35 rfl ?_
    refine g_iload_n C 1 dX7_readGuest_36 rfl ?_
    refine g_callVI C [.int v1] [] (ok_X7_readWeekDay hI h0 h) (cw_RX7_222 _) rfl dc_X7_readWeekDay ⟨Nat.le_of_ble_eq_true rfl, Nat.le_of_ble_eq_true rfl⟩ (isX7_lt h0) (isX7_sh h0) rfl rfl rfl rfl (Nat.le_of_ble_eq_true rfl) dX7_readGuest_37 (fun r3 m2 h => ?_)
    refine g_istore_n C [(2, .int r3), (0, .ref (Y.ad b)), (1, .int v1)] dX7_readGuest_40 (by decide) rfl ?_
    refine g_aload_n C 1 dX7_readGuest_41 rfl ?_
    refine g_iconst C (v := (1 : Int32)) dX7_readGuest_42 (by decide) ?_
    refine g_iconst C (v := (4 : Int32)) dX7_readGuest_43 (by decide) ?_
    refine g_callVI C [.int ((1 : Int32)), .int ((4 : Int32))] [] (ok_X7_readNumber hI h0 h) (cw_RX7_208 _) rfl dc_X7_readNumber ⟨Nat.le_of_ble_eq_true rfl, Nat.le_of_ble_eq_true rfl⟩ (isX7_lt h0) (isX7_sh h0) rfl rfl rfl rfl (Nat.le_of_ble_eq_true rfl) dX7_readGuest_44 (fun r5 m4 h => ?_)
    refine g_istore_n C [(3, .int r5), (2, .int r3), (0, .ref (Y.ad b)), (1, .int v1)] dX7_readGuest_47 (by decide) rfl ?_
    refine g_aload_n C 2 dX7_readGuest_48 rfl ?_
    refine gf_RX7_146 C h0 dX7_readGuest_49 ?_
    refine g_if_ne C 62 dX7_readGuest_52 (by decide) (fun c6 => ?_) (fun c6 => ?_)
    · replace h := h.1 c6
      exact hr _ _ _ _ dX7_readGuest_62 h
    · replace h := h.2 c6
      refine g_aload_n C 2 dX7_readGuest_55 rfl ?_
      refine gf_RX7_37 C h0 dX7_readGuest_56 ?_
      refine g_iload_n C 1 dX7_readGuest_59 rfl ?_
      refine g_iload_n C 0 dX7_readGuest_60 rfl ?_
      refine g_iast C (isX7_dChance h0).1 (isX7_dChance h0).2 h.1 dX7_readGuest_61 ?_
      replace h := h.2
      exact hr _ _ _ _ dX7_readGuest_62 h
  · replace h := h.2 c1
    refine g_iload_n C 1 dX7_readGuest_10 rfl ?_
    refine g_aload_n C 0 dX7_readGuest_11 rfl ?_
    refine gf_RX7_37 C h0 dX7_readGuest_12 ?_
    refine g_iload_n C 2 dX7_readGuest_15 rfl ?_
    refine g_iald C (isX7_dChance h0).1 (isX7_dChance h0).2 h.1 dX7_readGuest_16 ?_
    replace h := h.2
    refine g_if_le C 26 dX7_readGuest_17 (by decide) (fun c7 => ?_) (fun c7 => ?_)
    · replace h := h.1 c7
      refine g_iconst C (v := (0 : Int32)) dX7_readGuest_26 (by decide) ?_
      refine g_lv (lv2 := [(0, .ref (Y.ad b)), (2, .int v2)]) [0, 2] ?_ rfl
      exact tX7_readGuest_27 C hr hI h0 _ _ _ _ h
    · replace h := h.2 c7
      refine g_iconst C (v := (1 : Int32)) dX7_readGuest_20 (by decide) ?_
      refine g_iload_n C 2 dX7_readGuest_21 rfl ?_
      refine g_ishl C dX7_readGuest_22 ?_
      refine g_goto C 27 dX7_readGuest_23 (by decide) ?_
      refine g_lv (lv2 := [(0, .ref (Y.ad b)), (2, .int v2)]) [0, 2] ?_ rfl
      exact tX7_readGuest_27 C hr hI h0 _ _ _ _ h
set_option maxRecDepth 20000 in
set_option maxHeartbeats 4000000 in
theorem ok_X7_readGuest {Y : YT} {l0 : Launch} {b : Nat} {μ : Mem} {Q : Mem → Prop} (hI : YI Y) (h0 : isX7 Y b) (h : PX7_readGuest b μ Q) : MV l0 yX7_readGuest WX7_readGuest 3 70 Y [.ref (Y.ad b)] μ Q := by
  refine mV_of (cc := cX7_readGuest) (maxL := 4) (by decide +kernel) rfl hI (Nat.le_of_ble_eq_true rfl) (fun X C hr => ?_)
  replace C : Cx X Y 4 cX7_readGuest RX7 WX7_readGuest (rmB 3 70) l0 := C
  refine g_lv (lv2 := [(0, .ref (Y.ad b))]) [0] ?_ rfl
  unfold PX7_readGuest at h
  replace h := h (SX7_readGuest_4 X Y b) (fun v1 v2 μ z => tX7_readGuest_4 C hr hI h0 v1 v2 μ z)
  refine g_iconst C (v := (0 : Int32)) dX7_readGuest_0 (by decide) ?_
  refine g_istore_n C [(1, .int ((0 : Int32))), (0, .ref (Y.ad b))] dX7_readGuest_1 (by decide) rfl ?_
  refine g_iconst C (v := (0 : Int32)) dX7_readGuest_2 (by decide) ?_
  refine g_istore_n C [(2, .int ((0 : Int32))), (1, .int ((0 : Int32))), (0, .ref (Y.ad b))] dX7_readGuest_3 (by decide) rfl ?_
  refine g_lv (lv2 := [(0, .ref (Y.ad b)), (1, .int ((0 : Int32))), (2, .int ((0 : Int32)))]) [2, 1, 0] ?_ rfl
  exact h
set_option maxRecDepth 20000 in
set_option maxHeartbeats 4000000 in
theorem ok_X7_readOut {Y : YT} {l0 : Launch} {b : Nat} {μ : Mem} {Q : Mem → Prop} (hI : YI Y) (h0 : isX7 Y b) (h : PX7_readOut b μ Q) : MV l0 yX7_readOut WX7_readOut 3 69 Y [.ref (Y.ad b)] μ Q := by
  refine mV_of (cc := cX7_readOut) (maxL := 2) (by decide +kernel) rfl hI (Nat.le_of_ble_eq_true rfl) (fun X C hr => ?_)
  replace C : Cx X Y 2 cX7_readOut RX7 WX7_readOut (rmB 3 69) l0 := C
  refine g_lv (lv2 := [(0, .ref (Y.ad b))]) [0] ?_ rfl
  unfold PX7_readOut at h
  refine g_aload_n C 0 dX7_readOut_0 rfl ?_
  refine g_aload_n C 0 dX7_readOut_1 rfl ?_
  refine gf_RX7_102 C h0 dX7_readOut_2 ?_
  refine g_callVI C [.int (μ.1 b 18)] [] (ok_X7_readWeekDay hI h0 h) (cw_RX7_222 _) rfl dc_X7_readWeekDay ⟨Nat.le_of_ble_eq_true rfl, Nat.le_of_ble_eq_true rfl⟩ (isX7_lt h0) (isX7_sh h0) rfl rfl rfl rfl (Nat.le_of_ble_eq_true rfl) dX7_readOut_5 (fun r2 m1 h => ?_)
  refine g_istore_n C [(1, .int r2), (0, .ref (Y.ad b))] dX7_readOut_8 (by decide) rfl ?_
  refine g_aload_n C 1 dX7_readOut_9 rfl ?_
  refine gf_RX7_146 C h0 dX7_readOut_10 ?_
  refine g_if_ne C 28 dX7_readOut_13 (by decide) (fun c3 => ?_) (fun c3 => ?_)
  · replace h := h.1 c3
    exact hr _ _ _ _ dX7_readOut_28 h
  · replace h := h.2 c3
    refine g_aload_n C 1 dX7_readOut_16 rfl ?_
    refine g_dup C dX7_readOut_17 rfl ?_
    refine gf_RX7_102 C h0 dX7_readOut_18 ?_
    refine g_iconst C (v := (1 : Int32)) dX7_readOut_21 (by decide) ?_
    refine g_iload_n C 0 dX7_readOut_22 rfl ?_
    refine g_ishl C dX7_readOut_23 ?_
    refine g_ior C dX7_readOut_24 ?_
    refine gp_RX7_102 C h0 dX7_readOut_25 ?_
    exact hr _ _ _ _ dX7_readOut_28 h
set_option maxRecDepth 20000 in
set_option maxHeartbeats 4000000 in
theorem tX7_readLine_304 {X : XT} {Y : YT} {l0 : Launch} {b : Nat} {Q : Mem → Prop} (C : Cx X Y 2 cX7_readLine RX7 WX7_readLine (rmB 5 120) l0) (hr : RV X Y cX7_readLine Q) (hI : YI Y) (h0 : isX7 Y b) (μ : Mem) (h : nX7_readLine_304 b Q  μ) : G X Y 2 304 [(0, .ref (Y.ad b))] [] μ := by
  unfold nX7_readLine_304 at h
  refine g_aload_n C 0 dX7_readLine_304 rfl ?_
  refine g_callVV C [] [] (ok_X7_next hI h0 h) (cw_RX7_192 _) rfl dc_X7_next ⟨Nat.le_of_ble_eq_true rfl, Nat.le_of_ble_eq_true rfl⟩ (isX7_lt h0) (isX7_sh h0) rfl rfl rfl rfl (Nat.le_of_ble_eq_true rfl) dX7_readLine_305 (fun m54 h => ?_)
  exact hr _ _ _ _ dX7_readLine_308 h
set_option maxRecDepth 20000 in
set_option maxHeartbeats 4000000 in
theorem tX7_readLine_300 {X : XT} {Y : YT} {l0 : Launch} {b : Nat} {Q : Mem → Prop} (C : Cx X Y 2 cX7_readLine RX7 WX7_readLine (rmB 5 120) l0) (hr : RV X Y cX7_readLine Q) (hI : YI Y) (h0 : isX7 Y b) (w0 : Int32) (μ : Mem) (h : nX7_readLine_300 b Q w0 μ) : G X Y 2 300 [(0, .ref (Y.ad b))] [.int w0, .ref (Y.ad b)] μ := by
  unfold nX7_readLine_300 at h
  refine g_iconst C (v := (2 : Int32)) dX7_readLine_300 (by decide) ?_
  refine g_callVV C [.int w0, .int ((2 : Int32))] [] (ok_X7_needs hI h0 h) (cw_RX7_184 _) rfl dc_X7_needs ⟨Nat.le_of_ble_eq_true rfl, Nat.le_of_ble_eq_true rfl⟩ (isX7_lt h0) (isX7_sh h0) rfl rfl rfl rfl (Nat.le_of_ble_eq_true rfl) dX7_readLine_301 (fun m52 h => ?_)
  exact tX7_readLine_304 C hr hI h0 _ h
set_option maxRecDepth 20000 in
set_option maxHeartbeats 4000000 in
theorem tX7_readLine_279 {X : XT} {Y : YT} {l0 : Launch} {b : Nat} {Q : Mem → Prop} (C : Cx X Y 2 cX7_readLine RX7 WX7_readLine (rmB 5 120) l0) (hr : RV X Y cX7_readLine Q) (hI : YI Y) (h0 : isX7 Y b) (μ : Mem) (h : nX7_readLine_279 b Q  μ) : G X Y 2 279 [(0, .ref (Y.ad b))] [] μ := by
  unfold nX7_readLine_279 at h
  refine g_aload_n C 0 dX7_readLine_279 rfl ?_
  refine gf_RX7_146 C h0 dX7_readLine_280 ?_
  refine g_if_ne C 304 dX7_readLine_283 (by decide) (fun c50 => ?_) (fun c50 => ?_)
  · replace h := h.1 c50
    exact tX7_readLine_304 C hr hI h0 _ h
  · replace h := h.2 c50
    refine g_aload_n C 0 dX7_readLine_286 rfl ?_
    refine g_aload_n C 0 dX7_readLine_287 rfl ?_
    refine gf_RX7_170 C h0 dX7_readLine_288 ?_
    refine g_iconst C (v := (3 : Int32)) dX7_readLine_291 (by decide) ?_
    refine g_icmp_ne C 299 dX7_readLine_292 (by decide) (fun c51 => ?_) (fun c51 => ?_)
    · replace h := h.1 c51
      refine g_iconst C (v := (0 : Int32)) dX7_readLine_299 (by decide) ?_
      exact tX7_readLine_300 C hr hI h0 _ _ h
    · replace h := h.2 c51
      refine g_iconst C (v := (1 : Int32)) dX7_readLine_295 (by decide) ?_
      refine g_goto C 300 dX7_readLine_296 (by decide) ?_
      exact tX7_readLine_300 C hr hI h0 _ _ h
set_option maxRecDepth 20000 in
set_option maxHeartbeats 4000000 in
theorem tX7_readLine_187 {X : XT} {Y : YT} {l0 : Launch} {b : Nat} {Q : Mem → Prop} (C : Cx X Y 2 cX7_readLine RX7 WX7_readLine (rmB 5 120) l0) (hr : RV X Y cX7_readLine Q) (hI : YI Y) (h0 : isX7 Y b) (v1 : Int32) (w0 : Int32) (μ : Mem) (h : nX7_readLine_187 b Q v1 w0 μ) : G X Y 2 187 [(0, .ref (Y.ad b)), (1, .int v1)] [.int w0, .ref (Y.ad b)] μ := by
  unfold nX7_readLine_187 at h
  refine gp_RX7_109 C h0 h.1 dX7_readLine_187 ?_
  replace h := h.2
  refine g_aload_n C 0 dX7_readLine_190 rfl ?_
  refine g_callVV C [] [] (ok_X7_next hI h0 h) (cw_RX7_192 _) rfl dc_X7_next ⟨Nat.le_of_ble_eq_true rfl, Nat.le_of_ble_eq_true rfl⟩ (isX7_lt h0) (isX7_sh h0) rfl rfl rfl rfl (Nat.le_of_ble_eq_true rfl) dX7_readLine_191 (fun m30 h => ?_)
  refine g_aload_n C 0 dX7_readLine_194 rfl ?_
  refine gf_RX7_146 C h0 dX7_readLine_195 ?_
  refine g_if_le C 202 dX7_readLine_198 (by decide) (fun c32 => ?_) (fun c32 => ?_)
  · replace h := h.1 c32
    refine g_iload_n C 1 dX7_readLine_202 rfl ?_
    refine g_bipush C (v := (10 : Int32)) dX7_readLine_203 (by decide) ?_
    refine g_icmp_ne C 215 dX7_readLine_205 (by decide) (fun c33 => ?_) (fun c33 => ?_)
    · replace h := h.1 c33
      refine g_iload_n C 1 dX7_readLine_215 rfl ?_
      refine g_bipush C (v := (11 : Int32)) dX7_readLine_216 (by decide) ?_
      refine g_icmp_ne C 235 dX7_readLine_218 (by decide) (fun c34 => ?_) (fun c34 => ?_)
      · replace h := h.1 c34
        refine g_iload_n C 1 dX7_readLine_235 rfl ?_
        refine g_bipush C (v := (12 : Int32)) dX7_readLine_236 (by decide) ?_
        refine g_icmp_ne C 248 dX7_readLine_238 (by decide) (fun c35 => ?_) (fun c35 => ?_)
        · replace h := h.1 c35
          refine g_iload_n C 1 dX7_readLine_248 rfl ?_
          refine g_bipush C (v := (13 : Int32)) dX7_readLine_249 (by decide) ?_
          refine g_icmp_ne C 261 dX7_readLine_251 (by decide) (fun c36 => ?_) (fun c36 => ?_)
          · replace h := h.1 c36
            refine g_iload_n C 1 dX7_readLine_261 rfl ?_
            refine g_bipush C (v := (14 : Int32)) dX7_readLine_262 (by decide) ?_
            refine g_icmp_ne C 274 dX7_readLine_264 (by decide) (fun c37 => ?_) (fun c37 => ?_)
            · replace h := h.1 c37
              refine g_aload_n C 0 dX7_readLine_274 rfl ?_
              refine g_iload_n C 1 dX7_readLine_275 rfl ?_
              refine g_callVV C [.int v1] [] (ok_X7_readSupper hI h0 h) (cw_RX7_243 _) rfl dc_X7_readSupper ⟨Nat.le_of_ble_eq_true rfl, Nat.le_of_ble_eq_true rfl⟩ (isX7_lt h0) (isX7_sh h0) rfl rfl rfl rfl (Nat.le_of_ble_eq_true rfl) dX7_readLine_276 (fun m38 h => ?_)
              refine g_lv (lv2 := [(0, .ref (Y.ad b))]) [0] ?_ rfl
              exact tX7_readLine_279 C hr hI h0 _ h
            · replace h := h.2 c37
              refine g_aload_n C 0 dX7_readLine_267 rfl ?_
              refine g_callVV C [] [] (ok_X7_readGuest hI h0 h) (cw_RX7_240 _) rfl dc_X7_readGuest ⟨Nat.le_of_ble_eq_true rfl, Nat.le_of_ble_eq_true rfl⟩ (isX7_lt h0) (isX7_sh h0) rfl rfl rfl rfl (Nat.le_of_ble_eq_true rfl) dX7_readLine_268 (fun m40 h => ?_)
              refine g_goto C 279 dX7_readLine_271 (by decide) ?_
              refine g_lv (lv2 := [(0, .ref (Y.ad b))]) [0] ?_ rfl
              exact tX7_readLine_279 C hr hI h0 _ h
          · replace h := h.2 c36
            refine g_aload_n C 0 dX7_readLine_254 rfl ?_
            refine g_callVV C [] [] (ok_X7_readOut hI h0 h) (cw_RX7_237 _) rfl dc_X7_readOut ⟨Nat.le_of_ble_eq_true rfl, Nat.le_of_ble_eq_true rfl⟩ (isX7_lt h0) (isX7_sh h0) rfl rfl rfl rfl (Nat.le_of_ble_eq_true rfl) dX7_readLine_255 (fun m42 h => ?_)
            refine g_goto C 279 dX7_readLine_258 (by decide) ?_
            refine g_lv (lv2 := [(0, .ref (Y.ad b))]) [0] ?_ rfl
            exact tX7_readLine_279 C hr hI h0 _ h
        · replace h := h.2 c35
          refine g_aload_n C 0 dX7_readLine_241 rfl ?_
          refine g_callVV C [] [] (ok_X7_readShops hI h0 h) (cw_RX7_234 _) rfl dc_X7_readShops ⟨Nat.le_of_ble_eq_true rfl, Nat.le_of_ble_eq_true rfl⟩ (isX7_lt h0) (isX7_sh h0) rfl rfl rfl rfl (Nat.le_of_ble_eq_true rfl) dX7_readLine_242 (fun m44 h => ?_)
          refine g_goto C 279 dX7_readLine_245 (by decide) ?_
          refine g_lv (lv2 := [(0, .ref (Y.ad b))]) [0] ?_ rfl
          exact tX7_readLine_279 C hr hI h0 _ h
      · replace h := h.2 c34
        refine g_aload_n C 0 dX7_readLine_221 rfl ?_
        refine g_aload_n C 0 dX7_readLine_222 rfl ?_
        refine g_iconst C (v := (0 : Int32)) dX7_readLine_223 (by decide) ?_
        refine g_bipush C (v := (7 : Int32)) dX7_readLine_224 (by decide) ?_
        refine g_callVI C [.int ((0 : Int32)), .int ((7 : Int32))] [.ref (Y.ad b)] (ok_X7_readNumber hI h0 h) (cw_RX7_208 _) rfl dc_X7_readNumber ⟨Nat.le_of_ble_eq_true rfl, Nat.le_of_ble_eq_true rfl⟩ (isX7_lt h0) (isX7_sh h0) rfl rfl rfl rfl (Nat.le_of_ble_eq_true rfl) dX7_readLine_226 (fun r47 m46 h => ?_)
        refine gp_RX7_96 C h0 dX7_readLine_229 ?_
        refine g_goto C 279 dX7_readLine_232 (by decide) ?_
        refine g_lv (lv2 := [(0, .ref (Y.ad b))]) [0] ?_ rfl
        exact tX7_readLine_279 C hr hI h0 _ h
    · replace h := h.2 c33
      refine g_aload_n C 0 dX7_readLine_208 rfl ?_
      refine g_callVV C [] [] (ok_X7_readThing hI h0 h) (cw_RX7_231 _) rfl dc_X7_readThing ⟨Nat.le_of_ble_eq_true rfl, Nat.le_of_ble_eq_true rfl⟩ (isX7_lt h0) (isX7_sh h0) rfl rfl rfl rfl (Nat.le_of_ble_eq_true rfl) dX7_readLine_209 (fun m48 h => ?_)
      refine g_goto C 279 dX7_readLine_212 (by decide) ?_
      refine g_lv (lv2 := [(0, .ref (Y.ad b))]) [0] ?_ rfl
      exact tX7_readLine_279 C hr hI h0 _ h
  · replace h := h.2 c32
    exact hr _ _ _ _ dX7_readLine_201 h
set_option maxRecDepth 20000 in
set_option maxHeartbeats 4000000 in
theorem tX7_readLine_182 {X : XT} {Y : YT} {l0 : Launch} {b : Nat} {Q : Mem → Prop} (C : Cx X Y 2 cX7_readLine RX7 WX7_readLine (rmB 5 120) l0) (hr : RV X Y cX7_readLine Q) (hI : YI Y) (h0 : isX7 Y b) (v1 : Int32) (μ : Mem) (h : nX7_readLine_182 b Q v1 μ) : G X Y 2 182 [(0, .ref (Y.ad b)), (1, .int v1)] [.ref (Y.ad b)] μ := by
  unfold nX7_readLine_182 at h
  refine g_iconst C (v := (1 : Int32)) dX7_readLine_182 (by decide) ?_
  refine g_goto C 187 dX7_readLine_183 (by decide) ?_
  exact tX7_readLine_187 C hr hI h0 _ _ _ h
set_option maxRecDepth 20000 in
set_option maxHeartbeats 4000000 in
theorem tX7_readLine_165 {X : XT} {Y : YT} {l0 : Launch} {b : Nat} {Q : Mem → Prop} (C : Cx X Y 2 cX7_readLine RX7 WX7_readLine (rmB 5 120) l0) (hr : RV X Y cX7_readLine Q) (hI : YI Y) (h0 : isX7 Y b) (v1 : Int32) (w0 : Int32) (μ : Mem) (h : nX7_readLine_165 b Q v1 w0 μ) : G X Y 2 165 [(0, .ref (Y.ad b)), (1, .int v1)] [.int w0, .ref (Y.ad b)] μ := by
  unfold nX7_readLine_165 at h
  refine gp_RX7_105 C h0 h.1 dX7_readLine_165 ?_
  replace h := h.2
  refine g_aload_n C 0 dX7_readLine_168 rfl ?_
  refine g_aload_n C 0 dX7_readLine_169 rfl ?_
  refine gf_RX7_109 C h0 dX7_readLine_170 ?_
  refine g_if_ne C 182 dX7_readLine_173 (by decide) (fun c28 => ?_) (fun c28 => ?_)
  · replace h := h.1 c28
    exact tX7_readLine_182 C hr hI h0 _ _ h
  · replace h := h.2 c28
    refine g_iload_n C 1 dX7_readLine_176 rfl ?_
    refine g_bipush C (v := (12 : Int32)) dX7_readLine_177 (by decide) ?_
    refine g_icmp_ne C 186 dX7_readLine_179 (by decide) (fun c29 => ?_) (fun c29 => ?_)
    · replace h := h.1 c29
      refine g_iconst C (v := (0 : Int32)) dX7_readLine_186 (by decide) ?_
      exact tX7_readLine_187 C hr hI h0 _ _ _ h
    · replace h := h.2 c29
      exact tX7_readLine_182 C hr hI h0 _ _ h
set_option maxRecDepth 20000 in
set_option maxHeartbeats 4000000 in
theorem tX7_readLine_160 {X : XT} {Y : YT} {l0 : Launch} {b : Nat} {Q : Mem → Prop} (C : Cx X Y 2 cX7_readLine RX7 WX7_readLine (rmB 5 120) l0) (hr : RV X Y cX7_readLine Q) (hI : YI Y) (h0 : isX7 Y b) (v1 : Int32) (μ : Mem) (h : nX7_readLine_160 b Q v1 μ) : G X Y 2 160 [(0, .ref (Y.ad b)), (1, .int v1)] [.ref (Y.ad b)] μ := by
  unfold nX7_readLine_160 at h
  refine g_iconst C (v := (1 : Int32)) dX7_readLine_160 (by decide) ?_
  refine g_goto C 165 dX7_readLine_161 (by decide) ?_
  exact tX7_readLine_165 C hr hI h0 _ _ _ h
set_option maxRecDepth 20000 in
set_option maxHeartbeats 4000000 in
theorem tX7_readLine_142 {X : XT} {Y : YT} {l0 : Launch} {b : Nat} {Q : Mem → Prop} (C : Cx X Y 2 cX7_readLine RX7 WX7_readLine (rmB 5 120) l0) (hr : RV X Y cX7_readLine Q) (hI : YI Y) (h0 : isX7 Y b) (v1 : Int32) (w0 : Int32) (μ : Mem) (h : nX7_readLine_142 b Q v1 w0 μ) : G X Y 2 142 [(0, .ref (Y.ad b)), (1, .int v1)] [.int w0, .ref (Y.ad b)] μ := by
  unfold nX7_readLine_142 at h
  refine g_iconst C (v := (4 : Int32)) dX7_readLine_142 (by decide) ?_
  refine g_callVV C [.int w0, .int ((4 : Int32))] [] (ok_X7_needs hI h0 h) (cw_RX7_184 _) rfl dc_X7_needs ⟨Nat.le_of_ble_eq_true rfl, Nat.le_of_ble_eq_true rfl⟩ (isX7_lt h0) (isX7_sh h0) rfl rfl rfl rfl (Nat.le_of_ble_eq_true rfl) dX7_readLine_143 (fun m24 h => ?_)
  refine g_aload_n C 0 dX7_readLine_146 rfl ?_
  refine g_aload_n C 0 dX7_readLine_147 rfl ?_
  refine gf_RX7_105 C h0 dX7_readLine_148 ?_
  refine g_if_ne C 160 dX7_readLine_151 (by decide) (fun c26 => ?_) (fun c26 => ?_)
  · replace h := h.1 c26
    exact tX7_readLine_160 C hr hI h0 _ _ h
  · replace h := h.2 c26
    refine g_iload_n C 1 dX7_readLine_154 rfl ?_
    refine g_bipush C (v := (11 : Int32)) dX7_readLine_155 (by decide) ?_
    refine g_icmp_ne C 164 dX7_readLine_157 (by decide) (fun c27 => ?_) (fun c27 => ?_)
    · replace h := h.1 c27
      refine g_iconst C (v := (0 : Int32)) dX7_readLine_164 (by decide) ?_
      exact tX7_readLine_165 C hr hI h0 _ _ _ h
    · replace h := h.2 c27
      exact tX7_readLine_160 C hr hI h0 _ _ h
set_option maxRecDepth 20000 in
set_option maxHeartbeats 4000000 in
theorem tX7_readLine_137 {X : XT} {Y : YT} {l0 : Launch} {b : Nat} {Q : Mem → Prop} (C : Cx X Y 2 cX7_readLine RX7 WX7_readLine (rmB 5 120) l0) (hr : RV X Y cX7_readLine Q) (hI : YI Y) (h0 : isX7 Y b) (v1 : Int32) (μ : Mem) (h : nX7_readLine_137 b Q v1 μ) : G X Y 2 137 [(0, .ref (Y.ad b)), (1, .int v1)] [.ref (Y.ad b)] μ := by
  unfold nX7_readLine_137 at h
  refine g_iconst C (v := (1 : Int32)) dX7_readLine_137 (by decide) ?_
  refine g_goto C 142 dX7_readLine_138 (by decide) ?_
  exact tX7_readLine_142 C hr hI h0 _ _ _ h
set_option maxRecDepth 20000 in
set_option maxHeartbeats 4000000 in
theorem tX7_readLine_141 {X : XT} {Y : YT} {l0 : Launch} {b : Nat} {Q : Mem → Prop} (C : Cx X Y 2 cX7_readLine RX7 WX7_readLine (rmB 5 120) l0) (hr : RV X Y cX7_readLine Q) (hI : YI Y) (h0 : isX7 Y b) (v1 : Int32) (μ : Mem) (h : nX7_readLine_141 b Q v1 μ) : G X Y 2 141 [(0, .ref (Y.ad b)), (1, .int v1)] [.ref (Y.ad b)] μ := by
  unfold nX7_readLine_141 at h
  refine g_iconst C (v := (0 : Int32)) dX7_readLine_141 (by decide) ?_
  exact tX7_readLine_142 C hr hI h0 _ _ _ h
set_option maxRecDepth 20000 in
set_option maxHeartbeats 4000000 in
theorem tX7_readLine_124 {X : XT} {Y : YT} {l0 : Launch} {b : Nat} {Q : Mem → Prop} (C : Cx X Y 2 cX7_readLine RX7 WX7_readLine (rmB 5 120) l0) (hr : RV X Y cX7_readLine Q) (hI : YI Y) (h0 : isX7 Y b) (v1 : Int32) (μ : Mem) (h : nX7_readLine_124 b Q v1 μ) : G X Y 2 124 [(0, .ref (Y.ad b)), (1, .int v1)] [.ref (Y.ad b)] μ := by
  unfold nX7_readLine_124 at h
  refine g_iload_n C 1 dX7_readLine_124 rfl ?_
  refine g_bipush C (v := (12 : Int32)) dX7_readLine_125 (by decide) ?_
  refine g_icmp_ne C 137 dX7_readLine_127 (by decide) (fun c56 => ?_) (fun c56 => ?_)
  · replace h := h.1 c56
    exact tX7_readLine_137 C hr hI h0 _ _ h
  · replace h := h.2 c56
    refine g_aload_n C 0 dX7_readLine_130 rfl ?_
    refine gf_RX7_109 C h0 dX7_readLine_131 ?_
    refine g_if_ne C 141 dX7_readLine_134 (by decide) (fun c57 => ?_) (fun c57 => ?_)
    · replace h := h.1 c57
      exact tX7_readLine_141 C hr hI h0 _ _ h
    · replace h := h.2 c57
      exact tX7_readLine_137 C hr hI h0 _ _ h
set_option maxRecDepth 20000 in
set_option maxHeartbeats 4000000 in
theorem tX7_readLine_106 {X : XT} {Y : YT} {l0 : Launch} {b : Nat} {Q : Mem → Prop} (C : Cx X Y 2 cX7_readLine RX7 WX7_readLine (rmB 5 120) l0) (hr : RV X Y cX7_readLine Q) (hI : YI Y) (h0 : isX7 Y b) (v1 : Int32) (w0 : Int32) (μ : Mem) (h : nX7_readLine_106 b Q v1 w0 μ) : G X Y 2 106 [(0, .ref (Y.ad b)), (1, .int v1)] [.int w0, .ref (Y.ad b)] μ := by
  unfold nX7_readLine_106 at h
  refine g_iconst C (v := (5 : Int32)) dX7_readLine_106 (by decide) ?_
  refine g_callVV C [.int w0, .int ((5 : Int32))] [] (ok_X7_needs hI h0 h) (cw_RX7_184 _) rfl dc_X7_needs ⟨Nat.le_of_ble_eq_true rfl, Nat.le_of_ble_eq_true rfl⟩ (isX7_lt h0) (isX7_sh h0) rfl rfl rfl rfl (Nat.le_of_ble_eq_true rfl) dX7_readLine_107 (fun m20 h => ?_)
  refine g_aload_n C 0 dX7_readLine_110 rfl ?_
  refine g_iload_n C 1 dX7_readLine_111 rfl ?_
  refine g_bipush C (v := (11 : Int32)) dX7_readLine_112 (by decide) ?_
  refine g_icmp_ne C 124 dX7_readLine_114 (by decide) (fun c22 => ?_) (fun c22 => ?_)
  · replace h := h.1 c22
    exact tX7_readLine_124 C hr hI h0 _ _ h
  · replace h := h.2 c22
    refine g_aload_n C 0 dX7_readLine_117 rfl ?_
    refine gf_RX7_105 C h0 dX7_readLine_118 ?_
    refine g_if_ne C 141 dX7_readLine_121 (by decide) (fun c23 => ?_) (fun c23 => ?_)
    · replace h := h.1 c23
      exact tX7_readLine_141 C hr hI h0 _ _ h
    · replace h := h.2 c23
      exact tX7_readLine_124 C hr hI h0 _ _ h
set_option maxRecDepth 20000 in
set_option maxHeartbeats 4000000 in
theorem tX7_readLine_101 {X : XT} {Y : YT} {l0 : Launch} {b : Nat} {Q : Mem → Prop} (C : Cx X Y 2 cX7_readLine RX7 WX7_readLine (rmB 5 120) l0) (hr : RV X Y cX7_readLine Q) (hI : YI Y) (h0 : isX7 Y b) (v1 : Int32) (μ : Mem) (h : nX7_readLine_101 b Q v1 μ) : G X Y 2 101 [(0, .ref (Y.ad b)), (1, .int v1)] [.ref (Y.ad b)] μ := by
  unfold nX7_readLine_101 at h
  refine g_iconst C (v := (1 : Int32)) dX7_readLine_101 (by decide) ?_
  refine g_goto C 106 dX7_readLine_102 (by decide) ?_
  exact tX7_readLine_106 C hr hI h0 _ _ _ h
set_option maxRecDepth 20000 in
set_option maxHeartbeats 4000000 in
theorem tX7_readLine_75 {X : XT} {Y : YT} {l0 : Launch} {b : Nat} {Q : Mem → Prop} (C : Cx X Y 2 cX7_readLine RX7 WX7_readLine (rmB 5 120) l0) (hr : RV X Y cX7_readLine Q) (hI : YI Y) (h0 : isX7 Y b) (v1 : Int32) (w0 : Int32) (μ : Mem) (h : nX7_readLine_75 b Q v1 w0 μ) : G X Y 2 75 [(0, .ref (Y.ad b)), (1, .int v1)] [.int w0, .ref (Y.ad b)] μ := by
  unfold nX7_readLine_75 at h
  refine g_iconst C (v := (5 : Int32)) dX7_readLine_75 (by decide) ?_
  refine g_callVV C [.int w0, .int ((5 : Int32))] [] (ok_X7_needs hI h0 h) (cw_RX7_184 _) rfl dc_X7_needs ⟨Nat.le_of_ble_eq_true rfl, Nat.le_of_ble_eq_true rfl⟩ (isX7_lt h0) (isX7_sh h0) rfl rfl rfl rfl (Nat.le_of_ble_eq_true rfl) dX7_readLine_76 (fun m14 h => ?_)
  refine g_aload_n C 0 dX7_readLine_79 rfl ?_
  refine g_iload_n C 1 dX7_readLine_80 rfl ?_
  refine g_i2l C dX7_readLine_81 ?_
  refine g_lconst C (v := (0 : Int64)) dX7_readLine_82 (by decide) ?_
  refine g_ldc2 C (v := (3 : Int64)) (List.mem_cons_of_mem _ mL_RX7_225) dX7_readLine_83 ?_
  refine g_callSI C [.long v1.toInt64, .long ((0 : Int64)), .long ((3 : Int64))] [.ref (Y.ad b)] (ok_X7_in hI  h) (cw_RX7_134 _) rfl dc_X7_in ⟨Nat.le_of_ble_eq_true rfl, Nat.le_of_ble_eq_true rfl⟩ rfl (Nat.le_of_ble_eq_true rfl) dX7_readLine_86 (fun r17 m16 h => ?_)
  refine g_if_eq C 101 dX7_readLine_89 (by decide) (fun c18 => ?_) (fun c18 => ?_)
  · replace h := h.1 c18
    exact tX7_readLine_101 C hr hI h0 _ _ h
  · replace h := h.2 c18
    refine g_aload_n C 0 dX7_readLine_92 rfl ?_
    refine gf_RX7_93 C h0 dX7_readLine_93 ?_
    refine g_bipush C (v := (8 : Int32)) dX7_readLine_96 (by decide) ?_
    refine g_icmp_ge C 105 dX7_readLine_98 (by decide) (fun c19 => ?_) (fun c19 => ?_)
    · replace h := h.1 c19
      refine g_iconst C (v := (0 : Int32)) dX7_readLine_105 (by decide) ?_
      exact tX7_readLine_106 C hr hI h0 _ _ _ h
    · replace h := h.2 c19
      exact tX7_readLine_101 C hr hI h0 _ _ h
set_option maxRecDepth 20000 in
set_option maxHeartbeats 4000000 in
theorem tX7_readLine_70 {X : XT} {Y : YT} {l0 : Launch} {b : Nat} {Q : Mem → Prop} (C : Cx X Y 2 cX7_readLine RX7 WX7_readLine (rmB 5 120) l0) (hr : RV X Y cX7_readLine Q) (hI : YI Y) (h0 : isX7 Y b) (v1 : Int32) (μ : Mem) (h : nX7_readLine_70 b Q v1 μ) : G X Y 2 70 [(0, .ref (Y.ad b)), (1, .int v1)] [.ref (Y.ad b)] μ := by
  unfold nX7_readLine_70 at h
  refine g_iconst C (v := (1 : Int32)) dX7_readLine_70 (by decide) ?_
  refine g_goto C 75 dX7_readLine_71 (by decide) ?_
  exact tX7_readLine_75 C hr hI h0 _ _ _ h
set_option maxRecDepth 20000 in
set_option maxHeartbeats 4000000 in
theorem tX7_readLine_50 {X : XT} {Y : YT} {l0 : Launch} {b : Nat} {Q : Mem → Prop} (C : Cx X Y 2 cX7_readLine RX7 WX7_readLine (rmB 5 120) l0) (hr : RV X Y cX7_readLine Q) (hI : YI Y) (h0 : isX7 Y b) (v1 : Int32) (w0 : Int32) (μ : Mem) (h : nX7_readLine_50 b Q v1 w0 μ) : G X Y 2 50 [(0, .ref (Y.ad b)), (1, .int v1)] [.int w0, .ref (Y.ad b)] μ := by
  unfold nX7_readLine_50 at h
  refine g_iconst C (v := (2 : Int32)) dX7_readLine_50 (by decide) ?_
  refine g_callVV C [.int w0, .int ((2 : Int32))] [] (ok_X7_needs hI h0 h) (cw_RX7_184 _) rfl dc_X7_needs ⟨Nat.le_of_ble_eq_true rfl, Nat.le_of_ble_eq_true rfl⟩ (isX7_lt h0) (isX7_sh h0) rfl rfl rfl rfl (Nat.le_of_ble_eq_true rfl) dX7_readLine_51 (fun m10 h => ?_)
  refine g_aload_n C 0 dX7_readLine_54 rfl ?_
  refine g_iload_n C 1 dX7_readLine_55 rfl ?_
  refine g_bipush C (v := (10 : Int32)) dX7_readLine_56 (by decide) ?_
  refine g_icmp_ne C 70 dX7_readLine_58 (by decide) (fun c12 => ?_) (fun c12 => ?_)
  · replace h := h.1 c12
    exact tX7_readLine_70 C hr hI h0 _ _ h
  · replace h := h.2 c12
    refine g_aload_n C 0 dX7_readLine_61 rfl ?_
    refine gf_RX7_89 C h0 dX7_readLine_62 ?_
    refine g_bipush C (v := (6 : Int32)) dX7_readLine_65 (by decide) ?_
    refine g_icmp_ge C 74 dX7_readLine_67 (by decide) (fun c13 => ?_) (fun c13 => ?_)
    · replace h := h.1 c13
      refine g_iconst C (v := (0 : Int32)) dX7_readLine_74 (by decide) ?_
      exact tX7_readLine_75 C hr hI h0 _ _ _ h
    · replace h := h.2 c13
      exact tX7_readLine_70 C hr hI h0 _ _ h
set_option maxRecDepth 20000 in
set_option maxHeartbeats 4000000 in
theorem tX7_readLine_45 {X : XT} {Y : YT} {l0 : Launch} {b : Nat} {Q : Mem → Prop} (C : Cx X Y 2 cX7_readLine RX7 WX7_readLine (rmB 5 120) l0) (hr : RV X Y cX7_readLine Q) (hI : YI Y) (h0 : isX7 Y b) (v1 : Int32) (μ : Mem) (h : nX7_readLine_45 b Q v1 μ) : G X Y 2 45 [(0, .ref (Y.ad b)), (1, .int v1)] [.ref (Y.ad b)] μ := by
  unfold nX7_readLine_45 at h
  refine g_iconst C (v := (1 : Int32)) dX7_readLine_45 (by decide) ?_
  refine g_goto C 50 dX7_readLine_46 (by decide) ?_
  exact tX7_readLine_50 C hr hI h0 _ _ _ h
set_option maxRecDepth 20000 in
set_option maxHeartbeats 4000000 in
theorem tX7_readLine_17 {X : XT} {Y : YT} {l0 : Launch} {b : Nat} {Q : Mem → Prop} (C : Cx X Y 2 cX7_readLine RX7 WX7_readLine (rmB 5 120) l0) (hr : RV X Y cX7_readLine Q) (hI : YI Y) (h0 : isX7 Y b) (w0 : Int32) (μ : Mem) (h : nX7_readLine_17 b Q w0 μ) : G X Y 2 17 [(0, .ref (Y.ad b))] [.int w0] μ := by
  unfold nX7_readLine_17 at h
  refine g_istore_n C [(1, .int w0), (0, .ref (Y.ad b))] dX7_readLine_17 (by decide) rfl ?_
  refine g_aload_n C 1 dX7_readLine_18 rfl ?_
  refine g_iload_n C 0 dX7_readLine_19 rfl ?_
  refine g_i2l C dX7_readLine_20 ?_
  refine g_lconst C (v := (0 : Int64)) dX7_readLine_21 (by decide) ?_
  refine g_ldc2 C (v := (3 : Int64)) (List.mem_cons_of_mem _ mL_RX7_225) dX7_readLine_22 ?_
  refine g_callSI C [.long w0.toInt64, .long ((0 : Int64)), .long ((3 : Int64))] [.ref (Y.ad b)] (ok_X7_in hI  h) (cw_RX7_134 _) rfl dc_X7_in ⟨Nat.le_of_ble_eq_true rfl, Nat.le_of_ble_eq_true rfl⟩ rfl (Nat.le_of_ble_eq_true rfl) dX7_readLine_25 (fun r5 m4 h => ?_)
  refine g_if_ne C 45 dX7_readLine_28 (by decide) (fun c6 => ?_) (fun c6 => ?_)
  · replace h := h.1 c6
    refine g_lv (lv2 := [(0, .ref (Y.ad b)), (1, .int w0)]) [1, 0] ?_ rfl
    exact tX7_readLine_45 C hr hI h0 _ _ h
  · replace h := h.2 c6
    refine g_iload_n C 0 dX7_readLine_31 rfl ?_
    refine g_i2l C dX7_readLine_32 ?_
    refine g_ldc2 C (v := (10 : Int64)) (List.mem_cons_of_mem _ mL_RX7_227) dX7_readLine_33 ?_
    refine g_ldc2 C (v := (14 : Int64)) (List.mem_cons_of_mem _ mL_RX7_229) dX7_readLine_36 ?_
    refine g_callSI C [.long w0.toInt64, .long ((10 : Int64)), .long ((14 : Int64))] [.ref (Y.ad b)] (ok_X7_in hI  h) (cw_RX7_134 _) rfl dc_X7_in ⟨Nat.le_of_ble_eq_true rfl, Nat.le_of_ble_eq_true rfl⟩ rfl (Nat.le_of_ble_eq_true rfl) dX7_readLine_39 (fun r8 m7 h => ?_)
    refine g_if_eq C 49 dX7_readLine_42 (by decide) (fun c9 => ?_) (fun c9 => ?_)
    · replace h := h.1 c9
      refine g_iconst C (v := (0 : Int32)) dX7_readLine_49 (by decide) ?_
      refine g_lv (lv2 := [(0, .ref (Y.ad b)), (1, .int w0)]) [1, 0] ?_ rfl
      exact tX7_readLine_50 C hr hI h0 _ _ _ h
    · replace h := h.2 c9
      refine g_lv (lv2 := [(0, .ref (Y.ad b)), (1, .int w0)]) [1, 0] ?_ rfl
      exact tX7_readLine_45 C hr hI h0 _ _ h
set_option maxRecDepth 20000 in
set_option maxHeartbeats 4000000 in
theorem ok_X7_readLine {Y : YT} {l0 : Launch} {b : Nat} {μ : Mem} {Q : Mem → Prop} (hI : YI Y) (h0 : isX7 Y b) (h : PX7_readLine b μ Q) : MV l0 yX7_readLine WX7_readLine 5 120 Y [.ref (Y.ad b)] μ Q := by
  refine mV_of (cc := cX7_readLine) (maxL := 2) (by decide +kernel) rfl hI (Nat.le_of_ble_eq_true rfl) (fun X C hr => ?_)
  replace C : Cx X Y 2 cX7_readLine RX7 WX7_readLine (rmB 5 120) l0 := C
  refine g_lv (lv2 := [(0, .ref (Y.ad b))]) [0] ?_ rfl
  unfold PX7_readLine at h
  refine g_aload_n C 0 dX7_readLine_0 rfl ?_
  refine gf_RX7_170 C h0 dX7_readLine_1 ?_
  refine g_iconst C (v := (1 : Int32)) dX7_readLine_4 (by decide) ?_
  refine g_icmp_ne C 15 dX7_readLine_5 (by decide) (fun c1 => ?_) (fun c1 => ?_)
  · replace h := h.1 c1
    refine g_bipush C (v := (-4 : Int32)) dX7_readLine_15 (by decide) ?_
    exact tX7_readLine_17 C hr hI h0 _ _ h
  · replace h := h.2 c1
    refine g_aload_n C 0 dX7_readLine_8 rfl ?_
    refine g_callVI C [] [] (ok_X7_nameNow hI h0 h) (cw_RX7_195 _) rfl dc_X7_nameNow ⟨Nat.le_of_ble_eq_true rfl, Nat.le_of_ble_eq_true rfl⟩ (isX7_lt h0) (isX7_sh h0) rfl rfl rfl rfl (Nat.le_of_ble_eq_true rfl) dX7_readLine_9 (fun r3 m2 h => ?_)
    refine g_goto C 17 dX7_readLine_12 (by decide) ?_
    exact tX7_readLine_17 C hr hI h0 _ _ h
