set_option maxRecDepth 20000 in
set_option maxHeartbeats 4000000 in
theorem ok_J0_coder_7d493 {Y : YT} {l0 : Launch} {s0 : Nat} {μ : Mem} {Q : Int32 → Mem → Prop} (hI : YI Y) (h0 : s0 < nS) (h : PJ0_coder_7d493 s0 μ Q) : MI l0 yJ0_coder_7d493 WJ0_coder_7d493 0 0 Y [.ref (Y.aK s0)] μ Q := by
  refine mI_of (ty := .byte) (cc := cJ0_coder_7d493) (maxL := 1) (by decide +kernel) rfl hI (Nat.le_of_ble_eq_true rfl) (fun X C hr => ?_)
  replace C : Cx X Y 1 cJ0_coder_7d493 RJ0 WJ0_coder_7d493 (rmB 0 0) l0 := C
  refine g_lv (lv2 := [(0, .ref (Y.aK s0))]) [0] ?_ rfl
  unfold PJ0_coder_7d493 at h
  refine g_gcs C (List.mem_cons_of_mem _ mF_RJ0_38) dJ0_coder_7d493_0 ?_
  refine g_if_eq C 13 dJ0_coder_7d493_3 (by decide) (fun c1 => ?_) (fun c1 => ?_)
  · replace h := h.1 c1
    refine g_iconst C (v := (1 : Int32)) dJ0_coder_7d493_13 (by decide) ?_
    exact hr _ _ _ _ _ dJ0_coder_7d493_14 rfl h
  · replace h := h.2 c1
    refine g_aload_n C 0 dJ0_coder_7d493_6 rfl ?_
    refine g_scod C h0 (List.mem_cons_of_mem _ mF_RJ0_15) dJ0_coder_7d493_7 ?_
    refine g_goto C 14 dJ0_coder_7d493_10 (by decide) ?_
    exact hr _ _ _ _ _ dJ0_coder_7d493_14 rfl h
set_option maxRecDepth 20000 in
set_option maxHeartbeats 4000000 in
theorem ok_J0_length_8abf5 {Y : YT} {l0 : Launch} {s0 : Nat} {μ : Mem} {Q : Int32 → Mem → Prop} (hI : YI Y) (h0 : s0 < nS) (h : PJ0_length_8abf5 s0 μ Q) : MI l0 yJ0_length_8abf5 WJ0_length_8abf5 1 20 Y [.ref (Y.aK s0)] μ Q := by
  refine mI_of (ty := .int) (cc := cJ0_length_8abf5) (maxL := 1) (by decide +kernel) rfl hI (Nat.le_of_ble_eq_true rfl) (fun X C hr => ?_)
  replace C : Cx X Y 1 cJ0_length_8abf5 RJ0 WJ0_length_8abf5 (rmB 1 20) l0 := C
  refine g_lv (lv2 := [(0, .ref (Y.aK s0))]) [0] ?_ rfl
  unfold PJ0_length_8abf5 at h
  refine g_aload_n C 0 dJ0_length_8abf5_0 rfl ?_
  refine g_sval C h0 (List.mem_cons_of_mem _ mF_RJ0_9) dJ0_length_8abf5_1 ?_
  refine g_slen C h0 dJ0_length_8abf5_4 ?_
  refine g_aload_n C 0 dJ0_length_8abf5_5 rfl ?_
  refine g_callQI C [] [.int (nI (sLen.getD s0 0))] (ok_J0_coder_7d493 hI h0 h) (cw_RJ0_335 _) rfl dc_J0_coder_7d493 ⟨Nat.le_of_ble_eq_true rfl, Nat.le_of_ble_eq_true rfl⟩ h0 rfl rfl (Nat.le_of_ble_eq_true rfl) dJ0_length_8abf5_6 (fun r2 m1 h => ?_)
  refine g_ishr C dJ0_length_8abf5_9 ?_
  exact hr _ _ _ _ _ dJ0_length_8abf5_10 rfl h
set_option maxRecDepth 20000 in
set_option maxHeartbeats 4000000 in
theorem tJ0_isLatin1_aae02_17 {X : XT} {Y : YT} {l0 : Launch} {s0 : Nat} {Q : Int32 → Mem → Prop} (C : Cx X Y 1 cJ0_isLatin1_aae02 RJ0 WJ0_isLatin1_aae02 (rmB 0 0) l0) (hr : RI X Y cJ0_isLatin1_aae02 .boolean Q) (hI : YI Y) (h0 : s0 < nS) (μ : Mem) (h : nJ0_isLatin1_aae02_17 s0 Q  μ) : G X Y 1 17 [(0, .ref (Y.aK s0))] [] μ := by
  unfold nJ0_isLatin1_aae02_17 at h
  refine g_iconst C (v := (0 : Int32)) dJ0_isLatin1_aae02_17 (by decide) ?_
  exact hr _ _ _ _ _ dJ0_isLatin1_aae02_18 rfl h
set_option maxRecDepth 20000 in
set_option maxHeartbeats 4000000 in
theorem ok_J0_isLatin1_aae02 {Y : YT} {l0 : Launch} {s0 : Nat} {μ : Mem} {Q : Int32 → Mem → Prop} (hI : YI Y) (h0 : s0 < nS) (h : PJ0_isLatin1_aae02 s0 μ Q) : MI l0 yJ0_isLatin1_aae02 WJ0_isLatin1_aae02 0 0 Y [.ref (Y.aK s0)] μ Q := by
  refine mI_of (ty := .boolean) (cc := cJ0_isLatin1_aae02) (maxL := 1) (by decide +kernel) rfl hI (Nat.le_of_ble_eq_true rfl) (fun X C hr => ?_)
  replace C : Cx X Y 1 cJ0_isLatin1_aae02 RJ0 WJ0_isLatin1_aae02 (rmB 0 0) l0 := C
  refine g_lv (lv2 := [(0, .ref (Y.aK s0))]) [0] ?_ rfl
  unfold PJ0_isLatin1_aae02 at h
  refine g_gcs C (List.mem_cons_of_mem _ mF_RJ0_38) dJ0_isLatin1_aae02_0 ?_
  refine g_if_eq C 17 dJ0_isLatin1_aae02_3 (by decide) (fun c1 => ?_) (fun c1 => ?_)
  · replace h := h.1 c1
    exact tJ0_isLatin1_aae02_17 C hr hI h0 _ h
  · replace h := h.2 c1
    refine g_aload_n C 0 dJ0_isLatin1_aae02_6 rfl ?_
    refine g_scod C h0 (List.mem_cons_of_mem _ mF_RJ0_15) dJ0_isLatin1_aae02_7 ?_
    refine g_if_ne C 17 dJ0_isLatin1_aae02_10 (by decide) (fun c2 => ?_) (fun c2 => ?_)
    · replace h := h.1 c2
      exact tJ0_isLatin1_aae02_17 C hr hI h0 _ h
    · replace h := h.2 c2
      refine g_iconst C (v := (1 : Int32)) dJ0_isLatin1_aae02_13 (by decide) ?_
      refine g_goto C 18 dJ0_isLatin1_aae02_14 (by decide) ?_
      exact hr _ _ _ _ _ dJ0_isLatin1_aae02_18 rfl h
set_option maxRecDepth 20000 in
set_option maxHeartbeats 4000000 in
theorem tJ3_checkIndex_8e157_9 {X : XT} {Y : YT} {l0 : Launch} {f2 : Value} {p0 : Int32} {p1 : Int32} {Q : Int32 → Mem → Prop} (C : Cx X Y 3 cJ3_checkIndex_8e157 RJ3 WJ3_checkIndex_8e157 (rmB 0 0) l0) (hr : RI X Y cJ3_checkIndex_8e157 .int Q) (hI : YI Y) (hf2 : f2.category = 1) (μ : Mem) (h : nJ3_checkIndex_8e157_9 p0 p1 Q  μ) : G X Y 3 9 [(0, .int p0), (1, .int p1), (2, f2)] [] μ := by
  unfold nJ3_checkIndex_8e157_9 at h
  exact h.elim
set_option maxRecDepth 20000 in
set_option maxHeartbeats 4000000 in
theorem ok_J3_checkIndex_8e157 {Y : YT} {l0 : Launch} {f2 : Value} {p0 : Int32} {p1 : Int32} {μ : Mem} {Q : Int32 → Mem → Prop} (hI : YI Y) (hf2 : f2.category = 1) (h : PJ3_checkIndex_8e157 p0 p1 μ Q) : MI l0 yJ3_checkIndex_8e157 WJ3_checkIndex_8e157 0 0 Y [.int p0, .int p1, f2] μ Q := by
  refine mI_of (ty := .int) (cc := cJ3_checkIndex_8e157) (maxL := 3) (by decide +kernel) rfl hI (by simp [lg_sl, show ∀ x, (Value.int x).category = 1 from fun _ => rfl, hf2]) (fun X C hr => ?_)
  replace C : Cx X Y 3 cJ3_checkIndex_8e157 RJ3 WJ3_checkIndex_8e157 (rmB 0 0) l0 := C
  refine g_lv (lv2 := [(0, .int p0), (1, .int p1), (2, f2)]) [0, 1, 2] ?_ rfl
  unfold PJ3_checkIndex_8e157 at h
  refine g_iload_n C 0 dJ3_checkIndex_8e157_0 rfl ?_
  refine g_if_lt C 9 dJ3_checkIndex_8e157_1 (by decide) (fun c1 => ?_) (fun c1 => ?_)
  · replace h := h.1 c1
    exact tJ3_checkIndex_8e157_9 C hr hI hf2 _ h
  · replace h := h.2 c1
    refine g_iload_n C 0 dJ3_checkIndex_8e157_4 rfl ?_
    refine g_iload_n C 1 dJ3_checkIndex_8e157_5 rfl ?_
    refine g_icmp_lt C 16 dJ3_checkIndex_8e157_6 (by decide) (fun c2 => ?_) (fun c2 => ?_)
    · replace h := h.1 c2
      refine g_iload_n C 0 dJ3_checkIndex_8e157_16 rfl ?_
      exact hr _ _ _ _ _ dJ3_checkIndex_8e157_17 rfl h
    · replace h := h.2 c2
      exact tJ3_checkIndex_8e157_9 C hr hI hf2 _ h
set_option maxRecDepth 20000 in
set_option maxHeartbeats 4000000 in
theorem ok_J0_checkIndex_df160 {Y : YT} {l0 : Launch} {p0 : Int32} {p1 : Int32} {μ : Mem} {Q : Mem → Prop} (hI : YI Y) (h : PJ0_checkIndex_df160 p0 p1 μ Q) : MV l0 yJ0_checkIndex_df160 WJ0_checkIndex_df160 1 22 Y [.int p0, .int p1] μ Q := by
  refine mV_of (cc := cJ0_checkIndex_df160) (maxL := 2) (by decide +kernel) rfl hI (Nat.le_of_ble_eq_true rfl) (fun X C hr => ?_)
  replace C : Cx X Y 2 cJ0_checkIndex_df160 RJ0 WJ0_checkIndex_df160 (rmB 1 22) l0 := C
  refine g_lv (lv2 := [(0, .int p0), (1, .int p1)]) [0, 1] ?_ rfl
  unfold PJ0_checkIndex_df160 at h
  refine g_iload_n C 0 dJ0_checkIndex_df160_0 rfl ?_
  refine g_iload_n C 1 dJ0_checkIndex_df160_1 rfl ?_
  refine g_gfm C (List.mem_cons_of_mem _ mF_RJ0_1053) dJ0_checkIndex_df160_2 (fun f1 hf1 => ?_)
  refine g_callSI C [.int p0, .int p1, f1] [] (ok_J3_checkIndex_8e157 hI hf1 h) (cw_RJ0_1059 _) rfl dc_J3_checkIndex_8e157 ⟨Nat.le_of_ble_eq_true rfl, Nat.le_of_ble_eq_true rfl⟩ rfl (Nat.le_of_ble_eq_true rfl) dJ0_checkIndex_df160_5 (fun r3 m2 h => ?_)
  refine g_pop C dJ0_checkIndex_df160_8 rfl ?_
  exact hr _ _ _ _ dJ0_checkIndex_df160_9 h
set_option maxRecDepth 20000 in
set_option maxHeartbeats 4000000 in
theorem ok_J1_charAt_3b067 {Y : YT} {l0 : Launch} {s0 : Nat} {p1 : Int32} {μ : Mem} {Q : Int32 → Mem → Prop} (hI : YI Y) (h0 : s0 < nS) (h : PJ1_charAt_3b067 s0 p1 μ Q) : MI l0 yJ1_charAt_3b067 WJ1_charAt_3b067 2 43 Y [.ref (Y.aV s0), .int p1] μ Q := by
  refine mI_of (ty := .char) (cc := cJ1_charAt_3b067) (maxL := 2) (by decide +kernel) rfl hI (Nat.le_of_ble_eq_true rfl) (fun X C hr => ?_)
  replace C : Cx X Y 2 cJ1_charAt_3b067 RJ1 WJ1_charAt_3b067 (rmB 2 43) l0 := C
  refine g_lv (lv2 := [(0, .ref (Y.aV s0)), (1, .int p1)]) [0, 1] ?_ rfl
  unfold PJ1_charAt_3b067 at h
  refine g_iload_n C 1 dJ1_charAt_3b067_0 rfl ?_
  refine g_aload_n C 0 dJ1_charAt_3b067_1 rfl ?_
  refine g_slen C h0 dJ1_charAt_3b067_2 ?_
  refine g_callSV C [.int p1, .int (nI (sLen.getD s0 0))] [] (ok_J0_checkIndex_df160 hI  h) (cw_RJ1_9 _) rfl dc_J0_checkIndex_df160 ⟨Nat.le_of_ble_eq_true rfl, Nat.le_of_ble_eq_true rfl⟩ rfl (Nat.le_of_ble_eq_true rfl) dJ1_charAt_3b067_3 (fun m1 h => ?_)
  refine g_aload_n C 0 dJ1_charAt_3b067_6 rfl ?_
  refine g_iload_n C 1 dJ1_charAt_3b067_7 rfl ?_
  refine g_sbal C h0 h.1 dJ1_charAt_3b067_8 ?_
  replace h := h.2
  refine g_sipush C (v := (255 : Int32)) dJ1_charAt_3b067_9 (by decide) ?_
  refine g_iand C dJ1_charAt_3b067_12 ?_
  refine g_i2c C dJ1_charAt_3b067_13 ?_
  exact hr _ _ _ _ _ dJ1_charAt_3b067_14 h.1 h.2
set_option maxRecDepth 20000 in
set_option maxHeartbeats 4000000 in
theorem ok_J0_charAt_5068e {Y : YT} {l0 : Launch} {s0 : Nat} {p1 : Int32} {μ : Mem} {Q : Int32 → Mem → Prop} (hI : YI Y) (h0 : s0 < nS) (h : PJ0_charAt_5068e s0 p1 μ Q) : MI l0 yJ0_charAt_5068e WJ0_charAt_5068e 3 64 Y [.ref (Y.aK s0), .int p1] μ Q := by
  refine mI_of (ty := .char) (cc := cJ0_charAt_5068e) (maxL := 2) (by decide +kernel) rfl hI (Nat.le_of_ble_eq_true rfl) (fun X C hr => ?_)
  replace C : Cx X Y 2 cJ0_charAt_5068e RJ0 WJ0_charAt_5068e (rmB 3 64) l0 := C
  refine g_lv (lv2 := [(0, .ref (Y.aK s0)), (1, .int p1)]) [0, 1] ?_ rfl
  unfold PJ0_charAt_5068e at h
  refine g_aload_n C 0 dJ0_charAt_5068e_0 rfl ?_
  refine g_callQI C [] [] (ok_J0_isLatin1_aae02 hI h0 h) (cw_RJ0_492 _) rfl dc_J0_isLatin1_aae02 ⟨Nat.le_of_ble_eq_true rfl, Nat.le_of_ble_eq_true rfl⟩ h0 rfl rfl (Nat.le_of_ble_eq_true rfl) dJ0_charAt_5068e_1 (fun r2 m1 h => ?_)
  refine g_if_eq C 16 dJ0_charAt_5068e_4 (by decide) (fun c3 => ?_) (fun c3 => ?_)
  · replace h := h.1 c3
    exact h.elim
  · replace h := h.2 c3
    refine g_aload_n C 0 dJ0_charAt_5068e_7 rfl ?_
    refine g_sval C h0 (List.mem_cons_of_mem _ mF_RJ0_9) dJ0_charAt_5068e_8 ?_
    refine g_iload_n C 1 dJ0_charAt_5068e_11 rfl ?_
    refine g_callSI C [.ref (Y.aV s0), .int p1] [] (ok_J1_charAt_3b067 hI h0 h) (cw_RJ0_495 _) rfl dc_J1_charAt_3b067 ⟨Nat.le_of_ble_eq_true rfl, Nat.le_of_ble_eq_true rfl⟩ rfl (Nat.le_of_ble_eq_true rfl) dJ0_charAt_5068e_12 (fun r5 m4 h => ?_)
    exact hr _ _ _ _ _ dJ0_charAt_5068e_15 h.1 h.2
def SX1_isName_28 (X : XT) (Y : YT) (b : Nat) (s1 : Nat) : Int32 → Mem → Prop := fun v2 μ => G X Y 3 28 [(0, .ref (Y.ad b)), (1, .ref (Y.aK s1)), (2, .int v2)] [] μ
set_option maxRecDepth 20000 in
set_option maxHeartbeats 4000000 in
theorem tX1_isName_28 {X : XT} {Y : YT} {l0 : Launch} {b : Nat} {s1 : Nat} {Q : Int32 → Mem → Prop} (C : Cx X Y 3 cX1_isName RX1 WX1_isName (rmB 4 85) l0) (hr : RI X Y cX1_isName .boolean Q) (hI : YI Y) (h0 : isX1 Y b) (h1 : s1 < nS) (v2 : Int32) (μ : Mem) (h : nX1_isName_28 b s1 Q (SX1_isName_28 X Y b s1) v2 μ) : G X Y 3 28 [(0, .ref (Y.ad b)), (1, .ref (Y.aK s1)), (2, .int v2)] [] μ := by
  unfold nX1_isName_28 at h
  refine g_iload_n C 2 dX1_isName_28 rfl ?_
  refine g_aload_n C 1 dX1_isName_29 rfl ?_
  refine g_callQI C [] [.int v2] (ok_J0_length_8abf5 hI h1 h) (cw_RX1_85 _) rfl dc_J0_length_8abf5 ⟨Nat.le_of_ble_eq_true rfl, Nat.le_of_ble_eq_true rfl⟩ h1 rfl rfl (Nat.le_of_ble_eq_true rfl) dX1_isName_30 (fun r6 m5 h => ?_)
  refine g_icmp_ge C 63 dX1_isName_33 (by decide) (fun c7 => ?_) (fun c7 => ?_)
  · replace h := h.1 c7
    refine g_iconst C (v := (1 : Int32)) dX1_isName_63 (by decide) ?_
    exact hr _ _ _ _ _ dX1_isName_64 rfl h
  · replace h := h.2 c7
    refine g_aload_n C 0 dX1_isName_36 rfl ?_
    refine gf_RX1_9 C h0 dX1_isName_37 ?_
    refine g_aload_n C 0 dX1_isName_40 rfl ?_
    refine gf_RX1_72 C h0 dX1_isName_41 ?_
    refine g_iload_n C 2 dX1_isName_44 rfl ?_
    refine g_iadd C dX1_isName_45 ?_
    refine g_bald C (isX1_tape h0).1 (isX1_tape h0).2 h.1 dX1_isName_46 ?_
    replace h := h.2
    refine g_aload_n C 1 dX1_isName_47 rfl ?_
    refine g_iload_n C 2 dX1_isName_48 rfl ?_
    refine g_callQI C [.int v2] [.int (m5.1 (b + 1) ((m5.1 b 7) + v2).toNatClampNeg)] (ok_J0_charAt_5068e hI h1 h) (cw_RX1_90 _) rfl dc_J0_charAt_5068e ⟨Nat.le_of_ble_eq_true rfl, Nat.le_of_ble_eq_true rfl⟩ h1 rfl rfl (Nat.le_of_ble_eq_true rfl) dX1_isName_49 (fun r9 m8 h => ?_)
    refine g_icmp_eq C 57 dX1_isName_52 (by decide) (fun c10 => ?_) (fun c10 => ?_)
    · replace h := h.1 c10
      refine g_iinc C (v := v2 + 1) 2 [(2, .int (v2 + 1)), (0, .ref (Y.ad b)), (1, .ref (Y.aK s1))] dX1_isName_57 rfl rfl (by decide) rfl ?_
      refine g_goto C 28 dX1_isName_60 (by decide) ?_
      refine g_lv (lv2 := [(0, .ref (Y.ad b)), (1, .ref (Y.aK s1)), (2, .int (v2 + 1))]) [1, 2, 0] ?_ rfl
      exact h
    · replace h := h.2 c10
      refine g_iconst C (v := (0 : Int32)) dX1_isName_55 (by decide) ?_
      exact hr _ _ _ _ _ dX1_isName_56 rfl h
set_option maxRecDepth 20000 in
set_option maxHeartbeats 4000000 in
theorem ok_X1_isName {Y : YT} {l0 : Launch} {b : Nat} {s1 : Nat} {μ : Mem} {Q : Int32 → Mem → Prop} (hI : YI Y) (h0 : isX1 Y b) (h1 : s1 < nS) (h : PX1_isName b s1 μ Q) : MI l0 yX1_isName WX1_isName 4 85 Y [.ref (Y.ad b), .ref (Y.aK s1)] μ Q := by
  refine mI_of (ty := .boolean) (cc := cX1_isName) (maxL := 3) (by decide +kernel) rfl hI (Nat.le_of_ble_eq_true rfl) (fun X C hr => ?_)
  replace C : Cx X Y 3 cX1_isName RX1 WX1_isName (rmB 4 85) l0 := C
  refine g_lv (lv2 := [(0, .ref (Y.ad b)), (1, .ref (Y.aK s1))]) [0, 1] ?_ rfl
  unfold PX1_isName at h
  replace h := h (SX1_isName_28 X Y b s1) (fun v2 μ z => tX1_isName_28 C hr hI h0 h1 v2 μ z)
  refine g_aload_n C 0 dX1_isName_0 rfl ?_
  refine gf_RX1_33 C h0 dX1_isName_1 ?_
  refine g_iconst C (v := (1 : Int32)) dX1_isName_4 (by decide) ?_
  refine g_icmp_ne C 24 dX1_isName_5 (by decide) (fun c1 => ?_) (fun c1 => ?_)
  · replace h := h.1 c1
    refine g_iconst C (v := (0 : Int32)) dX1_isName_24 (by decide) ?_
    exact hr _ _ _ _ _ dX1_isName_25 rfl h
  · replace h := h.2 c1
    refine g_aload_n C 0 dX1_isName_8 rfl ?_
    refine gf_RX1_46 C h0 dX1_isName_9 ?_
    refine g_aload_n C 0 dX1_isName_12 rfl ?_
    refine gf_RX1_72 C h0 dX1_isName_13 ?_
    refine g_isub C dX1_isName_16 ?_
    refine g_aload_n C 1 dX1_isName_17 rfl ?_
    refine g_callQI C [] [.int ((μ.1 b 5) - (μ.1 b 7))] (ok_J0_length_8abf5 hI h1 h) (cw_RX1_85 _) rfl dc_J0_length_8abf5 ⟨Nat.le_of_ble_eq_true rfl, Nat.le_of_ble_eq_true rfl⟩ h1 rfl rfl (Nat.le_of_ble_eq_true rfl) dX1_isName_18 (fun r3 m2 h => ?_)
    refine g_icmp_eq C 26 dX1_isName_21 (by decide) (fun c4 => ?_) (fun c4 => ?_)
    · replace h := h.1 c4
      refine g_iconst C (v := (0 : Int32)) dX1_isName_26 (by decide) ?_
      refine g_istore_n C [(2, .int ((0 : Int32))), (0, .ref (Y.ad b)), (1, .ref (Y.aK s1))] dX1_isName_27 (by decide) rfl ?_
      refine g_lv (lv2 := [(0, .ref (Y.ad b)), (1, .ref (Y.aK s1)), (2, .int ((0 : Int32)))]) [1, 2, 0] ?_ rfl
      exact h
    · replace h := h.2 c4
      refine g_iconst C (v := (0 : Int32)) dX1_isName_24 (by decide) ?_
      exact hr _ _ _ _ _ dX1_isName_25 rfl h
set_option maxRecDepth 20000 in
set_option maxHeartbeats 4000000 in
theorem tX1_readNumber_55 {X : XT} {Y : YT} {l0 : Launch} {b : Nat} {p1 : Int32} {p2 : Int32} {Q : Int32 → Mem → Prop} (C : Cx X Y 3 cX1_readNumber RX1 WX1_readNumber (rmB 2 43) l0) (hr : RI X Y cX1_readNumber .boolean Q) (hI : YI Y) (h0 : isX1 Y b) (μ : Mem) (h : nX1_readNumber_55 b p1 p2 Q  μ) : G X Y 3 55 [(0, .ref (Y.ad b)), (1, .int p1), (2, .int p2)] [] μ := by
  unfold nX1_readNumber_55 at h
  refine g_iconst C (v := (1 : Int32)) dX1_readNumber_55 (by decide) ?_
  refine g_goto C 60 dX1_readNumber_56 (by decide) ?_
  exact hr _ _ _ _ _ dX1_readNumber_60 rfl h
set_option maxRecDepth 20000 in
set_option maxHeartbeats 4000000 in
theorem tX1_readNumber_43 {X : XT} {Y : YT} {l0 : Launch} {b : Nat} {p1 : Int32} {p2 : Int32} {Q : Int32 → Mem → Prop} (C : Cx X Y 3 cX1_readNumber RX1 WX1_readNumber (rmB 2 43) l0) (hr : RI X Y cX1_readNumber .boolean Q) (hI : YI Y) (h0 : isX1 Y b) (μ : Mem) (h : nX1_readNumber_43 b p1 p2 Q  μ) : G X Y 3 43 [(0, .ref (Y.ad b)), (1, .int p1), (2, .int p2)] [] μ := by
  unfold nX1_readNumber_43 at h
  refine g_aload_n C 0 dX1_readNumber_43 rfl ?_
  refine g_iconst C (v := (3 : Int32)) dX1_readNumber_44 (by decide) ?_
  refine g_aload_n C 0 dX1_readNumber_45 rfl ?_
  refine gf_RX1_72 C h0 dX1_readNumber_46 ?_
  refine g_callVI C [.int ((3 : Int32)), .int (μ.1 b 7)] [] (ok_X1_refuse hI h0 h) (cw_RX1_65 _) rfl dc_X1_refuse ⟨Nat.le_of_ble_eq_true rfl, Nat.le_of_ble_eq_true rfl⟩ (isX1_lt h0) (isX1_sh h0) rfl rfl rfl rfl (Nat.le_of_ble_eq_true rfl) dX1_readNumber_49 (fun r10 m9 h => ?_)
  refine g_if_eq C 59 dX1_readNumber_52 (by decide) (fun c11 => ?_) (fun c11 => ?_)
  · replace h := h.1 c11
    refine g_iconst C (v := (0 : Int32)) dX1_readNumber_59 (by decide) ?_
    exact hr _ _ _ _ _ dX1_readNumber_60 rfl h
  · replace h := h.2 c11
    exact tX1_readNumber_55 C hr hI h0 _ h
set_option maxRecDepth 20000 in
set_option maxHeartbeats 4000000 in
theorem ok_X1_readNumber {Y : YT} {l0 : Launch} {b : Nat} {p1 : Int32} {p2 : Int32} {μ : Mem} {Q : Int32 → Mem → Prop} (hI : YI Y) (h0 : isX1 Y b) (h : PX1_readNumber b p1 p2 μ Q) : MI l0 yX1_readNumber WX1_readNumber 2 43 Y [.ref (Y.ad b), .int p1, .int p2] μ Q := by
  refine mI_of (ty := .boolean) (cc := cX1_readNumber) (maxL := 3) (by decide +kernel) rfl hI (Nat.le_of_ble_eq_true rfl) (fun X C hr => ?_)
  replace C : Cx X Y 3 cX1_readNumber RX1 WX1_readNumber (rmB 2 43) l0 := C
  refine g_lv (lv2 := [(0, .ref (Y.ad b)), (1, .int p1), (2, .int p2)]) [0, 1, 2] ?_ rfl
  unfold PX1_readNumber at h
  refine g_aload_n C 0 dX1_readNumber_0 rfl ?_
  refine g_callVI C [] [] (ok_X1_readToken hI h0 h) (cw_RX1_29 _) rfl dc_X1_readToken ⟨Nat.le_of_ble_eq_true rfl, Nat.le_of_ble_eq_true rfl⟩ (isX1_lt h0) (isX1_sh h0) rfl rfl rfl rfl (Nat.le_of_ble_eq_true rfl) dX1_readNumber_1 (fun r2 m1 h => ?_)
  refine g_if_ne C 9 dX1_readNumber_4 (by decide) (fun c3 => ?_) (fun c3 => ?_)
  · replace h := h.1 c3
    refine g_aload_n C 0 dX1_readNumber_9 rfl ?_
    refine gf_RX1_33 C h0 dX1_readNumber_10 ?_
    refine g_iconst C (v := (2 : Int32)) dX1_readNumber_13 (by decide) ?_
    refine g_icmp_eq C 27 dX1_readNumber_14 (by decide) (fun c4 => ?_) (fun c4 => ?_)
    · replace h := h.1 c4
      refine g_aload_n C 0 dX1_readNumber_27 rfl ?_
      refine gf_RX1_75 C h0 dX1_readNumber_28 ?_
      refine g_iload_n C 1 dX1_readNumber_31 rfl ?_
      refine g_icmp_lt C 43 dX1_readNumber_32 (by decide) (fun c5 => ?_) (fun c5 => ?_)
      · replace h := h.1 c5
        exact tX1_readNumber_43 C hr hI h0 _ h
      · replace h := h.2 c5
        refine g_aload_n C 0 dX1_readNumber_35 rfl ?_
        refine gf_RX1_75 C h0 dX1_readNumber_36 ?_
        refine g_iload_n C 2 dX1_readNumber_39 rfl ?_
        refine g_icmp_le C 55 dX1_readNumber_40 (by decide) (fun c6 => ?_) (fun c6 => ?_)
        · replace h := h.1 c6
          exact tX1_readNumber_55 C hr hI h0 _ h
        · replace h := h.2 c6
          exact tX1_readNumber_43 C hr hI h0 _ h
    · replace h := h.2 c4
      refine g_aload_n C 0 dX1_readNumber_17 rfl ?_
      refine g_iconst C (v := (2 : Int32)) dX1_readNumber_18 (by decide) ?_
      refine g_aload_n C 0 dX1_readNumber_19 rfl ?_
      refine gf_RX1_72 C h0 dX1_readNumber_20 ?_
      refine g_callVI C [.int ((2 : Int32)), .int (m1.1 b 7)] [] (ok_X1_refuse hI h0 h) (cw_RX1_65 _) rfl dc_X1_refuse ⟨Nat.le_of_ble_eq_true rfl, Nat.le_of_ble_eq_true rfl⟩ (isX1_lt h0) (isX1_sh h0) rfl rfl rfl rfl (Nat.le_of_ble_eq_true rfl) dX1_readNumber_23 (fun r8 m7 h => ?_)
      exact hr _ _ _ _ _ dX1_readNumber_26 h.1.1 h.2
  · replace h := h.2 c3
    refine g_iconst C (v := (0 : Int32)) dX1_readNumber_7 (by decide) ?_
    exact hr _ _ _ _ _ dX1_readNumber_8 rfl h
set_option maxRecDepth 20000 in
set_option maxHeartbeats 4000000 in
theorem tX1_isPoint_20 {X : XT} {Y : YT} {l0 : Launch} {b : Nat} {Q : Int32 → Mem → Prop} (C : Cx X Y 1 cX1_isPoint RX1 WX1_isPoint (rmB 1 22) l0) (hr : RI X Y cX1_isPoint .boolean Q) (hI : YI Y) (h0 : isX1 Y b) (μ : Mem) (h : nX1_isPoint_20 b Q  μ) : G X Y 1 20 [(0, .ref (Y.ad b))] [] μ := by
  unfold nX1_isPoint_20 at h
  refine g_iconst C (v := (1 : Int32)) dX1_isPoint_20 (by decide) ?_
  refine g_goto C 25 dX1_isPoint_21 (by decide) ?_
  exact hr _ _ _ _ _ dX1_isPoint_25 rfl h
set_option maxRecDepth 20000 in
set_option maxHeartbeats 4000000 in
theorem ok_X1_isPoint {Y : YT} {l0 : Launch} {b : Nat} {μ : Mem} {Q : Int32 → Mem → Prop} (hI : YI Y) (h0 : isX1 Y b) (h : PX1_isPoint b μ Q) : MI l0 yX1_isPoint WX1_isPoint 1 22 Y [.ref (Y.ad b)] μ Q := by
  refine mI_of (ty := .boolean) (cc := cX1_isPoint) (maxL := 1) (by decide +kernel) rfl hI (Nat.le_of_ble_eq_true rfl) (fun X C hr => ?_)
  replace C : Cx X Y 1 cX1_isPoint RX1 WX1_isPoint (rmB 1 22) l0 := C
  refine g_lv (lv2 := [(0, .ref (Y.ad b))]) [0] ?_ rfl
  unfold PX1_isPoint at h
  refine g_aload_n C 0 dX1_isPoint_0 rfl ?_
  refine gf_RX1_33 C h0 dX1_isPoint_1 ?_
  refine g_iconst C (v := (3 : Int32)) dX1_isPoint_4 (by decide) ?_
  refine g_icmp_eq C 20 dX1_isPoint_5 (by decide) (fun c1 => ?_) (fun c1 => ?_)
  · replace h := h.1 c1
    exact tX1_isPoint_20 C hr hI h0 _ h
  · replace h := h.2 c1
    refine g_aload_n C 0 dX1_isPoint_8 rfl ?_
    refine g_iconst C (v := (2 : Int32)) dX1_isPoint_9 (by decide) ?_
    refine g_aload_n C 0 dX1_isPoint_10 rfl ?_
    refine gf_RX1_72 C h0 dX1_isPoint_11 ?_
    refine g_callVI C [.int ((2 : Int32)), .int (μ.1 b 7)] [] (ok_X1_refuse hI h0 h) (cw_RX1_65 _) rfl dc_X1_refuse ⟨Nat.le_of_ble_eq_true rfl, Nat.le_of_ble_eq_true rfl⟩ (isX1_lt h0) (isX1_sh h0) rfl rfl rfl rfl (Nat.le_of_ble_eq_true rfl) dX1_isPoint_14 (fun r3 m2 h => ?_)
    refine g_if_eq C 24 dX1_isPoint_17 (by decide) (fun c4 => ?_) (fun c4 => ?_)
    · replace h := h.1 c4
      refine g_iconst C (v := (0 : Int32)) dX1_isPoint_24 (by decide) ?_
      exact hr _ _ _ _ _ dX1_isPoint_25 rfl h
    · replace h := h.2 c4
      exact tX1_isPoint_20 C hr hI h0 _ h
set_option maxRecDepth 20000 in
set_option maxHeartbeats 4000000 in
theorem tX1_readPoint_18 {X : XT} {Y : YT} {l0 : Launch} {b : Nat} {Q : Int32 → Mem → Prop} (C : Cx X Y 1 cX1_readPoint RX1 WX1_readPoint (rmB 2 43) l0) (hr : RI X Y cX1_readPoint .boolean Q) (hI : YI Y) (h0 : isX1 Y b) (μ : Mem) (h : nX1_readPoint_18 b Q  μ) : G X Y 1 18 [(0, .ref (Y.ad b))] [] μ := by
  unfold nX1_readPoint_18 at h
  refine g_iconst C (v := (0 : Int32)) dX1_readPoint_18 (by decide) ?_
  exact hr _ _ _ _ _ dX1_readPoint_19 rfl h
set_option maxRecDepth 20000 in
set_option maxHeartbeats 4000000 in
theorem ok_X1_readPoint {Y : YT} {l0 : Launch} {b : Nat} {μ : Mem} {Q : Int32 → Mem → Prop} (hI : YI Y) (h0 : isX1 Y b) (h : PX1_readPoint b μ Q) : MI l0 yX1_readPoint WX1_readPoint 2 43 Y [.ref (Y.ad b)] μ Q := by
  refine mI_of (ty := .boolean) (cc := cX1_readPoint) (maxL := 1) (by decide +kernel) rfl hI (Nat.le_of_ble_eq_true rfl) (fun X C hr => ?_)
  replace C : Cx X Y 1 cX1_readPoint RX1 WX1_readPoint (rmB 2 43) l0 := C
  refine g_lv (lv2 := [(0, .ref (Y.ad b))]) [0] ?_ rfl
  unfold PX1_readPoint at h
  refine g_aload_n C 0 dX1_readPoint_0 rfl ?_
  refine g_callVI C [] [] (ok_X1_readToken hI h0 h) (cw_RX1_29 _) rfl dc_X1_readToken ⟨Nat.le_of_ble_eq_true rfl, Nat.le_of_ble_eq_true rfl⟩ (isX1_lt h0) (isX1_sh h0) rfl rfl rfl rfl (Nat.le_of_ble_eq_true rfl) dX1_readPoint_1 (fun r2 m1 h => ?_)
  refine g_if_eq C 18 dX1_readPoint_4 (by decide) (fun c3 => ?_) (fun c3 => ?_)
  · replace h := h.1 c3
    exact tX1_readPoint_18 C hr hI h0 _ h
  · replace h := h.2 c3
    refine g_aload_n C 0 dX1_readPoint_7 rfl ?_
    refine g_callVI C [] [] (ok_X1_isPoint hI h0 h) (cw_RX1_94 _) rfl dc_X1_isPoint ⟨Nat.le_of_ble_eq_true rfl, Nat.le_of_ble_eq_true rfl⟩ (isX1_lt h0) (isX1_sh h0) rfl rfl rfl rfl (Nat.le_of_ble_eq_true rfl) dX1_readPoint_8 (fun r5 m4 h => ?_)
    refine g_if_eq C 18 dX1_readPoint_11 (by decide) (fun c6 => ?_) (fun c6 => ?_)
    · replace h := h.1 c6
      exact tX1_readPoint_18 C hr hI h0 _ h
    · replace h := h.2 c6
      refine g_iconst C (v := (1 : Int32)) dX1_readPoint_14 (by decide) ?_
      refine g_goto C 19 dX1_readPoint_15 (by decide) ?_
      exact hr _ _ _ _ _ dX1_readPoint_19 rfl h
set_option maxRecDepth 20000 in
set_option maxHeartbeats 4000000 in
theorem ok_X1_readThing {Y : YT} {l0 : Launch} {b : Nat} {μ : Mem} {Q : Int32 → Mem → Prop} (hI : YI Y) (h0 : isX1 Y b) (h : PX1_readThing b μ Q) : MI l0 yX1_readThing WX1_readThing 3 65 Y [.ref (Y.ad b)] μ Q := by
  refine mI_of (ty := .boolean) (cc := cX1_readThing) (maxL := 2) (by decide +kernel) rfl hI (Nat.le_of_ble_eq_true rfl) (fun X C hr => ?_)
  replace C : Cx X Y 2 cX1_readThing RX1 WX1_readThing (rmB 3 65) l0 := C
  refine g_lv (lv2 := [(0, .ref (Y.ad b))]) [0] ?_ rfl
  unfold PX1_readThing at h
  refine g_aload_n C 0 dX1_readThing_0 rfl ?_
  refine gf_RX1_18 C h0 dX1_readThing_1 ?_
  refine gf_RX1_62 C (isX1_told h0) dX1_readThing_4 ?_
  refine g_istore_n C [(1, .int (μ.1 (b + 2) 0)), (0, .ref (Y.ad b))] dX1_readThing_7 (by decide) rfl ?_
  refine g_iload_n C 0 dX1_readThing_8 rfl ?_
  refine g_bipush C (v := (6 : Int32)) dX1_readThing_9 (by decide) ?_
  refine g_icmp_lt C 24 dX1_readThing_11 (by decide) (fun c1 => ?_) (fun c1 => ?_)
  · replace h := h.1 c1
    refine g_aload_n C 1 dX1_readThing_24 rfl ?_
    refine gf_RX1_18 C h0 dX1_readThing_25 ?_
    refine g_iload_n C 0 dX1_readThing_28 rfl ?_
    refine g_iconst C (v := (1 : Int32)) dX1_readThing_29 (by decide) ?_
    refine g_iadd C dX1_readThing_30 ?_
    refine gp_RX1_62 C (isX1_told h0) dX1_readThing_31 ?_
    refine g_aload_n C 1 dX1_readThing_34 rfl ?_
    refine g_iconst C (v := (1 : Int32)) dX1_readThing_35 (by decide) ?_
    refine g_iconst C (v := (4 : Int32)) dX1_readThing_36 (by decide) ?_
    refine g_callVI C [.int ((1 : Int32)), .int ((4 : Int32))] [] (ok_X1_readNumber hI h0 h) (cw_RX1_137 _) rfl dc_X1_readNumber ⟨Nat.le_of_ble_eq_true rfl, Nat.le_of_ble_eq_true rfl⟩ (isX1_lt h0) (isX1_sh h0) rfl rfl rfl rfl (Nat.le_of_ble_eq_true rfl) dX1_readThing_37 (fun r3 m2 h => ?_)
    refine g_if_ne C 45 dX1_readThing_40 (by decide) (fun c4 => ?_) (fun c4 => ?_)
    · replace h := h.1 c4
      refine g_aload_n C 1 dX1_readThing_45 rfl ?_
      refine gf_RX1_18 C h0 dX1_readThing_46 ?_
      refine gf_RX1_140 C (isX1_told h0) dX1_readThing_49 ?_
      refine g_iload_n C 0 dX1_readThing_52 rfl ?_
      refine g_aload_n C 1 dX1_readThing_53 rfl ?_
      refine gf_RX1_75 C h0 dX1_readThing_54 ?_
      refine g_iast C (isX2_keeps (isX1_told h0)).1 (isX2_keeps (isX1_told h0)).2 h.1 dX1_readThing_57 ?_
      replace h := h.2
      refine g_aload_n C 1 dX1_readThing_58 rfl ?_
      refine g_iconst C (v := (1 : Int32)) dX1_readThing_59 (by decide) ?_
      refine g_iconst C (v := (4 : Int32)) dX1_readThing_60 (by decide) ?_
      refine g_callVI C [.int ((1 : Int32)), .int ((4 : Int32))] [] (ok_X1_readNumber hI h0 h) (cw_RX1_137 _) rfl dc_X1_readNumber ⟨Nat.le_of_ble_eq_true rfl, Nat.le_of_ble_eq_true rfl⟩ (isX1_lt h0) (isX1_sh h0) rfl rfl rfl rfl (Nat.le_of_ble_eq_true rfl) dX1_readThing_61 (fun r6 m5 h => ?_)
      refine g_if_ne C 69 dX1_readThing_64 (by decide) (fun c7 => ?_) (fun c7 => ?_)
      · replace h := h.1 c7
        refine g_aload_n C 1 dX1_readThing_69 rfl ?_
        refine gf_RX1_18 C h0 dX1_readThing_70 ?_
        refine gf_RX1_143 C (isX1_told h0) dX1_readThing_73 ?_
        refine g_iload_n C 0 dX1_readThing_76 rfl ?_
        refine g_aload_n C 1 dX1_readThing_77 rfl ?_
        refine gf_RX1_75 C h0 dX1_readThing_78 ?_
        refine g_iast C (isX2_pack (isX1_told h0)).1 (isX2_pack (isX1_told h0)).2 h.1 dX1_readThing_81 ?_
        replace h := h.2
        refine g_aload_n C 1 dX1_readThing_82 rfl ?_
        refine g_iconst C (v := (0 : Int32)) dX1_readThing_83 (by decide) ?_
        refine g_bipush C (v := (60 : Int32)) dX1_readThing_84 (by decide) ?_
        refine g_callVI C [.int ((0 : Int32)), .int ((60 : Int32))] [] (ok_X1_readNumber hI h0 h) (cw_RX1_137 _) rfl dc_X1_readNumber ⟨Nat.le_of_ble_eq_true rfl, Nat.le_of_ble_eq_true rfl⟩ (isX1_lt h0) (isX1_sh h0) rfl rfl rfl rfl (Nat.le_of_ble_eq_true rfl) dX1_readThing_86 (fun r9 m8 h => ?_)
        refine g_if_ne C 94 dX1_readThing_89 (by decide) (fun c10 => ?_) (fun c10 => ?_)
        · replace h := h.1 c10
          refine g_aload_n C 1 dX1_readThing_94 rfl ?_
          refine gf_RX1_18 C h0 dX1_readThing_95 ?_
          refine gf_RX1_146 C (isX1_told h0) dX1_readThing_98 ?_
          refine g_iload_n C 0 dX1_readThing_101 rfl ?_
          refine g_aload_n C 1 dX1_readThing_102 rfl ?_
          refine gf_RX1_75 C h0 dX1_readThing_103 ?_
          refine g_iast C (isX2_price (isX1_told h0)).1 (isX2_price (isX1_told h0)).2 h.1 dX1_readThing_106 ?_
          replace h := h.2
          refine g_aload_n C 1 dX1_readThing_107 rfl ?_
          refine g_callVI C [] [] (ok_X1_readPoint hI h0 h) (cw_RX1_149 _) rfl dc_X1_readPoint ⟨Nat.le_of_ble_eq_true rfl, Nat.le_of_ble_eq_true rfl⟩ (isX1_lt h0) (isX1_sh h0) rfl rfl rfl rfl (Nat.le_of_ble_eq_true rfl) dX1_readThing_108 (fun r12 m11 h => ?_)
          exact hr _ _ _ _ _ dX1_readThing_111 h.1.1 h.2
        · replace h := h.2 c10
          refine g_iconst C (v := (0 : Int32)) dX1_readThing_92 (by decide) ?_
          exact hr _ _ _ _ _ dX1_readThing_93 rfl h
      · replace h := h.2 c7
        refine g_iconst C (v := (0 : Int32)) dX1_readThing_67 (by decide) ?_
        exact hr _ _ _ _ _ dX1_readThing_68 rfl h
    · replace h := h.2 c4
      refine g_iconst C (v := (0 : Int32)) dX1_readThing_43 (by decide) ?_
      exact hr _ _ _ _ _ dX1_readThing_44 rfl h
  · replace h := h.2 c1
    refine g_aload_n C 1 dX1_readThing_14 rfl ?_
    refine g_iconst C (v := (5 : Int32)) dX1_readThing_15 (by decide) ?_
    refine g_aload_n C 1 dX1_readThing_16 rfl ?_
    refine gf_RX1_72 C h0 dX1_readThing_17 ?_
    refine g_callVI C [.int ((5 : Int32)), .int (μ.1 b 7)] [] (ok_X1_refuse hI h0 h) (cw_RX1_65 _) rfl dc_X1_refuse ⟨Nat.le_of_ble_eq_true rfl, Nat.le_of_ble_eq_true rfl⟩ (isX1_lt h0) (isX1_sh h0) rfl rfl rfl rfl (Nat.le_of_ble_eq_true rfl) dX1_readThing_20 (fun r14 m13 h => ?_)
    exact hr _ _ _ _ _ dX1_readThing_23 h.1.1 h.2
set_option maxRecDepth 20000 in
set_option maxHeartbeats 4000000 in
theorem tX1_readName_27 {X : XT} {Y : YT} {l0 : Launch} {b : Nat} {Q : Int32 → Mem → Prop} (C : Cx X Y 1 cX1_readName RX1 WX1_readName (rmB 2 43) l0) (hr : RI X Y cX1_readName .boolean Q) (hI : YI Y) (h0 : isX1 Y b) (μ : Mem) (h : nX1_readName_27 b Q  μ) : G X Y 1 27 [(0, .ref (Y.ad b))] [] μ := by
  unfold nX1_readName_27 at h
  refine g_iconst C (v := (1 : Int32)) dX1_readName_27 (by decide) ?_
  refine g_goto C 32 dX1_readName_28 (by decide) ?_
  exact hr _ _ _ _ _ dX1_readName_32 rfl h
set_option maxRecDepth 20000 in
set_option maxHeartbeats 4000000 in
theorem tX1_readName_31 {X : XT} {Y : YT} {l0 : Launch} {b : Nat} {Q : Int32 → Mem → Prop} (C : Cx X Y 1 cX1_readName RX1 WX1_readName (rmB 2 43) l0) (hr : RI X Y cX1_readName .boolean Q) (hI : YI Y) (h0 : isX1 Y b) (μ : Mem) (h : nX1_readName_31 b Q  μ) : G X Y 1 31 [(0, .ref (Y.ad b))] [] μ := by
  unfold nX1_readName_31 at h
  refine g_iconst C (v := (0 : Int32)) dX1_readName_31 (by decide) ?_
  exact hr _ _ _ _ _ dX1_readName_32 rfl h
set_option maxRecDepth 20000 in
set_option maxHeartbeats 4000000 in
theorem ok_X1_readName {Y : YT} {l0 : Launch} {b : Nat} {μ : Mem} {Q : Int32 → Mem → Prop} (hI : YI Y) (h0 : isX1 Y b) (h : PX1_readName b μ Q) : MI l0 yX1_readName WX1_readName 2 43 Y [.ref (Y.ad b)] μ Q := by
  refine mI_of (ty := .boolean) (cc := cX1_readName) (maxL := 1) (by decide +kernel) rfl hI (Nat.le_of_ble_eq_true rfl) (fun X C hr => ?_)
  replace C : Cx X Y 1 cX1_readName RX1 WX1_readName (rmB 2 43) l0 := C
  refine g_lv (lv2 := [(0, .ref (Y.ad b))]) [0] ?_ rfl
  unfold PX1_readName at h
  refine g_aload_n C 0 dX1_readName_0 rfl ?_
  refine g_callVI C [] [] (ok_X1_readToken hI h0 h) (cw_RX1_29 _) rfl dc_X1_readToken ⟨Nat.le_of_ble_eq_true rfl, Nat.le_of_ble_eq_true rfl⟩ (isX1_lt h0) (isX1_sh h0) rfl rfl rfl rfl (Nat.le_of_ble_eq_true rfl) dX1_readName_1 (fun r2 m1 h => ?_)
  refine g_if_eq C 31 dX1_readName_4 (by decide) (fun c3 => ?_) (fun c3 => ?_)
  · replace h := h.1 c3
    exact tX1_readName_31 C hr hI h0 _ h
  · replace h := h.2 c3
    refine g_aload_n C 0 dX1_readName_7 rfl ?_
    refine gf_RX1_33 C h0 dX1_readName_8 ?_
    refine g_iconst C (v := (1 : Int32)) dX1_readName_11 (by decide) ?_
    refine g_icmp_eq C 27 dX1_readName_12 (by decide) (fun c4 => ?_) (fun c4 => ?_)
    · replace h := h.1 c4
      exact tX1_readName_27 C hr hI h0 _ h
    · replace h := h.2 c4
      refine g_aload_n C 0 dX1_readName_15 rfl ?_
      refine g_iconst C (v := (2 : Int32)) dX1_readName_16 (by decide) ?_
      refine g_aload_n C 0 dX1_readName_17 rfl ?_
      refine gf_RX1_72 C h0 dX1_readName_18 ?_
      refine g_callVI C [.int ((2 : Int32)), .int (m1.1 b 7)] [] (ok_X1_refuse hI h0 h) (cw_RX1_65 _) rfl dc_X1_refuse ⟨Nat.le_of_ble_eq_true rfl, Nat.le_of_ble_eq_true rfl⟩ (isX1_lt h0) (isX1_sh h0) rfl rfl rfl rfl (Nat.le_of_ble_eq_true rfl) dX1_readName_21 (fun r6 m5 h => ?_)
      refine g_if_eq C 31 dX1_readName_24 (by decide) (fun c7 => ?_) (fun c7 => ?_)
      · replace h := h.1 c7
        exact tX1_readName_31 C hr hI h0 _ h
      · replace h := h.2 c7
        exact tX1_readName_27 C hr hI h0 _ h
def SX1_lettersOnce_8 (X : XT) (Y : YT) (b : Nat) (p1 : Int32) (p2 : Int32) : Int32 → Int32 → Mem → Prop := fun v3 v4 μ => G X Y 6 8 [(0, .ref (Y.ad b)), (1, .int p1), (2, .int p2), (3, .int v3), (4, .int v4)] [] μ
set_option maxRecDepth 20000 in
set_option maxHeartbeats 4000000 in
theorem tX1_lettersOnce_8 {X : XT} {Y : YT} {l0 : Launch} {b : Nat} {p1 : Int32} {p2 : Int32} {Q : Int32 → Mem → Prop} (C : Cx X Y 6 cX1_lettersOnce RX1 WX1_lettersOnce (rmB 0 0) l0) (hr : RI X Y cX1_lettersOnce .int Q) (hI : YI Y) (h0 : isX1 Y b) (v3 : Int32) (v4 : Int32) (μ : Mem) (h : nX1_lettersOnce_8 b p1 p2 Q (SX1_lettersOnce_8 X Y b p1 p2) v3 v4 μ) : G X Y 6 8 [(0, .ref (Y.ad b)), (1, .int p1), (2, .int p2), (3, .int v3), (4, .int v4)] [] μ := by
  unfold nX1_lettersOnce_8 at h
  refine g_iload C 4 dX1_lettersOnce_8 rfl ?_
  refine g_aload_n C 0 dX1_lettersOnce_10 rfl ?_
  refine gf_RX1_46 C h0 dX1_lettersOnce_11 ?_
  refine g_icmp_ge C 63 dX1_lettersOnce_14 (by decide) (fun c1 => ?_) (fun c1 => ?_)
  · replace h := h.1 c1
    refine g_iload_n C 3 dX1_lettersOnce_63 rfl ?_
    exact hr _ _ _ _ _ dX1_lettersOnce_64 rfl h
  · replace h := h.2 c1
    refine g_aload_n C 0 dX1_lettersOnce_17 rfl ?_
    refine gf_RX1_9 C h0 dX1_lettersOnce_18 ?_
    refine g_iload C 4 dX1_lettersOnce_21 rfl ?_
    refine g_bald C (isX1_tape h0).1 (isX1_tape h0).2 h.1 dX1_lettersOnce_23 ?_
    replace h := h.2
    refine g_iload_n C 1 dX1_lettersOnce_24 rfl ?_
    refine g_isub C dX1_lettersOnce_25 ?_
    refine g_istore C [(5, .int ((μ.1 (b + 1) v4.toNatClampNeg) - p1)), (0, .ref (Y.ad b)), (1, .int p1), (2, .int p2), (3, .int v3), (4, .int v4)] dX1_lettersOnce_26 (by decide) rfl ?_
    refine g_iload C 0 dX1_lettersOnce_28 rfl ?_
    refine g_if_lt C 48 dX1_lettersOnce_30 (by decide) (fun c2 => ?_) (fun c2 => ?_)
    · replace h := h.1 c2
      refine g_iconst C (v := (0 : Int32)) dX1_lettersOnce_48 (by decide) ?_
      exact hr _ _ _ _ _ dX1_lettersOnce_49 rfl h
    · replace h := h.2 c2
      refine g_iload C 0 dX1_lettersOnce_33 rfl ?_
      refine g_iload_n C 3 dX1_lettersOnce_35 rfl ?_
      refine g_icmp_ge C 48 dX1_lettersOnce_36 (by decide) (fun c3 => ?_) (fun c3 => ?_)
      · replace h := h.1 c3
        refine g_iconst C (v := (0 : Int32)) dX1_lettersOnce_48 (by decide) ?_
        exact hr _ _ _ _ _ dX1_lettersOnce_49 rfl h
      · replace h := h.2 c3
        refine g_iload_n C 4 dX1_lettersOnce_39 rfl ?_
        refine g_iload C 0 dX1_lettersOnce_40 rfl ?_
        refine g_ishr C dX1_lettersOnce_42 ?_
        refine g_iconst C (v := (1 : Int32)) dX1_lettersOnce_43 (by decide) ?_
        refine g_iand C dX1_lettersOnce_44 ?_
        refine g_if_eq C 50 dX1_lettersOnce_45 (by decide) (fun c4 => ?_) (fun c4 => ?_)
        · replace h := h.1 c4
          refine g_iload_n C 4 dX1_lettersOnce_50 rfl ?_
          refine g_iconst C (v := (1 : Int32)) dX1_lettersOnce_51 (by decide) ?_
          refine g_iload C 0 dX1_lettersOnce_52 rfl ?_
          refine g_ishl C dX1_lettersOnce_54 ?_
          refine g_ior C dX1_lettersOnce_55 ?_
          refine g_topi (fun x5 ex5 => ?_)
          replace h := h x5 ex5
          refine g_istore_n C [(3, .int x5), (5, .int ((μ.1 (b + 1) v4.toNatClampNeg) - p1)), (0, .ref (Y.ad b)), (1, .int p1), (2, .int p2), (4, .int v4)] dX1_lettersOnce_56 (by decide) rfl ?_
          refine g_iinc C (v := v4 + 1) 5 [(4, .int (v4 + 1)), (3, .int x5), (5, .int ((μ.1 (b + 1) v4.toNatClampNeg) - p1)), (0, .ref (Y.ad b)), (1, .int p1), (2, .int p2)] dX1_lettersOnce_57 rfl rfl (by decide) rfl ?_
          refine g_goto C 8 dX1_lettersOnce_60 (by decide) ?_
          refine g_lv (lv2 := [(0, .ref (Y.ad b)), (1, .int p1), (2, .int p2), (3, .int x5), (4, .int (v4 + 1))]) [3, 4, 5, 1, 0] ?_ rfl
          exact h
        · replace h := h.2 c4
          refine g_iconst C (v := (0 : Int32)) dX1_lettersOnce_48 (by decide) ?_
          exact hr _ _ _ _ _ dX1_lettersOnce_49 rfl h
set_option maxRecDepth 20000 in
set_option maxHeartbeats 4000000 in
theorem ok_X1_lettersOnce {Y : YT} {l0 : Launch} {b : Nat} {p1 : Int32} {p2 : Int32} {μ : Mem} {Q : Int32 → Mem → Prop} (hI : YI Y) (h0 : isX1 Y b) (h : PX1_lettersOnce b p1 p2 μ Q) : MI l0 yX1_lettersOnce WX1_lettersOnce 0 0 Y [.ref (Y.ad b), .int p1, .int p2] μ Q := by
  refine mI_of (ty := .int) (cc := cX1_lettersOnce) (maxL := 6) (by decide +kernel) rfl hI (Nat.le_of_ble_eq_true rfl) (fun X C hr => ?_)
  replace C : Cx X Y 6 cX1_lettersOnce RX1 WX1_lettersOnce (rmB 0 0) l0 := C
  refine g_lv (lv2 := [(0, .ref (Y.ad b)), (1, .int p1), (2, .int p2)]) [0, 1, 2] ?_ rfl
  unfold PX1_lettersOnce at h
  replace h := h (SX1_lettersOnce_8 X Y b p1 p2) (fun v3 v4 μ z => tX1_lettersOnce_8 C hr hI h0 v3 v4 μ z)
  refine g_iconst C (v := (0 : Int32)) dX1_lettersOnce_0 (by decide) ?_
  refine g_istore_n C [(3, .int ((0 : Int32))), (0, .ref (Y.ad b)), (1, .int p1), (2, .int p2)] dX1_lettersOnce_1 (by decide) rfl ?_
  refine g_aload_n C 1 dX1_lettersOnce_2 rfl ?_
  refine gf_RX1_72 C h0 dX1_lettersOnce_3 ?_
  refine g_istore C [(4, .int (μ.1 b 7)), (3, .int ((0 : Int32))), (0, .ref (Y.ad b)), (1, .int p1), (2, .int p2)] dX1_lettersOnce_6 (by decide) rfl ?_
  refine g_lv (lv2 := [(0, .ref (Y.ad b)), (1, .int p1), (2, .int p2), (3, .int ((0 : Int32))), (4, .int (μ.1 b 7))]) [2, 3, 4, 1, 0] ?_ rfl
  exact h
set_option maxRecDepth 20000 in
set_option maxHeartbeats 4000000 in
theorem ok_X1_noteUse {Y : YT} {l0 : Launch} {b : Nat} {p1 : Int32} {μ : Mem} {Q : Mem → Prop} (hI : YI Y) (h0 : isX1 Y b) (h : PX1_noteUse b p1 μ Q) : MV l0 yX1_noteUse WX1_noteUse 0 0 Y [.ref (Y.ad b), .int p1] μ Q := by
  refine mV_of (cc := cX1_noteUse) (maxL := 2) (by decide +kernel) rfl hI (Nat.le_of_ble_eq_true rfl) (fun X C hr => ?_)
  replace C : Cx X Y 2 cX1_noteUse RX1 WX1_noteUse (rmB 0 0) l0 := C
  refine g_lv (lv2 := [(0, .ref (Y.ad b)), (1, .int p1)]) [0, 1] ?_ rfl
  unfold PX1_noteUse at h
  refine g_aload_n C 0 dX1_noteUse_0 rfl ?_
  refine gf_RX1_22 C h0 dX1_noteUse_1 ?_
  refine g_iload_n C 1 dX1_noteUse_4 rfl ?_
  refine g_iald C (isX1_firstUse h0).1 (isX1_firstUse h0).2 h.1 dX1_noteUse_5 ?_
  replace h := h.2
  refine g_iconst C (v := (-1 : Int32)) dX1_noteUse_6 (by decide) ?_
  refine g_icmp_ne C 20 dX1_noteUse_7 (by decide) (fun c1 => ?_) (fun c1 => ?_)
  · replace h := h.1 c1
    exact hr _ _ _ _ dX1_noteUse_20 h
  · replace h := h.2 c1
    refine g_aload_n C 0 dX1_noteUse_10 rfl ?_
    refine gf_RX1_22 C h0 dX1_noteUse_11 ?_
    refine g_iload_n C 1 dX1_noteUse_14 rfl ?_
    refine g_aload_n C 0 dX1_noteUse_15 rfl ?_
    refine gf_RX1_72 C h0 dX1_noteUse_16 ?_
    refine g_iast C (isX1_firstUse h0).1 (isX1_firstUse h0).2 h.1 dX1_noteUse_19 ?_
    replace h := h.2
    exact hr _ _ _ _ dX1_noteUse_20 h
def SX1_readSoup_75 (X : XT) (Y : YT) (b : Nat) (p1 : Int32) : Int32 → Mem → Prop := fun v2 μ => G X Y 3 75 [(0, .ref (Y.ad b)), (1, .int p1), (2, .int v2)] [] μ
set_option maxRecDepth 20000 in
set_option maxHeartbeats 4000000 in
theorem tX1_readSoup_98 {X : XT} {Y : YT} {l0 : Launch} {b : Nat} {p1 : Int32} {Q : Int32 → Mem → Prop} (C : Cx X Y 3 cX1_readSoup RX1 WX1_readSoup (rmB 3 65) l0) (hr : RI X Y cX1_readSoup .boolean Q) (hI : YI Y) (h0 : isX1 Y b) (v2 : Int32) (μ : Mem) (h : nX1_readSoup_98 b p1 Q (SX1_readSoup_75 X Y b p1) v2 μ) : G X Y 3 98 [(0, .ref (Y.ad b)), (1, .int p1), (2, .int v2)] [] μ := by
  unfold nX1_readSoup_98 at h
  refine g_iinc C (v := v2 + 1) 2 [(2, .int (v2 + 1)), (0, .ref (Y.ad b)), (1, .int p1)] dX1_readSoup_98 rfl rfl (by decide) rfl ?_
  refine g_goto C 75 dX1_readSoup_101 (by decide) ?_
  refine g_lv (lv2 := [(0, .ref (Y.ad b)), (1, .int p1), (2, .int (v2 + 1))]) [1, 2, 0] ?_ rfl
  exact h
set_option maxRecDepth 20000 in
set_option maxHeartbeats 4000000 in
theorem tX1_readSoup_75 {X : XT} {Y : YT} {l0 : Launch} {b : Nat} {p1 : Int32} {Q : Int32 → Mem → Prop} (C : Cx X Y 3 cX1_readSoup RX1 WX1_readSoup (rmB 3 65) l0) (hr : RI X Y cX1_readSoup .boolean Q) (hI : YI Y) (h0 : isX1 Y b) (v2 : Int32) (μ : Mem) (h : nX1_readSoup_75 b p1 Q (SX1_readSoup_75 X Y b p1) v2 μ) : G X Y 3 75 [(0, .ref (Y.ad b)), (1, .int p1), (2, .int v2)] [] μ := by
  unfold nX1_readSoup_75 at h
  refine g_iload_n C 2 dX1_readSoup_75 rfl ?_
  refine g_bipush C (v := (6 : Int32)) dX1_readSoup_76 (by decide) ?_
  refine g_icmp_ge C 104 dX1_readSoup_78 (by decide) (fun c12 => ?_) (fun c12 => ?_)
  · replace h := h.1 c12
    refine g_aload_n C 0 dX1_readSoup_104 rfl ?_
    refine g_callVI C [] [] (ok_X1_readToken hI h0 h) (cw_RX1_29 _) rfl dc_X1_readToken ⟨Nat.le_of_ble_eq_true rfl, Nat.le_of_ble_eq_true rfl⟩ (isX1_lt h0) (isX1_sh h0) rfl rfl rfl rfl (Nat.le_of_ble_eq_true rfl) dX1_readSoup_105 (fun r14 m13 h => ?_)
    exact hr _ _ _ _ _ dX1_readSoup_108 h.1.1 h.2
  · replace h := h.2 c12
    refine g_aload_n C 0 dX1_readSoup_81 rfl ?_
    refine gf_RX1_18 C h0 dX1_readSoup_82 ?_
    refine g_iload_n C 1 dX1_readSoup_85 rfl ?_
    refine g_iload_n C 2 dX1_readSoup_86 rfl ?_
    refine g_callVI C [.int p1, .int v2] [] (ok_X2_isInSoup hI (isX1_told h0) h) (cw_RX1_195 _) rfl dc_X2_isInSoup ⟨Nat.le_of_ble_eq_true rfl, Nat.le_of_ble_eq_true rfl⟩ (isX2_lt (isX1_told h0)) (isX2_sh (isX1_told h0)) rfl rfl rfl rfl (Nat.le_of_ble_eq_true rfl) dX1_readSoup_87 (fun r16 m15 h => ?_)
    refine g_if_eq C 98 dX1_readSoup_90 (by decide) (fun c17 => ?_) (fun c17 => ?_)
    · replace h := h.1 c17
      exact tX1_readSoup_98 C hr hI h0 _ _ h
    · replace h := h.2 c17
      refine g_aload_n C 0 dX1_readSoup_93 rfl ?_
      refine g_iload_n C 2 dX1_readSoup_94 rfl ?_
      refine g_callVV C [.int v2] [] (ok_X1_noteUse hI h0 h) (cw_RX1_198 _) rfl dc_X1_noteUse ⟨Nat.le_of_ble_eq_true rfl, Nat.le_of_ble_eq_true rfl⟩ (isX1_lt h0) (isX1_sh h0) rfl rfl rfl rfl (Nat.le_of_ble_eq_true rfl) dX1_readSoup_95 (fun m18 h => ?_)
      exact tX1_readSoup_98 C hr hI h0 _ _ h
set_option maxRecDepth 20000 in
set_option maxHeartbeats 4000000 in
theorem ok_X1_readSoup {Y : YT} {l0 : Launch} {b : Nat} {p1 : Int32} {μ : Mem} {Q : Int32 → Mem → Prop} (hI : YI Y) (h0 : isX1 Y b) (h : PX1_readSoup b p1 μ Q) : MI l0 yX1_readSoup WX1_readSoup 3 65 Y [.ref (Y.ad b), .int p1] μ Q := by
  refine mI_of (ty := .boolean) (cc := cX1_readSoup) (maxL := 3) (by decide +kernel) rfl hI (Nat.le_of_ble_eq_true rfl) (fun X C hr => ?_)
  replace C : Cx X Y 3 cX1_readSoup RX1 WX1_readSoup (rmB 3 65) l0 := C
  refine g_lv (lv2 := [(0, .ref (Y.ad b)), (1, .int p1)]) [0, 1] ?_ rfl
  unfold PX1_readSoup at h
  replace h := h (SX1_readSoup_75 X Y b p1) (fun v2 μ z => tX1_readSoup_75 C hr hI h0 v2 μ z)
  refine g_aload_n C 0 dX1_readSoup_0 rfl ?_
  refine g_iconst C (v := (1 : Int32)) dX1_readSoup_1 (by decide) ?_
  refine g_bipush C (v := (9 : Int32)) dX1_readSoup_2 (by decide) ?_
  refine g_callVI C [.int ((1 : Int32)), .int ((9 : Int32))] [] (ok_X1_readNumber hI h0 h) (cw_RX1_137 _) rfl dc_X1_readNumber ⟨Nat.le_of_ble_eq_true rfl, Nat.le_of_ble_eq_true rfl⟩ (isX1_lt h0) (isX1_sh h0) rfl rfl rfl rfl (Nat.le_of_ble_eq_true rfl) dX1_readSoup_4 (fun r2 m1 h => ?_)
  refine g_if_ne C 12 dX1_readSoup_7 (by decide) (fun c3 => ?_) (fun c3 => ?_)
  · replace h := h.1 c3
    refine g_aload_n C 0 dX1_readSoup_12 rfl ?_
    refine gf_RX1_18 C h0 dX1_readSoup_13 ?_
    refine gf_RX1_182 C (isX1_told h0) dX1_readSoup_16 ?_
    refine g_iload_n C 1 dX1_readSoup_19 rfl ?_
    refine g_aload_n C 0 dX1_readSoup_20 rfl ?_
    refine gf_RX1_75 C h0 dX1_readSoup_21 ?_
    refine g_iast C (isX2_soupUnits (isX1_told h0)).1 (isX2_soupUnits (isX1_told h0)).2 h.1 dX1_readSoup_24 ?_
    replace h := h.2
    refine g_aload_n C 0 dX1_readSoup_25 rfl ?_
    refine g_callVI C [] [] (ok_X1_readName hI h0 h) (cw_RX1_185 _) rfl dc_X1_readName ⟨Nat.le_of_ble_eq_true rfl, Nat.le_of_ble_eq_true rfl⟩ (isX1_lt h0) (isX1_sh h0) rfl rfl rfl rfl (Nat.le_of_ble_eq_true rfl) dX1_readSoup_26 (fun r5 m4 h => ?_)
    refine g_if_ne C 34 dX1_readSoup_29 (by decide) (fun c6 => ?_) (fun c6 => ?_)
    · replace h := h.1 c6
      refine g_aload_n C 0 dX1_readSoup_34 rfl ?_
      refine gf_RX1_18 C h0 dX1_readSoup_35 ?_
      refine gf_RX1_188 C (isX1_told h0) dX1_readSoup_38 ?_
      refine g_iload_n C 1 dX1_readSoup_41 rfl ?_
      refine g_aload_n C 0 dX1_readSoup_42 rfl ?_
      refine g_bipush C (v := (97 : Int32)) dX1_readSoup_43 (by decide) ?_
      refine g_bipush C (v := (6 : Int32)) dX1_readSoup_45 (by decide) ?_
      refine g_callVI C [.int ((97 : Int32)), .int ((6 : Int32))] [.int p1, .ref (Y.ad (b + 2 + 8))] (ok_X1_lettersOnce hI h0 h) (cw_RX1_191 _) rfl dc_X1_lettersOnce ⟨Nat.le_of_ble_eq_true rfl, Nat.le_of_ble_eq_true rfl⟩ (isX1_lt h0) (isX1_sh h0) rfl rfl rfl rfl (Nat.le_of_ble_eq_true rfl) dX1_readSoup_47 (fun r8 m7 h => ?_)
      refine g_iast C (isX2_soupThings (isX1_told h0)).1 (isX2_soupThings (isX1_told h0)).2 h.1 dX1_readSoup_50 ?_
      replace h := h.2
      refine g_aload_n C 0 dX1_readSoup_51 rfl ?_
      refine gf_RX1_18 C h0 dX1_readSoup_52 ?_
      refine gf_RX1_188 C (isX1_told h0) dX1_readSoup_55 ?_
      refine g_iload_n C 1 dX1_readSoup_58 rfl ?_
      refine g_iald C (isX2_soupThings (isX1_told h0)).1 (isX2_soupThings (isX1_told h0)).2 h.1 dX1_readSoup_59 ?_
      replace h := h.2
      refine g_if_ne C 73 dX1_readSoup_60 (by decide) (fun c9 => ?_) (fun c9 => ?_)
      · replace h := h.1 c9
        refine g_iconst C (v := (0 : Int32)) dX1_readSoup_73 (by decide) ?_
        refine g_istore_n C [(2, .int ((0 : Int32))), (0, .ref (Y.ad b)), (1, .int p1)] dX1_readSoup_74 (by decide) rfl ?_
        refine g_lv (lv2 := [(0, .ref (Y.ad b)), (1, .int p1), (2, .int ((0 : Int32)))]) [1, 2, 0] ?_ rfl
        exact h
      · replace h := h.2 c9
        refine g_aload_n C 0 dX1_readSoup_63 rfl ?_
        refine g_iconst C (v := (3 : Int32)) dX1_readSoup_64 (by decide) ?_
        refine g_aload_n C 0 dX1_readSoup_65 rfl ?_
        refine gf_RX1_72 C h0 dX1_readSoup_66 ?_
        refine g_callVI C [.int ((3 : Int32)), .int ((ms m7 (b + 2 + 8) p1.toNatClampNeg r8).1 b 7)] [] (ok_X1_refuse hI h0 h) (cw_RX1_65 _) rfl dc_X1_refuse ⟨Nat.le_of_ble_eq_true rfl, Nat.le_of_ble_eq_true rfl⟩ (isX1_lt h0) (isX1_sh h0) rfl rfl rfl rfl (Nat.le_of_ble_eq_true rfl) dX1_readSoup_69 (fun r11 m10 h => ?_)
        exact hr _ _ _ _ _ dX1_readSoup_72 h.1.1 h.2
    · replace h := h.2 c6
      refine g_iconst C (v := (0 : Int32)) dX1_readSoup_32 (by decide) ?_
      exact hr _ _ _ _ _ dX1_readSoup_33 rfl h
  · replace h := h.2 c3
    refine g_iconst C (v := (0 : Int32)) dX1_readSoup_10 (by decide) ?_
    exact hr _ _ _ _ _ dX1_readSoup_11 rfl h
def SX1_readPortions_3 (X : XT) (Y : YT) (b : Nat) (a1 : Nat) (n1 : Nat) (p2 : Int32) (p3 : Int32) : Int32 → Mem → Prop := fun v4 μ => G X Y 6 3 [(0, .ref (Y.ad b)), (1, .ref (Y.ad a1)), (2, .int p2), (3, .int p3), (4, .int v4)] [] μ
set_option maxRecDepth 20000 in
set_option maxHeartbeats 4000000 in
theorem tX1_readPortions_99 {X : XT} {Y : YT} {l0 : Launch} {b : Nat} {a1 : Nat} {n1 : Nat} {p2 : Int32} {p3 : Int32} {Q : Int32 → Mem → Prop} (C : Cx X Y 6 cX1_readPortions RX1 WX1_readPortions (rmB 5 107) l0) (hr : RI X Y cX1_readPortions .boolean Q) (hI : YI Y) (h0 : isX1 Y b) (h1 : isI Y a1 n1) (μ : Mem) (h : nX1_readPortions_99 b a1 n1 p2 p3 Q (SX1_readPortions_3 X Y b a1 n1 p2 p3) μ) : G X Y 6 99 [(0, .ref (Y.ad b)), (1, .ref (Y.ad a1)), (2, .int p2), (3, .int p3)] [] μ := by
  unfold nX1_readPortions_99 at h
  refine g_aload_n C 0 dX1_readPortions_99 rfl ?_
  refine g_iconst C (v := (3 : Int32)) dX1_readPortions_100 (by decide) ?_
  refine g_aload_n C 0 dX1_readPortions_101 rfl ?_
  refine gf_RX1_72 C h0 dX1_readPortions_102 ?_
  refine g_callVI C [.int ((3 : Int32)), .int (μ.1 b 7)] [] (ok_X1_refuse hI h0 h) (cw_RX1_65 _) rfl dc_X1_refuse ⟨Nat.le_of_ble_eq_true rfl, Nat.le_of_ble_eq_true rfl⟩ (isX1_lt h0) (isX1_sh h0) rfl rfl rfl rfl (Nat.le_of_ble_eq_true rfl) dX1_readPortions_105 (fun r29 m28 h => ?_)
  exact hr _ _ _ _ _ dX1_readPortions_108 h.1.1 h.2
set_option maxRecDepth 20000 in
set_option maxHeartbeats 4000000 in
theorem tX1_readPortions_60 {X : XT} {Y : YT} {l0 : Launch} {b : Nat} {a1 : Nat} {n1 : Nat} {p2 : Int32} {p3 : Int32} {Q : Int32 → Mem → Prop} (C : Cx X Y 6 cX1_readPortions RX1 WX1_readPortions (rmB 5 107) l0) (hr : RI X Y cX1_readPortions .boolean Q) (hI : YI Y) (h0 : isX1 Y b) (h1 : isI Y a1 n1) (v4 : Int32) (μ : Mem) (h : nX1_readPortions_60 b a1 n1 p2 p3 Q (SX1_readPortions_3 X Y b a1 n1 p2 p3) v4 μ) : G X Y 6 60 [(0, .ref (Y.ad b)), (1, .ref (Y.ad a1)), (2, .int p2), (3, .int p3), (4, .int v4)] [] μ := by
  unfold nX1_readPortions_60 at h
  refine g_aload_n C 0 dX1_readPortions_60 rfl ?_
  refine gf_RX1_9 C h0 dX1_readPortions_61 ?_
  refine g_aload_n C 0 dX1_readPortions_64 rfl ?_
  refine gf_RX1_72 C h0 dX1_readPortions_65 ?_
  refine g_bald C (isX1_tape h0).1 (isX1_tape h0).2 h.1 dX1_readPortions_68 ?_
  replace h := h.2
  refine g_bipush C (v := (97 : Int32)) dX1_readPortions_69 (by decide) ?_
  refine g_isub C dX1_readPortions_71 ?_
  refine g_istore C [(5, .int ((μ.1 (b + 1) (μ.1 b 7).toNatClampNeg) - ((97 : Int32)))), (0, .ref (Y.ad b)), (1, .ref (Y.ad a1)), (2, .int p2), (3, .int p3), (4, .int v4)] dX1_readPortions_72 (by decide) rfl ?_
  refine g_aload_n C 1 dX1_readPortions_74 rfl ?_
  refine gf_RX1_46 C h0 dX1_readPortions_75 ?_
  refine g_aload_n C 1 dX1_readPortions_78 rfl ?_
  refine gf_RX1_72 C h0 dX1_readPortions_79 ?_
  refine g_isub C dX1_readPortions_82 ?_
  refine g_iconst C (v := (1 : Int32)) dX1_readPortions_83 (by decide) ?_
  refine g_icmp_ne C 99 dX1_readPortions_84 (by decide) (fun c16 => ?_) (fun c16 => ?_)
  · replace h := h.1 c16
    refine g_lv (lv2 := [(0, .ref (Y.ad b)), (1, .ref (Y.ad a1)), (2, .int p2), (3, .int p3)]) [1, 2, 3, 4] ?_ rfl
    exact tX1_readPortions_99 C hr hI h0 h1 _ h
  · replace h := h.2 c16
    refine g_iload C 0 dX1_readPortions_87 rfl ?_
    refine g_if_lt C 99 dX1_readPortions_89 (by decide) (fun c17 => ?_) (fun c17 => ?_)
    · replace h := h.1 c17
      refine g_lv (lv2 := [(0, .ref (Y.ad b)), (1, .ref (Y.ad a1)), (2, .int p2), (3, .int p3)]) [1, 2, 3, 4] ?_ rfl
      exact tX1_readPortions_99 C hr hI h0 h1 _ h
    · replace h := h.2 c17
      refine g_iload C 0 dX1_readPortions_92 rfl ?_
      refine g_bipush C (v := (6 : Int32)) dX1_readPortions_94 (by decide) ?_
      refine g_icmp_lt C 109 dX1_readPortions_96 (by decide) (fun c18 => ?_) (fun c18 => ?_)
      · replace h := h.1 c18
        refine g_aload_n C 2 dX1_readPortions_109 rfl ?_
        refine g_iload_n C 3 dX1_readPortions_110 rfl ?_
        refine g_bipush C (v := (6 : Int32)) dX1_readPortions_111 (by decide) ?_
        refine g_imul C dX1_readPortions_113 ?_
        refine g_iload C 0 dX1_readPortions_114 rfl ?_
        refine g_iadd C dX1_readPortions_116 ?_
        refine g_iald C h1.1 h1.2 h.1 dX1_readPortions_117 ?_
        replace h := h.2
        refine g_if_eq C 131 dX1_readPortions_118 (by decide) (fun c19 => ?_) (fun c19 => ?_)
        · replace h := h.1 c19
          refine g_aload_n C 1 dX1_readPortions_131 rfl ?_
          refine g_iload C 0 dX1_readPortions_132 rfl ?_
          refine g_callVV C [.int ((μ.1 (b + 1) (μ.1 b 7).toNatClampNeg) - ((97 : Int32)))] [] (ok_X1_noteUse hI h0 h) (cw_RX1_198 _) rfl dc_X1_noteUse ⟨Nat.le_of_ble_eq_true rfl, Nat.le_of_ble_eq_true rfl⟩ (isX1_lt h0) (isX1_sh h0) rfl rfl rfl rfl (Nat.le_of_ble_eq_true rfl) dX1_readPortions_134 (fun m20 h => ?_)
          refine g_aload_n C 1 dX1_readPortions_137 rfl ?_
          refine g_iconst C (v := (1 : Int32)) dX1_readPortions_138 (by decide) ?_
          refine g_iconst C (v := (3 : Int32)) dX1_readPortions_139 (by decide) ?_
          refine g_callVI C [.int ((1 : Int32)), .int ((3 : Int32))] [] (ok_X1_readNumber hI h0 h) (cw_RX1_137 _) rfl dc_X1_readNumber ⟨Nat.le_of_ble_eq_true rfl, Nat.le_of_ble_eq_true rfl⟩ (isX1_lt h0) (isX1_sh h0) rfl rfl rfl rfl (Nat.le_of_ble_eq_true rfl) dX1_readPortions_140 (fun r23 m22 h => ?_)
          refine g_if_ne C 148 dX1_readPortions_143 (by decide) (fun c24 => ?_) (fun c24 => ?_)
          · replace h := h.1 c24
            refine g_aload_n C 2 dX1_readPortions_148 rfl ?_
            refine g_iload_n C 3 dX1_readPortions_149 rfl ?_
            refine g_bipush C (v := (6 : Int32)) dX1_readPortions_150 (by decide) ?_
            refine g_imul C dX1_readPortions_152 ?_
            refine g_iload C 0 dX1_readPortions_153 rfl ?_
            refine g_iadd C dX1_readPortions_155 ?_
            refine g_aload_n C 1 dX1_readPortions_156 rfl ?_
            refine gf_RX1_75 C h0 dX1_readPortions_157 ?_
            refine g_iast C h1.1 h1.2 h.1 dX1_readPortions_160 ?_
            replace h := h.2
            refine g_mem (fun m25 em25 => ?_)
            replace h := h m25 em25
            refine g_iinc C (v := v4 + 1) 5 [(4, .int (v4 + 1)), (5, .int ((μ.1 (b + 1) (μ.1 b 7).toNatClampNeg) - ((97 : Int32)))), (0, .ref (Y.ad b)), (1, .ref (Y.ad a1)), (2, .int p2), (3, .int p3)] dX1_readPortions_161 rfl rfl (by decide) rfl ?_
            refine g_goto C 3 dX1_readPortions_164 (by decide) ?_
            refine g_lv (lv2 := [(0, .ref (Y.ad b)), (1, .ref (Y.ad a1)), (2, .int p2), (3, .int p3), (4, .int (v4 + 1))]) [2, 3, 4, 5, 0] ?_ rfl
            exact h
          · replace h := h.2 c24
            refine g_iconst C (v := (0 : Int32)) dX1_readPortions_146 (by decide) ?_
            exact hr _ _ _ _ _ dX1_readPortions_147 rfl h
        · replace h := h.2 c19
          refine g_aload_n C 1 dX1_readPortions_121 rfl ?_
          refine g_iconst C (v := (4 : Int32)) dX1_readPortions_122 (by decide) ?_
          refine g_aload_n C 1 dX1_readPortions_123 rfl ?_
          refine gf_RX1_72 C h0 dX1_readPortions_124 ?_
          refine g_callVI C [.int ((4 : Int32)), .int (μ.1 b 7)] [] (ok_X1_refuse hI h0 h) (cw_RX1_65 _) rfl dc_X1_refuse ⟨Nat.le_of_ble_eq_true rfl, Nat.le_of_ble_eq_true rfl⟩ (isX1_lt h0) (isX1_sh h0) rfl rfl rfl rfl (Nat.le_of_ble_eq_true rfl) dX1_readPortions_127 (fun r27 m26 h => ?_)
          exact hr _ _ _ _ _ dX1_readPortions_130 h.1.1 h.2
      · replace h := h.2 c18
        refine g_lv (lv2 := [(0, .ref (Y.ad b)), (1, .ref (Y.ad a1)), (2, .int p2), (3, .int p3)]) [1, 2, 3, 4] ?_ rfl
        exact tX1_readPortions_99 C hr hI h0 h1 _ h
set_option maxRecDepth 20000 in
set_option maxHeartbeats 4000000 in
theorem tX1_readPortions_3 {X : XT} {Y : YT} {l0 : Launch} {b : Nat} {a1 : Nat} {n1 : Nat} {p2 : Int32} {p3 : Int32} {Q : Int32 → Mem → Prop} (C : Cx X Y 6 cX1_readPortions RX1 WX1_readPortions (rmB 5 107) l0) (hr : RI X Y cX1_readPortions .boolean Q) (hI : YI Y) (h0 : isX1 Y b) (h1 : isI Y a1 n1) (v4 : Int32) (μ : Mem) (h : nX1_readPortions_3 b a1 n1 p2 p3 Q (SX1_readPortions_3 X Y b a1 n1 p2 p3) v4 μ) : G X Y 6 3 [(0, .ref (Y.ad b)), (1, .ref (Y.ad a1)), (2, .int p2), (3, .int p3), (4, .int v4)] [] μ := by
  unfold nX1_readPortions_3 at h
  refine g_iload C 4 dX1_readPortions_3 rfl ?_
  refine g_bipush C (v := (6 : Int32)) dX1_readPortions_5 (by decide) ?_
  refine g_icmp_gt C 167 dX1_readPortions_7 (by decide) (fun c1 => ?_) (fun c1 => ?_)
  · replace h := h.1 c1
    refine g_iconst C (v := (0 : Int32)) dX1_readPortions_167 (by decide) ?_
    exact hr _ _ _ _ _ dX1_readPortions_168 rfl h
  · replace h := h.2 c1
    refine g_aload_n C 0 dX1_readPortions_10 rfl ?_
    refine g_callVI C [] [] (ok_X1_readToken hI h0 h) (cw_RX1_29 _) rfl dc_X1_readToken ⟨Nat.le_of_ble_eq_true rfl, Nat.le_of_ble_eq_true rfl⟩ (isX1_lt h0) (isX1_sh h0) rfl rfl rfl rfl (Nat.le_of_ble_eq_true rfl) dX1_readPortions_11 (fun r3 m2 h => ?_)
    refine g_if_ne C 19 dX1_readPortions_14 (by decide) (fun c4 => ?_) (fun c4 => ?_)
    · replace h := h.1 c4
      refine g_aload_n C 0 dX1_readPortions_19 rfl ?_
      refine gf_RX1_33 C h0 dX1_readPortions_20 ?_
      refine g_iconst C (v := (1 : Int32)) dX1_readPortions_23 (by decide) ?_
      refine g_icmp_ne C 58 dX1_readPortions_24 (by decide) (fun c5 => ?_) (fun c5 => ?_)
      · replace h := h.1 c5
        refine g_iconst C (v := (1 : Int32)) dX1_readPortions_58 (by decide) ?_
        exact hr _ _ _ _ _ dX1_readPortions_59 rfl h
      · replace h := h.2 c5
        refine g_aload_n C 0 dX1_readPortions_27 rfl ?_
        refine g_ldcS C 10 (by decide) rfl rfl dX1_readPortions_28 ?_
        refine g_callVI C [.ref (Y.aK 10)] [] (ok_X1_isName hI h0 (by decide) h) (cw_RX1_99 _) rfl dc_X1_isName ⟨Nat.le_of_ble_eq_true rfl, Nat.le_of_ble_eq_true rfl⟩ (isX1_lt h0) (isX1_sh h0) rfl rfl rfl rfl (Nat.le_of_ble_eq_true rfl) dX1_readPortions_30 (fun r7 m6 h => ?_)
        refine g_if_ne C 58 dX1_readPortions_33 (by decide) (fun c8 => ?_) (fun c8 => ?_)
        · replace h := h.1 c8
          refine g_iconst C (v := (1 : Int32)) dX1_readPortions_58 (by decide) ?_
          exact hr _ _ _ _ _ dX1_readPortions_59 rfl h
        · replace h := h.2 c8
          refine g_aload_n C 0 dX1_readPortions_36 rfl ?_
          refine g_ldcS C 11 (by decide) rfl rfl dX1_readPortions_37 ?_
          refine g_callVI C [.ref (Y.aK 11)] [] (ok_X1_isName hI h0 (by decide) h) (cw_RX1_99 _) rfl dc_X1_isName ⟨Nat.le_of_ble_eq_true rfl, Nat.le_of_ble_eq_true rfl⟩ (isX1_lt h0) (isX1_sh h0) rfl rfl rfl rfl (Nat.le_of_ble_eq_true rfl) dX1_readPortions_39 (fun r10 m9 h => ?_)
          refine g_if_ne C 58 dX1_readPortions_42 (by decide) (fun c11 => ?_) (fun c11 => ?_)
          · replace h := h.1 c11
            refine g_iconst C (v := (1 : Int32)) dX1_readPortions_58 (by decide) ?_
            exact hr _ _ _ _ _ dX1_readPortions_59 rfl h
          · replace h := h.2 c11
            refine g_iload_n C 3 dX1_readPortions_45 rfl ?_
            refine g_if_eq C 60 dX1_readPortions_46 (by decide) (fun c12 => ?_) (fun c12 => ?_)
            · replace h := h.1 c12
              exact tX1_readPortions_60 C hr hI h0 h1 _ _ h
            · replace h := h.2 c12
              refine g_aload_n C 0 dX1_readPortions_49 rfl ?_
              refine g_ldcS C 9 (by decide) rfl rfl dX1_readPortions_50 ?_
              refine g_callVI C [.ref (Y.aK 9)] [] (ok_X1_isName hI h0 (by decide) h) (cw_RX1_99 _) rfl dc_X1_isName ⟨Nat.le_of_ble_eq_true rfl, Nat.le_of_ble_eq_true rfl⟩ (isX1_lt h0) (isX1_sh h0) rfl rfl rfl rfl (Nat.le_of_ble_eq_true rfl) dX1_readPortions_52 (fun r14 m13 h => ?_)
              refine g_if_eq C 60 dX1_readPortions_55 (by decide) (fun c15 => ?_) (fun c15 => ?_)
              · replace h := h.1 c15
                exact tX1_readPortions_60 C hr hI h0 h1 _ _ h
              · replace h := h.2 c15
                refine g_iconst C (v := (1 : Int32)) dX1_readPortions_58 (by decide) ?_
                exact hr _ _ _ _ _ dX1_readPortions_59 rfl h
    · replace h := h.2 c4
      refine g_iconst C (v := (0 : Int32)) dX1_readPortions_17 (by decide) ?_
      exact hr _ _ _ _ _ dX1_readPortions_18 rfl h
set_option maxRecDepth 20000 in
set_option maxHeartbeats 4000000 in
theorem ok_X1_readPortions {Y : YT} {l0 : Launch} {b : Nat} {a1 : Nat} {n1 : Nat} {p2 : Int32} {p3 : Int32} {μ : Mem} {Q : Int32 → Mem → Prop} (hI : YI Y) (h0 : isX1 Y b) (h1 : isI Y a1 n1) (h : PX1_readPortions b a1 n1 p2 p3 μ Q) : MI l0 yX1_readPortions WX1_readPortions 5 107 Y [.ref (Y.ad b), .ref (Y.ad a1), .int p2, .int p3] μ Q := by
  refine mI_of (ty := .boolean) (cc := cX1_readPortions) (maxL := 6) (by decide +kernel) rfl hI (Nat.le_of_ble_eq_true rfl) (fun X C hr => ?_)
  replace C : Cx X Y 6 cX1_readPortions RX1 WX1_readPortions (rmB 5 107) l0 := C
  refine g_lv (lv2 := [(0, .ref (Y.ad b)), (1, .ref (Y.ad a1)), (2, .int p2), (3, .int p3)]) [0, 1, 2, 3] ?_ rfl
  unfold PX1_readPortions at h
  replace h := h (SX1_readPortions_3 X Y b a1 n1 p2 p3) (fun v4 μ z => tX1_readPortions_3 C hr hI h0 h1 v4 μ z)
  refine g_iconst C (v := (0 : Int32)) dX1_readPortions_0 (by decide) ?_
  refine g_istore C [(4, .int ((0 : Int32))), (0, .ref (Y.ad b)), (1, .ref (Y.ad a1)), (2, .int p2), (3, .int p3)] dX1_readPortions_1 (by decide) rfl ?_
  refine g_lv (lv2 := [(0, .ref (Y.ad b)), (1, .ref (Y.ad a1)), (2, .int p2), (3, .int p3), (4, .int ((0 : Int32)))]) [1, 2, 3, 4, 0] ?_ rfl
  exact h
set_option maxRecDepth 20000 in
set_option maxHeartbeats 4000000 in
theorem ok_X1_readLike {Y : YT} {l0 : Launch} {b : Nat} {p1 : Int32} {μ : Mem} {Q : Int32 → Mem → Prop} (hI : YI Y) (h0 : isX1 Y b) (h : PX1_readLike b p1 μ Q) : MI l0 yX1_readLike WX1_readLike 3 65 Y [.ref (Y.ad b), .int p1] μ Q := by
  refine mI_of (ty := .boolean) (cc := cX1_readLike) (maxL := 2) (by decide +kernel) rfl hI (Nat.le_of_ble_eq_true rfl) (fun X C hr => ?_)
  replace C : Cx X Y 2 cX1_readLike RX1 WX1_readLike (rmB 3 65) l0 := C
  refine g_lv (lv2 := [(0, .ref (Y.ad b)), (1, .int p1)]) [0, 1] ?_ rfl
  unfold PX1_readLike at h
  refine g_aload_n C 0 dX1_readLike_0 rfl ?_
  refine g_iconst C (v := (0 : Int32)) dX1_readLike_1 (by decide) ?_
  refine g_bipush C (v := (9 : Int32)) dX1_readLike_2 (by decide) ?_
  refine g_callVI C [.int ((0 : Int32)), .int ((9 : Int32))] [] (ok_X1_readNumber hI h0 h) (cw_RX1_137 _) rfl dc_X1_readNumber ⟨Nat.le_of_ble_eq_true rfl, Nat.le_of_ble_eq_true rfl⟩ (isX1_lt h0) (isX1_sh h0) rfl rfl rfl rfl (Nat.le_of_ble_eq_true rfl) dX1_readLike_4 (fun r2 m1 h => ?_)
  refine g_if_ne C 12 dX1_readLike_7 (by decide) (fun c3 => ?_) (fun c3 => ?_)
  · replace h := h.1 c3
    refine g_aload_n C 0 dX1_readLike_12 rfl ?_
    refine gf_RX1_18 C h0 dX1_readLike_13 ?_
    refine gf_RX1_202 C (isX1_told h0) dX1_readLike_16 ?_
    refine g_iload_n C 1 dX1_readLike_19 rfl ?_
    refine g_aload_n C 0 dX1_readLike_20 rfl ?_
    refine gf_RX1_75 C h0 dX1_readLike_21 ?_
    refine g_iast C (isX2_likes (isX1_told h0)).1 (isX2_likes (isX1_told h0)).2 h.1 dX1_readLike_24 ?_
    replace h := h.2
    refine g_aload_n C 0 dX1_readLike_25 rfl ?_
    refine g_callVI C [] [] (ok_X1_readToken hI h0 h) (cw_RX1_29 _) rfl dc_X1_readToken ⟨Nat.le_of_ble_eq_true rfl, Nat.le_of_ble_eq_true rfl⟩ (isX1_lt h0) (isX1_sh h0) rfl rfl rfl rfl (Nat.le_of_ble_eq_true rfl) dX1_readLike_26 (fun r5 m4 h => ?_)
    exact hr _ _ _ _ _ dX1_readLike_29 h.1.1 h.2
  · replace h := h.2 c3
    refine g_iconst C (v := (0 : Int32)) dX1_readLike_10 (by decide) ?_
    exact hr _ _ _ _ _ dX1_readLike_11 rfl h
set_option maxRecDepth 20000 in
set_option maxHeartbeats 4000000 in
theorem ok_X1_readWont {Y : YT} {l0 : Launch} {b : Nat} {p1 : Int32} {μ : Mem} {Q : Int32 → Mem → Prop} (hI : YI Y) (h0 : isX1 Y b) (h : PX1_readWont b p1 μ Q) : MI l0 yX1_readWont WX1_readWont 3 63 Y [.ref (Y.ad b), .int p1] μ Q := by
  refine mI_of (ty := .boolean) (cc := cX1_readWont) (maxL := 2) (by decide +kernel) rfl hI (Nat.le_of_ble_eq_true rfl) (fun X C hr => ?_)
  replace C : Cx X Y 2 cX1_readWont RX1 WX1_readWont (rmB 3 63) l0 := C
  refine g_lv (lv2 := [(0, .ref (Y.ad b)), (1, .int p1)]) [0, 1] ?_ rfl
  unfold PX1_readWont at h
  refine g_aload_n C 0 dX1_readWont_0 rfl ?_
  refine g_callVI C [] [] (ok_X1_readName hI h0 h) (cw_RX1_185 _) rfl dc_X1_readName ⟨Nat.le_of_ble_eq_true rfl, Nat.le_of_ble_eq_true rfl⟩ (isX1_lt h0) (isX1_sh h0) rfl rfl rfl rfl (Nat.le_of_ble_eq_true rfl) dX1_readWont_1 (fun r2 m1 h => ?_)
  refine g_if_ne C 9 dX1_readWont_4 (by decide) (fun c3 => ?_) (fun c3 => ?_)
  · replace h := h.1 c3
    refine g_aload_n C 0 dX1_readWont_9 rfl ?_
    refine gf_RX1_18 C h0 dX1_readWont_10 ?_
    refine gf_RX1_205 C (isX1_told h0) dX1_readWont_13 ?_
    refine g_iload_n C 1 dX1_readWont_16 rfl ?_
    refine g_aload_n C 0 dX1_readWont_17 rfl ?_
    refine g_bipush C (v := (112 : Int32)) dX1_readWont_18 (by decide) ?_
    refine g_iconst C (v := (4 : Int32)) dX1_readWont_20 (by decide) ?_
    refine g_callVI C [.int ((112 : Int32)), .int ((4 : Int32))] [.int p1, .ref (Y.ad (b + 2 + 6))] (ok_X1_lettersOnce hI h0 h) (cw_RX1_191 _) rfl dc_X1_lettersOnce ⟨Nat.le_of_ble_eq_true rfl, Nat.le_of_ble_eq_true rfl⟩ (isX1_lt h0) (isX1_sh h0) rfl rfl rfl rfl (Nat.le_of_ble_eq_true rfl) dX1_readWont_21 (fun r5 m4 h => ?_)
    refine g_iast C (isX2_wont (isX1_told h0)).1 (isX2_wont (isX1_told h0)).2 h.1 dX1_readWont_24 ?_
    replace h := h.2
    refine g_aload_n C 0 dX1_readWont_25 rfl ?_
    refine gf_RX1_18 C h0 dX1_readWont_26 ?_
    refine gf_RX1_205 C (isX1_told h0) dX1_readWont_29 ?_
    refine g_iload_n C 1 dX1_readWont_32 rfl ?_
    refine g_iald C (isX2_wont (isX1_told h0)).1 (isX2_wont (isX1_told h0)).2 h.1 dX1_readWont_33 ?_
    replace h := h.2
    refine g_if_ne C 47 dX1_readWont_34 (by decide) (fun c6 => ?_) (fun c6 => ?_)
    · replace h := h.1 c6
      refine g_aload_n C 0 dX1_readWont_47 rfl ?_
      refine g_callVI C [] [] (ok_X1_readToken hI h0 h) (cw_RX1_29 _) rfl dc_X1_readToken ⟨Nat.le_of_ble_eq_true rfl, Nat.le_of_ble_eq_true rfl⟩ (isX1_lt h0) (isX1_sh h0) rfl rfl rfl rfl (Nat.le_of_ble_eq_true rfl) dX1_readWont_48 (fun r8 m7 h => ?_)
      exact hr _ _ _ _ _ dX1_readWont_51 h.1.1 h.2
    · replace h := h.2 c6
      refine g_aload_n C 0 dX1_readWont_37 rfl ?_
      refine g_iconst C (v := (3 : Int32)) dX1_readWont_38 (by decide) ?_
      refine g_aload_n C 0 dX1_readWont_39 rfl ?_
      refine gf_RX1_72 C h0 dX1_readWont_40 ?_
      refine g_callVI C [.int ((3 : Int32)), .int ((ms m4 (b + 2 + 6) p1.toNatClampNeg r5).1 b 7)] [] (ok_X1_refuse hI h0 h) (cw_RX1_65 _) rfl dc_X1_refuse ⟨Nat.le_of_ble_eq_true rfl, Nat.le_of_ble_eq_true rfl⟩ (isX1_lt h0) (isX1_sh h0) rfl rfl rfl rfl (Nat.le_of_ble_eq_true rfl) dX1_readWont_43 (fun r10 m9 h => ?_)
      exact hr _ _ _ _ _ dX1_readWont_46 h.1.1 h.2
  · replace h := h.2 c3
    refine g_iconst C (v := (0 : Int32)) dX1_readWont_7 (by decide) ?_
    exact hr _ _ _ _ _ dX1_readWont_8 rfl h
set_option maxRecDepth 20000 in
set_option maxHeartbeats 4000000 in
theorem tX1_readSupper_143 {X : XT} {Y : YT} {l0 : Launch} {b : Nat} {p1 : Int32} {Q : Int32 → Mem → Prop} (C : Cx X Y 3 cX1_readSupper RX1 WX1_readSupper (rmB 6 132) l0) (hr : RI X Y cX1_readSupper .boolean Q) (hI : YI Y) (h0 : isX1 Y b) (μ : Mem) (h : nX1_readSupper_143 b p1 Q  μ) : G X Y 3 143 [(0, .ref (Y.ad b)), (1, .int p1)] [] μ := by
  unfold nX1_readSupper_143 at h
  refine g_aload_n C 0 dX1_readSupper_143 rfl ?_
  refine g_callVI C [] [] (ok_X1_isPoint hI h0 h) (cw_RX1_94 _) rfl dc_X1_isPoint ⟨Nat.le_of_ble_eq_true rfl, Nat.le_of_ble_eq_true rfl⟩ (isX1_lt h0) (isX1_sh h0) rfl rfl rfl rfl (Nat.le_of_ble_eq_true rfl) dX1_readSupper_144 (fun r31 m30 h => ?_)
  exact hr _ _ _ _ _ dX1_readSupper_147 h.1.1 h.2
set_option maxRecDepth 20000 in
set_option maxHeartbeats 4000000 in
theorem tX1_readSupper_124 {X : XT} {Y : YT} {l0 : Launch} {b : Nat} {p1 : Int32} {Q : Int32 → Mem → Prop} (C : Cx X Y 3 cX1_readSupper RX1 WX1_readSupper (rmB 6 132) l0) (hr : RI X Y cX1_readSupper .boolean Q) (hI : YI Y) (h0 : isX1 Y b) (v2 : Int32) (μ : Mem) (h : nX1_readSupper_124 b p1 Q v2 μ) : G X Y 3 124 [(0, .ref (Y.ad b)), (1, .int p1), (2, .int v2)] [] μ := by
  unfold nX1_readSupper_124 at h
  refine g_aload_n C 0 dX1_readSupper_124 rfl ?_
  refine g_ldcS C 11 (by decide) rfl rfl dX1_readSupper_125 ?_
  refine g_callVI C [.ref (Y.aK 11)] [] (ok_X1_isName hI h0 (by decide) h) (cw_RX1_99 _) rfl dc_X1_isName ⟨Nat.le_of_ble_eq_true rfl, Nat.le_of_ble_eq_true rfl⟩ (isX1_lt h0) (isX1_sh h0) rfl rfl rfl rfl (Nat.le_of_ble_eq_true rfl) dX1_readSupper_127 (fun r25 m24 h => ?_)
  refine g_if_eq C 143 dX1_readSupper_130 (by decide) (fun c26 => ?_) (fun c26 => ?_)
  · replace h := h.1 c26
    refine g_lv (lv2 := [(0, .ref (Y.ad b)), (1, .int p1)]) [0, 1] ?_ rfl
    exact tX1_readSupper_143 C hr hI h0 _ h
  · replace h := h.2 c26
    refine g_aload_n C 0 dX1_readSupper_133 rfl ?_
    refine g_iload_n C 2 dX1_readSupper_134 rfl ?_
    refine g_callVI C [.int v2] [] (ok_X1_readWont hI h0 h) (cw_RX1_179 _) rfl dc_X1_readWont ⟨Nat.le_of_ble_eq_true rfl, Nat.le_of_ble_eq_true rfl⟩ (isX1_lt h0) (isX1_sh h0) rfl rfl rfl rfl (Nat.le_of_ble_eq_true rfl) dX1_readSupper_135 (fun r28 m27 h => ?_)
    refine g_if_ne C 143 dX1_readSupper_138 (by decide) (fun c29 => ?_) (fun c29 => ?_)
    · replace h := h.1 c29
      refine g_lv (lv2 := [(0, .ref (Y.ad b)), (1, .int p1)]) [0, 1] ?_ rfl
      exact tX1_readSupper_143 C hr hI h0 _ h
    · replace h := h.2 c29
      refine g_iconst C (v := (0 : Int32)) dX1_readSupper_141 (by decide) ?_
      exact hr _ _ _ _ _ dX1_readSupper_142 rfl h
set_option maxRecDepth 20000 in
set_option maxHeartbeats 4000000 in
theorem tX1_readSupper_105 {X : XT} {Y : YT} {l0 : Launch} {b : Nat} {p1 : Int32} {Q : Int32 → Mem → Prop} (C : Cx X Y 3 cX1_readSupper RX1 WX1_readSupper (rmB 6 132) l0) (hr : RI X Y cX1_readSupper .boolean Q) (hI : YI Y) (h0 : isX1 Y b) (v2 : Int32) (μ : Mem) (h : nX1_readSupper_105 b p1 Q v2 μ) : G X Y 3 105 [(0, .ref (Y.ad b)), (1, .int p1), (2, .int v2)] [] μ := by
  unfold nX1_readSupper_105 at h
  refine g_aload_n C 0 dX1_readSupper_105 rfl ?_
  refine g_ldcS C 10 (by decide) rfl rfl dX1_readSupper_106 ?_
  refine g_callVI C [.ref (Y.aK 10)] [] (ok_X1_isName hI h0 (by decide) h) (cw_RX1_99 _) rfl dc_X1_isName ⟨Nat.le_of_ble_eq_true rfl, Nat.le_of_ble_eq_true rfl⟩ (isX1_lt h0) (isX1_sh h0) rfl rfl rfl rfl (Nat.le_of_ble_eq_true rfl) dX1_readSupper_108 (fun r19 m18 h => ?_)
  refine g_if_eq C 124 dX1_readSupper_111 (by decide) (fun c20 => ?_) (fun c20 => ?_)
  · replace h := h.1 c20
    exact tX1_readSupper_124 C hr hI h0 _ _ h
  · replace h := h.2 c20
    refine g_aload_n C 0 dX1_readSupper_114 rfl ?_
    refine g_iload_n C 2 dX1_readSupper_115 rfl ?_
    refine g_callVI C [.int v2] [] (ok_X1_readLike hI h0 h) (cw_RX1_174 _) rfl dc_X1_readLike ⟨Nat.le_of_ble_eq_true rfl, Nat.le_of_ble_eq_true rfl⟩ (isX1_lt h0) (isX1_sh h0) rfl rfl rfl rfl (Nat.le_of_ble_eq_true rfl) dX1_readSupper_116 (fun r22 m21 h => ?_)
    refine g_if_ne C 124 dX1_readSupper_119 (by decide) (fun c23 => ?_) (fun c23 => ?_)
    · replace h := h.1 c23
      exact tX1_readSupper_124 C hr hI h0 _ _ h
    · replace h := h.2 c23
      refine g_iconst C (v := (0 : Int32)) dX1_readSupper_122 (by decide) ?_
      exact hr _ _ _ _ _ dX1_readSupper_123 rfl h
set_option maxRecDepth 20000 in
set_option maxHeartbeats 4000000 in
theorem tX1_readSupper_78 {X : XT} {Y : YT} {l0 : Launch} {b : Nat} {p1 : Int32} {Q : Int32 → Mem → Prop} (C : Cx X Y 3 cX1_readSupper RX1 WX1_readSupper (rmB 6 132) l0) (hr : RI X Y cX1_readSupper .boolean Q) (hI : YI Y) (h0 : isX1 Y b) (v2 : Int32) (μ : Mem) (h : nX1_readSupper_78 b p1 Q v2 μ) : G X Y 3 78 [(0, .ref (Y.ad b)), (1, .int p1), (2, .int v2)] [] μ := by
  unfold nX1_readSupper_78 at h
  refine g_aload_n C 0 dX1_readSupper_78 rfl ?_
  refine g_ldcS C 9 (by decide) rfl rfl dX1_readSupper_79 ?_
  refine g_callVI C [.ref (Y.aK 9)] [] (ok_X1_isName hI h0 (by decide) h) (cw_RX1_99 _) rfl dc_X1_isName ⟨Nat.le_of_ble_eq_true rfl, Nat.le_of_ble_eq_true rfl⟩ (isX1_lt h0) (isX1_sh h0) rfl rfl rfl rfl (Nat.le_of_ble_eq_true rfl) dX1_readSupper_81 (fun r13 m12 h => ?_)
  refine g_if_eq C 105 dX1_readSupper_84 (by decide) (fun c14 => ?_) (fun c14 => ?_)
  · replace h := h.1 c14
    exact tX1_readSupper_105 C hr hI h0 _ _ h
  · replace h := h.2 c14
    refine g_aload_n C 0 dX1_readSupper_87 rfl ?_
    refine g_aload_n C 0 dX1_readSupper_88 rfl ?_
    refine gf_RX1_18 C h0 dX1_readSupper_89 ?_
    refine gf_RX1_170 C (isX1_told h0) dX1_readSupper_92 ?_
    refine g_iload_n C 2 dX1_readSupper_95 rfl ?_
    refine g_iconst C (v := (0 : Int32)) dX1_readSupper_96 (by decide) ?_
    refine g_callVI C [.ref (Y.ad (b + 2 + 10)), .int v2, .int ((0 : Int32))] [] (ok_X1_readPortions hI h0 (isX2_leaves (isX1_told h0)) h) (cw_RX1_164 _) rfl dc_X1_readPortions ⟨Nat.le_of_ble_eq_true rfl, Nat.le_of_ble_eq_true rfl⟩ (isX1_lt h0) (isX1_sh h0) rfl rfl rfl rfl (Nat.le_of_ble_eq_true rfl) dX1_readSupper_97 (fun r16 m15 h => ?_)
    refine g_if_ne C 105 dX1_readSupper_100 (by decide) (fun c17 => ?_) (fun c17 => ?_)
    · replace h := h.1 c17
      exact tX1_readSupper_105 C hr hI h0 _ _ h
    · replace h := h.2 c17
      refine g_iconst C (v := (0 : Int32)) dX1_readSupper_103 (by decide) ?_
      exact hr _ _ _ _ _ dX1_readSupper_104 rfl h
set_option maxRecDepth 20000 in
set_option maxHeartbeats 4000000 in
theorem ok_X1_readSupper {Y : YT} {l0 : Launch} {b : Nat} {p1 : Int32} {μ : Mem} {Q : Int32 → Mem → Prop} (hI : YI Y) (h0 : isX1 Y b) (h : PX1_readSupper b p1 μ Q) : MI l0 yX1_readSupper WX1_readSupper 6 132 Y [.ref (Y.ad b), .int p1] μ Q := by
  refine mI_of (ty := .boolean) (cc := cX1_readSupper) (maxL := 3) (by decide +kernel) rfl hI (Nat.le_of_ble_eq_true rfl) (fun X C hr => ?_)
  replace C : Cx X Y 3 cX1_readSupper RX1 WX1_readSupper (rmB 6 132) l0 := C
  refine g_lv (lv2 := [(0, .ref (Y.ad b)), (1, .int p1)]) [0, 1] ?_ rfl
  unfold PX1_readSupper at h
  refine g_aload_n C 0 dX1_readSupper_0 rfl ?_
  refine gf_RX1_18 C h0 dX1_readSupper_1 ?_
  refine gf_RX1_152 C (isX1_told h0) dX1_readSupper_4 ?_
  refine g_istore_n C [(2, .int (μ.1 (b + 2) 4)), (0, .ref (Y.ad b)), (1, .int p1)] dX1_readSupper_7 (by decide) rfl ?_
  refine g_iload_n C 0 dX1_readSupper_8 rfl ?_
  refine g_bipush C (v := (8 : Int32)) dX1_readSupper_9 (by decide) ?_
  refine g_icmp_lt C 24 dX1_readSupper_11 (by decide) (fun c1 => ?_) (fun c1 => ?_)
  · replace h := h.1 c1
    refine g_aload_n C 1 dX1_readSupper_24 rfl ?_
    refine gf_RX1_18 C h0 dX1_readSupper_25 ?_
    refine g_iload_n C 0 dX1_readSupper_28 rfl ?_
    refine g_iconst C (v := (1 : Int32)) dX1_readSupper_29 (by decide) ?_
    refine g_iadd C dX1_readSupper_30 ?_
    refine gp_RX1_152 C (isX1_told h0) dX1_readSupper_31 ?_
    refine g_aload_n C 1 dX1_readSupper_34 rfl ?_
    refine gf_RX1_18 C h0 dX1_readSupper_35 ?_
    refine gf_RX1_155 C (isX1_told h0) dX1_readSupper_38 ?_
    refine g_iload_n C 0 dX1_readSupper_41 rfl ?_
    refine g_iload_n C 2 dX1_readSupper_42 rfl ?_
    refine g_iast C (isX2_kind (isX1_told h0)).1 (isX2_kind (isX1_told h0)).2 h.1 dX1_readSupper_43 ?_
    replace h := h.2
    refine g_mem (fun m2 em2 => ?_)
    replace h := h m2 em2
    refine g_iload_n C 2 dX1_readSupper_44 rfl ?_
    refine g_iconst C (v := (3 : Int32)) dX1_readSupper_45 (by decide) ?_
    refine g_icmp_ne C 60 dX1_readSupper_46 (by decide) (fun c3 => ?_) (fun c3 => ?_)
    · replace h := h.1 c3
      refine g_aload_n C 1 dX1_readSupper_60 rfl ?_
      refine g_aload_n C 1 dX1_readSupper_61 rfl ?_
      refine gf_RX1_18 C h0 dX1_readSupper_62 ?_
      refine gf_RX1_161 C (isX1_told h0) dX1_readSupper_65 ?_
      refine g_iload_n C 0 dX1_readSupper_68 rfl ?_
      refine g_iconst C (v := (1 : Int32)) dX1_readSupper_69 (by decide) ?_
      refine g_callVI C [.ref (Y.ad (b + 2 + 9)), .int (μ.1 (b + 2) 4), .int ((1 : Int32))] [] (ok_X1_readPortions hI h0 (isX2_wants (isX1_told h0)) h) (cw_RX1_164 _) rfl dc_X1_readPortions ⟨Nat.le_of_ble_eq_true rfl, Nat.le_of_ble_eq_true rfl⟩ (isX1_lt h0) (isX1_sh h0) rfl rfl rfl rfl (Nat.le_of_ble_eq_true rfl) dX1_readSupper_70 (fun r5 m4 h => ?_)
      refine g_if_ne C 78 dX1_readSupper_73 (by decide) (fun c6 => ?_) (fun c6 => ?_)
      · replace h := h.1 c6
        refine g_lv (lv2 := [(0, .ref (Y.ad b)), (1, .int p1), (2, .int (μ.1 (b + 2) 4))]) [1, 2, 0] ?_ rfl
        exact tX1_readSupper_78 C hr hI h0 _ _ h
      · replace h := h.2 c6
        refine g_iconst C (v := (0 : Int32)) dX1_readSupper_76 (by decide) ?_
        exact hr _ _ _ _ _ dX1_readSupper_77 rfl h
    · replace h := h.2 c3
      refine g_aload_n C 1 dX1_readSupper_49 rfl ?_
      refine g_iload_n C 0 dX1_readSupper_50 rfl ?_
      refine g_callVI C [.int (μ.1 (b + 2) 4)] [] (ok_X1_readSoup hI h0 h) (cw_RX1_158 _) rfl dc_X1_readSoup ⟨Nat.le_of_ble_eq_true rfl, Nat.le_of_ble_eq_true rfl⟩ (isX1_lt h0) (isX1_sh h0) rfl rfl rfl rfl (Nat.le_of_ble_eq_true rfl) dX1_readSupper_51 (fun r8 m7 h => ?_)
      refine g_if_eq C 76 dX1_readSupper_54 (by decide) (fun c9 => ?_) (fun c9 => ?_)
      · replace h := h.1 c9
        refine g_iconst C (v := (0 : Int32)) dX1_readSupper_76 (by decide) ?_
        exact hr _ _ _ _ _ dX1_readSupper_77 rfl h
      · replace h := h.2 c9
        refine g_goto C 78 dX1_readSupper_57 (by decide) ?_
        refine g_lv (lv2 := [(0, .ref (Y.ad b)), (1, .int p1), (2, .int (μ.1 (b + 2) 4))]) [1, 2, 0] ?_ rfl
        exact tX1_readSupper_78 C hr hI h0 _ _ h
  · replace h := h.2 c1
    refine g_aload_n C 1 dX1_readSupper_14 rfl ?_
    refine g_iconst C (v := (5 : Int32)) dX1_readSupper_15 (by decide) ?_
    refine g_aload_n C 1 dX1_readSupper_16 rfl ?_
    refine gf_RX1_72 C h0 dX1_readSupper_17 ?_
    refine g_callVI C [.int ((5 : Int32)), .int (μ.1 b 7)] [] (ok_X1_refuse hI h0 h) (cw_RX1_65 _) rfl dc_X1_refuse ⟨Nat.le_of_ble_eq_true rfl, Nat.le_of_ble_eq_true rfl⟩ (isX1_lt h0) (isX1_sh h0) rfl rfl rfl rfl (Nat.le_of_ble_eq_true rfl) dX1_readSupper_20 (fun r11 m10 h => ?_)
    exact hr _ _ _ _ _ dX1_readSupper_23 h.1.1 h.2
set_option maxRecDepth 20000 in
set_option maxHeartbeats 4000000 in
theorem ok_X1_readAgain {Y : YT} {l0 : Launch} {b : Nat} {μ : Mem} {Q : Int32 → Mem → Prop} (hI : YI Y) (h0 : isX1 Y b) (h : PX1_readAgain b μ Q) : MI l0 yX1_readAgain WX1_readAgain 3 65 Y [.ref (Y.ad b)] μ Q := by
  refine mI_of (ty := .boolean) (cc := cX1_readAgain) (maxL := 1) (by decide +kernel) rfl hI (Nat.le_of_ble_eq_true rfl) (fun X C hr => ?_)
  replace C : Cx X Y 1 cX1_readAgain RX1 WX1_readAgain (rmB 3 65) l0 := C
  refine g_lv (lv2 := [(0, .ref (Y.ad b))]) [0] ?_ rfl
  unfold PX1_readAgain at h
  refine g_aload_n C 0 dX1_readAgain_0 rfl ?_
  refine gf_RX1_49 C h0 dX1_readAgain_1 ?_
  refine g_if_eq C 17 dX1_readAgain_4 (by decide) (fun c1 => ?_) (fun c1 => ?_)
  · replace h := h.1 c1
    refine g_aload_n C 0 dX1_readAgain_17 rfl ?_
    refine g_iconst C (v := (1 : Int32)) dX1_readAgain_18 (by decide) ?_
    refine gp_RX1_49 C h0 nz1 dX1_readAgain_19 ?_
    refine g_aload_n C 0 dX1_readAgain_22 rfl ?_
    refine g_iconst C (v := (0 : Int32)) dX1_readAgain_23 (by decide) ?_
    refine g_bipush C (v := (7 : Int32)) dX1_readAgain_24 (by decide) ?_
    refine g_callVI C [.int ((0 : Int32)), .int ((7 : Int32))] [] (ok_X1_readNumber hI h0 h) (cw_RX1_137 _) rfl dc_X1_readNumber ⟨Nat.le_of_ble_eq_true rfl, Nat.le_of_ble_eq_true rfl⟩ (isX1_lt h0) (isX1_sh h0) rfl rfl rfl rfl (Nat.le_of_ble_eq_true rfl) dX1_readAgain_26 (fun r3 m2 h => ?_)
    refine g_if_ne C 34 dX1_readAgain_29 (by decide) (fun c4 => ?_) (fun c4 => ?_)
    · replace h := h.1 c4
      refine g_aload_n C 0 dX1_readAgain_34 rfl ?_
      refine gf_RX1_18 C h0 dX1_readAgain_35 ?_
      refine g_aload_n C 0 dX1_readAgain_38 rfl ?_
      refine gf_RX1_75 C h0 dX1_readAgain_39 ?_
      refine gp_RX1_207 C (isX1_told h0) dX1_readAgain_42 ?_
      refine g_aload_n C 0 dX1_readAgain_45 rfl ?_
      refine g_callVI C [] [] (ok_X1_readPoint hI h0 h) (cw_RX1_149 _) rfl dc_X1_readPoint ⟨Nat.le_of_ble_eq_true rfl, Nat.le_of_ble_eq_true rfl⟩ (isX1_lt h0) (isX1_sh h0) rfl rfl rfl rfl (Nat.le_of_ble_eq_true rfl) dX1_readAgain_46 (fun r6 m5 h => ?_)
      exact hr _ _ _ _ _ dX1_readAgain_49 h.1.1 h.2
    · replace h := h.2 c4
      refine g_iconst C (v := (0 : Int32)) dX1_readAgain_32 (by decide) ?_
      exact hr _ _ _ _ _ dX1_readAgain_33 rfl h
  · replace h := h.2 c1
    refine g_aload_n C 0 dX1_readAgain_7 rfl ?_
    refine g_iconst C (v := (4 : Int32)) dX1_readAgain_8 (by decide) ?_
    refine g_aload_n C 0 dX1_readAgain_9 rfl ?_
    refine gf_RX1_72 C h0 dX1_readAgain_10 ?_
    refine g_callVI C [.int ((4 : Int32)), .int (μ.1 b 7)] [] (ok_X1_refuse hI h0 h) (cw_RX1_65 _) rfl dc_X1_refuse ⟨Nat.le_of_ble_eq_true rfl, Nat.le_of_ble_eq_true rfl⟩ (isX1_lt h0) (isX1_sh h0) rfl rfl rfl rfl (Nat.le_of_ble_eq_true rfl) dX1_readAgain_13 (fun r8 m7 h => ?_)
    exact hr _ _ _ _ _ dX1_readAgain_16 h.1.1 h.2
def SX1_readShop_34 (X : XT) (Y : YT) (b : Nat) : Int32 → Int32 → Mem → Prop := fun v1 v2 μ => G X Y 3 34 [(0, .ref (Y.ad b)), (1, .int v1), (2, .int v2)] [] μ
set_option maxRecDepth 20000 in
set_option maxHeartbeats 4000000 in
theorem tX1_readShop_79 {X : XT} {Y : YT} {l0 : Launch} {b : Nat} {Q : Int32 → Mem → Prop} (C : Cx X Y 3 cX1_readShop RX1 WX1_readShop (rmB 2 43) l0) (hr : RI X Y cX1_readShop .boolean Q) (hI : YI Y) (h0 : isX1 Y b) (μ : Mem) (h : nX1_readShop_79 b Q (SX1_readShop_34 X Y b) μ) : G X Y 3 79 [(0, .ref (Y.ad b))] [] μ := by
  unfold nX1_readShop_79 at h
  refine g_aload_n C 0 dX1_readShop_79 rfl ?_
  refine g_iconst C (v := (3 : Int32)) dX1_readShop_80 (by decide) ?_
  refine g_aload_n C 0 dX1_readShop_81 rfl ?_
  refine gf_RX1_72 C h0 dX1_readShop_82 ?_
  refine g_callVI C [.int ((3 : Int32)), .int (μ.1 b 7)] [] (ok_X1_refuse hI h0 h) (cw_RX1_65 _) rfl dc_X1_refuse ⟨Nat.le_of_ble_eq_true rfl, Nat.le_of_ble_eq_true rfl⟩ (isX1_lt h0) (isX1_sh h0) rfl rfl rfl rfl (Nat.le_of_ble_eq_true rfl) dX1_readShop_85 (fun r16 m15 h => ?_)
  exact hr _ _ _ _ _ dX1_readShop_88 h.1.1 h.2
set_option maxRecDepth 20000 in
set_option maxHeartbeats 4000000 in
theorem tX1_readShop_34 {X : XT} {Y : YT} {l0 : Launch} {b : Nat} {Q : Int32 → Mem → Prop} (C : Cx X Y 3 cX1_readShop RX1 WX1_readShop (rmB 2 43) l0) (hr : RI X Y cX1_readShop .boolean Q) (hI : YI Y) (h0 : isX1 Y b) (v1 : Int32) (v2 : Int32) (μ : Mem) (h : nX1_readShop_34 b Q (SX1_readShop_34 X Y b) v1 v2 μ) : G X Y 3 34 [(0, .ref (Y.ad b)), (1, .int v1), (2, .int v2)] [] μ := by
  unfold nX1_readShop_34 at h
  refine g_iload_n C 2 dX1_readShop_34 rfl ?_
  refine g_bipush C (v := (7 : Int32)) dX1_readShop_35 (by decide) ?_
  refine g_icmp_gt C 120 dX1_readShop_37 (by decide) (fun c5 => ?_) (fun c5 => ?_)
  · replace h := h.1 c5
    refine g_iconst C (v := (0 : Int32)) dX1_readShop_120 (by decide) ?_
    exact hr _ _ _ _ _ dX1_readShop_121 rfl h
  · replace h := h.2 c5
    refine g_aload_n C 0 dX1_readShop_40 rfl ?_
    refine g_callVI C [] [] (ok_X1_readToken hI h0 h) (cw_RX1_29 _) rfl dc_X1_readToken ⟨Nat.le_of_ble_eq_true rfl, Nat.le_of_ble_eq_true rfl⟩ (isX1_lt h0) (isX1_sh h0) rfl rfl rfl rfl (Nat.le_of_ble_eq_true rfl) dX1_readShop_41 (fun r7 m6 h => ?_)
    refine g_if_ne C 49 dX1_readShop_44 (by decide) (fun c8 => ?_) (fun c8 => ?_)
    · replace h := h.1 c8
      refine g_aload_n C 0 dX1_readShop_49 rfl ?_
      refine gf_RX1_33 C h0 dX1_readShop_50 ?_
      refine g_iconst C (v := (2 : Int32)) dX1_readShop_53 (by decide) ?_
      refine g_icmp_eq C 62 dX1_readShop_54 (by decide) (fun c9 => ?_) (fun c9 => ?_)
      · replace h := h.1 c9
        refine g_aload_n C 0 dX1_readShop_62 rfl ?_
        refine gf_RX1_75 C h0 dX1_readShop_63 ?_
        refine g_iload_n C 1 dX1_readShop_66 rfl ?_
        refine g_icmp_lt C 79 dX1_readShop_67 (by decide) (fun c10 => ?_) (fun c10 => ?_)
        · replace h := h.1 c10
          refine g_lv (lv2 := [(0, .ref (Y.ad b))]) [0] ?_ rfl
          exact tX1_readShop_79 C hr hI h0 _ h
        · replace h := h.2 c10
          refine g_aload_n C 0 dX1_readShop_70 rfl ?_
          refine gf_RX1_75 C h0 dX1_readShop_71 ?_
          refine g_bipush C (v := (7 : Int32)) dX1_readShop_74 (by decide) ?_
          refine g_icmp_lt C 89 dX1_readShop_76 (by decide) (fun c11 => ?_) (fun c11 => ?_)
          · replace h := h.1 c11
            refine g_aload_n C 0 dX1_readShop_89 rfl ?_
            refine gf_RX1_18 C h0 dX1_readShop_90 ?_
            refine g_dup C dX1_readShop_93 rfl ?_
            refine gf_RX1_210 C (isX1_told h0) dX1_readShop_94 ?_
            refine g_iconst C (v := (1 : Int32)) dX1_readShop_97 (by decide) ?_
            refine g_aload_n C 0 dX1_readShop_98 rfl ?_
            refine gf_RX1_75 C h0 dX1_readShop_99 ?_
            refine g_ishl C dX1_readShop_102 ?_
            refine g_ior C dX1_readShop_103 ?_
            refine gp_RX1_210 C (isX1_told h0) dX1_readShop_104 ?_
            refine g_aload_n C 0 dX1_readShop_107 rfl ?_
            refine gf_RX1_75 C h0 dX1_readShop_108 ?_
            refine g_iconst C (v := (1 : Int32)) dX1_readShop_111 (by decide) ?_
            refine g_iadd C dX1_readShop_112 ?_
            refine g_topi (fun x12 ex12 => ?_)
            replace h := h x12 ex12
            refine g_istore_n C [(1, .int x12), (0, .ref (Y.ad b)), (2, .int v2)] dX1_readShop_113 (by decide) rfl ?_
            refine g_iinc C (v := v2 + 1) 2 [(2, .int (v2 + 1)), (1, .int x12), (0, .ref (Y.ad b))] dX1_readShop_114 rfl rfl (by decide) rfl ?_
            refine g_goto C 34 dX1_readShop_117 (by decide) ?_
            refine g_lv (lv2 := [(0, .ref (Y.ad b)), (1, .int x12), (2, .int (v2 + 1))]) [2, 1, 0] ?_ rfl
            exact h
          · replace h := h.2 c11
            refine g_lv (lv2 := [(0, .ref (Y.ad b))]) [0] ?_ rfl
            exact tX1_readShop_79 C hr hI h0 _ h
      · replace h := h.2 c9
        refine g_aload_n C 0 dX1_readShop_57 rfl ?_
        refine g_callVI C [] [] (ok_X1_isPoint hI h0 h) (cw_RX1_94 _) rfl dc_X1_isPoint ⟨Nat.le_of_ble_eq_true rfl, Nat.le_of_ble_eq_true rfl⟩ (isX1_lt h0) (isX1_sh h0) rfl rfl rfl rfl (Nat.le_of_ble_eq_true rfl) dX1_readShop_58 (fun r14 m13 h => ?_)
        exact hr _ _ _ _ _ dX1_readShop_61 h.1.1 h.2
    · replace h := h.2 c8
      refine g_iconst C (v := (0 : Int32)) dX1_readShop_47 (by decide) ?_
      exact hr _ _ _ _ _ dX1_readShop_48 rfl h
set_option maxRecDepth 20000 in
set_option maxHeartbeats 4000000 in
theorem ok_X1_readShop {Y : YT} {l0 : Launch} {b : Nat} {μ : Mem} {Q : Int32 → Mem → Prop} (hI : YI Y) (h0 : isX1 Y b) (h : PX1_readShop b μ Q) : MI l0 yX1_readShop WX1_readShop 2 43 Y [.ref (Y.ad b)] μ Q := by
  refine mI_of (ty := .boolean) (cc := cX1_readShop) (maxL := 3) (by decide +kernel) rfl hI (Nat.le_of_ble_eq_true rfl) (fun X C hr => ?_)
  replace C : Cx X Y 3 cX1_readShop RX1 WX1_readShop (rmB 2 43) l0 := C
  refine g_lv (lv2 := [(0, .ref (Y.ad b))]) [0] ?_ rfl
  unfold PX1_readShop at h
  replace h := h (SX1_readShop_34 X Y b) (fun v1 v2 μ z => tX1_readShop_34 C hr hI h0 v1 v2 μ z)
  refine g_aload_n C 0 dX1_readShop_0 rfl ?_
  refine gf_RX1_53 C h0 dX1_readShop_1 ?_
  refine g_if_eq C 17 dX1_readShop_4 (by decide) (fun c1 => ?_) (fun c1 => ?_)
  · replace h := h.1 c1
    refine g_aload_n C 0 dX1_readShop_17 rfl ?_
    refine g_iconst C (v := (1 : Int32)) dX1_readShop_18 (by decide) ?_
    refine gp_RX1_53 C h0 nz1 dX1_readShop_19 ?_
    refine g_aload_n C 0 dX1_readShop_22 rfl ?_
    refine gf_RX1_18 C h0 dX1_readShop_23 ?_
    refine g_iconst C (v := (0 : Int32)) dX1_readShop_26 (by decide) ?_
    refine gp_RX1_210 C (isX1_told h0) dX1_readShop_27 ?_
    refine g_mem (fun m2 em2 => ?_)
    replace h := h m2 em2
    refine g_iconst C (v := (0 : Int32)) dX1_readShop_30 (by decide) ?_
    refine g_istore_n C [(1, .int ((0 : Int32))), (0, .ref (Y.ad b))] dX1_readShop_31 (by decide) rfl ?_
    refine g_iconst C (v := (0 : Int32)) dX1_readShop_32 (by decide) ?_
    refine g_istore_n C [(2, .int ((0 : Int32))), (1, .int ((0 : Int32))), (0, .ref (Y.ad b))] dX1_readShop_33 (by decide) rfl ?_
    refine g_lv (lv2 := [(0, .ref (Y.ad b)), (1, .int ((0 : Int32))), (2, .int ((0 : Int32)))]) [2, 1, 0] ?_ rfl
    exact h
  · replace h := h.2 c1
    refine g_aload_n C 0 dX1_readShop_7 rfl ?_
    refine g_iconst C (v := (4 : Int32)) dX1_readShop_8 (by decide) ?_
    refine g_aload_n C 0 dX1_readShop_9 rfl ?_
    refine gf_RX1_72 C h0 dX1_readShop_10 ?_
    refine g_callVI C [.int ((4 : Int32)), .int (μ.1 b 7)] [] (ok_X1_refuse hI h0 h) (cw_RX1_65 _) rfl dc_X1_refuse ⟨Nat.le_of_ble_eq_true rfl, Nat.le_of_ble_eq_true rfl⟩ (isX1_lt h0) (isX1_sh h0) rfl rfl rfl rfl (Nat.le_of_ble_eq_true rfl) dX1_readShop_13 (fun r4 m3 h => ?_)
    exact hr _ _ _ _ _ dX1_readShop_16 h.1.1 h.2
set_option maxRecDepth 20000 in
set_option maxHeartbeats 4000000 in
theorem ok_X1_readOut {Y : YT} {l0 : Launch} {b : Nat} {μ : Mem} {Q : Int32 → Mem → Prop} (hI : YI Y) (h0 : isX1 Y b) (h : PX1_readOut b μ Q) : MI l0 yX1_readOut WX1_readOut 3 65 Y [.ref (Y.ad b)] μ Q := by
  refine mI_of (ty := .boolean) (cc := cX1_readOut) (maxL := 1) (by decide +kernel) rfl hI (Nat.le_of_ble_eq_true rfl) (fun X C hr => ?_)
  replace C : Cx X Y 1 cX1_readOut RX1 WX1_readOut (rmB 3 65) l0 := C
  refine g_lv (lv2 := [(0, .ref (Y.ad b))]) [0] ?_ rfl
  unfold PX1_readOut at h
  refine g_aload_n C 0 dX1_readOut_0 rfl ?_
  refine g_iconst C (v := (0 : Int32)) dX1_readOut_1 (by decide) ?_
  refine g_bipush C (v := (6 : Int32)) dX1_readOut_2 (by decide) ?_
  refine g_callVI C [.int ((0 : Int32)), .int ((6 : Int32))] [] (ok_X1_readNumber hI h0 h) (cw_RX1_137 _) rfl dc_X1_readNumber ⟨Nat.le_of_ble_eq_true rfl, Nat.le_of_ble_eq_true rfl⟩ (isX1_lt h0) (isX1_sh h0) rfl rfl rfl rfl (Nat.le_of_ble_eq_true rfl) dX1_readOut_4 (fun r2 m1 h => ?_)
  refine g_if_ne C 12 dX1_readOut_7 (by decide) (fun c3 => ?_) (fun c3 => ?_)
  · replace h := h.1 c3
    refine g_aload_n C 0 dX1_readOut_12 rfl ?_
    refine gf_RX1_18 C h0 dX1_readOut_13 ?_
    refine g_aload_n C 0 dX1_readOut_16 rfl ?_
    refine gf_RX1_75 C h0 dX1_readOut_17 ?_
    refine g_callVI C [.int (m1.1 b 8)] [] (ok_X2_isOut hI (isX1_told h0) h) (cw_RX1_213 _) rfl dc_X2_isOut ⟨Nat.le_of_ble_eq_true rfl, Nat.le_of_ble_eq_true rfl⟩ (isX2_lt (isX1_told h0)) (isX2_sh (isX1_told h0)) rfl rfl rfl rfl (Nat.le_of_ble_eq_true rfl) dX1_readOut_20 (fun r5 m4 h => ?_)
    refine g_if_eq C 36 dX1_readOut_23 (by decide) (fun c6 => ?_) (fun c6 => ?_)
    · replace h := h.1 c6
      refine g_aload_n C 0 dX1_readOut_36 rfl ?_
      refine gf_RX1_18 C h0 dX1_readOut_37 ?_
      refine g_dup C dX1_readOut_40 rfl ?_
      refine gf_RX1_216 C (isX1_told h0) dX1_readOut_41 ?_
      refine g_iconst C (v := (1 : Int32)) dX1_readOut_44 (by decide) ?_
      refine g_aload_n C 0 dX1_readOut_45 rfl ?_
      refine gf_RX1_75 C h0 dX1_readOut_46 ?_
      refine g_ishl C dX1_readOut_49 ?_
      refine g_ior C dX1_readOut_50 ?_
      refine gp_RX1_216 C (isX1_told h0) dX1_readOut_51 ?_
      refine g_aload_n C 0 dX1_readOut_54 rfl ?_
      refine g_callVI C [] [] (ok_X1_readPoint hI h0 h) (cw_RX1_149 _) rfl dc_X1_readPoint ⟨Nat.le_of_ble_eq_true rfl, Nat.le_of_ble_eq_true rfl⟩ (isX1_lt h0) (isX1_sh h0) rfl rfl rfl rfl (Nat.le_of_ble_eq_true rfl) dX1_readOut_55 (fun r8 m7 h => ?_)
      exact hr _ _ _ _ _ dX1_readOut_58 h.1.1 h.2
    · replace h := h.2 c6
      refine g_aload_n C 0 dX1_readOut_26 rfl ?_
      refine g_iconst C (v := (4 : Int32)) dX1_readOut_27 (by decide) ?_
      refine g_aload_n C 0 dX1_readOut_28 rfl ?_
      refine gf_RX1_72 C h0 dX1_readOut_29 ?_
      refine g_callVI C [.int ((4 : Int32)), .int (m4.1 b 7)] [] (ok_X1_refuse hI h0 h) (cw_RX1_65 _) rfl dc_X1_refuse ⟨Nat.le_of_ble_eq_true rfl, Nat.le_of_ble_eq_true rfl⟩ (isX1_lt h0) (isX1_sh h0) rfl rfl rfl rfl (Nat.le_of_ble_eq_true rfl) dX1_readOut_32 (fun r10 m9 h => ?_)
      exact hr _ _ _ _ _ dX1_readOut_35 h.1.1 h.2
  · replace h := h.2 c3
    refine g_iconst C (v := (0 : Int32)) dX1_readOut_10 (by decide) ?_
    exact hr _ _ _ _ _ dX1_readOut_11 rfl h
set_option maxRecDepth 20000 in
set_option maxHeartbeats 4000000 in
theorem ok_X1_readGuest {Y : YT} {l0 : Launch} {b : Nat} {μ : Mem} {Q : Int32 → Mem → Prop} (hI : YI Y) (h0 : isX1 Y b) (h : PX1_readGuest b μ Q) : MI l0 yX1_readGuest WX1_readGuest 3 65 Y [.ref (Y.ad b)] μ Q := by
  refine mI_of (ty := .boolean) (cc := cX1_readGuest) (maxL := 2) (by decide +kernel) rfl hI (Nat.le_of_ble_eq_true rfl) (fun X C hr => ?_)
  replace C : Cx X Y 2 cX1_readGuest RX1 WX1_readGuest (rmB 3 65) l0 := C
  refine g_lv (lv2 := [(0, .ref (Y.ad b))]) [0] ?_ rfl
  unfold PX1_readGuest at h
  refine g_aload_n C 0 dX1_readGuest_0 rfl ?_
  refine g_iconst C (v := (0 : Int32)) dX1_readGuest_1 (by decide) ?_
  refine g_bipush C (v := (6 : Int32)) dX1_readGuest_2 (by decide) ?_
  refine g_callVI C [.int ((0 : Int32)), .int ((6 : Int32))] [] (ok_X1_readNumber hI h0 h) (cw_RX1_137 _) rfl dc_X1_readNumber ⟨Nat.le_of_ble_eq_true rfl, Nat.le_of_ble_eq_true rfl⟩ (isX1_lt h0) (isX1_sh h0) rfl rfl rfl rfl (Nat.le_of_ble_eq_true rfl) dX1_readGuest_4 (fun r2 m1 h => ?_)
  refine g_if_ne C 12 dX1_readGuest_7 (by decide) (fun c3 => ?_) (fun c3 => ?_)
  · replace h := h.1 c3
    refine g_aload_n C 0 dX1_readGuest_12 rfl ?_
    refine gf_RX1_75 C h0 dX1_readGuest_13 ?_
    refine g_istore_n C [(1, .int (m1.1 b 8)), (0, .ref (Y.ad b))] dX1_readGuest_16 (by decide) rfl ?_
    refine g_aload_n C 1 dX1_readGuest_17 rfl ?_
    refine gf_RX1_18 C h0 dX1_readGuest_18 ?_
    refine gf_RX1_219 C (isX1_told h0) dX1_readGuest_21 ?_
    refine g_iload_n C 0 dX1_readGuest_24 rfl ?_
    refine g_iald C (isX2_chances (isX1_told h0)).1 (isX2_chances (isX1_told h0)).2 h.1 dX1_readGuest_25 ?_
    replace h := h.2
    refine g_if_eq C 39 dX1_readGuest_26 (by decide) (fun c4 => ?_) (fun c4 => ?_)
    · replace h := h.1 c4
      refine g_aload_n C 1 dX1_readGuest_39 rfl ?_
      refine g_iconst C (v := (1 : Int32)) dX1_readGuest_40 (by decide) ?_
      refine g_iconst C (v := (4 : Int32)) dX1_readGuest_41 (by decide) ?_
      refine g_callVI C [.int ((1 : Int32)), .int ((4 : Int32))] [] (ok_X1_readNumber hI h0 h) (cw_RX1_137 _) rfl dc_X1_readNumber ⟨Nat.le_of_ble_eq_true rfl, Nat.le_of_ble_eq_true rfl⟩ (isX1_lt h0) (isX1_sh h0) rfl rfl rfl rfl (Nat.le_of_ble_eq_true rfl) dX1_readGuest_42 (fun r6 m5 h => ?_)
      refine g_if_ne C 50 dX1_readGuest_45 (by decide) (fun c7 => ?_) (fun c7 => ?_)
      · replace h := h.1 c7
        refine g_aload_n C 1 dX1_readGuest_50 rfl ?_
        refine gf_RX1_18 C h0 dX1_readGuest_51 ?_
        refine gf_RX1_219 C (isX1_told h0) dX1_readGuest_54 ?_
        refine g_iload_n C 0 dX1_readGuest_57 rfl ?_
        refine g_aload_n C 1 dX1_readGuest_58 rfl ?_
        refine gf_RX1_75 C h0 dX1_readGuest_59 ?_
        refine g_iast C (isX2_chances (isX1_told h0)).1 (isX2_chances (isX1_told h0)).2 h.1 dX1_readGuest_62 ?_
        replace h := h.2
        refine g_aload_n C 1 dX1_readGuest_63 rfl ?_
        refine g_callVI C [] [] (ok_X1_readPoint hI h0 h) (cw_RX1_149 _) rfl dc_X1_readPoint ⟨Nat.le_of_ble_eq_true rfl, Nat.le_of_ble_eq_true rfl⟩ (isX1_lt h0) (isX1_sh h0) rfl rfl rfl rfl (Nat.le_of_ble_eq_true rfl) dX1_readGuest_64 (fun r9 m8 h => ?_)
        exact hr _ _ _ _ _ dX1_readGuest_67 h.1.1 h.2
      · replace h := h.2 c7
        refine g_iconst C (v := (0 : Int32)) dX1_readGuest_48 (by decide) ?_
        exact hr _ _ _ _ _ dX1_readGuest_49 rfl h
    · replace h := h.2 c4
      refine g_aload_n C 1 dX1_readGuest_29 rfl ?_
      refine g_iconst C (v := (4 : Int32)) dX1_readGuest_30 (by decide) ?_
      refine g_aload_n C 1 dX1_readGuest_31 rfl ?_
      refine gf_RX1_72 C h0 dX1_readGuest_32 ?_
      refine g_callVI C [.int ((4 : Int32)), .int (m1.1 b 7)] [] (ok_X1_refuse hI h0 h) (cw_RX1_65 _) rfl dc_X1_refuse ⟨Nat.le_of_ble_eq_true rfl, Nat.le_of_ble_eq_true rfl⟩ (isX1_lt h0) (isX1_sh h0) rfl rfl rfl rfl (Nat.le_of_ble_eq_true rfl) dX1_readGuest_35 (fun r11 m10 h => ?_)
      exact hr _ _ _ _ _ dX1_readGuest_38 h.1.1 h.2
  · replace h := h.2 c3
    refine g_iconst C (v := (0 : Int32)) dX1_readGuest_10 (by decide) ?_
    exact hr _ _ _ _ _ dX1_readGuest_11 rfl h
set_option maxRecDepth 20000 in
set_option maxHeartbeats 4000000 in
theorem ok_X1_readLine {Y : YT} {l0 : Launch} {b : Nat} {μ : Mem} {Q : Int32 → Mem → Prop} (hI : YI Y) (h0 : isX1 Y b) (h : PX1_readLine b μ Q) : MI l0 yX1_readLine WX1_readLine 7 154 Y [.ref (Y.ad b)] μ Q := by
  refine mI_of (ty := .boolean) (cc := cX1_readLine) (maxL := 1) (by decide +kernel) rfl hI (Nat.le_of_ble_eq_true rfl) (fun X C hr => ?_)
  replace C : Cx X Y 1 cX1_readLine RX1 WX1_readLine (rmB 7 154) l0 := C
  refine g_lv (lv2 := [(0, .ref (Y.ad b))]) [0] ?_ rfl
  unfold PX1_readLine at h
  refine g_aload_n C 0 dX1_readLine_0 rfl ?_
  refine g_ldcS C 0 (by decide) rfl rfl dX1_readLine_1 ?_
  refine g_callVI C [.ref (Y.aK 0)] [] (ok_X1_isName hI h0 (by decide) h) (cw_RX1_99 _) rfl dc_X1_isName ⟨Nat.le_of_ble_eq_true rfl, Nat.le_of_ble_eq_true rfl⟩ (isX1_lt h0) (isX1_sh h0) rfl rfl rfl rfl (Nat.le_of_ble_eq_true rfl) dX1_readLine_3 (fun r2 m1 h => ?_)
  refine g_if_eq C 14 dX1_readLine_6 (by decide) (fun c3 => ?_) (fun c3 => ?_)
  · replace h := h.1 c3
    refine g_aload_n C 0 dX1_readLine_14 rfl ?_
    refine g_ldcS C 1 (by decide) rfl rfl dX1_readLine_15 ?_
    refine g_callVI C [.ref (Y.aK 1)] [] (ok_X1_isName hI h0 (by decide) h) (cw_RX1_99 _) rfl dc_X1_isName ⟨Nat.le_of_ble_eq_true rfl, Nat.le_of_ble_eq_true rfl⟩ (isX1_lt h0) (isX1_sh h0) rfl rfl rfl rfl (Nat.le_of_ble_eq_true rfl) dX1_readLine_17 (fun r5 m4 h => ?_)
    refine g_if_eq C 29 dX1_readLine_20 (by decide) (fun c6 => ?_) (fun c6 => ?_)
    · replace h := h.1 c6
      refine g_aload_n C 0 dX1_readLine_29 rfl ?_
      refine g_ldcS C 2 (by decide) rfl rfl dX1_readLine_30 ?_
      refine g_callVI C [.ref (Y.aK 2)] [] (ok_X1_isName hI h0 (by decide) h) (cw_RX1_99 _) rfl dc_X1_isName ⟨Nat.le_of_ble_eq_true rfl, Nat.le_of_ble_eq_true rfl⟩ (isX1_lt h0) (isX1_sh h0) rfl rfl rfl rfl (Nat.le_of_ble_eq_true rfl) dX1_readLine_32 (fun r8 m7 h => ?_)
      refine g_if_eq C 44 dX1_readLine_35 (by decide) (fun c9 => ?_) (fun c9 => ?_)
      · replace h := h.1 c9
        refine g_aload_n C 0 dX1_readLine_44 rfl ?_
        refine g_ldcS C 3 (by decide) rfl rfl dX1_readLine_45 ?_
        refine g_callVI C [.ref (Y.aK 3)] [] (ok_X1_isName hI h0 (by decide) h) (cw_RX1_99 _) rfl dc_X1_isName ⟨Nat.le_of_ble_eq_true rfl, Nat.le_of_ble_eq_true rfl⟩ (isX1_lt h0) (isX1_sh h0) rfl rfl rfl rfl (Nat.le_of_ble_eq_true rfl) dX1_readLine_47 (fun r11 m10 h => ?_)
        refine g_if_eq C 59 dX1_readLine_50 (by decide) (fun c12 => ?_) (fun c12 => ?_)
        · replace h := h.1 c12
          refine g_aload_n C 0 dX1_readLine_59 rfl ?_
          refine g_ldcS C 4 (by decide) rfl rfl dX1_readLine_60 ?_
          refine g_callVI C [.ref (Y.aK 4)] [] (ok_X1_isName hI h0 (by decide) h) (cw_RX1_99 _) rfl dc_X1_isName ⟨Nat.le_of_ble_eq_true rfl, Nat.le_of_ble_eq_true rfl⟩ (isX1_lt h0) (isX1_sh h0) rfl rfl rfl rfl (Nat.le_of_ble_eq_true rfl) dX1_readLine_62 (fun r14 m13 h => ?_)
          refine g_if_eq C 74 dX1_readLine_65 (by decide) (fun c15 => ?_) (fun c15 => ?_)
          · replace h := h.1 c15
            refine g_aload_n C 0 dX1_readLine_74 rfl ?_
            refine g_ldcS C 5 (by decide) rfl rfl dX1_readLine_75 ?_
            refine g_callVI C [.ref (Y.aK 5)] [] (ok_X1_isName hI h0 (by decide) h) (cw_RX1_99 _) rfl dc_X1_isName ⟨Nat.le_of_ble_eq_true rfl, Nat.le_of_ble_eq_true rfl⟩ (isX1_lt h0) (isX1_sh h0) rfl rfl rfl rfl (Nat.le_of_ble_eq_true rfl) dX1_readLine_77 (fun r17 m16 h => ?_)
            refine g_if_eq C 88 dX1_readLine_80 (by decide) (fun c18 => ?_) (fun c18 => ?_)
            · replace h := h.1 c18
              refine g_aload_n C 0 dX1_readLine_88 rfl ?_
              refine g_ldcS C 6 (by decide) rfl rfl dX1_readLine_89 ?_
              refine g_callVI C [.ref (Y.aK 6)] [] (ok_X1_isName hI h0 (by decide) h) (cw_RX1_99 _) rfl dc_X1_isName ⟨Nat.le_of_ble_eq_true rfl, Nat.le_of_ble_eq_true rfl⟩ (isX1_lt h0) (isX1_sh h0) rfl rfl rfl rfl (Nat.le_of_ble_eq_true rfl) dX1_readLine_91 (fun r20 m19 h => ?_)
              refine g_if_eq C 102 dX1_readLine_94 (by decide) (fun c21 => ?_) (fun c21 => ?_)
              · replace h := h.1 c21
                refine g_aload_n C 0 dX1_readLine_102 rfl ?_
                refine g_ldcS C 7 (by decide) rfl rfl dX1_readLine_103 ?_
                refine g_callVI C [.ref (Y.aK 7)] [] (ok_X1_isName hI h0 (by decide) h) (cw_RX1_99 _) rfl dc_X1_isName ⟨Nat.le_of_ble_eq_true rfl, Nat.le_of_ble_eq_true rfl⟩ (isX1_lt h0) (isX1_sh h0) rfl rfl rfl rfl (Nat.le_of_ble_eq_true rfl) dX1_readLine_105 (fun r23 m22 h => ?_)
                refine g_if_eq C 116 dX1_readLine_108 (by decide) (fun c24 => ?_) (fun c24 => ?_)
                · replace h := h.1 c24
                  refine g_aload_n C 0 dX1_readLine_116 rfl ?_
                  refine g_ldcS C 8 (by decide) rfl rfl dX1_readLine_117 ?_
                  refine g_callVI C [.ref (Y.aK 8)] [] (ok_X1_isName hI h0 (by decide) h) (cw_RX1_99 _) rfl dc_X1_isName ⟨Nat.le_of_ble_eq_true rfl, Nat.le_of_ble_eq_true rfl⟩ (isX1_lt h0) (isX1_sh h0) rfl rfl rfl rfl (Nat.le_of_ble_eq_true rfl) dX1_readLine_119 (fun r26 m25 h => ?_)
                  refine g_if_eq C 132 dX1_readLine_122 (by decide) (fun c27 => ?_) (fun c27 => ?_)
                  · replace h := h.1 c27
                    refine g_aload_n C 0 dX1_readLine_132 rfl ?_
                    refine g_iconst C (v := (2 : Int32)) dX1_readLine_133 (by decide) ?_
                    refine g_aload_n C 0 dX1_readLine_134 rfl ?_
                    refine gf_RX1_72 C h0 dX1_readLine_135 ?_
                    refine g_callVI C [.int ((2 : Int32)), .int (m25.1 b 7)] [] (ok_X1_refuse hI h0 h) (cw_RX1_65 _) rfl dc_X1_refuse ⟨Nat.le_of_ble_eq_true rfl, Nat.le_of_ble_eq_true rfl⟩ (isX1_lt h0) (isX1_sh h0) rfl rfl rfl rfl (Nat.le_of_ble_eq_true rfl) dX1_readLine_138 (fun r29 m28 h => ?_)
                    exact hr _ _ _ _ _ dX1_readLine_141 h.1.1 h.2
                  · replace h := h.2 c27
                    refine g_aload_n C 0 dX1_readLine_125 rfl ?_
                    refine g_callVI C [] [] (ok_X1_readGuest hI h0 h) (cw_RX1_134 _) rfl dc_X1_readGuest ⟨Nat.le_of_ble_eq_true rfl, Nat.le_of_ble_eq_true rfl⟩ (isX1_lt h0) (isX1_sh h0) rfl rfl rfl rfl (Nat.le_of_ble_eq_true rfl) dX1_readLine_126 (fun r31 m30 h => ?_)
                    refine g_goto C 141 dX1_readLine_129 (by decide) ?_
                    exact hr _ _ _ _ _ dX1_readLine_141 h.1.1 h.2
                · replace h := h.2 c24
                  refine g_aload_n C 0 dX1_readLine_111 rfl ?_
                  refine g_callVI C [] [] (ok_X1_readOut hI h0 h) (cw_RX1_129 _) rfl dc_X1_readOut ⟨Nat.le_of_ble_eq_true rfl, Nat.le_of_ble_eq_true rfl⟩ (isX1_lt h0) (isX1_sh h0) rfl rfl rfl rfl (Nat.le_of_ble_eq_true rfl) dX1_readLine_112 (fun r33 m32 h => ?_)
                  exact hr _ _ _ _ _ dX1_readLine_115 h.1.1 h.2
              · replace h := h.2 c21
                refine g_aload_n C 0 dX1_readLine_97 rfl ?_
                refine g_callVI C [] [] (ok_X1_readShop hI h0 h) (cw_RX1_124 _) rfl dc_X1_readShop ⟨Nat.le_of_ble_eq_true rfl, Nat.le_of_ble_eq_true rfl⟩ (isX1_lt h0) (isX1_sh h0) rfl rfl rfl rfl (Nat.le_of_ble_eq_true rfl) dX1_readLine_98 (fun r35 m34 h => ?_)
                exact hr _ _ _ _ _ dX1_readLine_101 h.1.1 h.2
            · replace h := h.2 c18
              refine g_aload_n C 0 dX1_readLine_83 rfl ?_
              refine g_callVI C [] [] (ok_X1_readAgain hI h0 h) (cw_RX1_119 _) rfl dc_X1_readAgain ⟨Nat.le_of_ble_eq_true rfl, Nat.le_of_ble_eq_true rfl⟩ (isX1_lt h0) (isX1_sh h0) rfl rfl rfl rfl (Nat.le_of_ble_eq_true rfl) dX1_readLine_84 (fun r37 m36 h => ?_)
              exact hr _ _ _ _ _ dX1_readLine_87 h.1.1 h.2
          · replace h := h.2 c15
            refine g_aload_n C 0 dX1_readLine_68 rfl ?_
            refine g_iconst C (v := (3 : Int32)) dX1_readLine_69 (by decide) ?_
            refine g_callVI C [.int ((3 : Int32))] [] (ok_X1_readSupper hI h0 h) (cw_RX1_108 _) rfl dc_X1_readSupper ⟨Nat.le_of_ble_eq_true rfl, Nat.le_of_ble_eq_true rfl⟩ (isX1_lt h0) (isX1_sh h0) rfl rfl rfl rfl (Nat.le_of_ble_eq_true rfl) dX1_readLine_70 (fun r39 m38 h => ?_)
            exact hr _ _ _ _ _ dX1_readLine_73 h.1.1 h.2
        · replace h := h.2 c12
          refine g_aload_n C 0 dX1_readLine_53 rfl ?_
          refine g_iconst C (v := (2 : Int32)) dX1_readLine_54 (by decide) ?_
          refine g_callVI C [.int ((2 : Int32))] [] (ok_X1_readSupper hI h0 h) (cw_RX1_108 _) rfl dc_X1_readSupper ⟨Nat.le_of_ble_eq_true rfl, Nat.le_of_ble_eq_true rfl⟩ (isX1_lt h0) (isX1_sh h0) rfl rfl rfl rfl (Nat.le_of_ble_eq_true rfl) dX1_readLine_55 (fun r41 m40 h => ?_)
          exact hr _ _ _ _ _ dX1_readLine_58 h.1.1 h.2
      · replace h := h.2 c9
        refine g_aload_n C 0 dX1_readLine_38 rfl ?_
        refine g_iconst C (v := (1 : Int32)) dX1_readLine_39 (by decide) ?_
        refine g_callVI C [.int ((1 : Int32))] [] (ok_X1_readSupper hI h0 h) (cw_RX1_108 _) rfl dc_X1_readSupper ⟨Nat.le_of_ble_eq_true rfl, Nat.le_of_ble_eq_true rfl⟩ (isX1_lt h0) (isX1_sh h0) rfl rfl rfl rfl (Nat.le_of_ble_eq_true rfl) dX1_readLine_40 (fun r43 m42 h => ?_)
        exact hr _ _ _ _ _ dX1_readLine_43 h.1.1 h.2
    · replace h := h.2 c6
      refine g_aload_n C 0 dX1_readLine_23 rfl ?_
      refine g_iconst C (v := (0 : Int32)) dX1_readLine_24 (by decide) ?_
      refine g_callVI C [.int ((0 : Int32))] [] (ok_X1_readSupper hI h0 h) (cw_RX1_108 _) rfl dc_X1_readSupper ⟨Nat.le_of_ble_eq_true rfl, Nat.le_of_ble_eq_true rfl⟩ (isX1_lt h0) (isX1_sh h0) rfl rfl rfl rfl (Nat.le_of_ble_eq_true rfl) dX1_readLine_25 (fun r45 m44 h => ?_)
      exact hr _ _ _ _ _ dX1_readLine_28 h.1.1 h.2
  · replace h := h.2 c3
    refine g_aload_n C 0 dX1_readLine_9 rfl ?_
    refine g_callVI C [] [] (ok_X1_readThing hI h0 h) (cw_RX1_103 _) rfl dc_X1_readThing ⟨Nat.le_of_ble_eq_true rfl, Nat.le_of_ble_eq_true rfl⟩ (isX1_lt h0) (isX1_sh h0) rfl rfl rfl rfl (Nat.le_of_ble_eq_true rfl) dX1_readLine_10 (fun r47 m46 h => ?_)
    exact hr _ _ _ _ _ dX1_readLine_13 h.1.1 h.2
def SX1_findThingNotTold_10 (X : XT) (Y : YT) (b : Nat) : Int32 → Int32 → Mem → Prop := fun v1 v2 μ => G X Y 3 10 [(0, .ref (Y.ad b)), (1, .int v1), (2, .int v2)] [] μ
set_option maxRecDepth 20000 in
set_option maxHeartbeats 4000000 in
theorem tX1_findThingNotTold_48 {X : XT} {Y : YT} {l0 : Launch} {b : Nat} {Q : Mem → Prop} (C : Cx X Y 3 cX1_findThingNotTold RX1 WX1_findThingNotTold (rmB 1 22) l0) (hr : RV X Y cX1_findThingNotTold Q) (hI : YI Y) (h0 : isX1 Y b) (v1 : Int32) (v2 : Int32) (μ : Mem) (h : nX1_findThingNotTold_48 b Q (SX1_findThingNotTold_10 X Y b) v1 v2 μ) : G X Y 3 48 [(0, .ref (Y.ad b)), (1, .int v1), (2, .int v2)] [] μ := by
  unfold nX1_findThingNotTold_48 at h
  refine g_iinc C (v := v2 + 1) 2 [(2, .int (v2 + 1)), (0, .ref (Y.ad b)), (1, .int v1)] dX1_findThingNotTold_48 rfl rfl (by decide) rfl ?_
  refine g_goto C 10 dX1_findThingNotTold_51 (by decide) ?_
  refine g_lv (lv2 := [(0, .ref (Y.ad b)), (1, .int v1), (2, .int (v2 + 1))]) [1, 2, 0] ?_ rfl
  exact h
set_option maxRecDepth 20000 in
set_option maxHeartbeats 4000000 in
theorem tX1_findThingNotTold_41 {X : XT} {Y : YT} {l0 : Launch} {b : Nat} {Q : Mem → Prop} (C : Cx X Y 3 cX1_findThingNotTold RX1 WX1_findThingNotTold (rmB 1 22) l0) (hr : RV X Y cX1_findThingNotTold Q) (hI : YI Y) (h0 : isX1 Y b) (v2 : Int32) (μ : Mem) (h : nX1_findThingNotTold_41 b Q (SX1_findThingNotTold_10 X Y b) v2 μ) : G X Y 3 41 [(0, .ref (Y.ad b)), (2, .int v2)] [] μ := by
  unfold nX1_findThingNotTold_41 at h
  refine g_aload_n C 0 dX1_findThingNotTold_41 rfl ?_
  refine gf_RX1_22 C h0 dX1_findThingNotTold_42 ?_
  refine g_iload_n C 1 dX1_findThingNotTold_45 rfl ?_
  refine g_iald C (isX1_firstUse h0).1 (isX1_firstUse h0).2 h.1 dX1_findThingNotTold_46 ?_
  replace h := h.2
  refine g_istore_n C [(1, .int (μ.1 (b + 14) v2.toNatClampNeg)), (0, .ref (Y.ad b)), (2, .int v2)] dX1_findThingNotTold_47 (by decide) rfl ?_
  refine g_lv (lv2 := [(0, .ref (Y.ad b)), (1, .int (μ.1 (b + 14) v2.toNatClampNeg)), (2, .int v2)]) [1, 0, 2] ?_ rfl
  exact tX1_findThingNotTold_48 C hr hI h0 _ _ _ h
set_option maxRecDepth 20000 in
set_option maxHeartbeats 4000000 in
theorem tX1_findThingNotTold_10 {X : XT} {Y : YT} {l0 : Launch} {b : Nat} {Q : Mem → Prop} (C : Cx X Y 3 cX1_findThingNotTold RX1 WX1_findThingNotTold (rmB 1 22) l0) (hr : RV X Y cX1_findThingNotTold Q) (hI : YI Y) (h0 : isX1 Y b) (v1 : Int32) (v2 : Int32) (μ : Mem) (h : nX1_findThingNotTold_10 b Q (SX1_findThingNotTold_10 X Y b) v1 v2 μ) : G X Y 3 10 [(0, .ref (Y.ad b)), (1, .int v1), (2, .int v2)] [] μ := by
  unfold nX1_findThingNotTold_10 at h
  refine g_iload_n C 2 dX1_findThingNotTold_10 rfl ?_
  refine g_bipush C (v := (6 : Int32)) dX1_findThingNotTold_11 (by decide) ?_
  refine g_icmp_ge C 54 dX1_findThingNotTold_13 (by decide) (fun c1 => ?_) (fun c1 => ?_)
  · replace h := h.1 c1
    refine g_iload_n C 1 dX1_findThingNotTold_54 rfl ?_
    refine g_iconst C (v := (-1 : Int32)) dX1_findThingNotTold_55 (by decide) ?_
    refine g_icmp_eq C 67 dX1_findThingNotTold_56 (by decide) (fun c2 => ?_) (fun c2 => ?_)
    · replace h := h.1 c2
      exact hr _ _ _ _ dX1_findThingNotTold_67 h
    · replace h := h.2 c2
      refine g_aload_n C 0 dX1_findThingNotTold_59 rfl ?_
      refine g_bipush C (v := (6 : Int32)) dX1_findThingNotTold_60 (by decide) ?_
      refine g_iload_n C 1 dX1_findThingNotTold_62 rfl ?_
      refine g_callVI C [.int ((6 : Int32)), .int v1] [] (ok_X1_refuse hI h0 h) (cw_RX1_65 _) rfl dc_X1_refuse ⟨Nat.le_of_ble_eq_true rfl, Nat.le_of_ble_eq_true rfl⟩ (isX1_lt h0) (isX1_sh h0) rfl rfl rfl rfl (Nat.le_of_ble_eq_true rfl) dX1_findThingNotTold_63 (fun r4 m3 h => ?_)
      refine g_pop C dX1_findThingNotTold_66 rfl ?_
      exact hr _ _ _ _ dX1_findThingNotTold_67 h
  · replace h := h.2 c1
    refine g_aload_n C 0 dX1_findThingNotTold_16 rfl ?_
    refine gf_RX1_22 C h0 dX1_findThingNotTold_17 ?_
    refine g_iload_n C 2 dX1_findThingNotTold_20 rfl ?_
    refine g_iald C (isX1_firstUse h0).1 (isX1_firstUse h0).2 h.1 dX1_findThingNotTold_21 ?_
    replace h := h.2
    refine g_iconst C (v := (-1 : Int32)) dX1_findThingNotTold_22 (by decide) ?_
    refine g_icmp_eq C 48 dX1_findThingNotTold_23 (by decide) (fun c5 => ?_) (fun c5 => ?_)
    · replace h := h.1 c5
      exact tX1_findThingNotTold_48 C hr hI h0 _ _ _ h
    · replace h := h.2 c5
      refine g_iload_n C 1 dX1_findThingNotTold_26 rfl ?_
      refine g_iconst C (v := (-1 : Int32)) dX1_findThingNotTold_27 (by decide) ?_
      refine g_icmp_eq C 41 dX1_findThingNotTold_28 (by decide) (fun c6 => ?_) (fun c6 => ?_)
      · replace h := h.1 c6
        refine g_lv (lv2 := [(0, .ref (Y.ad b)), (2, .int v2)]) [0, 2] ?_ rfl
        exact tX1_findThingNotTold_41 C hr hI h0 _ _ h
      · replace h := h.2 c6
        refine g_aload_n C 0 dX1_findThingNotTold_31 rfl ?_
        refine gf_RX1_22 C h0 dX1_findThingNotTold_32 ?_
        refine g_iload_n C 2 dX1_findThingNotTold_35 rfl ?_
        refine g_iald C (isX1_firstUse h0).1 (isX1_firstUse h0).2 h.1 dX1_findThingNotTold_36 ?_
        replace h := h.2
        refine g_iload_n C 1 dX1_findThingNotTold_37 rfl ?_
        refine g_icmp_ge C 48 dX1_findThingNotTold_38 (by decide) (fun c7 => ?_) (fun c7 => ?_)
        · replace h := h.1 c7
          exact tX1_findThingNotTold_48 C hr hI h0 _ _ _ h
        · replace h := h.2 c7
          refine g_lv (lv2 := [(0, .ref (Y.ad b)), (2, .int v2)]) [0, 2] ?_ rfl
          exact tX1_findThingNotTold_41 C hr hI h0 _ _ h
set_option maxRecDepth 20000 in
set_option maxHeartbeats 4000000 in
theorem ok_X1_findThingNotTold {Y : YT} {l0 : Launch} {b : Nat} {μ : Mem} {Q : Mem → Prop} (hI : YI Y) (h0 : isX1 Y b) (h : PX1_findThingNotTold b μ Q) : MV l0 yX1_findThingNotTold WX1_findThingNotTold 1 22 Y [.ref (Y.ad b)] μ Q := by
  refine mV_of (cc := cX1_findThingNotTold) (maxL := 3) (by decide +kernel) rfl hI (Nat.le_of_ble_eq_true rfl) (fun X C hr => ?_)
  replace C : Cx X Y 3 cX1_findThingNotTold RX1 WX1_findThingNotTold (rmB 1 22) l0 := C
  refine g_lv (lv2 := [(0, .ref (Y.ad b))]) [0] ?_ rfl
  unfold PX1_findThingNotTold at h
  replace h := h (SX1_findThingNotTold_10 X Y b) (fun v1 v2 μ z => tX1_findThingNotTold_10 C hr hI h0 v1 v2 μ z)
  refine g_iconst C (v := (-1 : Int32)) dX1_findThingNotTold_0 (by decide) ?_
  refine g_istore_n C [(1, .int ((-1 : Int32))), (0, .ref (Y.ad b))] dX1_findThingNotTold_1 (by decide) rfl ?_
  refine g_aload_n C 1 dX1_findThingNotTold_2 rfl ?_
  refine gf_RX1_18 C h0 dX1_findThingNotTold_3 ?_
  refine gf_RX1_62 C (isX1_told h0) dX1_findThingNotTold_6 ?_
  refine g_istore_n C [(2, .int (μ.1 (b + 2) 0)), (1, .int ((-1 : Int32))), (0, .ref (Y.ad b))] dX1_findThingNotTold_9 (by decide) rfl ?_
  refine g_lv (lv2 := [(0, .ref (Y.ad b)), (1, .int ((-1 : Int32))), (2, .int (μ.1 (b + 2) 0))]) [2, 1, 0] ?_ rfl
  exact h
def SX1_readTape_8 (X : XT) (Y : YT) (b : Nat) : Int32 → Int32 → Mem → Prop := fun v1 v2 μ => G X Y 3 8 [(0, .ref (Y.ad b)), (1, .int v1), (2, .int v2)] [] μ
set_option maxRecDepth 20000 in
set_option maxHeartbeats 4000000 in
theorem tX1_readTape_48 {X : XT} {Y : YT} {l0 : Launch} {b : Nat} {Q : Int32 → Mem → Prop} (C : Cx X Y 3 cX1_readTape RX1 WX1_readTape (rmB 8 174) l0) (hr : RI X Y cX1_readTape .int Q) (hI : YI Y) (h0 : isX1 Y b) (v1 : Int32) (μ : Mem) (h : nX1_readTape_48 b Q (SX1_readTape_8 X Y b) v1 μ) : G X Y 3 48 [(0, .ref (Y.ad b)), (1, .int v1)] [] μ := by
  unfold nX1_readTape_48 at h
  refine g_aload_n C 0 dX1_readTape_48 rfl ?_
  refine gf_RX1_40 C h0 dX1_readTape_49 ?_
  refine g_if_ne C 59 dX1_readTape_52 (by decide) (fun c11 => ?_) (fun c11 => ?_)
  · replace h := h.1 c11
    refine g_iload_n C 1 dX1_readTape_59 rfl ?_
    exact hr _ _ _ _ _ dX1_readTape_60 rfl h
  · replace h := h.2 c11
    refine g_aload_n C 0 dX1_readTape_55 rfl ?_
    refine g_callVV C [] [] (ok_X1_findThingNotTold hI h0 h) (cw_RX1_43 _) rfl dc_X1_findThingNotTold ⟨Nat.le_of_ble_eq_true rfl, Nat.le_of_ble_eq_true rfl⟩ (isX1_lt h0) (isX1_sh h0) rfl rfl rfl rfl (Nat.le_of_ble_eq_true rfl) dX1_readTape_56 (fun m12 h => ?_)
    refine g_iload_n C 1 dX1_readTape_59 rfl ?_
    exact hr _ _ _ _ _ dX1_readTape_60 rfl h
set_option maxRecDepth 20000 in
set_option maxHeartbeats 4000000 in
theorem tX1_readTape_8 {X : XT} {Y : YT} {l0 : Launch} {b : Nat} {Q : Int32 → Mem → Prop} (C : Cx X Y 3 cX1_readTape RX1 WX1_readTape (rmB 8 174) l0) (hr : RI X Y cX1_readTape .int Q) (hI : YI Y) (h0 : isX1 Y b) (v1 : Int32) (v2 : Int32) (μ : Mem) (h : nX1_readTape_8 b Q (SX1_readTape_8 X Y b) v1 v2 μ) : G X Y 3 8 [(0, .ref (Y.ad b)), (1, .int v1), (2, .int v2)] [] μ := by
  unfold nX1_readTape_8 at h
  refine g_iload_n C 2 dX1_readTape_8 rfl ?_
  refine g_sipush C (v := (400 : Int32)) dX1_readTape_9 (by decide) ?_
  refine g_icmp_gt C 48 dX1_readTape_12 (by decide) (fun c3 => ?_) (fun c3 => ?_)
  · replace h := h.1 c3
    refine g_lv (lv2 := [(0, .ref (Y.ad b)), (1, .int v1)]) [0, 1] ?_ rfl
    exact tX1_readTape_48 C hr hI h0 _ _ h
  · replace h := h.2 c3
    refine g_aload_n C 0 dX1_readTape_15 rfl ?_
    refine g_callVI C [] [] (ok_X1_readToken hI h0 h) (cw_RX1_29 _) rfl dc_X1_readToken ⟨Nat.le_of_ble_eq_true rfl, Nat.le_of_ble_eq_true rfl⟩ (isX1_lt h0) (isX1_sh h0) rfl rfl rfl rfl (Nat.le_of_ble_eq_true rfl) dX1_readTape_16 (fun r5 m4 h => ?_)
    refine g_if_eq C 48 dX1_readTape_19 (by decide) (fun c6 => ?_) (fun c6 => ?_)
    · replace h := h.1 c6
      refine g_lv (lv2 := [(0, .ref (Y.ad b)), (1, .int v1)]) [0, 1] ?_ rfl
      exact tX1_readTape_48 C hr hI h0 _ _ h
    · replace h := h.2 c6
      refine g_aload_n C 0 dX1_readTape_22 rfl ?_
      refine gf_RX1_33 C h0 dX1_readTape_23 ?_
      refine g_if_eq C 48 dX1_readTape_26 (by decide) (fun c7 => ?_) (fun c7 => ?_)
      · replace h := h.1 c7
        refine g_lv (lv2 := [(0, .ref (Y.ad b)), (1, .int v1)]) [0, 1] ?_ rfl
        exact tX1_readTape_48 C hr hI h0 _ _ h
      · replace h := h.2 c7
        refine g_aload_n C 0 dX1_readTape_29 rfl ?_
        refine g_callVI C [] [] (ok_X1_readLine hI h0 h) (cw_RX1_37 _) rfl dc_X1_readLine ⟨Nat.le_of_ble_eq_true rfl, Nat.le_of_ble_eq_true rfl⟩ (isX1_lt h0) (isX1_sh h0) rfl rfl rfl rfl (Nat.le_of_ble_eq_true rfl) dX1_readTape_30 (fun r9 m8 h => ?_)
        refine g_if_ne C 39 dX1_readTape_33 (by decide) (fun c10 => ?_) (fun c10 => ?_)
        · replace h := h.1 c10
          refine g_iinc C (v := v1 + 1) 1 [(1, .int (v1 + 1)), (0, .ref (Y.ad b)), (2, .int v2)] dX1_readTape_39 rfl rfl (by decide) rfl ?_
          refine g_iinc C (v := v2 + 1) 2 [(2, .int (v2 + 1)), (1, .int (v1 + 1)), (0, .ref (Y.ad b))] dX1_readTape_42 rfl rfl (by decide) rfl ?_
          refine g_goto C 8 dX1_readTape_45 (by decide) ?_
          refine g_lv (lv2 := [(0, .ref (Y.ad b)), (1, .int (v1 + 1)), (2, .int (v2 + 1))]) [2, 1, 0] ?_ rfl
          exact h
        · replace h := h.2 c10
          refine g_goto C 48 dX1_readTape_36 (by decide) ?_
          refine g_lv (lv2 := [(0, .ref (Y.ad b)), (1, .int v1)]) [0, 1] ?_ rfl
          exact tX1_readTape_48 C hr hI h0 _ _ h
set_option maxRecDepth 20000 in
set_option maxHeartbeats 4000000 in
theorem ok_X1_readTape {Y : YT} {l0 : Launch} {b : Nat} {μ : Mem} {Q : Int32 → Mem → Prop} (hI : YI Y) (h0 : isX1 Y b) (h : PX1_readTape b μ Q) : MI l0 yX1_readTape WX1_readTape 8 174 Y [.ref (Y.ad b)] μ Q := by
  refine mI_of (ty := .int) (cc := cX1_readTape) (maxL := 3) (by decide +kernel) rfl hI (Nat.le_of_ble_eq_true rfl) (fun X C hr => ?_)
  replace C : Cx X Y 3 cX1_readTape RX1 WX1_readTape (rmB 8 174) l0 := C
  refine g_lv (lv2 := [(0, .ref (Y.ad b))]) [0] ?_ rfl
  unfold PX1_readTape at h
  replace h := h (SX1_readTape_8 X Y b) (fun v1 v2 μ z => tX1_readTape_8 C hr hI h0 v1 v2 μ z)
  refine g_aload_n C 0 dX1_readTape_0 rfl ?_
  refine g_callVV C [] [] (ok_X1_begin hI h0 h) (cw_RX1_26 _) rfl dc_X1_begin ⟨Nat.le_of_ble_eq_true rfl, Nat.le_of_ble_eq_true rfl⟩ (isX1_lt h0) (isX1_sh h0) rfl rfl rfl rfl (Nat.le_of_ble_eq_true rfl) dX1_readTape_1 (fun m1 h => ?_)
  refine g_iconst C (v := (0 : Int32)) dX1_readTape_4 (by decide) ?_
  refine g_istore_n C [(1, .int ((0 : Int32))), (0, .ref (Y.ad b))] dX1_readTape_5 (by decide) rfl ?_
  refine g_iconst C (v := (0 : Int32)) dX1_readTape_6 (by decide) ?_
  refine g_istore_n C [(2, .int ((0 : Int32))), (1, .int ((0 : Int32))), (0, .ref (Y.ad b))] dX1_readTape_7 (by decide) rfl ?_
  refine g_lv (lv2 := [(0, .ref (Y.ad b)), (1, .int ((0 : Int32))), (2, .int ((0 : Int32)))]) [2, 1, 0] ?_ rfl
  exact h
set_option maxRecDepth 20000 in
set_option maxHeartbeats 4000000 in
theorem ok_X2_copyFrom {Y : YT} {l0 : Launch} {b : Nat} {r1 : Nat} {μ : Mem} {Q : Mem → Prop} (hI : YI Y) (h0 : isX2 Y b) (h1 : isX2 Y r1) (h : PX2_copyFrom b r1 μ Q) : MV l0 yX2_copyFrom WX2_copyFrom 1 18 Y [.ref (Y.ad b), .ref (Y.ad r1)] μ Q := by
  refine mV_of (cc := cX2_copyFrom) (maxL := 2) (by decide +kernel) rfl hI (Nat.le_of_ble_eq_true rfl) (fun X C hr => ?_)
  replace C : Cx X Y 2 cX2_copyFrom RX2 WX2_copyFrom (rmB 1 18) l0 := C
  refine g_lv (lv2 := [(0, .ref (Y.ad b)), (1, .ref (Y.ad r1))]) [0, 1] ?_ rfl
  unfold PX2_copyFrom at h
  refine g_aload_n C 0 dX2_copyFrom_0 rfl ?_
  refine g_aload_n C 1 dX2_copyFrom_1 rfl ?_
  refine gf_RX2_48 C h1 dX2_copyFrom_2 ?_
  refine gp_RX2_48 C h0 dX2_copyFrom_5 ?_
  refine g_aload_n C 1 dX2_copyFrom_8 rfl ?_
  refine gf_RX2_9 C h1 dX2_copyFrom_9 ?_
  refine g_iconst C (v := (0 : Int32)) dX2_copyFrom_12 (by decide) ?_
  refine g_aload_n C 0 dX2_copyFrom_13 rfl ?_
  refine gf_RX2_9 C h0 dX2_copyFrom_14 ?_
  refine g_iconst C (v := (0 : Int32)) dX2_copyFrom_17 (by decide) ?_
  refine g_bipush C (v := (6 : Int32)) dX2_copyFrom_18 (by decide) ?_
  refine g_copy C (List.mem_cons_of_mem _ mM_RX2_68) (List.mem_cons_of_mem _ mLib_copy_n) (List.mem_cons_of_mem _ mLib_copy_s) (List.mem_cons_of_mem _ mLib_sys) (isX2_keeps h1).1 (isX2_keeps h0).1 (isX2_keeps h1).2 (isX2_keeps h0).2 (by decide) (by decide) (by decide) (by decide) (by decide) (Nat.le_of_ble_eq_true rfl) (Nat.le_of_ble_eq_true rfl) dX2_copyFrom_20 ?_
  refine g_mem (fun m1 em1 => ?_)
  replace h := h m1 em1
  refine g_aload_n C 1 dX2_copyFrom_23 rfl ?_
  refine gf_RX2_15 C h1 dX2_copyFrom_24 ?_
  refine g_iconst C (v := (0 : Int32)) dX2_copyFrom_27 (by decide) ?_
  refine g_aload_n C 0 dX2_copyFrom_28 rfl ?_
  refine gf_RX2_15 C h0 dX2_copyFrom_29 ?_
  refine g_iconst C (v := (0 : Int32)) dX2_copyFrom_32 (by decide) ?_
  refine g_bipush C (v := (6 : Int32)) dX2_copyFrom_33 (by decide) ?_
  refine g_copy C (List.mem_cons_of_mem _ mM_RX2_68) (List.mem_cons_of_mem _ mLib_copy_n) (List.mem_cons_of_mem _ mLib_copy_s) (List.mem_cons_of_mem _ mLib_sys) (isX2_pack h1).1 (isX2_pack h0).1 (isX2_pack h1).2 (isX2_pack h0).2 (by decide) (by decide) (by decide) (by decide) (by decide) (Nat.le_of_ble_eq_true rfl) (Nat.le_of_ble_eq_true rfl) dX2_copyFrom_35 ?_
  refine g_mem (fun m2 em2 => ?_)
  replace h := h m2 em2
  refine g_aload_n C 1 dX2_copyFrom_38 rfl ?_
  refine gf_RX2_18 C h1 dX2_copyFrom_39 ?_
  refine g_iconst C (v := (0 : Int32)) dX2_copyFrom_42 (by decide) ?_
  refine g_aload_n C 0 dX2_copyFrom_43 rfl ?_
  refine gf_RX2_18 C h0 dX2_copyFrom_44 ?_
  refine g_iconst C (v := (0 : Int32)) dX2_copyFrom_47 (by decide) ?_
  refine g_bipush C (v := (6 : Int32)) dX2_copyFrom_48 (by decide) ?_
  refine g_copy C (List.mem_cons_of_mem _ mM_RX2_68) (List.mem_cons_of_mem _ mLib_copy_n) (List.mem_cons_of_mem _ mLib_copy_s) (List.mem_cons_of_mem _ mLib_sys) (isX2_price h1).1 (isX2_price h0).1 (isX2_price h1).2 (isX2_price h0).2 (by decide) (by decide) (by decide) (by decide) (by decide) (Nat.le_of_ble_eq_true rfl) (Nat.le_of_ble_eq_true rfl) dX2_copyFrom_50 ?_
  refine g_mem (fun m3 em3 => ?_)
  replace h := h m3 em3
  refine g_aload_n C 0 dX2_copyFrom_53 rfl ?_
  refine g_aload_n C 1 dX2_copyFrom_54 rfl ?_
  refine gf_RX2_52 C h1 dX2_copyFrom_55 ?_
  refine gp_RX2_52 C h0 dX2_copyFrom_58 ?_
  refine g_aload_n C 1 dX2_copyFrom_61 rfl ?_
  refine gf_RX2_21 C h1 dX2_copyFrom_62 ?_
  refine g_iconst C (v := (0 : Int32)) dX2_copyFrom_65 (by decide) ?_
  refine g_aload_n C 0 dX2_copyFrom_66 rfl ?_
  refine gf_RX2_21 C h0 dX2_copyFrom_67 ?_
  refine g_iconst C (v := (0 : Int32)) dX2_copyFrom_70 (by decide) ?_
  refine g_bipush C (v := (9 : Int32)) dX2_copyFrom_71 (by decide) ?_
  refine g_copy C (List.mem_cons_of_mem _ mM_RX2_68) (List.mem_cons_of_mem _ mLib_copy_n) (List.mem_cons_of_mem _ mLib_copy_s) (List.mem_cons_of_mem _ mLib_sys) (isX2_kind h1).1 (isX2_kind h0).1 (isX2_kind h1).2 (isX2_kind h0).2 (by decide) (by decide) (by decide) (by decide) (by decide) (Nat.le_of_ble_eq_true rfl) (Nat.le_of_ble_eq_true rfl) dX2_copyFrom_73 ?_
  refine g_mem (fun m4 em4 => ?_)
  replace h := h m4 em4
  refine g_aload_n C 1 dX2_copyFrom_76 rfl ?_
  refine gf_RX2_24 C h1 dX2_copyFrom_77 ?_
  refine g_iconst C (v := (0 : Int32)) dX2_copyFrom_80 (by decide) ?_
  refine g_aload_n C 0 dX2_copyFrom_81 rfl ?_
  refine gf_RX2_24 C h0 dX2_copyFrom_82 ?_
  refine g_iconst C (v := (0 : Int32)) dX2_copyFrom_85 (by decide) ?_
  refine g_bipush C (v := (9 : Int32)) dX2_copyFrom_86 (by decide) ?_
  refine g_copy C (List.mem_cons_of_mem _ mM_RX2_68) (List.mem_cons_of_mem _ mLib_copy_n) (List.mem_cons_of_mem _ mLib_copy_s) (List.mem_cons_of_mem _ mLib_sys) (isX2_likes h1).1 (isX2_likes h0).1 (isX2_likes h1).2 (isX2_likes h0).2 (by decide) (by decide) (by decide) (by decide) (by decide) (Nat.le_of_ble_eq_true rfl) (Nat.le_of_ble_eq_true rfl) dX2_copyFrom_88 ?_
  refine g_mem (fun m5 em5 => ?_)
  replace h := h m5 em5
  refine g_aload_n C 1 dX2_copyFrom_91 rfl ?_
  refine gf_RX2_27 C h1 dX2_copyFrom_92 ?_
  refine g_iconst C (v := (0 : Int32)) dX2_copyFrom_95 (by decide) ?_
  refine g_aload_n C 0 dX2_copyFrom_96 rfl ?_
  refine gf_RX2_27 C h0 dX2_copyFrom_97 ?_
  refine g_iconst C (v := (0 : Int32)) dX2_copyFrom_100 (by decide) ?_
  refine g_bipush C (v := (9 : Int32)) dX2_copyFrom_101 (by decide) ?_
  refine g_copy C (List.mem_cons_of_mem _ mM_RX2_68) (List.mem_cons_of_mem _ mLib_copy_n) (List.mem_cons_of_mem _ mLib_copy_s) (List.mem_cons_of_mem _ mLib_sys) (isX2_wont h1).1 (isX2_wont h0).1 (isX2_wont h1).2 (isX2_wont h0).2 (by decide) (by decide) (by decide) (by decide) (by decide) (Nat.le_of_ble_eq_true rfl) (Nat.le_of_ble_eq_true rfl) dX2_copyFrom_103 ?_
  refine g_mem (fun m6 em6 => ?_)
  replace h := h m6 em6
  refine g_aload_n C 1 dX2_copyFrom_106 rfl ?_
  refine gf_RX2_30 C h1 dX2_copyFrom_107 ?_
  refine g_iconst C (v := (0 : Int32)) dX2_copyFrom_110 (by decide) ?_
  refine g_aload_n C 0 dX2_copyFrom_111 rfl ?_
  refine gf_RX2_30 C h0 dX2_copyFrom_112 ?_
  refine g_iconst C (v := (0 : Int32)) dX2_copyFrom_115 (by decide) ?_
  refine g_bipush C (v := (9 : Int32)) dX2_copyFrom_116 (by decide) ?_
  refine g_copy C (List.mem_cons_of_mem _ mM_RX2_68) (List.mem_cons_of_mem _ mLib_copy_n) (List.mem_cons_of_mem _ mLib_copy_s) (List.mem_cons_of_mem _ mLib_sys) (isX2_soupUnits h1).1 (isX2_soupUnits h0).1 (isX2_soupUnits h1).2 (isX2_soupUnits h0).2 (by decide) (by decide) (by decide) (by decide) (by decide) (Nat.le_of_ble_eq_true rfl) (Nat.le_of_ble_eq_true rfl) dX2_copyFrom_118 ?_
  refine g_mem (fun m7 em7 => ?_)
  replace h := h m7 em7
  refine g_aload_n C 1 dX2_copyFrom_121 rfl ?_
  refine gf_RX2_33 C h1 dX2_copyFrom_122 ?_
  refine g_iconst C (v := (0 : Int32)) dX2_copyFrom_125 (by decide) ?_
  refine g_aload_n C 0 dX2_copyFrom_126 rfl ?_
  refine gf_RX2_33 C h0 dX2_copyFrom_127 ?_
  refine g_iconst C (v := (0 : Int32)) dX2_copyFrom_130 (by decide) ?_
  refine g_bipush C (v := (9 : Int32)) dX2_copyFrom_131 (by decide) ?_
  refine g_copy C (List.mem_cons_of_mem _ mM_RX2_68) (List.mem_cons_of_mem _ mLib_copy_n) (List.mem_cons_of_mem _ mLib_copy_s) (List.mem_cons_of_mem _ mLib_sys) (isX2_soupThings h1).1 (isX2_soupThings h0).1 (isX2_soupThings h1).2 (isX2_soupThings h0).2 (by decide) (by decide) (by decide) (by decide) (by decide) (Nat.le_of_ble_eq_true rfl) (Nat.le_of_ble_eq_true rfl) dX2_copyFrom_133 ?_
  refine g_mem (fun m8 em8 => ?_)
  replace h := h m8 em8
  refine g_aload_n C 1 dX2_copyFrom_136 rfl ?_
  refine gf_RX2_36 C h1 dX2_copyFrom_137 ?_
  refine g_iconst C (v := (0 : Int32)) dX2_copyFrom_140 (by decide) ?_
  refine g_aload_n C 0 dX2_copyFrom_141 rfl ?_
  refine gf_RX2_36 C h0 dX2_copyFrom_142 ?_
  refine g_iconst C (v := (0 : Int32)) dX2_copyFrom_145 (by decide) ?_
  refine g_bipush C (v := (54 : Int32)) dX2_copyFrom_146 (by decide) ?_
  refine g_copy C (List.mem_cons_of_mem _ mM_RX2_68) (List.mem_cons_of_mem _ mLib_copy_n) (List.mem_cons_of_mem _ mLib_copy_s) (List.mem_cons_of_mem _ mLib_sys) (isX2_wants h1).1 (isX2_wants h0).1 (isX2_wants h1).2 (isX2_wants h0).2 (by decide) (by decide) (by decide) (by decide) (by decide) (Nat.le_of_ble_eq_true rfl) (Nat.le_of_ble_eq_true rfl) dX2_copyFrom_148 ?_
  refine g_mem (fun m9 em9 => ?_)
  replace h := h m9 em9
  refine g_aload_n C 1 dX2_copyFrom_151 rfl ?_
  refine gf_RX2_39 C h1 dX2_copyFrom_152 ?_
  refine g_iconst C (v := (0 : Int32)) dX2_copyFrom_155 (by decide) ?_
  refine g_aload_n C 0 dX2_copyFrom_156 rfl ?_
  refine gf_RX2_39 C h0 dX2_copyFrom_157 ?_
  refine g_iconst C (v := (0 : Int32)) dX2_copyFrom_160 (by decide) ?_
  refine g_bipush C (v := (54 : Int32)) dX2_copyFrom_161 (by decide) ?_
  refine g_copy C (List.mem_cons_of_mem _ mM_RX2_68) (List.mem_cons_of_mem _ mLib_copy_n) (List.mem_cons_of_mem _ mLib_copy_s) (List.mem_cons_of_mem _ mLib_sys) (isX2_leaves h1).1 (isX2_leaves h0).1 (isX2_leaves h1).2 (isX2_leaves h0).2 (by decide) (by decide) (by decide) (by decide) (by decide) (Nat.le_of_ble_eq_true rfl) (Nat.le_of_ble_eq_true rfl) dX2_copyFrom_163 ?_
  refine g_mem (fun m10 em10 => ?_)
  replace h := h m10 em10
  refine g_aload_n C 0 dX2_copyFrom_166 rfl ?_
  refine g_aload_n C 1 dX2_copyFrom_167 rfl ?_
  refine gf_RX2_59 C h1 dX2_copyFrom_168 ?_
  refine gp_RX2_59 C h0 dX2_copyFrom_171 ?_
  refine g_aload_n C 0 dX2_copyFrom_174 rfl ?_
  refine g_aload_n C 1 dX2_copyFrom_175 rfl ?_
  refine gf_RX2_62 C h1 dX2_copyFrom_176 ?_
  refine gp_RX2_62 C h0 dX2_copyFrom_179 ?_
  refine g_mem (fun m11 em11 => ?_)
  replace h := h m11 em11
  refine g_aload_n C 0 dX2_copyFrom_182 rfl ?_
  refine g_aload_n C 1 dX2_copyFrom_183 rfl ?_
  refine gf_RX2_65 C h1 dX2_copyFrom_184 ?_
  refine gp_RX2_65 C h0 dX2_copyFrom_187 ?_
  refine g_aload_n C 1 dX2_copyFrom_190 rfl ?_
  refine gf_RX2_42 C h1 dX2_copyFrom_191 ?_
  refine g_iconst C (v := (0 : Int32)) dX2_copyFrom_194 (by decide) ?_
  refine g_aload_n C 0 dX2_copyFrom_195 rfl ?_
  refine gf_RX2_42 C h0 dX2_copyFrom_196 ?_
  refine g_iconst C (v := (0 : Int32)) dX2_copyFrom_199 (by decide) ?_
  refine g_bipush C (v := (7 : Int32)) dX2_copyFrom_200 (by decide) ?_
  refine g_copy C (List.mem_cons_of_mem _ mM_RX2_68) (List.mem_cons_of_mem _ mLib_copy_n) (List.mem_cons_of_mem _ mLib_copy_s) (List.mem_cons_of_mem _ mLib_sys) (isX2_chances h1).1 (isX2_chances h0).1 (isX2_chances h1).2 (isX2_chances h0).2 (by decide) (by decide) (by decide) (by decide) (by decide) (Nat.le_of_ble_eq_true rfl) (Nat.le_of_ble_eq_true rfl) dX2_copyFrom_202 ?_
  refine g_mem (fun m12 em12 => ?_)
  replace h := h m12 em12
  exact hr _ _ _ _ dX2_copyFrom_205 h
