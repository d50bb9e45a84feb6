def SX (X : XT) (b L : Nat) (xs : Nat → Int32) : Prop := match X with
  | (_, _, _, _, s, _, _, _, _, _, A, H0, _, _, _) => va_X b L xs s H0 ∧ b < H0.size ∧ ¬ A b
theorem g_scr {X : XT} {Y : YT} {nL : Nat} {cc : ByteArray} {own : String} {Ts : List Cond} {R0 : Room} {l0 : Launch} {pc : Nat} {lv : List (Nat × Value)} {st : List Value} {μ : Mem} {b L : Nat} {xs : Nat → Int32} (C : Cx X Y nL cc own Ts R0 l0) (hX : SX X b L xs) {i : Int32} (hin : vp_in i L) (hdg : decode cc pc = .ok (.iaload, 1)) (kk : G X Y nL (pc + 1) lv (.int (xs i.toNatClampNeg) :: st) μ) : G X Y nL pc lv (.int i :: .ref b :: st) μ := by
  obtain ⟨p, l, e, R, s, m, args, below, meth, c, A, H0, cells, slots, Q⟩ := X
  intro H locs ls hP hS hl
  exact va_sld C.1 C.2.1 hX.1 hX.2.1 hX.2.2 hS hin hdg (kk H locs ls hP hS hl)
theorem g_scl {X : XT} {Y : YT} {nL : Nat} {cc : ByteArray} {own : String} {Ts : List Cond} {R0 : Room} {l0 : Launch} {pc : Nat} {lv : List (Nat × Value)} {st : List Value} {μ : Mem} {b L : Nat} {xs : Nat → Int32} (C : Cx X Y nL cc own Ts R0 l0) (hX : SX X b L xs) (hdg : decode cc pc = .ok (.arraylength, 1)) (kk : G X Y nL (pc + 1) lv (.int (nI L) :: st) μ) : G X Y nL pc lv (.ref b :: st) μ := by
  obtain ⟨p, l, e, R, s, m, args, below, meth, c, A, H0, cells, slots, Q⟩ := X
  intro H locs ls hP hS hl
  exact va_slen C.1 C.2.1 hX.1 hX.2.1 hX.2.2 hS hdg (kk H locs ls hP hS hl)
theorem law_in {k L : Nat} (j : Nat) (hj : j < 5) (h : 5 * k + 5 ≤ L) (hL : L ≤ 2560) : vp_in (nI (5 * k) + nI j) L := by
  rw [nI_add]
  exact vp_in_nI (by omega) (by omega)
theorem law_in0 {k L : Nat} (h : 5 * k + 5 ≤ L) (hL : L ≤ 2560) : vp_in (nI (5 * k)) L := vp_in_nI (by omega) (by omega)
def St_feed (I : Nat → Mem → Prop) : Prop := ∀ (k : Nat) (μ : Mem) (p1 : Int64), k < 512 → I k μ → PX6_feed 0 p1 μ (fun r1 m1 => PX7_feed 100 p1 m1 (fun r2 m2 => r1 = r2 ∧ I (k + 1) m2))
set_option maxRecDepth 20000 in
set_option maxHeartbeats 4000000 in
theorem law_c0 {X : XT} {Y : YT} {l0 : Launch} {hd : Cond} {b L k : Nat} {xs : Nat → Int32} {μ : Mem} {I : Nat → Mem → Prop} (C : Cx X Y 4 cL_law RL (hd :: GW) room_1 l0) (hSX : SX X b L xs) (hI : YI Y) (h6 : isX6 Y 0) (h7 : isX7 Y 100) (hst : St_feed I) (hk : k < 512) (hL : 5 * k + 5 ≤ L) (hLb : L ≤ 2560) (hinv : I k μ) (fin : ∀ μ' : Mem, I (k + 1) μ' → G X Y 4 1261 [(3, .int (nI (5 * k))), (2, .ref (Y.ad 100)), (1, .ref (Y.ad 0)), (0, .ref b)] [] μ') : G X Y 4 188 [(3, .int (nI (5 * k))), (2, .ref (Y.ad 100)), (1, .ref (Y.ad 0)), (0, .ref b)] [] μ := by
  refine g_aload_n C 2 dL_law_188 rfl ?_
  refine g_aload_n C 3 dL_law_189 rfl ?_
  refine g_iload_n C 0 dL_law_190 rfl ?_
  refine g_iconst C (v := (1 : Int32)) dL_law_191 (by decide) ?_
  refine g_iadd C dL_law_192 ?_
  refine g_scr C hSX (law_in 1 (by decide) hL hLb) dL_law_193 ?_
  refine g_i2l C dL_law_194 ?_
  refine g_bipush C (v := (32 : Int32)) dL_law_195 (by decide) ?_
  refine g_lshl C dL_law_197 ?_
  refine g_aload_n C 3 dL_law_198 rfl ?_
  refine g_iload_n C 0 dL_law_199 rfl ?_
  refine g_iconst C (v := (2 : Int32)) dL_law_200 (by decide) ?_
  refine g_iadd C dL_law_201 ?_
  refine g_scr C hSX (law_in 2 (by decide) hL hLb) dL_law_202 ?_
  refine g_i2l C dL_law_203 ?_
  refine g_ldc2 C (v := (4294967295 : Int64)) (List.mem_cons_of_mem _ mL_RL_13) dL_law_204 ?_
  refine g_land C dL_law_207 ?_
  refine g_lor C dL_law_208 ?_
  refine g_callVI C [.long (((xs (nI (5 * k) + (1 : Int32)).toNatClampNeg).toInt64 <<< ((32 : Int32).toInt64 &&& 63)) ||| ((xs (nI (5 * k) + (2 : Int32)).toNatClampNeg).toInt64 &&& (4294967295 : Int64)))] [] (ok_X6_feed hI h6 (hst k μ ((((xs (nI (5 * k) + (1 : Int32)).toNatClampNeg).toInt64 <<< ((32 : Int32).toInt64 &&& 63)) ||| ((xs (nI (5 * k) + (2 : Int32)).toNatClampNeg).toInt64 &&& (4294967295 : Int64)))) hk hinv)) (cw_RL_15 _) rfl dc_X6_feed ⟨Nat.le_of_ble_eq_true rfl, Nat.le_of_ble_eq_true rfl⟩ (isX6_lt h6) (isX6_sh h6) rfl rfl rfl rfl (Nat.le_of_ble_eq_true rfl) dL_law_209 (fun r1 m1 h => ?_)
  refine g_aload_n C 1 dL_law_212 rfl ?_
  refine g_aload_n C 3 dL_law_213 rfl ?_
  refine g_iload_n C 0 dL_law_214 rfl ?_
  refine g_iconst C (v := (1 : Int32)) dL_law_215 (by decide) ?_
  refine g_iadd C dL_law_216 ?_
  refine g_scr C hSX (law_in 1 (by decide) hL hLb) dL_law_217 ?_
  refine g_i2l C dL_law_218 ?_
  refine g_bipush C (v := (32 : Int32)) dL_law_219 (by decide) ?_
  refine g_lshl C dL_law_221 ?_
  refine g_aload_n C 3 dL_law_222 rfl ?_
  refine g_iload_n C 0 dL_law_223 rfl ?_
  refine g_iconst C (v := (2 : Int32)) dL_law_224 (by decide) ?_
  refine g_iadd C dL_law_225 ?_
  refine g_scr C hSX (law_in 2 (by decide) hL hLb) dL_law_226 ?_
  refine g_i2l C dL_law_227 ?_
  refine g_ldc2 C (v := (4294967295 : Int64)) (List.mem_cons_of_mem _ mL_RL_13) dL_law_228 ?_
  refine g_land C dL_law_231 ?_
  refine g_lor C dL_law_232 ?_
  refine g_callVI C [.long (((xs (nI (5 * k) + (1 : Int32)).toNatClampNeg).toInt64 <<< ((32 : Int32).toInt64 &&& 63)) ||| ((xs (nI (5 * k) + (2 : Int32)).toNatClampNeg).toInt64 &&& (4294967295 : Int64)))] [.int r1] (ok_X7_feed hI h7 h) (cw_RL_19 _) rfl dc_X7_feed ⟨Nat.le_of_ble_eq_true rfl, Nat.le_of_ble_eq_true rfl⟩ (isX7_lt h7) (isX7_sh h7) rfl rfl rfl rfl (Nat.le_of_ble_eq_true rfl) dL_law_233 (fun r2 m2 h => ?_)
  exact g_icmp_eq C 1261 dL_law_236 (by decide) (fun _ => fin _ h.2) (fun c => absurd h.1 c)
def St_end (I : Nat → Mem → Prop) : Prop := ∀ (k : Nat) (μ : Mem) (p1 : Int32), k < 512 → I k μ → PX6_end 0 p1 μ (fun r1 m1 => PX7_end 100 p1 m1 (fun r2 m2 => r1 = r2 ∧ I (k + 1) m2))
set_option maxRecDepth 20000 in
set_option maxHeartbeats 4000000 in
theorem law_c1 {X : XT} {Y : YT} {l0 : Launch} {hd : Cond} {b L k : Nat} {xs : Nat → Int32} {μ : Mem} {I : Nat → Mem → Prop} (C : Cx X Y 4 cL_law RL (hd :: GW) room_1 l0) (hSX : SX X b L xs) (hI : YI Y) (h6 : isX6 Y 0) (h7 : isX7 Y 100) (hst : St_end I) (hk : k < 512) (hL : 5 * k + 5 ≤ L) (hLb : L ≤ 2560) (hinv : I k μ) (fin : ∀ μ' : Mem, I (k + 1) μ' → G X Y 4 1261 [(3, .int (nI (5 * k))), (2, .ref (Y.ad 100)), (1, .ref (Y.ad 0)), (0, .ref b)] [] μ') : G X Y 4 241 [(3, .int (nI (5 * k))), (2, .ref (Y.ad 100)), (1, .ref (Y.ad 0)), (0, .ref b)] [] μ := by
  refine g_aload_n C 2 dL_law_241 rfl ?_
  refine g_aload_n C 3 dL_law_242 rfl ?_
  refine g_iload_n C 0 dL_law_243 rfl ?_
  refine g_iconst C (v := (1 : Int32)) dL_law_244 (by decide) ?_
  refine g_iadd C dL_law_245 ?_
  refine g_scr C hSX (law_in 1 (by decide) hL hLb) dL_law_246 ?_
  refine g_callVI C [.int (xs (nI (5 * k) + (1 : Int32)).toNatClampNeg)] [] (ok_X6_end hI h6 (hst k μ (xs (nI (5 * k) + (1 : Int32)).toNatClampNeg) hk hinv)) (cw_RL_20 _) rfl dc_X6_end ⟨Nat.le_of_ble_eq_true rfl, Nat.le_of_ble_eq_true rfl⟩ (isX6_lt h6) (isX6_sh h6) rfl rfl rfl rfl (Nat.le_of_ble_eq_true rfl) dL_law_247 (fun r1 m1 h => ?_)
  refine g_aload_n C 1 dL_law_250 rfl ?_
  refine g_aload_n C 3 dL_law_251 rfl ?_
  refine g_iload_n C 0 dL_law_252 rfl ?_
  refine g_iconst C (v := (1 : Int32)) dL_law_253 (by decide) ?_
  refine g_iadd C dL_law_254 ?_
  refine g_scr C hSX (law_in 1 (by decide) hL hLb) dL_law_255 ?_
  refine g_callVI C [.int (xs (nI (5 * k) + (1 : Int32)).toNatClampNeg)] [.int r1] (ok_X7_end hI h7 h) (cw_RL_24 _) rfl dc_X7_end ⟨Nat.le_of_ble_eq_true rfl, Nat.le_of_ble_eq_true rfl⟩ (isX7_lt h7) (isX7_sh h7) rfl rfl rfl rfl (Nat.le_of_ble_eq_true rfl) dL_law_256 (fun r2 m2 h => ?_)
  exact g_icmp_eq C 1261 dL_law_259 (by decide) (fun _ => fin _ h.2) (fun c => absurd h.1 c)
def St_text (I : Nat → Mem → Prop) : Prop := ∀ (k : Nat) (μ : Mem) , k < 512 → I k μ → PX6_text 0 μ (fun r1 m1 => PX7_text 100 m1 (fun r2 m2 => r1 = r2 ∧ I (k + 1) m2))
set_option maxRecDepth 20000 in
set_option maxHeartbeats 4000000 in
theorem law_c2 {X : XT} {Y : YT} {l0 : Launch} {hd : Cond} {b L k : Nat} {xs : Nat → Int32} {μ : Mem} {I : Nat → Mem → Prop} (C : Cx X Y 4 cL_law RL (hd :: GW) room_1 l0) (hSX : SX X b L xs) (hI : YI Y) (h6 : isX6 Y 0) (h7 : isX7 Y 100) (hst : St_text I) (hk : k < 512) (hL : 5 * k + 5 ≤ L) (hLb : L ≤ 2560) (hinv : I k μ) (fin : ∀ μ' : Mem, I (k + 1) μ' → G X Y 4 1261 [(3, .int (nI (5 * k))), (2, .ref (Y.ad 100)), (1, .ref (Y.ad 0)), (0, .ref b)] [] μ') : G X Y 4 264 [(3, .int (nI (5 * k))), (2, .ref (Y.ad 100)), (1, .ref (Y.ad 0)), (0, .ref b)] [] μ := by
  refine g_aload_n C 2 dL_law_264 rfl ?_
  refine g_callVI C [] [] (ok_X6_text hI h6 (hst k μ  hk hinv)) (cw_RL_25 _) rfl dc_X6_text ⟨Nat.le_of_ble_eq_true rfl, Nat.le_of_ble_eq_true rfl⟩ (isX6_lt h6) (isX6_sh h6) rfl rfl rfl rfl (Nat.le_of_ble_eq_true rfl) dL_law_265 (fun r1 m1 h => ?_)
  refine g_aload_n C 1 dL_law_268 rfl ?_
  refine g_callVI C [] [.int r1] (ok_X7_text hI h7 h) (cw_RL_29 _) rfl dc_X7_text ⟨Nat.le_of_ble_eq_true rfl, Nat.le_of_ble_eq_true rfl⟩ (isX7_lt h7) (isX7_sh h7) rfl rfl rfl rfl (Nat.le_of_ble_eq_true rfl) dL_law_269 (fun r2 m2 h => ?_)
  exact g_icmp_eq C 1261 dL_law_272 (by decide) (fun _ => fin _ h.2) (fun c => absurd h.1 c)
def St_fault (I : Nat → Mem → Prop) : Prop := ∀ (k : Nat) (μ : Mem) , k < 512 → I k μ → PX6_fault 0 μ (fun r1 m1 => PX7_fault 100 m1 (fun r2 m2 => r1 = r2 ∧ I (k + 1) m2))
set_option maxRecDepth 20000 in
set_option maxHeartbeats 4000000 in
theorem law_c3 {X : XT} {Y : YT} {l0 : Launch} {hd : Cond} {b L k : Nat} {xs : Nat → Int32} {μ : Mem} {I : Nat → Mem → Prop} (C : Cx X Y 4 cL_law RL (hd :: GW) room_1 l0) (hSX : SX X b L xs) (hI : YI Y) (h6 : isX6 Y 0) (h7 : isX7 Y 100) (hst : St_fault I) (hk : k < 512) (hL : 5 * k + 5 ≤ L) (hLb : L ≤ 2560) (hinv : I k μ) (fin : ∀ μ' : Mem, I (k + 1) μ' → G X Y 4 1261 [(3, .int (nI (5 * k))), (2, .ref (Y.ad 100)), (1, .ref (Y.ad 0)), (0, .ref b)] [] μ') : G X Y 4 277 [(3, .int (nI (5 * k))), (2, .ref (Y.ad 100)), (1, .ref (Y.ad 0)), (0, .ref b)] [] μ := by
  refine g_aload_n C 2 dL_law_277 rfl ?_
  refine g_callVI C [] [] (ok_X6_fault hI h6 (hst k μ  hk hinv)) (cw_RL_30 _) rfl dc_X6_fault ⟨Nat.le_of_ble_eq_true rfl, Nat.le_of_ble_eq_true rfl⟩ (isX6_lt h6) (isX6_sh h6) rfl rfl rfl rfl (Nat.le_of_ble_eq_true rfl) dL_law_278 (fun r1 m1 h => ?_)
  refine g_aload_n C 1 dL_law_281 rfl ?_
  refine g_callVI C [] [.int r1] (ok_X7_fault hI h7 h) (cw_RL_33 _) rfl dc_X7_fault ⟨Nat.le_of_ble_eq_true rfl, Nat.le_of_ble_eq_true rfl⟩ (isX7_lt h7) (isX7_sh h7) rfl rfl rfl rfl (Nat.le_of_ble_eq_true rfl) dL_law_282 (fun r2 m2 h => ?_)
  exact g_icmp_eq C 1261 dL_law_285 (by decide) (fun _ => fin _ h.2) (fun c => absurd h.1 c)
def St_thing (I : Nat → Mem → Prop) : Prop := ∀ (k : Nat) (μ : Mem) (p1 : Int32) (p2 : Int32), k < 512 → I k μ → PX6_thing 0 p1 p2 μ (fun r1 m1 => PX7_thing 100 p1 p2 m1 (fun r2 m2 => r1 = r2 ∧ I (k + 1) m2))
set_option maxRecDepth 20000 in
set_option maxHeartbeats 4000000 in
theorem law_c4 {X : XT} {Y : YT} {l0 : Launch} {hd : Cond} {b L k : Nat} {xs : Nat → Int32} {μ : Mem} {I : Nat → Mem → Prop} (C : Cx X Y 4 cL_law RL (hd :: GW) room_1 l0) (hSX : SX X b L xs) (hI : YI Y) (h6 : isX6 Y 0) (h7 : isX7 Y 100) (hst : St_thing I) (hk : k < 512) (hL : 5 * k + 5 ≤ L) (hLb : L ≤ 2560) (hinv : I k μ) (fin : ∀ μ' : Mem, I (k + 1) μ' → G X Y 4 1261 [(3, .int (nI (5 * k))), (2, .ref (Y.ad 100)), (1, .ref (Y.ad 0)), (0, .ref b)] [] μ') : G X Y 4 290 [(3, .int (nI (5 * k))), (2, .ref (Y.ad 100)), (1, .ref (Y.ad 0)), (0, .ref b)] [] μ := by
  refine g_aload_n C 2 dL_law_290 rfl ?_
  refine g_aload_n C 3 dL_law_291 rfl ?_
  refine g_iload_n C 0 dL_law_292 rfl ?_
  refine g_iconst C (v := (1 : Int32)) dL_law_293 (by decide) ?_
  refine g_iadd C dL_law_294 ?_
  refine g_scr C hSX (law_in 1 (by decide) hL hLb) dL_law_295 ?_
  refine g_aload_n C 3 dL_law_296 rfl ?_
  refine g_iload_n C 0 dL_law_297 rfl ?_
  refine g_iconst C (v := (2 : Int32)) dL_law_298 (by decide) ?_
  refine g_iadd C dL_law_299 ?_
  refine g_scr C hSX (law_in 2 (by decide) hL hLb) dL_law_300 ?_
  refine g_callVI C [.int (xs (nI (5 * k) + (1 : Int32)).toNatClampNeg), .int (xs (nI (5 * k) + (2 : Int32)).toNatClampNeg)] [] (ok_X6_thing hI h6 (hst k μ (xs (nI (5 * k) + (1 : Int32)).toNatClampNeg) (xs (nI (5 * k) + (2 : Int32)).toNatClampNeg) hk hinv)) (cw_RL_34 _) rfl dc_X6_thing ⟨Nat.le_of_ble_eq_true rfl, Nat.le_of_ble_eq_true rfl⟩ (isX6_lt h6) (isX6_sh h6) rfl rfl rfl rfl (Nat.le_of_ble_eq_true rfl) dL_law_301 (fun r1 m1 h => ?_)
  refine g_aload_n C 1 dL_law_304 rfl ?_
  refine g_aload_n C 3 dL_law_305 rfl ?_
  refine g_iload_n C 0 dL_law_306 rfl ?_
  refine g_iconst C (v := (1 : Int32)) dL_law_307 (by decide) ?_
  refine g_iadd C dL_law_308 ?_
  refine g_scr C hSX (law_in 1 (by decide) hL hLb) dL_law_309 ?_
  refine g_aload_n C 3 dL_law_310 rfl ?_
  refine g_iload_n C 0 dL_law_311 rfl ?_
  refine g_iconst C (v := (2 : Int32)) dL_law_312 (by decide) ?_
  refine g_iadd C dL_law_313 ?_
  refine g_scr C hSX (law_in 2 (by decide) hL hLb) dL_law_314 ?_
  refine g_callVI C [.int (xs (nI (5 * k) + (1 : Int32)).toNatClampNeg), .int (xs (nI (5 * k) + (2 : Int32)).toNatClampNeg)] [.int r1] (ok_X7_thing hI h7 h) (cw_RL_38 _) rfl dc_X7_thing ⟨Nat.le_of_ble_eq_true rfl, Nat.le_of_ble_eq_true rfl⟩ (isX7_lt h7) (isX7_sh h7) rfl rfl rfl rfl (Nat.le_of_ble_eq_true rfl) dL_law_315 (fun r2 m2 h => ?_)
  exact g_icmp_eq C 1261 dL_law_318 (by decide) (fun _ => fin _ h.2) (fun c => absurd h.1 c)
def St_supper (I : Nat → Mem → Prop) : Prop := ∀ (k : Nat) (μ : Mem) (p1 : Int32) (p2 : Int32), k < 512 → I k μ → PX6_supper 0 p1 p2 μ (fun r1 m1 => PX7_supper 100 p1 p2 m1 (fun r2 m2 => r1 = r2 ∧ I (k + 1) m2))
set_option maxRecDepth 20000 in
set_option maxHeartbeats 4000000 in
theorem law_c5 {X : XT} {Y : YT} {l0 : Launch} {hd : Cond} {b L k : Nat} {xs : Nat → Int32} {μ : Mem} {I : Nat → Mem → Prop} (C : Cx X Y 4 cL_law RL (hd :: GW) room_1 l0) (hSX : SX X b L xs) (hI : YI Y) (h6 : isX6 Y 0) (h7 : isX7 Y 100) (hst : St_supper I) (hk : k < 512) (hL : 5 * k + 5 ≤ L) (hLb : L ≤ 2560) (hinv : I k μ) (fin : ∀ μ' : Mem, I (k + 1) μ' → G X Y 4 1261 [(3, .int (nI (5 * k))), (2, .ref (Y.ad 100)), (1, .ref (Y.ad 0)), (0, .ref b)] [] μ') : G X Y 4 323 [(3, .int (nI (5 * k))), (2, .ref (Y.ad 100)), (1, .ref (Y.ad 0)), (0, .ref b)] [] μ := by
  refine g_aload_n C 2 dL_law_323 rfl ?_
  refine g_aload_n C 3 dL_law_324 rfl ?_
  refine g_iload_n C 0 dL_law_325 rfl ?_
  refine g_iconst C (v := (1 : Int32)) dL_law_326 (by decide) ?_
  refine g_iadd C dL_law_327 ?_
  refine g_scr C hSX (law_in 1 (by decide) hL hLb) dL_law_328 ?_
  refine g_aload_n C 3 dL_law_329 rfl ?_
  refine g_iload_n C 0 dL_law_330 rfl ?_
  refine g_iconst C (v := (2 : Int32)) dL_law_331 (by decide) ?_
  refine g_iadd C dL_law_332 ?_
  refine g_scr C hSX (law_in 2 (by decide) hL hLb) dL_law_333 ?_
  refine g_callVI C [.int (xs (nI (5 * k) + (1 : Int32)).toNatClampNeg), .int (xs (nI (5 * k) + (2 : Int32)).toNatClampNeg)] [] (ok_X6_supper hI h6 (hst k μ (xs (nI (5 * k) + (1 : Int32)).toNatClampNeg) (xs (nI (5 * k) + (2 : Int32)).toNatClampNeg) hk hinv)) (cw_RL_39 _) rfl dc_X6_supper ⟨Nat.le_of_ble_eq_true rfl, Nat.le_of_ble_eq_true rfl⟩ (isX6_lt h6) (isX6_sh h6) rfl rfl rfl rfl (Nat.le_of_ble_eq_true rfl) dL_law_334 (fun r1 m1 h => ?_)
  refine g_aload_n C 1 dL_law_337 rfl ?_
  refine g_aload_n C 3 dL_law_338 rfl ?_
  refine g_iload_n C 0 dL_law_339 rfl ?_
  refine g_iconst C (v := (1 : Int32)) dL_law_340 (by decide) ?_
  refine g_iadd C dL_law_341 ?_
  refine g_scr C hSX (law_in 1 (by decide) hL hLb) dL_law_342 ?_
  refine g_aload_n C 3 dL_law_343 rfl ?_
  refine g_iload_n C 0 dL_law_344 rfl ?_
  refine g_iconst C (v := (2 : Int32)) dL_law_345 (by decide) ?_
  refine g_iadd C dL_law_346 ?_
  refine g_scr C hSX (law_in 2 (by decide) hL hLb) dL_law_347 ?_
  refine g_callVI C [.int (xs (nI (5 * k) + (1 : Int32)).toNatClampNeg), .int (xs (nI (5 * k) + (2 : Int32)).toNatClampNeg)] [.int r1] (ok_X7_supper hI h7 h) (cw_RL_42 _) rfl dc_X7_supper ⟨Nat.le_of_ble_eq_true rfl, Nat.le_of_ble_eq_true rfl⟩ (isX7_lt h7) (isX7_sh h7) rfl rfl rfl rfl (Nat.le_of_ble_eq_true rfl) dL_law_348 (fun r2 m2 h => ?_)
  exact g_icmp_eq C 1261 dL_law_351 (by decide) (fun _ => fin _ h.2) (fun c => absurd h.1 c)
def St_rule (I : Nat → Mem → Prop) : Prop := ∀ (k : Nat) (μ : Mem) (p1 : Int32), k < 512 → I k μ → PX6_rule 0 p1 μ (fun r1 m1 => PX7_rule 100 p1 m1 (fun r2 m2 => r1 = r2 ∧ I (k + 1) m2))
set_option maxRecDepth 20000 in
set_option maxHeartbeats 4000000 in
theorem law_c6 {X : XT} {Y : YT} {l0 : Launch} {hd : Cond} {b L k : Nat} {xs : Nat → Int32} {μ : Mem} {I : Nat → Mem → Prop} (C : Cx X Y 4 cL_law RL (hd :: GW) room_1 l0) (hSX : SX X b L xs) (hI : YI Y) (h6 : isX6 Y 0) (h7 : isX7 Y 100) (hst : St_rule I) (hk : k < 512) (hL : 5 * k + 5 ≤ L) (hLb : L ≤ 2560) (hinv : I k μ) (fin : ∀ μ' : Mem, I (k + 1) μ' → G X Y 4 1261 [(3, .int (nI (5 * k))), (2, .ref (Y.ad 100)), (1, .ref (Y.ad 0)), (0, .ref b)] [] μ') : G X Y 4 356 [(3, .int (nI (5 * k))), (2, .ref (Y.ad 100)), (1, .ref (Y.ad 0)), (0, .ref b)] [] μ := by
  refine g_aload_n C 2 dL_law_356 rfl ?_
  refine g_aload_n C 3 dL_law_357 rfl ?_
  refine g_iload_n C 0 dL_law_358 rfl ?_
  refine g_iconst C (v := (1 : Int32)) dL_law_359 (by decide) ?_
  refine g_iadd C dL_law_360 ?_
  refine g_scr C hSX (law_in 1 (by decide) hL hLb) dL_law_361 ?_
  refine g_callVI C [.int (xs (nI (5 * k) + (1 : Int32)).toNatClampNeg)] [] (ok_X6_rule hI h6 (hst k μ (xs (nI (5 * k) + (1 : Int32)).toNatClampNeg) hk hinv)) (cw_RL_43 _) rfl dc_X6_rule ⟨Nat.le_of_ble_eq_true rfl, Nat.le_of_ble_eq_true rfl⟩ (isX6_lt h6) (isX6_sh h6) rfl rfl rfl rfl (Nat.le_of_ble_eq_true rfl) dL_law_362 (fun r1 m1 h => ?_)
  refine g_aload_n C 1 dL_law_365 rfl ?_
  refine g_aload_n C 3 dL_law_366 rfl ?_
  refine g_iload_n C 0 dL_law_367 rfl ?_
  refine g_iconst C (v := (1 : Int32)) dL_law_368 (by decide) ?_
  refine g_iadd C dL_law_369 ?_
  refine g_scr C hSX (law_in 1 (by decide) hL hLb) dL_law_370 ?_
  refine g_callVI C [.int (xs (nI (5 * k) + (1 : Int32)).toNatClampNeg)] [.int r1] (ok_X7_rule hI h7 h) (cw_RL_46 _) rfl dc_X7_rule ⟨Nat.le_of_ble_eq_true rfl, Nat.le_of_ble_eq_true rfl⟩ (isX7_lt h7) (isX7_sh h7) rfl rfl rfl rfl (Nat.le_of_ble_eq_true rfl) dL_law_371 (fun r2 m2 h => ?_)
  exact g_icmp_eq C 1261 dL_law_374 (by decide) (fun _ => fin _ h.2) (fun c => absurd h.1 c)
def St_put (I : Nat → Mem → Prop) : Prop := ∀ (k : Nat) (μ : Mem) (p1 : Int32) (p2 : Int32) (p3 : Int32), k < 512 → I k μ → PX6_put 0 p1 p2 p3 μ (fun r1 m1 => PX7_put 100 p1 p2 p3 m1 (fun r2 m2 => r1 = r2 ∧ I (k + 1) m2))
set_option maxRecDepth 20000 in
set_option maxHeartbeats 4000000 in
theorem law_c7 {X : XT} {Y : YT} {l0 : Launch} {hd : Cond} {b L k : Nat} {xs : Nat → Int32} {μ : Mem} {I : Nat → Mem → Prop} (C : Cx X Y 4 cL_law RL (hd :: GW) room_1 l0) (hSX : SX X b L xs) (hI : YI Y) (h6 : isX6 Y 0) (h7 : isX7 Y 100) (hst : St_put I) (hk : k < 512) (hL : 5 * k + 5 ≤ L) (hLb : L ≤ 2560) (hinv : I k μ) (fin : ∀ μ' : Mem, I (k + 1) μ' → G X Y 4 1261 [(3, .int (nI (5 * k))), (2, .ref (Y.ad 100)), (1, .ref (Y.ad 0)), (0, .ref b)] [] μ') : G X Y 4 379 [(3, .int (nI (5 * k))), (2, .ref (Y.ad 100)), (1, .ref (Y.ad 0)), (0, .ref b)] [] μ := by
  refine g_aload_n C 2 dL_law_379 rfl ?_
  refine g_aload_n C 3 dL_law_380 rfl ?_
  refine g_iload_n C 0 dL_law_381 rfl ?_
  refine g_iconst C (v := (1 : Int32)) dL_law_382 (by decide) ?_
  refine g_iadd C dL_law_383 ?_
  refine g_scr C hSX (law_in 1 (by decide) hL hLb) dL_law_384 ?_
  refine g_aload_n C 3 dL_law_385 rfl ?_
  refine g_iload_n C 0 dL_law_386 rfl ?_
  refine g_iconst C (v := (2 : Int32)) dL_law_387 (by decide) ?_
  refine g_iadd C dL_law_388 ?_
  refine g_scr C hSX (law_in 2 (by decide) hL hLb) dL_law_389 ?_
  refine g_aload_n C 3 dL_law_390 rfl ?_
  refine g_iload_n C 0 dL_law_391 rfl ?_
  refine g_iconst C (v := (3 : Int32)) dL_law_392 (by decide) ?_
  refine g_iadd C dL_law_393 ?_
  refine g_scr C hSX (law_in 3 (by decide) hL hLb) dL_law_394 ?_
  refine g_callVI C [.int (xs (nI (5 * k) + (1 : Int32)).toNatClampNeg), .int (xs (nI (5 * k) + (2 : Int32)).toNatClampNeg), .int (xs (nI (5 * k) + (3 : Int32)).toNatClampNeg)] [] (ok_X6_put hI h6 (hst k μ (xs (nI (5 * k) + (1 : Int32)).toNatClampNeg) (xs (nI (5 * k) + (2 : Int32)).toNatClampNeg) (xs (nI (5 * k) + (3 : Int32)).toNatClampNeg) hk hinv)) (cw_RL_47 _) rfl dc_X6_put ⟨Nat.le_of_ble_eq_true rfl, Nat.le_of_ble_eq_true rfl⟩ (isX6_lt h6) (isX6_sh h6) rfl rfl rfl rfl (Nat.le_of_ble_eq_true rfl) dL_law_395 (fun r1 m1 h => ?_)
  refine g_aload_n C 1 dL_law_398 rfl ?_
  refine g_aload_n C 3 dL_law_399 rfl ?_
  refine g_iload_n C 0 dL_law_400 rfl ?_
  refine g_iconst C (v := (1 : Int32)) dL_law_401 (by decide) ?_
  refine g_iadd C dL_law_402 ?_
  refine g_scr C hSX (law_in 1 (by decide) hL hLb) dL_law_403 ?_
  refine g_aload_n C 3 dL_law_404 rfl ?_
  refine g_iload_n C 0 dL_law_405 rfl ?_
  refine g_iconst C (v := (2 : Int32)) dL_law_406 (by decide) ?_
  refine g_iadd C dL_law_407 ?_
  refine g_scr C hSX (law_in 2 (by decide) hL hLb) dL_law_408 ?_
  refine g_aload_n C 3 dL_law_409 rfl ?_
  refine g_iload_n C 0 dL_law_410 rfl ?_
  refine g_iconst C (v := (3 : Int32)) dL_law_411 (by decide) ?_
  refine g_iadd C dL_law_412 ?_
  refine g_scr C hSX (law_in 3 (by decide) hL hLb) dL_law_413 ?_
  refine g_callVI C [.int (xs (nI (5 * k) + (1 : Int32)).toNatClampNeg), .int (xs (nI (5 * k) + (2 : Int32)).toNatClampNeg), .int (xs (nI (5 * k) + (3 : Int32)).toNatClampNeg)] [.int r1] (ok_X7_put hI h7 h) (cw_RL_51 _) rfl dc_X7_put ⟨Nat.le_of_ble_eq_true rfl, Nat.le_of_ble_eq_true rfl⟩ (isX7_lt h7) (isX7_sh h7) rfl rfl rfl rfl (Nat.le_of_ble_eq_true rfl) dL_law_414 (fun r2 m2 h => ?_)
  exact g_icmp_eq C 1261 dL_law_417 (by decide) (fun _ => fin _ h.2) (fun c => absurd h.1 c)
def St_has (I : Nat → Mem → Prop) : Prop := ∀ (k : Nat) (μ : Mem) (p1 : Int32) (p2 : Int32), k < 512 → I k μ → PX6_has 0 p1 p2 μ (fun r1 m1 => PX7_has 100 p1 p2 m1 (fun r2 m2 => r1 = r2 ∧ I (k + 1) m2))
set_option maxRecDepth 20000 in
set_option maxHeartbeats 4000000 in
theorem law_c8 {X : XT} {Y : YT} {l0 : Launch} {hd : Cond} {b L k : Nat} {xs : Nat → Int32} {μ : Mem} {I : Nat → Mem → Prop} (C : Cx X Y 4 cL_law RL (hd :: GW) room_1 l0) (hSX : SX X b L xs) (hI : YI Y) (h6 : isX6 Y 0) (h7 : isX7 Y 100) (hst : St_has I) (hk : k < 512) (hL : 5 * k + 5 ≤ L) (hLb : L ≤ 2560) (hinv : I k μ) (fin : ∀ μ' : Mem, I (k + 1) μ' → G X Y 4 1261 [(3, .int (nI (5 * k))), (2, .ref (Y.ad 100)), (1, .ref (Y.ad 0)), (0, .ref b)] [] μ') : G X Y 4 422 [(3, .int (nI (5 * k))), (2, .ref (Y.ad 100)), (1, .ref (Y.ad 0)), (0, .ref b)] [] μ := by
  refine g_aload_n C 2 dL_law_422 rfl ?_
  refine g_aload_n C 3 dL_law_423 rfl ?_
  refine g_iload_n C 0 dL_law_424 rfl ?_
  refine g_iconst C (v := (1 : Int32)) dL_law_425 (by decide) ?_
  refine g_iadd C dL_law_426 ?_
  refine g_scr C hSX (law_in 1 (by decide) hL hLb) dL_law_427 ?_
  refine g_aload_n C 3 dL_law_428 rfl ?_
  refine g_iload_n C 0 dL_law_429 rfl ?_
  refine g_iconst C (v := (2 : Int32)) dL_law_430 (by decide) ?_
  refine g_iadd C dL_law_431 ?_
  refine g_scr C hSX (law_in 2 (by decide) hL hLb) dL_law_432 ?_
  refine g_callVI C [.int (xs (nI (5 * k) + (1 : Int32)).toNatClampNeg), .int (xs (nI (5 * k) + (2 : Int32)).toNatClampNeg)] [] (ok_X6_has hI h6 (hst k μ (xs (nI (5 * k) + (1 : Int32)).toNatClampNeg) (xs (nI (5 * k) + (2 : Int32)).toNatClampNeg) hk hinv)) (cw_RL_52 _) rfl dc_X6_has ⟨Nat.le_of_ble_eq_true rfl, Nat.le_of_ble_eq_true rfl⟩ (isX6_lt h6) (isX6_sh h6) rfl rfl rfl rfl (Nat.le_of_ble_eq_true rfl) dL_law_433 (fun r1 m1 h => ?_)
  refine g_aload_n C 1 dL_law_436 rfl ?_
  refine g_aload_n C 3 dL_law_437 rfl ?_
  refine g_iload_n C 0 dL_law_438 rfl ?_
  refine g_iconst C (v := (1 : Int32)) dL_law_439 (by decide) ?_
  refine g_iadd C dL_law_440 ?_
  refine g_scr C hSX (law_in 1 (by decide) hL hLb) dL_law_441 ?_
  refine g_aload_n C 3 dL_law_442 rfl ?_
  refine g_iload_n C 0 dL_law_443 rfl ?_
  refine g_iconst C (v := (2 : Int32)) dL_law_444 (by decide) ?_
  refine g_iadd C dL_law_445 ?_
  refine g_scr C hSX (law_in 2 (by decide) hL hLb) dL_law_446 ?_
  refine g_callVI C [.int (xs (nI (5 * k) + (1 : Int32)).toNatClampNeg), .int (xs (nI (5 * k) + (2 : Int32)).toNatClampNeg)] [.int r1] (ok_X7_has hI h7 h) (cw_RL_55 _) rfl dc_X7_has ⟨Nat.le_of_ble_eq_true rfl, Nat.le_of_ble_eq_true rfl⟩ (isX7_lt h7) (isX7_sh h7) rfl rfl rfl rfl (Nat.le_of_ble_eq_true rfl) dL_law_447 (fun r2 m2 h => ?_)
  exact g_icmp_eq C 1261 dL_law_450 (by decide) (fun _ => fin _ h.2) (fun c => absurd h.1 c)
def St_may (I : Nat → Mem → Prop) : Prop := ∀ (k : Nat) (μ : Mem) (p1 : Int32) (p2 : Int32), (p2 = 0 ∨ p2 = 1) → k < 512 → I k μ → PX6_may 0 p1 p2 μ (fun r1 m1 => PX7_may 100 p1 p2 m1 (fun r2 m2 => r1 = r2 ∧ I (k + 1) m2))
set_option maxRecDepth 20000 in
set_option maxHeartbeats 4000000 in
theorem law_c9 {X : XT} {Y : YT} {l0 : Launch} {hd : Cond} {b L k : Nat} {xs : Nat → Int32} {μ : Mem} {I : Nat → Mem → Prop} (C : Cx X Y 4 cL_law RL (hd :: GW) room_1 l0) (hSX : SX X b L xs) (hI : YI Y) (h6 : isX6 Y 0) (h7 : isX7 Y 100) (hst : St_may I) (hk : k < 512) (hL : 5 * k + 5 ≤ L) (hLb : L ≤ 2560) (hinv : I k μ) (fin : ∀ μ' : Mem, I (k + 1) μ' → G X Y 4 1261 [(3, .int (nI (5 * k))), (2, .ref (Y.ad 100)), (1, .ref (Y.ad 0)), (0, .ref b)] [] μ') : G X Y 4 455 [(3, .int (nI (5 * k))), (2, .ref (Y.ad 100)), (1, .ref (Y.ad 0)), (0, .ref b)] [] μ := by
  refine g_aload_n C 2 dL_law_455 rfl ?_
  refine g_aload_n C 3 dL_law_456 rfl ?_
  refine g_iload_n C 0 dL_law_457 rfl ?_
  refine g_iconst C (v := (1 : Int32)) dL_law_458 (by decide) ?_
  refine g_iadd C dL_law_459 ?_
  refine g_scr C hSX (law_in 1 (by decide) hL hLb) dL_law_460 ?_
  refine g_aload_n C 3 dL_law_461 rfl ?_
  refine g_iload_n C 0 dL_law_462 rfl ?_
  refine g_iconst C (v := (2 : Int32)) dL_law_463 (by decide) ?_
  refine g_iadd C dL_law_464 ?_
  refine g_scr C hSX (law_in 2 (by decide) hL hLb) dL_law_465 ?_
  refine g_if_eq C 473 dL_law_466 (by decide) (fun c466 => ?_) (fun c466 => ?_)
  · refine g_iconst C (v := (0 : Int32)) dL_law_473 (by decide) ?_
    refine g_callVI C [.int (xs (nI (5 * k) + (1 : Int32)).toNatClampNeg), .int (0 : Int32)] [] (ok_X6_may hI h6 (hst k μ (xs (nI (5 * k) + (1 : Int32)).toNatClampNeg) (0 : Int32) (Or.inl rfl) hk hinv)) (cw_RL_56 _) rfl dc_X6_may ⟨Nat.le_of_ble_eq_true rfl, Nat.le_of_ble_eq_true rfl⟩ (isX6_lt h6) (isX6_sh h6) rfl rfl rfl rfl (Nat.le_of_ble_eq_true rfl) dL_law_474 (fun r1 m1 h => ?_)
    refine g_aload_n C 1 dL_law_477 rfl ?_
    refine g_aload_n C 3 dL_law_478 rfl ?_
    refine g_iload_n C 0 dL_law_479 rfl ?_
    refine g_iconst C (v := (1 : Int32)) dL_law_480 (by decide) ?_
    refine g_iadd C dL_law_481 ?_
    refine g_scr C hSX (law_in 1 (by decide) hL hLb) dL_law_482 ?_
    refine g_aload_n C 3 dL_law_483 rfl ?_
    refine g_iload_n C 0 dL_law_484 rfl ?_
    refine g_iconst C (v := (2 : Int32)) dL_law_485 (by decide) ?_
    refine g_iadd C dL_law_486 ?_
    refine g_scr C hSX (law_in 2 (by decide) hL hLb) dL_law_487 ?_
    refine g_if_eq C 495 dL_law_488 (by decide) (fun c488 => ?_) (fun c488 => ?_)
    · refine g_iconst C (v := (0 : Int32)) dL_law_495 (by decide) ?_
      refine g_callVI C [.int (xs (nI (5 * k) + (1 : Int32)).toNatClampNeg), .int (0 : Int32)] [.int r1] (ok_X7_may hI h7 h) (cw_RL_60 _) rfl dc_X7_may ⟨Nat.le_of_ble_eq_true rfl, Nat.le_of_ble_eq_true rfl⟩ (isX7_lt h7) (isX7_sh h7) rfl rfl rfl rfl (Nat.le_of_ble_eq_true rfl) dL_law_496 (fun r2 m2 h => ?_)
      exact g_icmp_eq C 1261 dL_law_499 (by decide) (fun _ => fin _ h.2) (fun c => absurd h.1 c)
    · exact absurd c466 c488
  · refine g_iconst C (v := (1 : Int32)) dL_law_469 (by decide) ?_
    refine g_goto C 474 dL_law_470 (by decide) ?_
    refine g_callVI C [.int (xs (nI (5 * k) + (1 : Int32)).toNatClampNeg), .int (1 : Int32)] [] (ok_X6_may hI h6 (hst k μ (xs (nI (5 * k) + (1 : Int32)).toNatClampNeg) (1 : Int32) (Or.inr rfl) hk hinv)) (cw_RL_56 _) rfl dc_X6_may ⟨Nat.le_of_ble_eq_true rfl, Nat.le_of_ble_eq_true rfl⟩ (isX6_lt h6) (isX6_sh h6) rfl rfl rfl rfl (Nat.le_of_ble_eq_true rfl) dL_law_474 (fun r1 m1 h => ?_)
    refine g_aload_n C 1 dL_law_477 rfl ?_
    refine g_aload_n C 3 dL_law_478 rfl ?_
    refine g_iload_n C 0 dL_law_479 rfl ?_
    refine g_iconst C (v := (1 : Int32)) dL_law_480 (by decide) ?_
    refine g_iadd C dL_law_481 ?_
    refine g_scr C hSX (law_in 1 (by decide) hL hLb) dL_law_482 ?_
    refine g_aload_n C 3 dL_law_483 rfl ?_
    refine g_iload_n C 0 dL_law_484 rfl ?_
    refine g_iconst C (v := (2 : Int32)) dL_law_485 (by decide) ?_
    refine g_iadd C dL_law_486 ?_
    refine g_scr C hSX (law_in 2 (by decide) hL hLb) dL_law_487 ?_
    refine g_if_eq C 495 dL_law_488 (by decide) (fun c488 => ?_) (fun c488 => ?_)
    · exact absurd c488 c466
    · refine g_iconst C (v := (1 : Int32)) dL_law_491 (by decide) ?_
      refine g_goto C 496 dL_law_492 (by decide) ?_
      refine g_callVI C [.int (xs (nI (5 * k) + (1 : Int32)).toNatClampNeg), .int (1 : Int32)] [.int r1] (ok_X7_may hI h7 h) (cw_RL_60 _) rfl dc_X7_may ⟨Nat.le_of_ble_eq_true rfl, Nat.le_of_ble_eq_true rfl⟩ (isX7_lt h7) (isX7_sh h7) rfl rfl rfl rfl (Nat.le_of_ble_eq_true rfl) dL_law_496 (fun r2 m2 h => ?_)
      exact g_icmp_eq C 1261 dL_law_499 (by decide) (fun _ => fin _ h.2) (fun c => absurd h.1 c)
def St_lacks (I : Nat → Mem → Prop) : Prop := ∀ (k : Nat) (μ : Mem) (p1 : Int32) (p2 : Int32) (p3 : Int32) (p4 : Int32), (p2 = 0 ∨ p2 = 1) → k < 512 → I k μ → PX6_lacks 0 p1 p2 p3 p4 μ (fun r1 m1 => PX7_lacks 100 p1 p2 p3 p4 m1 (fun r2 m2 => r1 = r2 ∧ I (k + 1) m2))
set_option maxRecDepth 20000 in
set_option maxHeartbeats 4000000 in
theorem law_c10 {X : XT} {Y : YT} {l0 : Launch} {hd : Cond} {b L k : Nat} {xs : Nat → Int32} {μ : Mem} {I : Nat → Mem → Prop} (C : Cx X Y 4 cL_law RL (hd :: GW) room_1 l0) (hSX : SX X b L xs) (hI : YI Y) (h6 : isX6 Y 0) (h7 : isX7 Y 100) (hst : St_lacks I) (hk : k < 512) (hL : 5 * k + 5 ≤ L) (hLb : L ≤ 2560) (hinv : I k μ) (fin : ∀ μ' : Mem, I (k + 1) μ' → G X Y 4 1261 [(3, .int (nI (5 * k))), (2, .ref (Y.ad 100)), (1, .ref (Y.ad 0)), (0, .ref b)] [] μ') : G X Y 4 504 [(3, .int (nI (5 * k))), (2, .ref (Y.ad 100)), (1, .ref (Y.ad 0)), (0, .ref b)] [] μ := by
  refine g_aload_n C 2 dL_law_504 rfl ?_
  refine g_aload_n C 3 dL_law_505 rfl ?_
  refine g_iload_n C 0 dL_law_506 rfl ?_
  refine g_iconst C (v := (1 : Int32)) dL_law_507 (by decide) ?_
  refine g_iadd C dL_law_508 ?_
  refine g_scr C hSX (law_in 1 (by decide) hL hLb) dL_law_509 ?_
  refine g_aload_n C 3 dL_law_510 rfl ?_
  refine g_iload_n C 0 dL_law_511 rfl ?_
  refine g_iconst C (v := (2 : Int32)) dL_law_512 (by decide) ?_
  refine g_iadd C dL_law_513 ?_
  refine g_scr C hSX (law_in 2 (by decide) hL hLb) dL_law_514 ?_
  refine g_if_eq C 522 dL_law_515 (by decide) (fun c515 => ?_) (fun c515 => ?_)
  · refine g_iconst C (v := (0 : Int32)) dL_law_522 (by decide) ?_
    refine g_aload_n C 3 dL_law_523 rfl ?_
    refine g_iload_n C 0 dL_law_524 rfl ?_
    refine g_iconst C (v := (3 : Int32)) dL_law_525 (by decide) ?_
    refine g_iadd C dL_law_526 ?_
    refine g_scr C hSX (law_in 3 (by decide) hL hLb) dL_law_527 ?_
    refine g_aload_n C 3 dL_law_528 rfl ?_
    refine g_iload_n C 0 dL_law_529 rfl ?_
    refine g_iconst C (v := (4 : Int32)) dL_law_530 (by decide) ?_
    refine g_iadd C dL_law_531 ?_
    refine g_scr C hSX (law_in 4 (by decide) hL hLb) dL_law_532 ?_
    refine g_callVI C [.int (xs (nI (5 * k) + (1 : Int32)).toNatClampNeg), .int (0 : Int32), .int (xs (nI (5 * k) + (3 : Int32)).toNatClampNeg), .int (xs (nI (5 * k) + (4 : Int32)).toNatClampNeg)] [] (ok_X6_lacks hI h6 (hst k μ (xs (nI (5 * k) + (1 : Int32)).toNatClampNeg) (0 : Int32) (xs (nI (5 * k) + (3 : Int32)).toNatClampNeg) (xs (nI (5 * k) + (4 : Int32)).toNatClampNeg) (Or.inl rfl) hk hinv)) (cw_RL_61 _) rfl dc_X6_lacks ⟨Nat.le_of_ble_eq_true rfl, Nat.le_of_ble_eq_true rfl⟩ (isX6_lt h6) (isX6_sh h6) rfl rfl rfl rfl (Nat.le_of_ble_eq_true rfl) dL_law_533 (fun r1 m1 h => ?_)
    refine g_aload_n C 1 dL_law_536 rfl ?_
    refine g_aload_n C 3 dL_law_537 rfl ?_
    refine g_iload_n C 0 dL_law_538 rfl ?_
    refine g_iconst C (v := (1 : Int32)) dL_law_539 (by decide) ?_
    refine g_iadd C dL_law_540 ?_
    refine g_scr C hSX (law_in 1 (by decide) hL hLb) dL_law_541 ?_
    refine g_aload_n C 3 dL_law_542 rfl ?_
    refine g_iload_n C 0 dL_law_543 rfl ?_
    refine g_iconst C (v := (2 : Int32)) dL_law_544 (by decide) ?_
    refine g_iadd C dL_law_545 ?_
    refine g_scr C hSX (law_in 2 (by decide) hL hLb) dL_law_546 ?_
    refine g_if_eq C 554 dL_law_547 (by decide) (fun c547 => ?_) (fun c547 => ?_)
    · refine g_iconst C (v := (0 : Int32)) dL_law_554 (by decide) ?_
      refine g_aload_n C 3 dL_law_555 rfl ?_
      refine g_iload_n C 0 dL_law_556 rfl ?_
      refine g_iconst C (v := (3 : Int32)) dL_law_557 (by decide) ?_
      refine g_iadd C dL_law_558 ?_
      refine g_scr C hSX (law_in 3 (by decide) hL hLb) dL_law_559 ?_
      refine g_aload_n C 3 dL_law_560 rfl ?_
      refine g_iload_n C 0 dL_law_561 rfl ?_
      refine g_iconst C (v := (4 : Int32)) dL_law_562 (by decide) ?_
      refine g_iadd C dL_law_563 ?_
      refine g_scr C hSX (law_in 4 (by decide) hL hLb) dL_law_564 ?_
      refine g_callVI C [.int (xs (nI (5 * k) + (1 : Int32)).toNatClampNeg), .int (0 : Int32), .int (xs (nI (5 * k) + (3 : Int32)).toNatClampNeg), .int (xs (nI (5 * k) + (4 : Int32)).toNatClampNeg)] [.int r1] (ok_X7_lacks hI h7 h) (cw_RL_65 _) rfl dc_X7_lacks ⟨Nat.le_of_ble_eq_true rfl, Nat.le_of_ble_eq_true rfl⟩ (isX7_lt h7) (isX7_sh h7) rfl rfl rfl rfl (Nat.le_of_ble_eq_true rfl) dL_law_565 (fun r2 m2 h => ?_)
      exact g_icmp_eq C 1261 dL_law_568 (by decide) (fun _ => fin _ h.2) (fun c => absurd h.1 c)
    · exact absurd c515 c547
  · refine g_iconst C (v := (1 : Int32)) dL_law_518 (by decide) ?_
    refine g_goto C 523 dL_law_519 (by decide) ?_
    refine g_aload_n C 3 dL_law_523 rfl ?_
    refine g_iload_n C 0 dL_law_524 rfl ?_
    refine g_iconst C (v := (3 : Int32)) dL_law_525 (by decide) ?_
    refine g_iadd C dL_law_526 ?_
    refine g_scr C hSX (law_in 3 (by decide) hL hLb) dL_law_527 ?_
    refine g_aload_n C 3 dL_law_528 rfl ?_
    refine g_iload_n C 0 dL_law_529 rfl ?_
    refine g_iconst C (v := (4 : Int32)) dL_law_530 (by decide) ?_
    refine g_iadd C dL_law_531 ?_
    refine g_scr C hSX (law_in 4 (by decide) hL hLb) dL_law_532 ?_
    refine g_callVI C [.int (xs (nI (5 * k) + (1 : Int32)).toNatClampNeg), .int (1 : Int32), .int (xs (nI (5 * k) + (3 : Int32)).toNatClampNeg), .int (xs (nI (5 * k) + (4 : Int32)).toNatClampNeg)] [] (ok_X6_lacks hI h6 (hst k μ (xs (nI (5 * k) + (1 : Int32)).toNatClampNeg) (1 : Int32) (xs (nI (5 * k) + (3 : Int32)).toNatClampNeg) (xs (nI (5 * k) + (4 : Int32)).toNatClampNeg) (Or.inr rfl) hk hinv)) (cw_RL_61 _) rfl dc_X6_lacks ⟨Nat.le_of_ble_eq_true rfl, Nat.le_of_ble_eq_true rfl⟩ (isX6_lt h6) (isX6_sh h6) rfl rfl rfl rfl (Nat.le_of_ble_eq_true rfl) dL_law_533 (fun r1 m1 h => ?_)
    refine g_aload_n C 1 dL_law_536 rfl ?_
    refine g_aload_n C 3 dL_law_537 rfl ?_
    refine g_iload_n C 0 dL_law_538 rfl ?_
    refine g_iconst C (v := (1 : Int32)) dL_law_539 (by decide) ?_
    refine g_iadd C dL_law_540 ?_
    refine g_scr C hSX (law_in 1 (by decide) hL hLb) dL_law_541 ?_
    refine g_aload_n C 3 dL_law_542 rfl ?_
    refine g_iload_n C 0 dL_law_543 rfl ?_
    refine g_iconst C (v := (2 : Int32)) dL_law_544 (by decide) ?_
    refine g_iadd C dL_law_545 ?_
    refine g_scr C hSX (law_in 2 (by decide) hL hLb) dL_law_546 ?_
    refine g_if_eq C 554 dL_law_547 (by decide) (fun c547 => ?_) (fun c547 => ?_)
    · exact absurd c547 c515
    · refine g_iconst C (v := (1 : Int32)) dL_law_550 (by decide) ?_
      refine g_goto C 555 dL_law_551 (by decide) ?_
      refine g_aload_n C 3 dL_law_555 rfl ?_
      refine g_iload_n C 0 dL_law_556 rfl ?_
      refine g_iconst C (v := (3 : Int32)) dL_law_557 (by decide) ?_
      refine g_iadd C dL_law_558 ?_
      refine g_scr C hSX (law_in 3 (by decide) hL hLb) dL_law_559 ?_
      refine g_aload_n C 3 dL_law_560 rfl ?_
      refine g_iload_n C 0 dL_law_561 rfl ?_
      refine g_iconst C (v := (4 : Int32)) dL_law_562 (by decide) ?_
      refine g_iadd C dL_law_563 ?_
      refine g_scr C hSX (law_in 4 (by decide) hL hLb) dL_law_564 ?_
      refine g_callVI C [.int (xs (nI (5 * k) + (1 : Int32)).toNatClampNeg), .int (1 : Int32), .int (xs (nI (5 * k) + (3 : Int32)).toNatClampNeg), .int (xs (nI (5 * k) + (4 : Int32)).toNatClampNeg)] [.int r1] (ok_X7_lacks hI h7 h) (cw_RL_65 _) rfl dc_X7_lacks ⟨Nat.le_of_ble_eq_true rfl, Nat.le_of_ble_eq_true rfl⟩ (isX7_lt h7) (isX7_sh h7) rfl rfl rfl rfl (Nat.le_of_ble_eq_true rfl) dL_law_565 (fun r2 m2 h => ?_)
      exact g_icmp_eq C 1261 dL_law_568 (by decide) (fun _ => fin _ h.2) (fun c => absurd h.1 c)
def St_eat (I : Nat → Mem → Prop) : Prop := ∀ (k : Nat) (μ : Mem) (p1 : Int32) (p2 : Int32), (p2 = 0 ∨ p2 = 1) → k < 512 → I k μ → PX6_eat 0 p1 p2 μ (fun r1 m1 => PX7_eat 100 p1 p2 m1 (fun r2 m2 => r1 = r2 ∧ I (k + 1) m2))
set_option maxRecDepth 20000 in
set_option maxHeartbeats 4000000 in
theorem law_c11 {X : XT} {Y : YT} {l0 : Launch} {hd : Cond} {b L k : Nat} {xs : Nat → Int32} {μ : Mem} {I : Nat → Mem → Prop} (C : Cx X Y 4 cL_law RL (hd :: GW) room_1 l0) (hSX : SX X b L xs) (hI : YI Y) (h6 : isX6 Y 0) (h7 : isX7 Y 100) (hst : St_eat I) (hk : k < 512) (hL : 5 * k + 5 ≤ L) (hLb : L ≤ 2560) (hinv : I k μ) (fin : ∀ μ' : Mem, I (k + 1) μ' → G X Y 4 1261 [(3, .int (nI (5 * k))), (2, .ref (Y.ad 100)), (1, .ref (Y.ad 0)), (0, .ref b)] [] μ') : G X Y 4 573 [(3, .int (nI (5 * k))), (2, .ref (Y.ad 100)), (1, .ref (Y.ad 0)), (0, .ref b)] [] μ := by
  refine g_aload_n C 2 dL_law_573 rfl ?_
  refine g_aload_n C 3 dL_law_574 rfl ?_
  refine g_iload_n C 0 dL_law_575 rfl ?_
  refine g_iconst C (v := (1 : Int32)) dL_law_576 (by decide) ?_
  refine g_iadd C dL_law_577 ?_
  refine g_scr C hSX (law_in 1 (by decide) hL hLb) dL_law_578 ?_
  refine g_aload_n C 3 dL_law_579 rfl ?_
  refine g_iload_n C 0 dL_law_580 rfl ?_
  refine g_iconst C (v := (2 : Int32)) dL_law_581 (by decide) ?_
  refine g_iadd C dL_law_582 ?_
  refine g_scr C hSX (law_in 2 (by decide) hL hLb) dL_law_583 ?_
  refine g_if_eq C 591 dL_law_584 (by decide) (fun c584 => ?_) (fun c584 => ?_)
  · refine g_iconst C (v := (0 : Int32)) dL_law_591 (by decide) ?_
    refine g_callVI C [.int (xs (nI (5 * k) + (1 : Int32)).toNatClampNeg), .int (0 : Int32)] [] (ok_X6_eat hI h6 (hst k μ (xs (nI (5 * k) + (1 : Int32)).toNatClampNeg) (0 : Int32) (Or.inl rfl) hk hinv)) (cw_RL_66 _) rfl dc_X6_eat ⟨Nat.le_of_ble_eq_true rfl, Nat.le_of_ble_eq_true rfl⟩ (isX6_lt h6) (isX6_sh h6) rfl rfl rfl rfl (Nat.le_of_ble_eq_true rfl) dL_law_592 (fun r1 m1 h => ?_)
    refine g_aload_n C 1 dL_law_595 rfl ?_
    refine g_aload_n C 3 dL_law_596 rfl ?_
    refine g_iload_n C 0 dL_law_597 rfl ?_
    refine g_iconst C (v := (1 : Int32)) dL_law_598 (by decide) ?_
    refine g_iadd C dL_law_599 ?_
    refine g_scr C hSX (law_in 1 (by decide) hL hLb) dL_law_600 ?_
    refine g_aload_n C 3 dL_law_601 rfl ?_
    refine g_iload_n C 0 dL_law_602 rfl ?_
    refine g_iconst C (v := (2 : Int32)) dL_law_603 (by decide) ?_
    refine g_iadd C dL_law_604 ?_
    refine g_scr C hSX (law_in 2 (by decide) hL hLb) dL_law_605 ?_
    refine g_if_eq C 613 dL_law_606 (by decide) (fun c606 => ?_) (fun c606 => ?_)
    · refine g_iconst C (v := (0 : Int32)) dL_law_613 (by decide) ?_
      refine g_callVI C [.int (xs (nI (5 * k) + (1 : Int32)).toNatClampNeg), .int (0 : Int32)] [.int r1] (ok_X7_eat hI h7 h) (cw_RL_69 _) rfl dc_X7_eat ⟨Nat.le_of_ble_eq_true rfl, Nat.le_of_ble_eq_true rfl⟩ (isX7_lt h7) (isX7_sh h7) rfl rfl rfl rfl (Nat.le_of_ble_eq_true rfl) dL_law_614 (fun r2 m2 h => ?_)
      exact g_icmp_eq C 1261 dL_law_617 (by decide) (fun _ => fin _ h.2) (fun c => absurd h.1 c)
    · exact absurd c584 c606
  · refine g_iconst C (v := (1 : Int32)) dL_law_587 (by decide) ?_
    refine g_goto C 592 dL_law_588 (by decide) ?_
    refine g_callVI C [.int (xs (nI (5 * k) + (1 : Int32)).toNatClampNeg), .int (1 : Int32)] [] (ok_X6_eat hI h6 (hst k μ (xs (nI (5 * k) + (1 : Int32)).toNatClampNeg) (1 : Int32) (Or.inr rfl) hk hinv)) (cw_RL_66 _) rfl dc_X6_eat ⟨Nat.le_of_ble_eq_true rfl, Nat.le_of_ble_eq_true rfl⟩ (isX6_lt h6) (isX6_sh h6) rfl rfl rfl rfl (Nat.le_of_ble_eq_true rfl) dL_law_592 (fun r1 m1 h => ?_)
    refine g_aload_n C 1 dL_law_595 rfl ?_
    refine g_aload_n C 3 dL_law_596 rfl ?_
    refine g_iload_n C 0 dL_law_597 rfl ?_
    refine g_iconst C (v := (1 : Int32)) dL_law_598 (by decide) ?_
    refine g_iadd C dL_law_599 ?_
    refine g_scr C hSX (law_in 1 (by decide) hL hLb) dL_law_600 ?_
    refine g_aload_n C 3 dL_law_601 rfl ?_
    refine g_iload_n C 0 dL_law_602 rfl ?_
    refine g_iconst C (v := (2 : Int32)) dL_law_603 (by decide) ?_
    refine g_iadd C dL_law_604 ?_
    refine g_scr C hSX (law_in 2 (by decide) hL hLb) dL_law_605 ?_
    refine g_if_eq C 613 dL_law_606 (by decide) (fun c606 => ?_) (fun c606 => ?_)
    · exact absurd c606 c584
    · refine g_iconst C (v := (1 : Int32)) dL_law_609 (by decide) ?_
      refine g_goto C 614 dL_law_610 (by decide) ?_
      refine g_callVI C [.int (xs (nI (5 * k) + (1 : Int32)).toNatClampNeg), .int (1 : Int32)] [.int r1] (ok_X7_eat hI h7 h) (cw_RL_69 _) rfl dc_X7_eat ⟨Nat.le_of_ble_eq_true rfl, Nat.le_of_ble_eq_true rfl⟩ (isX7_lt h7) (isX7_sh h7) rfl rfl rfl rfl (Nat.le_of_ble_eq_true rfl) dL_law_614 (fun r2 m2 h => ?_)
      exact g_icmp_eq C 1261 dL_law_617 (by decide) (fun _ => fin _ h.2) (fun c => absurd h.1 c)
def St_night (I : Nat → Mem → Prop) : Prop := ∀ (k : Nat) (μ : Mem) , k < 512 → I k μ → PX6_night 0 μ (fun r1 m1 => PX7_night 100 m1 (fun r2 m2 => r1 = r2 ∧ I (k + 1) m2))
set_option maxRecDepth 20000 in
set_option maxHeartbeats 4000000 in
theorem law_c12 {X : XT} {Y : YT} {l0 : Launch} {hd : Cond} {b L k : Nat} {xs : Nat → Int32} {μ : Mem} {I : Nat → Mem → Prop} (C : Cx X Y 4 cL_law RL (hd :: GW) room_1 l0) (hSX : SX X b L xs) (hI : YI Y) (h6 : isX6 Y 0) (h7 : isX7 Y 100) (hst : St_night I) (hk : k < 512) (hL : 5 * k + 5 ≤ L) (hLb : L ≤ 2560) (hinv : I k μ) (fin : ∀ μ' : Mem, I (k + 1) μ' → G X Y 4 1261 [(3, .int (nI (5 * k))), (2, .ref (Y.ad 100)), (1, .ref (Y.ad 0)), (0, .ref b)] [] μ') : G X Y 4 622 [(3, .int (nI (5 * k))), (2, .ref (Y.ad 100)), (1, .ref (Y.ad 0)), (0, .ref b)] [] μ := by
  refine g_aload_n C 2 dL_law_622 rfl ?_
  refine g_callVI C [] [] (ok_X6_night hI h6 (hst k μ  hk hinv)) (cw_RL_70 _) rfl dc_X6_night ⟨Nat.le_of_ble_eq_true rfl, Nat.le_of_ble_eq_true rfl⟩ (isX6_lt h6) (isX6_sh h6) rfl rfl rfl rfl (Nat.le_of_ble_eq_true rfl) dL_law_623 (fun r1 m1 h => ?_)
  refine g_aload_n C 1 dL_law_626 rfl ?_
  refine g_callVI C [] [.int r1] (ok_X7_night hI h7 h) (cw_RL_73 _) rfl dc_X7_night ⟨Nat.le_of_ble_eq_true rfl, Nat.le_of_ble_eq_true rfl⟩ (isX7_lt h7) (isX7_sh h7) rfl rfl rfl rfl (Nat.le_of_ble_eq_true rfl) dL_law_627 (fun r2 m2 h => ?_)
  exact g_icmp_eq C 1261 dL_law_630 (by decide) (fun _ => fin _ h.2) (fun c => absurd h.1 c)
def St_now (I : Nat → Mem → Prop) : Prop := ∀ (k : Nat) (μ : Mem) (p1 : Int32), k < 512 → I k μ → PX6_now 0 p1 μ (fun r1 m1 => PX7_now 100 p1 m1 (fun r2 m2 => r1 = r2 ∧ I (k + 1) m2))
set_option maxRecDepth 20000 in
set_option maxHeartbeats 4000000 in
theorem law_c13 {X : XT} {Y : YT} {l0 : Launch} {hd : Cond} {b L k : Nat} {xs : Nat → Int32} {μ : Mem} {I : Nat → Mem → Prop} (C : Cx X Y 4 cL_law RL (hd :: GW) room_1 l0) (hSX : SX X b L xs) (hI : YI Y) (h6 : isX6 Y 0) (h7 : isX7 Y 100) (hst : St_now I) (hk : k < 512) (hL : 5 * k + 5 ≤ L) (hLb : L ≤ 2560) (hinv : I k μ) (fin : ∀ μ' : Mem, I (k + 1) μ' → G X Y 4 1261 [(3, .int (nI (5 * k))), (2, .ref (Y.ad 100)), (1, .ref (Y.ad 0)), (0, .ref b)] [] μ') : G X Y 4 635 [(3, .int (nI (5 * k))), (2, .ref (Y.ad 100)), (1, .ref (Y.ad 0)), (0, .ref b)] [] μ := by
  refine g_aload_n C 2 dL_law_635 rfl ?_
  refine g_aload_n C 3 dL_law_636 rfl ?_
  refine g_iload_n C 0 dL_law_637 rfl ?_
  refine g_iconst C (v := (1 : Int32)) dL_law_638 (by decide) ?_
  refine g_iadd C dL_law_639 ?_
  refine g_scr C hSX (law_in 1 (by decide) hL hLb) dL_law_640 ?_
  refine g_callVI C [.int (xs (nI (5 * k) + (1 : Int32)).toNatClampNeg)] [] (ok_X6_now hI h6 (hst k μ (xs (nI (5 * k) + (1 : Int32)).toNatClampNeg) hk hinv)) (cw_RL_74 _) rfl dc_X6_now ⟨Nat.le_of_ble_eq_true rfl, Nat.le_of_ble_eq_true rfl⟩ (isX6_lt h6) (isX6_sh h6) rfl rfl rfl rfl (Nat.le_of_ble_eq_true rfl) dL_law_641 (fun r1 m1 h => ?_)
  refine g_aload_n C 1 dL_law_644 rfl ?_
  refine g_aload_n C 3 dL_law_645 rfl ?_
  refine g_iload_n C 0 dL_law_646 rfl ?_
  refine g_iconst C (v := (1 : Int32)) dL_law_647 (by decide) ?_
  refine g_iadd C dL_law_648 ?_
  refine g_scr C hSX (law_in 1 (by decide) hL hLb) dL_law_649 ?_
  refine g_callVI C [.int (xs (nI (5 * k) + (1 : Int32)).toNatClampNeg)] [.int r1] (ok_X7_now hI h7 h) (cw_RL_77 _) rfl dc_X7_now ⟨Nat.le_of_ble_eq_true rfl, Nat.le_of_ble_eq_true rfl⟩ (isX7_lt h7) (isX7_sh h7) rfl rfl rfl rfl (Nat.le_of_ble_eq_true rfl) dL_law_650 (fun r2 m2 h => ?_)
  exact g_icmp_eq C 1261 dL_law_653 (by decide) (fun _ => fin _ h.2) (fun c => absurd h.1 c)
def St_last (I : Nat → Mem → Prop) : Prop := ∀ (k : Nat) (μ : Mem) (p1 : Int32), k < 512 → I k μ → PX6_last 0 p1 μ (fun r1 m1 => PX7_last 100 p1 m1 (fun r2 m2 => r1 = r2 ∧ I (k + 1) m2))
set_option maxRecDepth 20000 in
set_option maxHeartbeats 4000000 in
theorem law_c14 {X : XT} {Y : YT} {l0 : Launch} {hd : Cond} {b L k : Nat} {xs : Nat → Int32} {μ : Mem} {I : Nat → Mem → Prop} (C : Cx X Y 4 cL_law RL (hd :: GW) room_1 l0) (hSX : SX X b L xs) (hI : YI Y) (h6 : isX6 Y 0) (h7 : isX7 Y 100) (hst : St_last I) (hk : k < 512) (hL : 5 * k + 5 ≤ L) (hLb : L ≤ 2560) (hinv : I k μ) (fin : ∀ μ' : Mem, I (k + 1) μ' → G X Y 4 1261 [(3, .int (nI (5 * k))), (2, .ref (Y.ad 100)), (1, .ref (Y.ad 0)), (0, .ref b)] [] μ') : G X Y 4 658 [(3, .int (nI (5 * k))), (2, .ref (Y.ad 100)), (1, .ref (Y.ad 0)), (0, .ref b)] [] μ := by
  refine g_aload_n C 2 dL_law_658 rfl ?_
  refine g_aload_n C 3 dL_law_659 rfl ?_
  refine g_iload_n C 0 dL_law_660 rfl ?_
  refine g_iconst C (v := (1 : Int32)) dL_law_661 (by decide) ?_
  refine g_iadd C dL_law_662 ?_
  refine g_scr C hSX (law_in 1 (by decide) hL hLb) dL_law_663 ?_
  refine g_callVI C [.int (xs (nI (5 * k) + (1 : Int32)).toNatClampNeg)] [] (ok_X6_last hI h6 (hst k μ (xs (nI (5 * k) + (1 : Int32)).toNatClampNeg) hk hinv)) (cw_RL_78 _) rfl dc_X6_last ⟨Nat.le_of_ble_eq_true rfl, Nat.le_of_ble_eq_true rfl⟩ (isX6_lt h6) (isX6_sh h6) rfl rfl rfl rfl (Nat.le_of_ble_eq_true rfl) dL_law_664 (fun r1 m1 h => ?_)
  refine g_aload_n C 1 dL_law_667 rfl ?_
  refine g_aload_n C 3 dL_law_668 rfl ?_
  refine g_iload_n C 0 dL_law_669 rfl ?_
  refine g_iconst C (v := (1 : Int32)) dL_law_670 (by decide) ?_
  refine g_iadd C dL_law_671 ?_
  refine g_scr C hSX (law_in 1 (by decide) hL hLb) dL_law_672 ?_
  refine g_callVI C [.int (xs (nI (5 * k) + (1 : Int32)).toNatClampNeg)] [.int r1] (ok_X7_last hI h7 h) (cw_RL_81 _) rfl dc_X7_last ⟨Nat.le_of_ble_eq_true rfl, Nat.le_of_ble_eq_true rfl⟩ (isX7_lt h7) (isX7_sh h7) rfl rfl rfl rfl (Nat.le_of_ble_eq_true rfl) dL_law_673 (fun r2 m2 h => ?_)
  exact g_icmp_eq C 1261 dL_law_676 (by decide) (fun _ => fin _ h.2) (fun c => absurd h.1 c)
def St_keep (I : Nat → Mem → Prop) : Prop := ∀ (k : Nat) (μ : Mem) (p1 : Int32), k < 512 → I k μ → PX6_keep 0 p1 μ (fun r1 m1 => PX7_keep 100 p1 m1 (fun r2 m2 => r1 = r2 ∧ I (k + 1) m2))
set_option maxRecDepth 20000 in
set_option maxHeartbeats 4000000 in
theorem law_c15 {X : XT} {Y : YT} {l0 : Launch} {hd : Cond} {b L k : Nat} {xs : Nat → Int32} {μ : Mem} {I : Nat → Mem → Prop} (C : Cx X Y 4 cL_law RL (hd :: GW) room_1 l0) (hSX : SX X b L xs) (hI : YI Y) (h6 : isX6 Y 0) (h7 : isX7 Y 100) (hst : St_keep I) (hk : k < 512) (hL : 5 * k + 5 ≤ L) (hLb : L ≤ 2560) (hinv : I k μ) (fin : ∀ μ' : Mem, I (k + 1) μ' → G X Y 4 1261 [(3, .int (nI (5 * k))), (2, .ref (Y.ad 100)), (1, .ref (Y.ad 0)), (0, .ref b)] [] μ') : G X Y 4 681 [(3, .int (nI (5 * k))), (2, .ref (Y.ad 100)), (1, .ref (Y.ad 0)), (0, .ref b)] [] μ := by
  refine g_aload_n C 2 dL_law_681 rfl ?_
  refine g_aload_n C 3 dL_law_682 rfl ?_
  refine g_iload_n C 0 dL_law_683 rfl ?_
  refine g_iconst C (v := (1 : Int32)) dL_law_684 (by decide) ?_
  refine g_iadd C dL_law_685 ?_
  refine g_scr C hSX (law_in 1 (by decide) hL hLb) dL_law_686 ?_
  refine g_callVI C [.int (xs (nI (5 * k) + (1 : Int32)).toNatClampNeg)] [] (ok_X6_keep hI h6 (hst k μ (xs (nI (5 * k) + (1 : Int32)).toNatClampNeg) hk hinv)) (cw_RL_82 _) rfl dc_X6_keep ⟨Nat.le_of_ble_eq_true rfl, Nat.le_of_ble_eq_true rfl⟩ (isX6_lt h6) (isX6_sh h6) rfl rfl rfl rfl (Nat.le_of_ble_eq_true rfl) dL_law_687 (fun r1 m1 h => ?_)
  refine g_aload_n C 1 dL_law_690 rfl ?_
  refine g_aload_n C 3 dL_law_691 rfl ?_
  refine g_iload_n C 0 dL_law_692 rfl ?_
  refine g_iconst C (v := (1 : Int32)) dL_law_693 (by decide) ?_
  refine g_iadd C dL_law_694 ?_
  refine g_scr C hSX (law_in 1 (by decide) hL hLb) dL_law_695 ?_
  refine g_callVI C [.int (xs (nI (5 * k) + (1 : Int32)).toNatClampNeg)] [.int r1] (ok_X7_keep hI h7 h) (cw_RL_85 _) rfl dc_X7_keep ⟨Nat.le_of_ble_eq_true rfl, Nat.le_of_ble_eq_true rfl⟩ (isX7_lt h7) (isX7_sh h7) rfl rfl rfl rfl (Nat.le_of_ble_eq_true rfl) dL_law_696 (fun r2 m2 h => ?_)
  exact g_icmp_eq C 1261 dL_law_699 (by decide) (fun _ => fin _ h.2) (fun c => absurd h.1 c)
def St_back (I : Nat → Mem → Prop) : Prop := ∀ (k : Nat) (μ : Mem) (p1 : Int32), k < 512 → I k μ → PX6_back 0 p1 μ (fun r1 m1 => PX7_back 100 p1 m1 (fun r2 m2 => r1 = r2 ∧ I (k + 1) m2))
set_option maxRecDepth 20000 in
set_option maxHeartbeats 4000000 in
theorem law_c16 {X : XT} {Y : YT} {l0 : Launch} {hd : Cond} {b L k : Nat} {xs : Nat → Int32} {μ : Mem} {I : Nat → Mem → Prop} (C : Cx X Y 4 cL_law RL (hd :: GW) room_1 l0) (hSX : SX X b L xs) (hI : YI Y) (h6 : isX6 Y 0) (h7 : isX7 Y 100) (hst : St_back I) (hk : k < 512) (hL : 5 * k + 5 ≤ L) (hLb : L ≤ 2560) (hinv : I k μ) (fin : ∀ μ' : Mem, I (k + 1) μ' → G X Y 4 1261 [(3, .int (nI (5 * k))), (2, .ref (Y.ad 100)), (1, .ref (Y.ad 0)), (0, .ref b)] [] μ') : G X Y 4 704 [(3, .int (nI (5 * k))), (2, .ref (Y.ad 100)), (1, .ref (Y.ad 0)), (0, .ref b)] [] μ := by
  refine g_aload_n C 2 dL_law_704 rfl ?_
  refine g_aload_n C 3 dL_law_705 rfl ?_
  refine g_iload_n C 0 dL_law_706 rfl ?_
  refine g_iconst C (v := (1 : Int32)) dL_law_707 (by decide) ?_
  refine g_iadd C dL_law_708 ?_
  refine g_scr C hSX (law_in 1 (by decide) hL hLb) dL_law_709 ?_
  refine g_callVI C [.int (xs (nI (5 * k) + (1 : Int32)).toNatClampNeg)] [] (ok_X6_back hI h6 (hst k μ (xs (nI (5 * k) + (1 : Int32)).toNatClampNeg) hk hinv)) (cw_RL_86 _) rfl dc_X6_back ⟨Nat.le_of_ble_eq_true rfl, Nat.le_of_ble_eq_true rfl⟩ (isX6_lt h6) (isX6_sh h6) rfl rfl rfl rfl (Nat.le_of_ble_eq_true rfl) dL_law_710 (fun r1 m1 h => ?_)
  refine g_aload_n C 1 dL_law_713 rfl ?_
  refine g_aload_n C 3 dL_law_714 rfl ?_
  refine g_iload_n C 0 dL_law_715 rfl ?_
  refine g_iconst C (v := (1 : Int32)) dL_law_716 (by decide) ?_
  refine g_iadd C dL_law_717 ?_
  refine g_scr C hSX (law_in 1 (by decide) hL hLb) dL_law_718 ?_
  refine g_callVI C [.int (xs (nI (5 * k) + (1 : Int32)).toNatClampNeg)] [.int r1] (ok_X7_back hI h7 h) (cw_RL_89 _) rfl dc_X7_back ⟨Nat.le_of_ble_eq_true rfl, Nat.le_of_ble_eq_true rfl⟩ (isX7_lt h7) (isX7_sh h7) rfl rfl rfl rfl (Nat.le_of_ble_eq_true rfl) dL_law_719 (fun r2 m2 h => ?_)
  exact g_icmp_eq C 1261 dL_law_722 (by decide) (fun _ => fin _ h.2) (fun c => absurd h.1 c)
def St_day (I : Nat → Mem → Prop) : Prop := ∀ (k : Nat) (μ : Mem) (p1 : Int32), k < 512 → I k μ → PX6_day 0 p1 μ (fun r1 m1 => PX7_day 100 p1 m1 (fun r2 m2 => r1 = r2 ∧ I (k + 1) m2))
set_option maxRecDepth 20000 in
set_option maxHeartbeats 4000000 in
theorem law_c17 {X : XT} {Y : YT} {l0 : Launch} {hd : Cond} {b L k : Nat} {xs : Nat → Int32} {μ : Mem} {I : Nat → Mem → Prop} (C : Cx X Y 4 cL_law RL (hd :: GW) room_1 l0) (hSX : SX X b L xs) (hI : YI Y) (h6 : isX6 Y 0) (h7 : isX7 Y 100) (hst : St_day I) (hk : k < 512) (hL : 5 * k + 5 ≤ L) (hLb : L ≤ 2560) (hinv : I k μ) (fin : ∀ μ' : Mem, I (k + 1) μ' → G X Y 4 1261 [(3, .int (nI (5 * k))), (2, .ref (Y.ad 100)), (1, .ref (Y.ad 0)), (0, .ref b)] [] μ') : G X Y 4 727 [(3, .int (nI (5 * k))), (2, .ref (Y.ad 100)), (1, .ref (Y.ad 0)), (0, .ref b)] [] μ := by
  refine g_aload_n C 2 dL_law_727 rfl ?_
  refine g_aload_n C 3 dL_law_728 rfl ?_
  refine g_iload_n C 0 dL_law_729 rfl ?_
  refine g_iconst C (v := (1 : Int32)) dL_law_730 (by decide) ?_
  refine g_iadd C dL_law_731 ?_
  refine g_scr C hSX (law_in 1 (by decide) hL hLb) dL_law_732 ?_
  refine g_callVI C [.int (xs (nI (5 * k) + (1 : Int32)).toNatClampNeg)] [] (ok_X6_day hI h6 (hst k μ (xs (nI (5 * k) + (1 : Int32)).toNatClampNeg) hk hinv)) (cw_RL_90 _) rfl dc_X6_day ⟨Nat.le_of_ble_eq_true rfl, Nat.le_of_ble_eq_true rfl⟩ (isX6_lt h6) (isX6_sh h6) rfl rfl rfl rfl (Nat.le_of_ble_eq_true rfl) dL_law_733 (fun r1 m1 h => ?_)
  refine g_aload_n C 1 dL_law_736 rfl ?_
  refine g_aload_n C 3 dL_law_737 rfl ?_
  refine g_iload_n C 0 dL_law_738 rfl ?_
  refine g_iconst C (v := (1 : Int32)) dL_law_739 (by decide) ?_
  refine g_iadd C dL_law_740 ?_
  refine g_scr C hSX (law_in 1 (by decide) hL hLb) dL_law_741 ?_
  refine g_callVI C [.int (xs (nI (5 * k) + (1 : Int32)).toNatClampNeg)] [.int r1] (ok_X7_day hI h7 h) (cw_RL_93 _) rfl dc_X7_day ⟨Nat.le_of_ble_eq_true rfl, Nat.le_of_ble_eq_true rfl⟩ (isX7_lt h7) (isX7_sh h7) rfl rfl rfl rfl (Nat.le_of_ble_eq_true rfl) dL_law_742 (fun r2 m2 h => ?_)
  exact g_icmp_eq C 1261 dL_law_745 (by decide) (fun _ => fin _ h.2) (fun c => absurd h.1 c)
def St_clear (I : Nat → Mem → Prop) : Prop := ∀ (k : Nat) (μ : Mem) , k < 512 → I k μ → PX6_clear 0 μ (fun r1 m1 => PX7_clear 100 m1 (fun r2 m2 => r1 = r2 ∧ I (k + 1) m2))
set_option maxRecDepth 20000 in
set_option maxHeartbeats 4000000 in
theorem law_c18 {X : XT} {Y : YT} {l0 : Launch} {hd : Cond} {b L k : Nat} {xs : Nat → Int32} {μ : Mem} {I : Nat → Mem → Prop} (C : Cx X Y 4 cL_law RL (hd :: GW) room_1 l0) (hSX : SX X b L xs) (hI : YI Y) (h6 : isX6 Y 0) (h7 : isX7 Y 100) (hst : St_clear I) (hk : k < 512) (hL : 5 * k + 5 ≤ L) (hLb : L ≤ 2560) (hinv : I k μ) (fin : ∀ μ' : Mem, I (k + 1) μ' → G X Y 4 1261 [(3, .int (nI (5 * k))), (2, .ref (Y.ad 100)), (1, .ref (Y.ad 0)), (0, .ref b)] [] μ') : G X Y 4 750 [(3, .int (nI (5 * k))), (2, .ref (Y.ad 100)), (1, .ref (Y.ad 0)), (0, .ref b)] [] μ := by
  refine g_aload_n C 2 dL_law_750 rfl ?_
  refine g_callVI C [] [] (ok_X6_clear hI h6 (hst k μ  hk hinv)) (cw_RL_94 _) rfl dc_X6_clear ⟨Nat.le_of_ble_eq_true rfl, Nat.le_of_ble_eq_true rfl⟩ (isX6_lt h6) (isX6_sh h6) rfl rfl rfl rfl (Nat.le_of_ble_eq_true rfl) dL_law_751 (fun r1 m1 h => ?_)
  refine g_aload_n C 1 dL_law_754 rfl ?_
  refine g_callVI C [] [.int r1] (ok_X7_clear hI h7 h) (cw_RL_97 _) rfl dc_X7_clear ⟨Nat.le_of_ble_eq_true rfl, Nat.le_of_ble_eq_true rfl⟩ (isX7_lt h7) (isX7_sh h7) rfl rfl rfl rfl (Nat.le_of_ble_eq_true rfl) dL_law_755 (fun r2 m2 h => ?_)
  exact g_icmp_eq C 1261 dL_law_758 (by decide) (fun _ => fin _ h.2) (fun c => absurd h.1 c)
def St_row (I : Nat → Mem → Prop) : Prop := ∀ (k : Nat) (μ : Mem) (p1 : Int32), k < 512 → I k μ → PX6_row 0 p1 μ (fun r1 m1 => PX7_row 100 p1 m1 (fun r2 m2 => r1 = r2 ∧ I (k + 1) m2))
set_option maxRecDepth 20000 in
set_option maxHeartbeats 4000000 in
theorem law_c19 {X : XT} {Y : YT} {l0 : Launch} {hd : Cond} {b L k : Nat} {xs : Nat → Int32} {μ : Mem} {I : Nat → Mem → Prop} (C : Cx X Y 4 cL_law RL (hd :: GW) room_1 l0) (hSX : SX X b L xs) (hI : YI Y) (h6 : isX6 Y 0) (h7 : isX7 Y 100) (hst : St_row I) (hk : k < 512) (hL : 5 * k + 5 ≤ L) (hLb : L ≤ 2560) (hinv : I k μ) (fin : ∀ μ' : Mem, I (k + 1) μ' → G X Y 4 1261 [(3, .int (nI (5 * k))), (2, .ref (Y.ad 100)), (1, .ref (Y.ad 0)), (0, .ref b)] [] μ') : G X Y 4 763 [(3, .int (nI (5 * k))), (2, .ref (Y.ad 100)), (1, .ref (Y.ad 0)), (0, .ref b)] [] μ := by
  refine g_aload_n C 2 dL_law_763 rfl ?_
  refine g_aload_n C 3 dL_law_764 rfl ?_
  refine g_iload_n C 0 dL_law_765 rfl ?_
  refine g_iconst C (v := (1 : Int32)) dL_law_766 (by decide) ?_
  refine g_iadd C dL_law_767 ?_
  refine g_scr C hSX (law_in 1 (by decide) hL hLb) dL_law_768 ?_
  refine g_callVI C [.int (xs (nI (5 * k) + (1 : Int32)).toNatClampNeg)] [] (ok_X6_row hI h6 (hst k μ (xs (nI (5 * k) + (1 : Int32)).toNatClampNeg) hk hinv)) (cw_RL_98 _) rfl dc_X6_row ⟨Nat.le_of_ble_eq_true rfl, Nat.le_of_ble_eq_true rfl⟩ (isX6_lt h6) (isX6_sh h6) rfl rfl rfl rfl (Nat.le_of_ble_eq_true rfl) dL_law_769 (fun r1 m1 h => ?_)
  refine g_aload_n C 1 dL_law_772 rfl ?_
  refine g_aload_n C 3 dL_law_773 rfl ?_
  refine g_iload_n C 0 dL_law_774 rfl ?_
  refine g_iconst C (v := (1 : Int32)) dL_law_775 (by decide) ?_
  refine g_iadd C dL_law_776 ?_
  refine g_scr C hSX (law_in 1 (by decide) hL hLb) dL_law_777 ?_
  refine g_callVI C [.int (xs (nI (5 * k) + (1 : Int32)).toNatClampNeg)] [.int r1] (ok_X7_row hI h7 h) (cw_RL_101 _) rfl dc_X7_row ⟨Nat.le_of_ble_eq_true rfl, Nat.le_of_ble_eq_true rfl⟩ (isX7_lt h7) (isX7_sh h7) rfl rfl rfl rfl (Nat.le_of_ble_eq_true rfl) dL_law_778 (fun r2 m2 h => ?_)
  exact g_icmp_eq C 1261 dL_law_781 (by decide) (fun _ => fin _ h.2) (fun c => absurd h.1 c)
def St_bears (I : Nat → Mem → Prop) : Prop := ∀ (k : Nat) (μ : Mem) (p1 : Int32), k < 512 → I k μ → PX6_bears 0 p1 μ (fun r1 m1 => PX7_bears 100 p1 m1 (fun r2 m2 => r1 = r2 ∧ I (k + 1) m2))
set_option maxRecDepth 20000 in
set_option maxHeartbeats 4000000 in
theorem law_c20 {X : XT} {Y : YT} {l0 : Launch} {hd : Cond} {b L k : Nat} {xs : Nat → Int32} {μ : Mem} {I : Nat → Mem → Prop} (C : Cx X Y 4 cL_law RL (hd :: GW) room_1 l0) (hSX : SX X b L xs) (hI : YI Y) (h6 : isX6 Y 0) (h7 : isX7 Y 100) (hst : St_bears I) (hk : k < 512) (hL : 5 * k + 5 ≤ L) (hLb : L ≤ 2560) (hinv : I k μ) (fin : ∀ μ' : Mem, I (k + 1) μ' → G X Y 4 1261 [(3, .int (nI (5 * k))), (2, .ref (Y.ad 100)), (1, .ref (Y.ad 0)), (0, .ref b)] [] μ') : G X Y 4 786 [(3, .int (nI (5 * k))), (2, .ref (Y.ad 100)), (1, .ref (Y.ad 0)), (0, .ref b)] [] μ := by
  refine g_aload_n C 2 dL_law_786 rfl ?_
  refine g_aload_n C 3 dL_law_787 rfl ?_
  refine g_iload_n C 0 dL_law_788 rfl ?_
  refine g_iconst C (v := (1 : Int32)) dL_law_789 (by decide) ?_
  refine g_iadd C dL_law_790 ?_
  refine g_scr C hSX (law_in 1 (by decide) hL hLb) dL_law_791 ?_
  refine g_callVI C [.int (xs (nI (5 * k) + (1 : Int32)).toNatClampNeg)] [] (ok_X6_bears hI h6 (hst k μ (xs (nI (5 * k) + (1 : Int32)).toNatClampNeg) hk hinv)) (cw_RL_102 _) rfl dc_X6_bears ⟨Nat.le_of_ble_eq_true rfl, Nat.le_of_ble_eq_true rfl⟩ (isX6_lt h6) (isX6_sh h6) rfl rfl rfl rfl (Nat.le_of_ble_eq_true rfl) dL_law_792 (fun r1 m1 h => ?_)
  refine g_aload_n C 1 dL_law_795 rfl ?_
  refine g_aload_n C 3 dL_law_796 rfl ?_
  refine g_iload_n C 0 dL_law_797 rfl ?_
  refine g_iconst C (v := (1 : Int32)) dL_law_798 (by decide) ?_
  refine g_iadd C dL_law_799 ?_
  refine g_scr C hSX (law_in 1 (by decide) hL hLb) dL_law_800 ?_
  refine g_callVI C [.int (xs (nI (5 * k) + (1 : Int32)).toNatClampNeg)] [.int r1] (ok_X7_bears hI h7 h) (cw_RL_105 _) rfl dc_X7_bears ⟨Nat.le_of_ble_eq_true rfl, Nat.le_of_ble_eq_true rfl⟩ (isX7_lt h7) (isX7_sh h7) rfl rfl rfl rfl (Nat.le_of_ble_eq_true rfl) dL_law_801 (fun r2 m2 h => ?_)
  exact g_icmp_eq C 1261 dL_law_804 (by decide) (fun _ => fin _ h.2) (fun c => absurd h.1 c)
def St_best (I : Nat → Mem → Prop) : Prop := ∀ (k : Nat) (μ : Mem) (p1 : Int32) (p2 : Int32), k < 512 → I k μ → PX6_best 0 p1 p2 μ (fun r1 m1 => PX7_best 100 p1 p2 m1 (fun r2 m2 => r1 = r2 ∧ I (k + 1) m2))
set_option maxRecDepth 20000 in
set_option maxHeartbeats 4000000 in
theorem law_c21 {X : XT} {Y : YT} {l0 : Launch} {hd : Cond} {b L k : Nat} {xs : Nat → Int32} {μ : Mem} {I : Nat → Mem → Prop} (C : Cx X Y 4 cL_law RL (hd :: GW) room_1 l0) (hSX : SX X b L xs) (hI : YI Y) (h6 : isX6 Y 0) (h7 : isX7 Y 100) (hst : St_best I) (hk : k < 512) (hL : 5 * k + 5 ≤ L) (hLb : L ≤ 2560) (hinv : I k μ) (fin : ∀ μ' : Mem, I (k + 1) μ' → G X Y 4 1261 [(3, .int (nI (5 * k))), (2, .ref (Y.ad 100)), (1, .ref (Y.ad 0)), (0, .ref b)] [] μ') : G X Y 4 809 [(3, .int (nI (5 * k))), (2, .ref (Y.ad 100)), (1, .ref (Y.ad 0)), (0, .ref b)] [] μ := by
  refine g_aload_n C 2 dL_law_809 rfl ?_
  refine g_aload_n C 3 dL_law_810 rfl ?_
  refine g_iload_n C 0 dL_law_811 rfl ?_
  refine g_iconst C (v := (1 : Int32)) dL_law_812 (by decide) ?_
  refine g_iadd C dL_law_813 ?_
  refine g_scr C hSX (law_in 1 (by decide) hL hLb) dL_law_814 ?_
  refine g_aload_n C 3 dL_law_815 rfl ?_
  refine g_iload_n C 0 dL_law_816 rfl ?_
  refine g_iconst C (v := (2 : Int32)) dL_law_817 (by decide) ?_
  refine g_iadd C dL_law_818 ?_
  refine g_scr C hSX (law_in 2 (by decide) hL hLb) dL_law_819 ?_
  refine g_callVI C [.int (xs (nI (5 * k) + (1 : Int32)).toNatClampNeg), .int (xs (nI (5 * k) + (2 : Int32)).toNatClampNeg)] [] (ok_X6_best hI h6 (hst k μ (xs (nI (5 * k) + (1 : Int32)).toNatClampNeg) (xs (nI (5 * k) + (2 : Int32)).toNatClampNeg) hk hinv)) (cw_RL_106 _) rfl dc_X6_best ⟨Nat.le_of_ble_eq_true rfl, Nat.le_of_ble_eq_true rfl⟩ (isX6_lt h6) (isX6_sh h6) rfl rfl rfl rfl (Nat.le_of_ble_eq_true rfl) dL_law_820 (fun r1 m1 h => ?_)
  refine g_aload_n C 1 dL_law_823 rfl ?_
  refine g_aload_n C 3 dL_law_824 rfl ?_
  refine g_iload_n C 0 dL_law_825 rfl ?_
  refine g_iconst C (v := (1 : Int32)) dL_law_826 (by decide) ?_
  refine g_iadd C dL_law_827 ?_
  refine g_scr C hSX (law_in 1 (by decide) hL hLb) dL_law_828 ?_
  refine g_aload_n C 3 dL_law_829 rfl ?_
  refine g_iload_n C 0 dL_law_830 rfl ?_
  refine g_iconst C (v := (2 : Int32)) dL_law_831 (by decide) ?_
  refine g_iadd C dL_law_832 ?_
  refine g_scr C hSX (law_in 2 (by decide) hL hLb) dL_law_833 ?_
  refine g_callVI C [.int (xs (nI (5 * k) + (1 : Int32)).toNatClampNeg), .int (xs (nI (5 * k) + (2 : Int32)).toNatClampNeg)] [.int r1] (ok_X7_best hI h7 h) (cw_RL_109 _) rfl dc_X7_best ⟨Nat.le_of_ble_eq_true rfl, Nat.le_of_ble_eq_true rfl⟩ (isX7_lt h7) (isX7_sh h7) rfl rfl rfl rfl (Nat.le_of_ble_eq_true rfl) dL_law_834 (fun r2 m2 h => ?_)
  exact g_icmp_eq C 1261 dL_law_837 (by decide) (fun _ => fin _ h.2) (fun c => absurd h.1 c)
def St_fairest (I : Nat → Mem → Prop) : Prop := ∀ (k : Nat) (μ : Mem) (p1 : Int32) (p2 : Int32), k < 512 → I k μ → PX6_fairest 0 p1 p2 μ (fun r1 m1 => PX7_fairest 100 p1 p2 m1 (fun r2 m2 => r1 = r2 ∧ I (k + 1) m2))
set_option maxRecDepth 20000 in
set_option maxHeartbeats 4000000 in
theorem law_c22 {X : XT} {Y : YT} {l0 : Launch} {hd : Cond} {b L k : Nat} {xs : Nat → Int32} {μ : Mem} {I : Nat → Mem → Prop} (C : Cx X Y 4 cL_law RL (hd :: GW) room_1 l0) (hSX : SX X b L xs) (hI : YI Y) (h6 : isX6 Y 0) (h7 : isX7 Y 100) (hst : St_fairest I) (hk : k < 512) (hL : 5 * k + 5 ≤ L) (hLb : L ≤ 2560) (hinv : I k μ) (fin : ∀ μ' : Mem, I (k + 1) μ' → G X Y 4 1261 [(3, .int (nI (5 * k))), (2, .ref (Y.ad 100)), (1, .ref (Y.ad 0)), (0, .ref b)] [] μ') : G X Y 4 842 [(3, .int (nI (5 * k))), (2, .ref (Y.ad 100)), (1, .ref (Y.ad 0)), (0, .ref b)] [] μ := by
  refine g_aload_n C 2 dL_law_842 rfl ?_
  refine g_aload_n C 3 dL_law_843 rfl ?_
  refine g_iload_n C 0 dL_law_844 rfl ?_
  refine g_iconst C (v := (1 : Int32)) dL_law_845 (by decide) ?_
  refine g_iadd C dL_law_846 ?_
  refine g_scr C hSX (law_in 1 (by decide) hL hLb) dL_law_847 ?_
  refine g_aload_n C 3 dL_law_848 rfl ?_
  refine g_iload_n C 0 dL_law_849 rfl ?_
  refine g_iconst C (v := (2 : Int32)) dL_law_850 (by decide) ?_
  refine g_iadd C dL_law_851 ?_
  refine g_scr C hSX (law_in 2 (by decide) hL hLb) dL_law_852 ?_
  refine g_callVI C [.int (xs (nI (5 * k) + (1 : Int32)).toNatClampNeg), .int (xs (nI (5 * k) + (2 : Int32)).toNatClampNeg)] [] (ok_X6_fairest hI h6 (hst k μ (xs (nI (5 * k) + (1 : Int32)).toNatClampNeg) (xs (nI (5 * k) + (2 : Int32)).toNatClampNeg) hk hinv)) (cw_RL_110 _) rfl dc_X6_fairest ⟨Nat.le_of_ble_eq_true rfl, Nat.le_of_ble_eq_true rfl⟩ (isX6_lt h6) (isX6_sh h6) rfl rfl rfl rfl (Nat.le_of_ble_eq_true rfl) dL_law_853 (fun r1 m1 h => ?_)
  refine g_aload_n C 1 dL_law_856 rfl ?_
  refine g_aload_n C 3 dL_law_857 rfl ?_
  refine g_iload_n C 0 dL_law_858 rfl ?_
  refine g_iconst C (v := (1 : Int32)) dL_law_859 (by decide) ?_
  refine g_iadd C dL_law_860 ?_
  refine g_scr C hSX (law_in 1 (by decide) hL hLb) dL_law_861 ?_
  refine g_aload_n C 3 dL_law_862 rfl ?_
  refine g_iload_n C 0 dL_law_863 rfl ?_
  refine g_iconst C (v := (2 : Int32)) dL_law_864 (by decide) ?_
  refine g_iadd C dL_law_865 ?_
  refine g_scr C hSX (law_in 2 (by decide) hL hLb) dL_law_866 ?_
  refine g_callVI C [.int (xs (nI (5 * k) + (1 : Int32)).toNatClampNeg), .int (xs (nI (5 * k) + (2 : Int32)).toNatClampNeg)] [.int r1] (ok_X7_fairest hI h7 h) (cw_RL_113 _) rfl dc_X7_fairest ⟨Nat.le_of_ble_eq_true rfl, Nat.le_of_ble_eq_true rfl⟩ (isX7_lt h7) (isX7_sh h7) rfl rfl rfl rfl (Nat.le_of_ble_eq_true rfl) dL_law_867 (fun r2 m2 h => ?_)
  exact g_icmp_eq C 1261 dL_law_870 (by decide) (fun _ => fin _ h.2) (fun c => absurd h.1 c)
def St_surest (I : Nat → Mem → Prop) : Prop := ∀ (k : Nat) (μ : Mem) (p1 : Int32) (p2 : Int32), k < 512 → I k μ → PX6_surest 0 p1 p2 μ (fun r1 m1 => PX7_surest 100 p1 p2 m1 (fun r2 m2 => r1 = r2 ∧ I (k + 1) m2))
set_option maxRecDepth 20000 in
set_option maxHeartbeats 4000000 in
theorem law_c23 {X : XT} {Y : YT} {l0 : Launch} {hd : Cond} {b L k : Nat} {xs : Nat → Int32} {μ : Mem} {I : Nat → Mem → Prop} (C : Cx X Y 4 cL_law RL (hd :: GW) room_1 l0) (hSX : SX X b L xs) (hI : YI Y) (h6 : isX6 Y 0) (h7 : isX7 Y 100) (hst : St_surest I) (hk : k < 512) (hL : 5 * k + 5 ≤ L) (hLb : L ≤ 2560) (hinv : I k μ) (fin : ∀ μ' : Mem, I (k + 1) μ' → G X Y 4 1261 [(3, .int (nI (5 * k))), (2, .ref (Y.ad 100)), (1, .ref (Y.ad 0)), (0, .ref b)] [] μ') : G X Y 4 875 [(3, .int (nI (5 * k))), (2, .ref (Y.ad 100)), (1, .ref (Y.ad 0)), (0, .ref b)] [] μ := by
  refine g_aload_n C 2 dL_law_875 rfl ?_
  refine g_aload_n C 3 dL_law_876 rfl ?_
  refine g_iload_n C 0 dL_law_877 rfl ?_
  refine g_iconst C (v := (1 : Int32)) dL_law_878 (by decide) ?_
  refine g_iadd C dL_law_879 ?_
  refine g_scr C hSX (law_in 1 (by decide) hL hLb) dL_law_880 ?_
  refine g_aload_n C 3 dL_law_881 rfl ?_
  refine g_iload_n C 0 dL_law_882 rfl ?_
  refine g_iconst C (v := (2 : Int32)) dL_law_883 (by decide) ?_
  refine g_iadd C dL_law_884 ?_
  refine g_scr C hSX (law_in 2 (by decide) hL hLb) dL_law_885 ?_
  refine g_callVI C [.int (xs (nI (5 * k) + (1 : Int32)).toNatClampNeg), .int (xs (nI (5 * k) + (2 : Int32)).toNatClampNeg)] [] (ok_X6_surest hI h6 (hst k μ (xs (nI (5 * k) + (1 : Int32)).toNatClampNeg) (xs (nI (5 * k) + (2 : Int32)).toNatClampNeg) hk hinv)) (cw_RL_114 _) rfl dc_X6_surest ⟨Nat.le_of_ble_eq_true rfl, Nat.le_of_ble_eq_true rfl⟩ (isX6_lt h6) (isX6_sh h6) rfl rfl rfl rfl (Nat.le_of_ble_eq_true rfl) dL_law_886 (fun r1 m1 h => ?_)
  refine g_aload_n C 1 dL_law_889 rfl ?_
  refine g_aload_n C 3 dL_law_890 rfl ?_
  refine g_iload_n C 0 dL_law_891 rfl ?_
  refine g_iconst C (v := (1 : Int32)) dL_law_892 (by decide) ?_
  refine g_iadd C dL_law_893 ?_
  refine g_scr C hSX (law_in 1 (by decide) hL hLb) dL_law_894 ?_
  refine g_aload_n C 3 dL_law_895 rfl ?_
  refine g_iload_n C 0 dL_law_896 rfl ?_
  refine g_iconst C (v := (2 : Int32)) dL_law_897 (by decide) ?_
  refine g_iadd C dL_law_898 ?_
  refine g_scr C hSX (law_in 2 (by decide) hL hLb) dL_law_899 ?_
  refine g_callVI C [.int (xs (nI (5 * k) + (1 : Int32)).toNatClampNeg), .int (xs (nI (5 * k) + (2 : Int32)).toNatClampNeg)] [.int r1] (ok_X7_surest hI h7 h) (cw_RL_117 _) rfl dc_X7_surest ⟨Nat.le_of_ble_eq_true rfl, Nat.le_of_ble_eq_true rfl⟩ (isX7_lt h7) (isX7_sh h7) rfl rfl rfl rfl (Nat.le_of_ble_eq_true rfl) dL_law_900 (fun r2 m2 h => ?_)
  exact g_icmp_eq C 1261 dL_law_903 (by decide) (fun _ => fin _ h.2) (fun c => absurd h.1 c)
def St_closes (I : Nat → Mem → Prop) : Prop := ∀ (k : Nat) (μ : Mem) (p1 : Int32) (p2 : Int32), k < 512 → I k μ → PX6_closes 0 p1 p2 μ (fun r1 m1 => PX7_closes 100 p1 p2 m1 (fun r2 m2 => r1 = r2 ∧ I (k + 1) m2))
set_option maxRecDepth 20000 in
set_option maxHeartbeats 4000000 in
theorem law_c24 {X : XT} {Y : YT} {l0 : Launch} {hd : Cond} {b L k : Nat} {xs : Nat → Int32} {μ : Mem} {I : Nat → Mem → Prop} (C : Cx X Y 4 cL_law RL (hd :: GW) room_1 l0) (hSX : SX X b L xs) (hI : YI Y) (h6 : isX6 Y 0) (h7 : isX7 Y 100) (hst : St_closes I) (hk : k < 512) (hL : 5 * k + 5 ≤ L) (hLb : L ≤ 2560) (hinv : I k μ) (fin : ∀ μ' : Mem, I (k + 1) μ' → G X Y 4 1261 [(3, .int (nI (5 * k))), (2, .ref (Y.ad 100)), (1, .ref (Y.ad 0)), (0, .ref b)] [] μ') : G X Y 4 908 [(3, .int (nI (5 * k))), (2, .ref (Y.ad 100)), (1, .ref (Y.ad 0)), (0, .ref b)] [] μ := by
  refine g_aload_n C 2 dL_law_908 rfl ?_
  refine g_aload_n C 3 dL_law_909 rfl ?_
  refine g_iload_n C 0 dL_law_910 rfl ?_
  refine g_iconst C (v := (1 : Int32)) dL_law_911 (by decide) ?_
  refine g_iadd C dL_law_912 ?_
  refine g_scr C hSX (law_in 1 (by decide) hL hLb) dL_law_913 ?_
  refine g_aload_n C 3 dL_law_914 rfl ?_
  refine g_iload_n C 0 dL_law_915 rfl ?_
  refine g_iconst C (v := (2 : Int32)) dL_law_916 (by decide) ?_
  refine g_iadd C dL_law_917 ?_
  refine g_scr C hSX (law_in 2 (by decide) hL hLb) dL_law_918 ?_
  refine g_callVI C [.int (xs (nI (5 * k) + (1 : Int32)).toNatClampNeg), .int (xs (nI (5 * k) + (2 : Int32)).toNatClampNeg)] [] (ok_X6_closes hI h6 (hst k μ (xs (nI (5 * k) + (1 : Int32)).toNatClampNeg) (xs (nI (5 * k) + (2 : Int32)).toNatClampNeg) hk hinv)) (cw_RL_118 _) rfl dc_X6_closes ⟨Nat.le_of_ble_eq_true rfl, Nat.le_of_ble_eq_true rfl⟩ (isX6_lt h6) (isX6_sh h6) rfl rfl rfl rfl (Nat.le_of_ble_eq_true rfl) dL_law_919 (fun r1 m1 h => ?_)
  refine g_aload_n C 1 dL_law_922 rfl ?_
  refine g_aload_n C 3 dL_law_923 rfl ?_
  refine g_iload_n C 0 dL_law_924 rfl ?_
  refine g_iconst C (v := (1 : Int32)) dL_law_925 (by decide) ?_
  refine g_iadd C dL_law_926 ?_
  refine g_scr C hSX (law_in 1 (by decide) hL hLb) dL_law_927 ?_
  refine g_aload_n C 3 dL_law_928 rfl ?_
  refine g_iload_n C 0 dL_law_929 rfl ?_
  refine g_iconst C (v := (2 : Int32)) dL_law_930 (by decide) ?_
  refine g_iadd C dL_law_931 ?_
  refine g_scr C hSX (law_in 2 (by decide) hL hLb) dL_law_932 ?_
  refine g_callVI C [.int (xs (nI (5 * k) + (1 : Int32)).toNatClampNeg), .int (xs (nI (5 * k) + (2 : Int32)).toNatClampNeg)] [.int r1] (ok_X7_closes hI h7 h) (cw_RL_121 _) rfl dc_X7_closes ⟨Nat.le_of_ble_eq_true rfl, Nat.le_of_ble_eq_true rfl⟩ (isX7_lt h7) (isX7_sh h7) rfl rfl rfl rfl (Nat.le_of_ble_eq_true rfl) dL_law_933 (fun r2 m2 h => ?_)
  exact g_icmp_eq C 1261 dL_law_936 (by decide) (fun _ => fin _ h.2) (fun c => absurd h.1 c)
def St_shortest (I : Nat → Mem → Prop) : Prop := ∀ (k : Nat) (μ : Mem) , k < 512 → I k μ → PX6_shortest 0 μ (fun r1 m1 => PX7_shortest 100 m1 (fun r2 m2 => r1 = r2 ∧ I (k + 1) m2))
set_option maxRecDepth 20000 in
set_option maxHeartbeats 4000000 in
theorem law_c25 {X : XT} {Y : YT} {l0 : Launch} {hd : Cond} {b L k : Nat} {xs : Nat → Int32} {μ : Mem} {I : Nat → Mem → Prop} (C : Cx X Y 4 cL_law RL (hd :: GW) room_1 l0) (hSX : SX X b L xs) (hI : YI Y) (h6 : isX6 Y 0) (h7 : isX7 Y 100) (hst : St_shortest I) (hk : k < 512) (hL : 5 * k + 5 ≤ L) (hLb : L ≤ 2560) (hinv : I k μ) (fin : ∀ μ' : Mem, I (k + 1) μ' → G X Y 4 1261 [(3, .int (nI (5 * k))), (2, .ref (Y.ad 100)), (1, .ref (Y.ad 0)), (0, .ref b)] [] μ') : G X Y 4 941 [(3, .int (nI (5 * k))), (2, .ref (Y.ad 100)), (1, .ref (Y.ad 0)), (0, .ref b)] [] μ := by
  refine g_aload_n C 2 dL_law_941 rfl ?_
  refine g_callVI C [] [] (ok_X6_shortest hI h6 (hst k μ  hk hinv)) (cw_RL_122 _) rfl dc_X6_shortest ⟨Nat.le_of_ble_eq_true rfl, Nat.le_of_ble_eq_true rfl⟩ (isX6_lt h6) (isX6_sh h6) rfl rfl rfl rfl (Nat.le_of_ble_eq_true rfl) dL_law_942 (fun r1 m1 h => ?_)
  refine g_aload_n C 1 dL_law_945 rfl ?_
  refine g_callVI C [] [.int r1] (ok_X7_shortest hI h7 h) (cw_RL_125 _) rfl dc_X7_shortest ⟨Nat.le_of_ble_eq_true rfl, Nat.le_of_ble_eq_true rfl⟩ (isX7_lt h7) (isX7_sh h7) rfl rfl rfl rfl (Nat.le_of_ble_eq_true rfl) dL_law_946 (fun r2 m2 h => ?_)
  exact g_icmp_eq C 1261 dL_law_949 (by decide) (fun _ => fin _ h.2) (fun c => absurd h.1 c)
def St_small (I : Nat → Mem → Prop) : Prop := ∀ (k : Nat) (μ : Mem) (p1 : Int32) (p2 : Int32), k < 512 → I k μ → PX6_small 0 p1 p2 μ (fun r1 m1 => PX7_small 100 p1 p2 m1 (fun r2 m2 => r1 = r2 ∧ I (k + 1) m2))
set_option maxRecDepth 20000 in
set_option maxHeartbeats 4000000 in
theorem law_c26 {X : XT} {Y : YT} {l0 : Launch} {hd : Cond} {b L k : Nat} {xs : Nat → Int32} {μ : Mem} {I : Nat → Mem → Prop} (C : Cx X Y 4 cL_law RL (hd :: GW) room_1 l0) (hSX : SX X b L xs) (hI : YI Y) (h6 : isX6 Y 0) (h7 : isX7 Y 100) (hst : St_small I) (hk : k < 512) (hL : 5 * k + 5 ≤ L) (hLb : L ≤ 2560) (hinv : I k μ) (fin : ∀ μ' : Mem, I (k + 1) μ' → G X Y 4 1261 [(3, .int (nI (5 * k))), (2, .ref (Y.ad 100)), (1, .ref (Y.ad 0)), (0, .ref b)] [] μ') : G X Y 4 954 [(3, .int (nI (5 * k))), (2, .ref (Y.ad 100)), (1, .ref (Y.ad 0)), (0, .ref b)] [] μ := by
  refine g_aload_n C 2 dL_law_954 rfl ?_
  refine g_aload_n C 3 dL_law_955 rfl ?_
  refine g_iload_n C 0 dL_law_956 rfl ?_
  refine g_iconst C (v := (1 : Int32)) dL_law_957 (by decide) ?_
  refine g_iadd C dL_law_958 ?_
  refine g_scr C hSX (law_in 1 (by decide) hL hLb) dL_law_959 ?_
  refine g_aload_n C 3 dL_law_960 rfl ?_
  refine g_iload_n C 0 dL_law_961 rfl ?_
  refine g_iconst C (v := (2 : Int32)) dL_law_962 (by decide) ?_
  refine g_iadd C dL_law_963 ?_
  refine g_scr C hSX (law_in 2 (by decide) hL hLb) dL_law_964 ?_
  refine g_callVI C [.int (xs (nI (5 * k) + (1 : Int32)).toNatClampNeg), .int (xs (nI (5 * k) + (2 : Int32)).toNatClampNeg)] [] (ok_X6_small hI h6 (hst k μ (xs (nI (5 * k) + (1 : Int32)).toNatClampNeg) (xs (nI (5 * k) + (2 : Int32)).toNatClampNeg) hk hinv)) (cw_RL_126 _) rfl dc_X6_small ⟨Nat.le_of_ble_eq_true rfl, Nat.le_of_ble_eq_true rfl⟩ (isX6_lt h6) (isX6_sh h6) rfl rfl rfl rfl (Nat.le_of_ble_eq_true rfl) dL_law_965 (fun r1 m1 h => ?_)
  refine g_aload_n C 1 dL_law_968 rfl ?_
  refine g_aload_n C 3 dL_law_969 rfl ?_
  refine g_iload_n C 0 dL_law_970 rfl ?_
  refine g_iconst C (v := (1 : Int32)) dL_law_971 (by decide) ?_
  refine g_iadd C dL_law_972 ?_
  refine g_scr C hSX (law_in 1 (by decide) hL hLb) dL_law_973 ?_
  refine g_aload_n C 3 dL_law_974 rfl ?_
  refine g_iload_n C 0 dL_law_975 rfl ?_
  refine g_iconst C (v := (2 : Int32)) dL_law_976 (by decide) ?_
  refine g_iadd C dL_law_977 ?_
  refine g_scr C hSX (law_in 2 (by decide) hL hLb) dL_law_978 ?_
  refine g_callVI C [.int (xs (nI (5 * k) + (1 : Int32)).toNatClampNeg), .int (xs (nI (5 * k) + (2 : Int32)).toNatClampNeg)] [.int r1] (ok_X7_small hI h7 h) (cw_RL_129 _) rfl dc_X7_small ⟨Nat.le_of_ble_eq_true rfl, Nat.le_of_ble_eq_true rfl⟩ (isX7_lt h7) (isX7_sh h7) rfl rfl rfl rfl (Nat.le_of_ble_eq_true rfl) dL_law_979 (fun r2 m2 h => ?_)
  exact g_icmp_eq C 1261 dL_law_982 (by decide) (fun _ => fin _ h.2) (fun c => absurd h.1 c)
def St_dish (I : Nat → Mem → Prop) : Prop := ∀ (k : Nat) (μ : Mem) (p1 : Int32), k < 512 → I k μ → PX6_dish 0 p1 μ (fun r1 m1 => PX7_dish 100 p1 m1 (fun r2 m2 => r1 = r2 ∧ I (k + 1) m2))
set_option maxRecDepth 20000 in
set_option maxHeartbeats 4000000 in
theorem law_c27 {X : XT} {Y : YT} {l0 : Launch} {hd : Cond} {b L k : Nat} {xs : Nat → Int32} {μ : Mem} {I : Nat → Mem → Prop} (C : Cx X Y 4 cL_law RL (hd :: GW) room_1 l0) (hSX : SX X b L xs) (hI : YI Y) (h6 : isX6 Y 0) (h7 : isX7 Y 100) (hst : St_dish I) (hk : k < 512) (hL : 5 * k + 5 ≤ L) (hLb : L ≤ 2560) (hinv : I k μ) (fin : ∀ μ' : Mem, I (k + 1) μ' → G X Y 4 1261 [(3, .int (nI (5 * k))), (2, .ref (Y.ad 100)), (1, .ref (Y.ad 0)), (0, .ref b)] [] μ') : G X Y 4 987 [(3, .int (nI (5 * k))), (2, .ref (Y.ad 100)), (1, .ref (Y.ad 0)), (0, .ref b)] [] μ := by
  refine g_aload_n C 2 dL_law_987 rfl ?_
  refine g_aload_n C 3 dL_law_988 rfl ?_
  refine g_iload_n C 0 dL_law_989 rfl ?_
  refine g_iconst C (v := (1 : Int32)) dL_law_990 (by decide) ?_
  refine g_iadd C dL_law_991 ?_
  refine g_scr C hSX (law_in 1 (by decide) hL hLb) dL_law_992 ?_
  refine g_callVI C [.int (xs (nI (5 * k) + (1 : Int32)).toNatClampNeg)] [] (ok_X6_dish hI h6 (hst k μ (xs (nI (5 * k) + (1 : Int32)).toNatClampNeg) hk hinv)) (cw_RL_130 _) rfl dc_X6_dish ⟨Nat.le_of_ble_eq_true rfl, Nat.le_of_ble_eq_true rfl⟩ (isX6_lt h6) (isX6_sh h6) rfl rfl rfl rfl (Nat.le_of_ble_eq_true rfl) dL_law_993 (fun r1 m1 h => ?_)
  refine g_aload_n C 1 dL_law_996 rfl ?_
  refine g_aload_n C 3 dL_law_997 rfl ?_
  refine g_iload_n C 0 dL_law_998 rfl ?_
  refine g_iconst C (v := (1 : Int32)) dL_law_999 (by decide) ?_
  refine g_iadd C dL_law_1000 ?_
  refine g_scr C hSX (law_in 1 (by decide) hL hLb) dL_law_1001 ?_
  refine g_callVI C [.int (xs (nI (5 * k) + (1 : Int32)).toNatClampNeg)] [.int r1] (ok_X7_dish hI h7 h) (cw_RL_133 _) rfl dc_X7_dish ⟨Nat.le_of_ble_eq_true rfl, Nat.le_of_ble_eq_true rfl⟩ (isX7_lt h7) (isX7_sh h7) rfl rfl rfl rfl (Nat.le_of_ble_eq_true rfl) dL_law_1002 (fun r2 m2 h => ?_)
  exact g_icmp_eq C 1261 dL_law_1005 (by decide) (fun _ => fin _ h.2) (fun c => absurd h.1 c)
def St_cheap (I : Nat → Mem → Prop) : Prop := ∀ (k : Nat) (μ : Mem) (p1 : Int32) (p2 : Int32) (p3 : Int32), k < 512 → I k μ → PX6_cheap 0 p1 p2 p3 μ (fun r1 m1 => PX7_cheap 100 p1 p2 p3 m1 (fun r2 m2 => r1 = r2 ∧ I (k + 1) m2))
set_option maxRecDepth 20000 in
set_option maxHeartbeats 4000000 in
theorem law_c28 {X : XT} {Y : YT} {l0 : Launch} {hd : Cond} {b L k : Nat} {xs : Nat → Int32} {μ : Mem} {I : Nat → Mem → Prop} (C : Cx X Y 4 cL_law RL (hd :: GW) room_1 l0) (hSX : SX X b L xs) (hI : YI Y) (h6 : isX6 Y 0) (h7 : isX7 Y 100) (hst : St_cheap I) (hk : k < 512) (hL : 5 * k + 5 ≤ L) (hLb : L ≤ 2560) (hinv : I k μ) (fin : ∀ μ' : Mem, I (k + 1) μ' → G X Y 4 1261 [(3, .int (nI (5 * k))), (2, .ref (Y.ad 100)), (1, .ref (Y.ad 0)), (0, .ref b)] [] μ') : G X Y 4 1010 [(3, .int (nI (5 * k))), (2, .ref (Y.ad 100)), (1, .ref (Y.ad 0)), (0, .ref b)] [] μ := by
  refine g_aload_n C 2 dL_law_1010 rfl ?_
  refine g_aload_n C 3 dL_law_1011 rfl ?_
  refine g_iload_n C 0 dL_law_1012 rfl ?_
  refine g_iconst C (v := (1 : Int32)) dL_law_1013 (by decide) ?_
  refine g_iadd C dL_law_1014 ?_
  refine g_scr C hSX (law_in 1 (by decide) hL hLb) dL_law_1015 ?_
  refine g_aload_n C 3 dL_law_1016 rfl ?_
  refine g_iload_n C 0 dL_law_1017 rfl ?_
  refine g_iconst C (v := (2 : Int32)) dL_law_1018 (by decide) ?_
  refine g_iadd C dL_law_1019 ?_
  refine g_scr C hSX (law_in 2 (by decide) hL hLb) dL_law_1020 ?_
  refine g_aload_n C 3 dL_law_1021 rfl ?_
  refine g_iload_n C 0 dL_law_1022 rfl ?_
  refine g_iconst C (v := (3 : Int32)) dL_law_1023 (by decide) ?_
  refine g_iadd C dL_law_1024 ?_
  refine g_scr C hSX (law_in 3 (by decide) hL hLb) dL_law_1025 ?_
  refine g_callVI C [.int (xs (nI (5 * k) + (1 : Int32)).toNatClampNeg), .int (xs (nI (5 * k) + (2 : Int32)).toNatClampNeg), .int (xs (nI (5 * k) + (3 : Int32)).toNatClampNeg)] [] (ok_X6_cheap hI h6 (hst k μ (xs (nI (5 * k) + (1 : Int32)).toNatClampNeg) (xs (nI (5 * k) + (2 : Int32)).toNatClampNeg) (xs (nI (5 * k) + (3 : Int32)).toNatClampNeg) hk hinv)) (cw_RL_134 _) rfl dc_X6_cheap ⟨Nat.le_of_ble_eq_true rfl, Nat.le_of_ble_eq_true rfl⟩ (isX6_lt h6) (isX6_sh h6) rfl rfl rfl rfl (Nat.le_of_ble_eq_true rfl) dL_law_1026 (fun r1 m1 h => ?_)
  refine g_aload_n C 1 dL_law_1029 rfl ?_
  refine g_aload_n C 3 dL_law_1030 rfl ?_
  refine g_iload_n C 0 dL_law_1031 rfl ?_
  refine g_iconst C (v := (1 : Int32)) dL_law_1032 (by decide) ?_
  refine g_iadd C dL_law_1033 ?_
  refine g_scr C hSX (law_in 1 (by decide) hL hLb) dL_law_1034 ?_
  refine g_aload_n C 3 dL_law_1035 rfl ?_
  refine g_iload_n C 0 dL_law_1036 rfl ?_
  refine g_iconst C (v := (2 : Int32)) dL_law_1037 (by decide) ?_
  refine g_iadd C dL_law_1038 ?_
  refine g_scr C hSX (law_in 2 (by decide) hL hLb) dL_law_1039 ?_
  refine g_aload_n C 3 dL_law_1040 rfl ?_
  refine g_iload_n C 0 dL_law_1041 rfl ?_
  refine g_iconst C (v := (3 : Int32)) dL_law_1042 (by decide) ?_
  refine g_iadd C dL_law_1043 ?_
  refine g_scr C hSX (law_in 3 (by decide) hL hLb) dL_law_1044 ?_
  refine g_callVI C [.int (xs (nI (5 * k) + (1 : Int32)).toNatClampNeg), .int (xs (nI (5 * k) + (2 : Int32)).toNatClampNeg), .int (xs (nI (5 * k) + (3 : Int32)).toNatClampNeg)] [.int r1] (ok_X7_cheap hI h7 h) (cw_RL_137 _) rfl dc_X7_cheap ⟨Nat.le_of_ble_eq_true rfl, Nat.le_of_ble_eq_true rfl⟩ (isX7_lt h7) (isX7_sh h7) rfl rfl rfl rfl (Nat.le_of_ble_eq_true rfl) dL_law_1045 (fun r2 m2 h => ?_)
  exact g_icmp_eq C 1261 dL_law_1048 (by decide) (fun _ => fin _ h.2) (fun c => absurd h.1 c)
def St_cold (I : Nat → Mem → Prop) : Prop := ∀ (k : Nat) (μ : Mem) (p1 : Int32) (p2 : Int32), k < 512 → I k μ → PX6_cold 0 p1 p2 μ (fun r1 m1 => PX7_cold 100 p1 p2 m1 (fun r2 m2 => r1 = r2 ∧ I (k + 1) m2))
set_option maxRecDepth 20000 in
set_option maxHeartbeats 4000000 in
theorem law_c29 {X : XT} {Y : YT} {l0 : Launch} {hd : Cond} {b L k : Nat} {xs : Nat → Int32} {μ : Mem} {I : Nat → Mem → Prop} (C : Cx X Y 4 cL_law RL (hd :: GW) room_1 l0) (hSX : SX X b L xs) (hI : YI Y) (h6 : isX6 Y 0) (h7 : isX7 Y 100) (hst : St_cold I) (hk : k < 512) (hL : 5 * k + 5 ≤ L) (hLb : L ≤ 2560) (hinv : I k μ) (fin : ∀ μ' : Mem, I (k + 1) μ' → G X Y 4 1261 [(3, .int (nI (5 * k))), (2, .ref (Y.ad 100)), (1, .ref (Y.ad 0)), (0, .ref b)] [] μ') : G X Y 4 1053 [(3, .int (nI (5 * k))), (2, .ref (Y.ad 100)), (1, .ref (Y.ad 0)), (0, .ref b)] [] μ := by
  refine g_aload_n C 2 dL_law_1053 rfl ?_
  refine g_aload_n C 3 dL_law_1054 rfl ?_
  refine g_iload_n C 0 dL_law_1055 rfl ?_
  refine g_iconst C (v := (1 : Int32)) dL_law_1056 (by decide) ?_
  refine g_iadd C dL_law_1057 ?_
  refine g_scr C hSX (law_in 1 (by decide) hL hLb) dL_law_1058 ?_
  refine g_aload_n C 3 dL_law_1059 rfl ?_
  refine g_iload_n C 0 dL_law_1060 rfl ?_
  refine g_iconst C (v := (2 : Int32)) dL_law_1061 (by decide) ?_
  refine g_iadd C dL_law_1062 ?_
  refine g_scr C hSX (law_in 2 (by decide) hL hLb) dL_law_1063 ?_
  refine g_callVI C [.int (xs (nI (5 * k) + (1 : Int32)).toNatClampNeg), .int (xs (nI (5 * k) + (2 : Int32)).toNatClampNeg)] [] (ok_X6_cold hI h6 (hst k μ (xs (nI (5 * k) + (1 : Int32)).toNatClampNeg) (xs (nI (5 * k) + (2 : Int32)).toNatClampNeg) hk hinv)) (cw_RL_138 _) rfl dc_X6_cold ⟨Nat.le_of_ble_eq_true rfl, Nat.le_of_ble_eq_true rfl⟩ (isX6_lt h6) (isX6_sh h6) rfl rfl rfl rfl (Nat.le_of_ble_eq_true rfl) dL_law_1064 (fun r1 m1 h => ?_)
  refine g_aload_n C 1 dL_law_1067 rfl ?_
  refine g_aload_n C 3 dL_law_1068 rfl ?_
  refine g_iload_n C 0 dL_law_1069 rfl ?_
  refine g_iconst C (v := (1 : Int32)) dL_law_1070 (by decide) ?_
  refine g_iadd C dL_law_1071 ?_
  refine g_scr C hSX (law_in 1 (by decide) hL hLb) dL_law_1072 ?_
  refine g_aload_n C 3 dL_law_1073 rfl ?_
  refine g_iload_n C 0 dL_law_1074 rfl ?_
  refine g_iconst C (v := (2 : Int32)) dL_law_1075 (by decide) ?_
  refine g_iadd C dL_law_1076 ?_
  refine g_scr C hSX (law_in 2 (by decide) hL hLb) dL_law_1077 ?_
  refine g_callVI C [.int (xs (nI (5 * k) + (1 : Int32)).toNatClampNeg), .int (xs (nI (5 * k) + (2 : Int32)).toNatClampNeg)] [.int r1] (ok_X7_cold hI h7 h) (cw_RL_141 _) rfl dc_X7_cold ⟨Nat.le_of_ble_eq_true rfl, Nat.le_of_ble_eq_true rfl⟩ (isX7_lt h7) (isX7_sh h7) rfl rfl rfl rfl (Nat.le_of_ble_eq_true rfl) dL_law_1078 (fun r2 m2 h => ?_)
  exact g_icmp_eq C 1261 dL_law_1081 (by decide) (fun _ => fin _ h.2) (fun c => absurd h.1 c)
def St_sheet (I : Nat → Mem → Prop) : Prop := ∀ (k : Nat) (μ : Mem) (p1 : Int32) (p2 : Int32) (p3 : Int32), k < 512 → I k μ → PX6_sheet 0 p1 p2 p3 μ (fun r1 m1 => PX7_sheet 100 p1 p2 p3 m1 (fun r2 m2 => r1 = r2 ∧ I (k + 1) m2))
set_option maxRecDepth 20000 in
set_option maxHeartbeats 4000000 in
theorem law_c30 {X : XT} {Y : YT} {l0 : Launch} {hd : Cond} {b L k : Nat} {xs : Nat → Int32} {μ : Mem} {I : Nat → Mem → Prop} (C : Cx X Y 4 cL_law RL (hd :: GW) room_1 l0) (hSX : SX X b L xs) (hI : YI Y) (h6 : isX6 Y 0) (h7 : isX7 Y 100) (hst : St_sheet I) (hk : k < 512) (hL : 5 * k + 5 ≤ L) (hLb : L ≤ 2560) (hinv : I k μ) (fin : ∀ μ' : Mem, I (k + 1) μ' → G X Y 4 1261 [(3, .int (nI (5 * k))), (2, .ref (Y.ad 100)), (1, .ref (Y.ad 0)), (0, .ref b)] [] μ') : G X Y 4 1086 [(3, .int (nI (5 * k))), (2, .ref (Y.ad 100)), (1, .ref (Y.ad 0)), (0, .ref b)] [] μ := by
  refine g_aload_n C 2 dL_law_1086 rfl ?_
  refine g_aload_n C 3 dL_law_1087 rfl ?_
  refine g_iload_n C 0 dL_law_1088 rfl ?_
  refine g_iconst C (v := (1 : Int32)) dL_law_1089 (by decide) ?_
  refine g_iadd C dL_law_1090 ?_
  refine g_scr C hSX (law_in 1 (by decide) hL hLb) dL_law_1091 ?_
  refine g_aload_n C 3 dL_law_1092 rfl ?_
  refine g_iload_n C 0 dL_law_1093 rfl ?_
  refine g_iconst C (v := (2 : Int32)) dL_law_1094 (by decide) ?_
  refine g_iadd C dL_law_1095 ?_
  refine g_scr C hSX (law_in 2 (by decide) hL hLb) dL_law_1096 ?_
  refine g_aload_n C 3 dL_law_1097 rfl ?_
  refine g_iload_n C 0 dL_law_1098 rfl ?_
  refine g_iconst C (v := (3 : Int32)) dL_law_1099 (by decide) ?_
  refine g_iadd C dL_law_1100 ?_
  refine g_scr C hSX (law_in 3 (by decide) hL hLb) dL_law_1101 ?_
  refine g_callVI C [.int (xs (nI (5 * k) + (1 : Int32)).toNatClampNeg), .int (xs (nI (5 * k) + (2 : Int32)).toNatClampNeg), .int (xs (nI (5 * k) + (3 : Int32)).toNatClampNeg)] [] (ok_X6_sheet hI h6 (hst k μ (xs (nI (5 * k) + (1 : Int32)).toNatClampNeg) (xs (nI (5 * k) + (2 : Int32)).toNatClampNeg) (xs (nI (5 * k) + (3 : Int32)).toNatClampNeg) hk hinv)) (cw_RL_142 _) rfl dc_X6_sheet ⟨Nat.le_of_ble_eq_true rfl, Nat.le_of_ble_eq_true rfl⟩ (isX6_lt h6) (isX6_sh h6) rfl rfl rfl rfl (Nat.le_of_ble_eq_true rfl) dL_law_1102 (fun r1 m1 h => ?_)
  refine g_aload_n C 1 dL_law_1105 rfl ?_
  refine g_aload_n C 3 dL_law_1106 rfl ?_
  refine g_iload_n C 0 dL_law_1107 rfl ?_
  refine g_iconst C (v := (1 : Int32)) dL_law_1108 (by decide) ?_
  refine g_iadd C dL_law_1109 ?_
  refine g_scr C hSX (law_in 1 (by decide) hL hLb) dL_law_1110 ?_
  refine g_aload_n C 3 dL_law_1111 rfl ?_
  refine g_iload_n C 0 dL_law_1112 rfl ?_
  refine g_iconst C (v := (2 : Int32)) dL_law_1113 (by decide) ?_
  refine g_iadd C dL_law_1114 ?_
  refine g_scr C hSX (law_in 2 (by decide) hL hLb) dL_law_1115 ?_
  refine g_aload_n C 3 dL_law_1116 rfl ?_
  refine g_iload_n C 0 dL_law_1117 rfl ?_
  refine g_iconst C (v := (3 : Int32)) dL_law_1118 (by decide) ?_
  refine g_iadd C dL_law_1119 ?_
  refine g_scr C hSX (law_in 3 (by decide) hL hLb) dL_law_1120 ?_
  refine g_callVI C [.int (xs (nI (5 * k) + (1 : Int32)).toNatClampNeg), .int (xs (nI (5 * k) + (2 : Int32)).toNatClampNeg), .int (xs (nI (5 * k) + (3 : Int32)).toNatClampNeg)] [.int r1] (ok_X7_sheet hI h7 h) (cw_RL_145 _) rfl dc_X7_sheet ⟨Nat.le_of_ble_eq_true rfl, Nat.le_of_ble_eq_true rfl⟩ (isX7_lt h7) (isX7_sh h7) rfl rfl rfl rfl (Nat.le_of_ble_eq_true rfl) dL_law_1121 (fun r2 m2 h => ?_)
  exact g_icmp_eq C 1261 dL_law_1124 (by decide) (fun _ => fin _ h.2) (fun c => absurd h.1 c)
def St_lay (I : Nat → Mem → Prop) : Prop := ∀ (k : Nat) (μ : Mem) (p1 : Int32) (p2 : Int32) (p3 : Int32), k < 512 → I k μ → PX6_lay 0 p1 p2 p3 μ (fun r1 m1 => PX7_lay 100 p1 p2 p3 m1 (fun r2 m2 => r1 = r2 ∧ I (k + 1) m2))
set_option maxRecDepth 20000 in
set_option maxHeartbeats 4000000 in
theorem law_c31 {X : XT} {Y : YT} {l0 : Launch} {hd : Cond} {b L k : Nat} {xs : Nat → Int32} {μ : Mem} {I : Nat → Mem → Prop} (C : Cx X Y 4 cL_law RL (hd :: GW) room_1 l0) (hSX : SX X b L xs) (hI : YI Y) (h6 : isX6 Y 0) (h7 : isX7 Y 100) (hst : St_lay I) (hk : k < 512) (hL : 5 * k + 5 ≤ L) (hLb : L ≤ 2560) (hinv : I k μ) (fin : ∀ μ' : Mem, I (k + 1) μ' → G X Y 4 1261 [(3, .int (nI (5 * k))), (2, .ref (Y.ad 100)), (1, .ref (Y.ad 0)), (0, .ref b)] [] μ') : G X Y 4 1129 [(3, .int (nI (5 * k))), (2, .ref (Y.ad 100)), (1, .ref (Y.ad 0)), (0, .ref b)] [] μ := by
  refine g_aload_n C 2 dL_law_1129 rfl ?_
  refine g_aload_n C 3 dL_law_1130 rfl ?_
  refine g_iload_n C 0 dL_law_1131 rfl ?_
  refine g_iconst C (v := (1 : Int32)) dL_law_1132 (by decide) ?_
  refine g_iadd C dL_law_1133 ?_
  refine g_scr C hSX (law_in 1 (by decide) hL hLb) dL_law_1134 ?_
  refine g_aload_n C 3 dL_law_1135 rfl ?_
  refine g_iload_n C 0 dL_law_1136 rfl ?_
  refine g_iconst C (v := (2 : Int32)) dL_law_1137 (by decide) ?_
  refine g_iadd C dL_law_1138 ?_
  refine g_scr C hSX (law_in 2 (by decide) hL hLb) dL_law_1139 ?_
  refine g_aload_n C 3 dL_law_1140 rfl ?_
  refine g_iload_n C 0 dL_law_1141 rfl ?_
  refine g_iconst C (v := (3 : Int32)) dL_law_1142 (by decide) ?_
  refine g_iadd C dL_law_1143 ?_
  refine g_scr C hSX (law_in 3 (by decide) hL hLb) dL_law_1144 ?_
  refine g_callVI C [.int (xs (nI (5 * k) + (1 : Int32)).toNatClampNeg), .int (xs (nI (5 * k) + (2 : Int32)).toNatClampNeg), .int (xs (nI (5 * k) + (3 : Int32)).toNatClampNeg)] [] (ok_X6_lay hI h6 (hst k μ (xs (nI (5 * k) + (1 : Int32)).toNatClampNeg) (xs (nI (5 * k) + (2 : Int32)).toNatClampNeg) (xs (nI (5 * k) + (3 : Int32)).toNatClampNeg) hk hinv)) (cw_RL_146 _) rfl dc_X6_lay ⟨Nat.le_of_ble_eq_true rfl, Nat.le_of_ble_eq_true rfl⟩ (isX6_lt h6) (isX6_sh h6) rfl rfl rfl rfl (Nat.le_of_ble_eq_true rfl) dL_law_1145 (fun r1 m1 h => ?_)
  refine g_aload_n C 1 dL_law_1148 rfl ?_
  refine g_aload_n C 3 dL_law_1149 rfl ?_
  refine g_iload_n C 0 dL_law_1150 rfl ?_
  refine g_iconst C (v := (1 : Int32)) dL_law_1151 (by decide) ?_
  refine g_iadd C dL_law_1152 ?_
  refine g_scr C hSX (law_in 1 (by decide) hL hLb) dL_law_1153 ?_
  refine g_aload_n C 3 dL_law_1154 rfl ?_
  refine g_iload_n C 0 dL_law_1155 rfl ?_
  refine g_iconst C (v := (2 : Int32)) dL_law_1156 (by decide) ?_
  refine g_iadd C dL_law_1157 ?_
  refine g_scr C hSX (law_in 2 (by decide) hL hLb) dL_law_1158 ?_
  refine g_aload_n C 3 dL_law_1159 rfl ?_
  refine g_iload_n C 0 dL_law_1160 rfl ?_
  refine g_iconst C (v := (3 : Int32)) dL_law_1161 (by decide) ?_
  refine g_iadd C dL_law_1162 ?_
  refine g_scr C hSX (law_in 3 (by decide) hL hLb) dL_law_1163 ?_
  refine g_callVI C [.int (xs (nI (5 * k) + (1 : Int32)).toNatClampNeg), .int (xs (nI (5 * k) + (2 : Int32)).toNatClampNeg), .int (xs (nI (5 * k) + (3 : Int32)).toNatClampNeg)] [.int r1] (ok_X7_lay hI h7 h) (cw_RL_149 _) rfl dc_X7_lay ⟨Nat.le_of_ble_eq_true rfl, Nat.le_of_ble_eq_true rfl⟩ (isX7_lt h7) (isX7_sh h7) rfl rfl rfl rfl (Nat.le_of_ble_eq_true rfl) dL_law_1164 (fun r2 m2 h => ?_)
  exact g_icmp_eq C 1261 dL_law_1167 (by decide) (fun _ => fin _ h.2) (fun c => absurd h.1 c)
def St_read (I : Nat → Mem → Prop) : Prop := ∀ (k : Nat) (μ : Mem) (p1 : Int32) (p2 : Int32) (p3 : Int32) (p4 : Int32), k < 512 → I k μ → PX6_read 0 p1 p2 p3 p4 μ (fun r1 m1 => PX7_read 100 p1 p2 p3 p4 m1 (fun r2 m2 => r1 = r2 ∧ I (k + 1) m2))
set_option maxRecDepth 20000 in
set_option maxHeartbeats 4000000 in
theorem law_c32 {X : XT} {Y : YT} {l0 : Launch} {hd : Cond} {b L k : Nat} {xs : Nat → Int32} {μ : Mem} {I : Nat → Mem → Prop} (C : Cx X Y 4 cL_law RL (hd :: GW) room_1 l0) (hSX : SX X b L xs) (hI : YI Y) (h6 : isX6 Y 0) (h7 : isX7 Y 100) (hst : St_read I) (hk : k < 512) (hL : 5 * k + 5 ≤ L) (hLb : L ≤ 2560) (hinv : I k μ) (fin : ∀ μ' : Mem, I (k + 1) μ' → G X Y 4 1261 [(3, .int (nI (5 * k))), (2, .ref (Y.ad 100)), (1, .ref (Y.ad 0)), (0, .ref b)] [] μ') : G X Y 4 1172 [(3, .int (nI (5 * k))), (2, .ref (Y.ad 100)), (1, .ref (Y.ad 0)), (0, .ref b)] [] μ := by
  refine g_aload_n C 2 dL_law_1172 rfl ?_
  refine g_aload_n C 3 dL_law_1173 rfl ?_
  refine g_iload_n C 0 dL_law_1174 rfl ?_
  refine g_iconst C (v := (1 : Int32)) dL_law_1175 (by decide) ?_
  refine g_iadd C dL_law_1176 ?_
  refine g_scr C hSX (law_in 1 (by decide) hL hLb) dL_law_1177 ?_
  refine g_aload_n C 3 dL_law_1178 rfl ?_
  refine g_iload_n C 0 dL_law_1179 rfl ?_
  refine g_iconst C (v := (2 : Int32)) dL_law_1180 (by decide) ?_
  refine g_iadd C dL_law_1181 ?_
  refine g_scr C hSX (law_in 2 (by decide) hL hLb) dL_law_1182 ?_
  refine g_aload_n C 3 dL_law_1183 rfl ?_
  refine g_iload_n C 0 dL_law_1184 rfl ?_
  refine g_iconst C (v := (3 : Int32)) dL_law_1185 (by decide) ?_
  refine g_iadd C dL_law_1186 ?_
  refine g_scr C hSX (law_in 3 (by decide) hL hLb) dL_law_1187 ?_
  refine g_aload_n C 3 dL_law_1188 rfl ?_
  refine g_iload_n C 0 dL_law_1189 rfl ?_
  refine g_iconst C (v := (4 : Int32)) dL_law_1190 (by decide) ?_
  refine g_iadd C dL_law_1191 ?_
  refine g_scr C hSX (law_in 4 (by decide) hL hLb) dL_law_1192 ?_
  refine g_callVI C [.int (xs (nI (5 * k) + (1 : Int32)).toNatClampNeg), .int (xs (nI (5 * k) + (2 : Int32)).toNatClampNeg), .int (xs (nI (5 * k) + (3 : Int32)).toNatClampNeg), .int (xs (nI (5 * k) + (4 : Int32)).toNatClampNeg)] [] (ok_X6_read hI h6 (hst k μ (xs (nI (5 * k) + (1 : Int32)).toNatClampNeg) (xs (nI (5 * k) + (2 : Int32)).toNatClampNeg) (xs (nI (5 * k) + (3 : Int32)).toNatClampNeg) (xs (nI (5 * k) + (4 : Int32)).toNatClampNeg) hk hinv)) (cw_RL_150 _) rfl dc_X6_read ⟨Nat.le_of_ble_eq_true rfl, Nat.le_of_ble_eq_true rfl⟩ (isX6_lt h6) (isX6_sh h6) rfl rfl rfl rfl (Nat.le_of_ble_eq_true rfl) dL_law_1193 (fun r1 m1 h => ?_)
  refine g_aload_n C 1 dL_law_1196 rfl ?_
  refine g_aload_n C 3 dL_law_1197 rfl ?_
  refine g_iload_n C 0 dL_law_1198 rfl ?_
  refine g_iconst C (v := (1 : Int32)) dL_law_1199 (by decide) ?_
  refine g_iadd C dL_law_1200 ?_
  refine g_scr C hSX (law_in 1 (by decide) hL hLb) dL_law_1201 ?_
  refine g_aload_n C 3 dL_law_1202 rfl ?_
  refine g_iload_n C 0 dL_law_1203 rfl ?_
  refine g_iconst C (v := (2 : Int32)) dL_law_1204 (by decide) ?_
  refine g_iadd C dL_law_1205 ?_
  refine g_scr C hSX (law_in 2 (by decide) hL hLb) dL_law_1206 ?_
  refine g_aload_n C 3 dL_law_1207 rfl ?_
  refine g_iload_n C 0 dL_law_1208 rfl ?_
  refine g_iconst C (v := (3 : Int32)) dL_law_1209 (by decide) ?_
  refine g_iadd C dL_law_1210 ?_
  refine g_scr C hSX (law_in 3 (by decide) hL hLb) dL_law_1211 ?_
  refine g_aload_n C 3 dL_law_1212 rfl ?_
  refine g_iload_n C 0 dL_law_1213 rfl ?_
  refine g_iconst C (v := (4 : Int32)) dL_law_1214 (by decide) ?_
  refine g_iadd C dL_law_1215 ?_
  refine g_scr C hSX (law_in 4 (by decide) hL hLb) dL_law_1216 ?_
  refine g_callVI C [.int (xs (nI (5 * k) + (1 : Int32)).toNatClampNeg), .int (xs (nI (5 * k) + (2 : Int32)).toNatClampNeg), .int (xs (nI (5 * k) + (3 : Int32)).toNatClampNeg), .int (xs (nI (5 * k) + (4 : Int32)).toNatClampNeg)] [.int r1] (ok_X7_read hI h7 h) (cw_RL_154 _) rfl dc_X7_read ⟨Nat.le_of_ble_eq_true rfl, Nat.le_of_ble_eq_true rfl⟩ (isX7_lt h7) (isX7_sh h7) rfl rfl rfl rfl (Nat.le_of_ble_eq_true rfl) dL_law_1217 (fun r2 m2 h => ?_)
  exact g_icmp_eq C 1261 dL_law_1220 (by decide) (fun _ => fin _ h.2) (fun c => absurd h.1 c)
def St_torn (I : Nat → Mem → Prop) : Prop := ∀ (k : Nat) (μ : Mem) , k < 512 → I k μ → PX6_torn 0 μ (fun r1 m1 => PX7_torn 100 m1 (fun r2 m2 => r1 = r2 ∧ I (k + 1) m2))
set_option maxRecDepth 20000 in
set_option maxHeartbeats 4000000 in
theorem law_c33 {X : XT} {Y : YT} {l0 : Launch} {hd : Cond} {b L k : Nat} {xs : Nat → Int32} {μ : Mem} {I : Nat → Mem → Prop} (C : Cx X Y 4 cL_law RL (hd :: GW) room_1 l0) (hSX : SX X b L xs) (hI : YI Y) (h6 : isX6 Y 0) (h7 : isX7 Y 100) (hst : St_torn I) (hk : k < 512) (hL : 5 * k + 5 ≤ L) (hLb : L ≤ 2560) (hinv : I k μ) (fin : ∀ μ' : Mem, I (k + 1) μ' → G X Y 4 1261 [(3, .int (nI (5 * k))), (2, .ref (Y.ad 100)), (1, .ref (Y.ad 0)), (0, .ref b)] [] μ') : G X Y 4 1225 [(3, .int (nI (5 * k))), (2, .ref (Y.ad 100)), (1, .ref (Y.ad 0)), (0, .ref b)] [] μ := by
  refine g_aload_n C 2 dL_law_1225 rfl ?_
  refine g_callVI C [] [] (ok_X6_torn hI h6 (hst k μ  hk hinv)) (cw_RL_155 _) rfl dc_X6_torn ⟨Nat.le_of_ble_eq_true rfl, Nat.le_of_ble_eq_true rfl⟩ (isX6_lt h6) (isX6_sh h6) rfl rfl rfl rfl (Nat.le_of_ble_eq_true rfl) dL_law_1226 (fun r1 m1 h => ?_)
  refine g_aload_n C 1 dL_law_1229 rfl ?_
  refine g_callVI C [] [.int r1] (ok_X7_torn hI h7 h) (cw_RL_158 _) rfl dc_X7_torn ⟨Nat.le_of_ble_eq_true rfl, Nat.le_of_ble_eq_true rfl⟩ (isX7_lt h7) (isX7_sh h7) rfl rfl rfl rfl (Nat.le_of_ble_eq_true rfl) dL_law_1230 (fun r2 m2 h => ?_)
  exact g_icmp_eq C 1261 dL_law_1233 (by decide) (fun _ => fin _ h.2) (fun c => absurd h.1 c)
def St_count (I : Nat → Mem → Prop) : Prop := ∀ (k : Nat) (μ : Mem) (p1 : Int32), k < 512 → I k μ → PX6_count 0 p1 μ (fun r1 m1 => PX7_count 100 p1 m1 (fun r2 m2 => r1 = r2 ∧ I (k + 1) m2))
set_option maxRecDepth 20000 in
set_option maxHeartbeats 4000000 in
theorem law_c34 {X : XT} {Y : YT} {l0 : Launch} {hd : Cond} {b L k : Nat} {xs : Nat → Int32} {μ : Mem} {I : Nat → Mem → Prop} (C : Cx X Y 4 cL_law RL (hd :: GW) room_1 l0) (hSX : SX X b L xs) (hI : YI Y) (h6 : isX6 Y 0) (h7 : isX7 Y 100) (hst : St_count I) (hk : k < 512) (hL : 5 * k + 5 ≤ L) (hLb : L ≤ 2560) (hinv : I k μ) (fin : ∀ μ' : Mem, I (k + 1) μ' → G X Y 4 1261 [(3, .int (nI (5 * k))), (2, .ref (Y.ad 100)), (1, .ref (Y.ad 0)), (0, .ref b)] [] μ') : G X Y 4 1238 [(3, .int (nI (5 * k))), (2, .ref (Y.ad 100)), (1, .ref (Y.ad 0)), (0, .ref b)] [] μ := by
  refine g_aload_n C 2 dL_law_1238 rfl ?_
  refine g_aload_n C 3 dL_law_1239 rfl ?_
  refine g_iload_n C 0 dL_law_1240 rfl ?_
  refine g_iconst C (v := (1 : Int32)) dL_law_1241 (by decide) ?_
  refine g_iadd C dL_law_1242 ?_
  refine g_scr C hSX (law_in 1 (by decide) hL hLb) dL_law_1243 ?_
  refine g_callVI C [.int (xs (nI (5 * k) + (1 : Int32)).toNatClampNeg)] [] (ok_X6_count hI h6 (hst k μ (xs (nI (5 * k) + (1 : Int32)).toNatClampNeg) hk hinv)) (cw_RL_159 _) rfl dc_X6_count ⟨Nat.le_of_ble_eq_true rfl, Nat.le_of_ble_eq_true rfl⟩ (isX6_lt h6) (isX6_sh h6) rfl rfl rfl rfl (Nat.le_of_ble_eq_true rfl) dL_law_1244 (fun r1 m1 h => ?_)
  refine g_aload_n C 1 dL_law_1247 rfl ?_
  refine g_aload_n C 3 dL_law_1248 rfl ?_
  refine g_iload_n C 0 dL_law_1249 rfl ?_
  refine g_iconst C (v := (1 : Int32)) dL_law_1250 (by decide) ?_
  refine g_iadd C dL_law_1251 ?_
  refine g_scr C hSX (law_in 1 (by decide) hL hLb) dL_law_1252 ?_
  refine g_callVI C [.int (xs (nI (5 * k) + (1 : Int32)).toNatClampNeg)] [.int r1] (ok_X7_count hI h7 h) (cw_RL_162 _) rfl dc_X7_count ⟨Nat.le_of_ble_eq_true rfl, Nat.le_of_ble_eq_true rfl⟩ (isX7_lt h7) (isX7_sh h7) rfl rfl rfl rfl (Nat.le_of_ble_eq_true rfl) dL_law_1253 (fun r2 m2 h => ?_)
  exact g_icmp_eq C 1261 dL_law_1256 (by decide) (fun _ => fin _ h.2) (fun c => absurd h.1 c)
theorem law_cmp {k L : Nat} (hL : L ≤ 2560) (hk : 5 * k ≤ L) : (nI L - 5 < nI (5 * k)) ↔ L < 5 * k + 5 := by
  rw [Int32.lt_iff_toInt_lt, show (5 : Int32) = nI 5 from rfl, pk_sub_toInt (by omega) (by omega), nI_toInt (by omega)]
  omega
set_option maxRecDepth 20000 in
set_option maxHeartbeats 8000000 in
theorem law_step {X : XT} {Y : YT} {l0 : Launch} {hd : Cond} {b L k : Nat} {xs : Nat → Int32} {μ : Mem} {I : Nat → Mem → Prop} (C : Cx X Y 4 cL_law RL (hd :: GW) room_1 l0) (hSX : SX X b L xs) (hI : YI Y) (h6 : isX6 Y 0) (h7 : isX7 Y 100) (hmono : ∀ k μ, I k μ → I (k + 1) μ) (hs0 : St_feed I) (hs1 : St_end I) (hs2 : St_text I) (hs3 : St_fault I) (hs4 : St_thing I) (hs5 : St_supper I) (hs6 : St_rule I) (hs7 : St_put I) (hs8 : St_has I) (hs9 : St_may I) (hs10 : St_lacks I) (hs11 : St_eat I) (hs12 : St_night I) (hs13 : St_now I) (hs14 : St_last I) (hs15 : St_keep I) (hs16 : St_back I) (hs17 : St_day I) (hs18 : St_clear I) (hs19 : St_row I) (hs20 : St_bears I) (hs21 : St_best I) (hs22 : St_fairest I) (hs23 : St_surest I) (hs24 : St_closes I) (hs25 : St_shortest I) (hs26 : St_small I) (hs27 : St_dish I) (hs28 : St_cheap I) (hs29 : St_cold I) (hs30 : St_sheet I) (hs31 : St_lay I) (hs32 : St_read I) (hs33 : St_torn I) (hs34 : St_count I) (hL : 5 * k + 5 ≤ L) (hLb : L ≤ 2560) (hinv : I k μ) (fin : ∀ μ' : Mem, I (k + 1) μ' → G X Y 4 1261 [(3, .int (nI (5 * k))), (2, .ref (Y.ad 100)), (1, .ref (Y.ad 0)), (0, .ref b)] [] μ') : G X Y 4 26 [(3, .int (nI (5 * k))), (2, .ref (Y.ad 100)), (1, .ref (Y.ad 0)), (0, .ref b)] [] μ := by
  refine g_aload_n C 3 dL_law_26 rfl ?_
  refine g_iload_n C 0 dL_law_27 rfl ?_
  refine g_scr C hSX (law_in0 hL hLb) dL_law_28 ?_
  refine g_bipush C (v := (63 : Int32)) dL_law_29 (by decide) ?_
  refine g_iand C dL_law_31 ?_
  have hk : k < 512 := by omega
  by_cases c0 : (xs (nI (5 * k)).toNatClampNeg &&& 63) = 0
  · refine g_tableIn C 188 dL_law_32 (by rw [c0]; decide) (by rw [c0]; decide) (by rw [c0]; rfl) (by decide) ?_
    exact law_c0 C hSX hI h6 h7 hs0 hk hL hLb hinv fin
  by_cases c1 : (xs (nI (5 * k)).toNatClampNeg &&& 63) = 1
  · refine g_tableIn C 241 dL_law_32 (by rw [c1]; decide) (by rw [c1]; decide) (by rw [c1]; rfl) (by decide) ?_
    exact law_c1 C hSX hI h6 h7 hs1 hk hL hLb hinv fin
  by_cases c2 : (xs (nI (5 * k)).toNatClampNeg &&& 63) = 2
  · refine g_tableIn C 264 dL_law_32 (by rw [c2]; decide) (by rw [c2]; decide) (by rw [c2]; rfl) (by decide) ?_
    exact law_c2 C hSX hI h6 h7 hs2 hk hL hLb hinv fin
  by_cases c3 : (xs (nI (5 * k)).toNatClampNeg &&& 63) = 3
  · refine g_tableIn C 277 dL_law_32 (by rw [c3]; decide) (by rw [c3]; decide) (by rw [c3]; rfl) (by decide) ?_
    exact law_c3 C hSX hI h6 h7 hs3 hk hL hLb hinv fin
  by_cases c4 : (xs (nI (5 * k)).toNatClampNeg &&& 63) = 4
  · refine g_tableIn C 290 dL_law_32 (by rw [c4]; decide) (by rw [c4]; decide) (by rw [c4]; rfl) (by decide) ?_
    exact law_c4 C hSX hI h6 h7 hs4 hk hL hLb hinv fin
  by_cases c5 : (xs (nI (5 * k)).toNatClampNeg &&& 63) = 5
  · refine g_tableIn C 323 dL_law_32 (by rw [c5]; decide) (by rw [c5]; decide) (by rw [c5]; rfl) (by decide) ?_
    exact law_c5 C hSX hI h6 h7 hs5 hk hL hLb hinv fin
  by_cases c6 : (xs (nI (5 * k)).toNatClampNeg &&& 63) = 6
  · refine g_tableIn C 356 dL_law_32 (by rw [c6]; decide) (by rw [c6]; decide) (by rw [c6]; rfl) (by decide) ?_
    exact law_c6 C hSX hI h6 h7 hs6 hk hL hLb hinv fin
  by_cases c7 : (xs (nI (5 * k)).toNatClampNeg &&& 63) = 7
  · refine g_tableIn C 379 dL_law_32 (by rw [c7]; decide) (by rw [c7]; decide) (by rw [c7]; rfl) (by decide) ?_
    exact law_c7 C hSX hI h6 h7 hs7 hk hL hLb hinv fin
  by_cases c8 : (xs (nI (5 * k)).toNatClampNeg &&& 63) = 8
  · refine g_tableIn C 422 dL_law_32 (by rw [c8]; decide) (by rw [c8]; decide) (by rw [c8]; rfl) (by decide) ?_
    exact law_c8 C hSX hI h6 h7 hs8 hk hL hLb hinv fin
  by_cases c9 : (xs (nI (5 * k)).toNatClampNeg &&& 63) = 9
  · refine g_tableIn C 455 dL_law_32 (by rw [c9]; decide) (by rw [c9]; decide) (by rw [c9]; rfl) (by decide) ?_
    exact law_c9 C hSX hI h6 h7 hs9 hk hL hLb hinv fin
  by_cases c10 : (xs (nI (5 * k)).toNatClampNeg &&& 63) = 10
  · refine g_tableIn C 504 dL_law_32 (by rw [c10]; decide) (by rw [c10]; decide) (by rw [c10]; rfl) (by decide) ?_
    exact law_c10 C hSX hI h6 h7 hs10 hk hL hLb hinv fin
  by_cases c11 : (xs (nI (5 * k)).toNatClampNeg &&& 63) = 11
  · refine g_tableIn C 573 dL_law_32 (by rw [c11]; decide) (by rw [c11]; decide) (by rw [c11]; rfl) (by decide) ?_
    exact law_c11 C hSX hI h6 h7 hs11 hk hL hLb hinv fin
  by_cases c12 : (xs (nI (5 * k)).toNatClampNeg &&& 63) = 12
  · refine g_tableIn C 622 dL_law_32 (by rw [c12]; decide) (by rw [c12]; decide) (by rw [c12]; rfl) (by decide) ?_
    exact law_c12 C hSX hI h6 h7 hs12 hk hL hLb hinv fin
  by_cases c13 : (xs (nI (5 * k)).toNatClampNeg &&& 63) = 13
  · refine g_tableIn C 635 dL_law_32 (by rw [c13]; decide) (by rw [c13]; decide) (by rw [c13]; rfl) (by decide) ?_
    exact law_c13 C hSX hI h6 h7 hs13 hk hL hLb hinv fin
  by_cases c14 : (xs (nI (5 * k)).toNatClampNeg &&& 63) = 14
  · refine g_tableIn C 658 dL_law_32 (by rw [c14]; decide) (by rw [c14]; decide) (by rw [c14]; rfl) (by decide) ?_
    exact law_c14 C hSX hI h6 h7 hs14 hk hL hLb hinv fin
  by_cases c15 : (xs (nI (5 * k)).toNatClampNeg &&& 63) = 15
  · refine g_tableIn C 681 dL_law_32 (by rw [c15]; decide) (by rw [c15]; decide) (by rw [c15]; rfl) (by decide) ?_
    exact law_c15 C hSX hI h6 h7 hs15 hk hL hLb hinv fin
  by_cases c16 : (xs (nI (5 * k)).toNatClampNeg &&& 63) = 16
  · refine g_tableIn C 704 dL_law_32 (by rw [c16]; decide) (by rw [c16]; decide) (by rw [c16]; rfl) (by decide) ?_
    exact law_c16 C hSX hI h6 h7 hs16 hk hL hLb hinv fin
  by_cases c17 : (xs (nI (5 * k)).toNatClampNeg &&& 63) = 17
  · refine g_tableIn C 727 dL_law_32 (by rw [c17]; decide) (by rw [c17]; decide) (by rw [c17]; rfl) (by decide) ?_
    exact law_c17 C hSX hI h6 h7 hs17 hk hL hLb hinv fin
  by_cases c18 : (xs (nI (5 * k)).toNatClampNeg &&& 63) = 18
  · refine g_tableIn C 750 dL_law_32 (by rw [c18]; decide) (by rw [c18]; decide) (by rw [c18]; rfl) (by decide) ?_
    exact law_c18 C hSX hI h6 h7 hs18 hk hL hLb hinv fin
  by_cases c19 : (xs (nI (5 * k)).toNatClampNeg &&& 63) = 19
  · refine g_tableIn C 763 dL_law_32 (by rw [c19]; decide) (by rw [c19]; decide) (by rw [c19]; rfl) (by decide) ?_
    exact law_c19 C hSX hI h6 h7 hs19 hk hL hLb hinv fin
  by_cases c20 : (xs (nI (5 * k)).toNatClampNeg &&& 63) = 20
  · refine g_tableIn C 786 dL_law_32 (by rw [c20]; decide) (by rw [c20]; decide) (by rw [c20]; rfl) (by decide) ?_
    exact law_c20 C hSX hI h6 h7 hs20 hk hL hLb hinv fin
  by_cases c21 : (xs (nI (5 * k)).toNatClampNeg &&& 63) = 21
  · refine g_tableIn C 809 dL_law_32 (by rw [c21]; decide) (by rw [c21]; decide) (by rw [c21]; rfl) (by decide) ?_
    exact law_c21 C hSX hI h6 h7 hs21 hk hL hLb hinv fin
  by_cases c22 : (xs (nI (5 * k)).toNatClampNeg &&& 63) = 22
  · refine g_tableIn C 842 dL_law_32 (by rw [c22]; decide) (by rw [c22]; decide) (by rw [c22]; rfl) (by decide) ?_
    exact law_c22 C hSX hI h6 h7 hs22 hk hL hLb hinv fin
  by_cases c23 : (xs (nI (5 * k)).toNatClampNeg &&& 63) = 23
  · refine g_tableIn C 875 dL_law_32 (by rw [c23]; decide) (by rw [c23]; decide) (by rw [c23]; rfl) (by decide) ?_
    exact law_c23 C hSX hI h6 h7 hs23 hk hL hLb hinv fin
  by_cases c24 : (xs (nI (5 * k)).toNatClampNeg &&& 63) = 24
  · refine g_tableIn C 908 dL_law_32 (by rw [c24]; decide) (by rw [c24]; decide) (by rw [c24]; rfl) (by decide) ?_
    exact law_c24 C hSX hI h6 h7 hs24 hk hL hLb hinv fin
  by_cases c25 : (xs (nI (5 * k)).toNatClampNeg &&& 63) = 25
  · refine g_tableIn C 941 dL_law_32 (by rw [c25]; decide) (by rw [c25]; decide) (by rw [c25]; rfl) (by decide) ?_
    exact law_c25 C hSX hI h6 h7 hs25 hk hL hLb hinv fin
  by_cases c26 : (xs (nI (5 * k)).toNatClampNeg &&& 63) = 26
  · refine g_tableIn C 954 dL_law_32 (by rw [c26]; decide) (by rw [c26]; decide) (by rw [c26]; rfl) (by decide) ?_
    exact law_c26 C hSX hI h6 h7 hs26 hk hL hLb hinv fin
  by_cases c27 : (xs (nI (5 * k)).toNatClampNeg &&& 63) = 27
  · refine g_tableIn C 987 dL_law_32 (by rw [c27]; decide) (by rw [c27]; decide) (by rw [c27]; rfl) (by decide) ?_
    exact law_c27 C hSX hI h6 h7 hs27 hk hL hLb hinv fin
  by_cases c28 : (xs (nI (5 * k)).toNatClampNeg &&& 63) = 28
  · refine g_tableIn C 1010 dL_law_32 (by rw [c28]; decide) (by rw [c28]; decide) (by rw [c28]; rfl) (by decide) ?_
    exact law_c28 C hSX hI h6 h7 hs28 hk hL hLb hinv fin
  by_cases c29 : (xs (nI (5 * k)).toNatClampNeg &&& 63) = 29
  · refine g_tableIn C 1053 dL_law_32 (by rw [c29]; decide) (by rw [c29]; decide) (by rw [c29]; rfl) (by decide) ?_
    exact law_c29 C hSX hI h6 h7 hs29 hk hL hLb hinv fin
  by_cases c30 : (xs (nI (5 * k)).toNatClampNeg &&& 63) = 30
  · refine g_tableIn C 1086 dL_law_32 (by rw [c30]; decide) (by rw [c30]; decide) (by rw [c30]; rfl) (by decide) ?_
    exact law_c30 C hSX hI h6 h7 hs30 hk hL hLb hinv fin
  by_cases c31 : (xs (nI (5 * k)).toNatClampNeg &&& 63) = 31
  · refine g_tableIn C 1129 dL_law_32 (by rw [c31]; decide) (by rw [c31]; decide) (by rw [c31]; rfl) (by decide) ?_
    exact law_c31 C hSX hI h6 h7 hs31 hk hL hLb hinv fin
  by_cases c32 : (xs (nI (5 * k)).toNatClampNeg &&& 63) = 32
  · refine g_tableIn C 1172 dL_law_32 (by rw [c32]; decide) (by rw [c32]; decide) (by rw [c32]; rfl) (by decide) ?_
    exact law_c32 C hSX hI h6 h7 hs32 hk hL hLb hinv fin
  by_cases c33 : (xs (nI (5 * k)).toNatClampNeg &&& 63) = 33
  · refine g_tableIn C 1225 dL_law_32 (by rw [c33]; decide) (by rw [c33]; decide) (by rw [c33]; rfl) (by decide) ?_
    exact law_c33 C hSX hI h6 h7 hs33 hk hL hLb hinv fin
  by_cases c34 : (xs (nI (5 * k)).toNatClampNeg &&& 63) = 34
  · refine g_tableIn C 1238 dL_law_32 (by rw [c34]; decide) (by rw [c34]; decide) (by rw [c34]; rfl) (by decide) ?_
    exact law_c34 C hSX hI h6 h7 hs34 hk hL hLb hinv fin
  have z : ¬ (xs (nI (5 * k)).toNatClampNeg &&& 63).toInt = 0 ∧ ¬ (xs (nI (5 * k)).toNatClampNeg &&& 63).toInt = 1 ∧ ¬ (xs (nI (5 * k)).toNatClampNeg &&& 63).toInt = 2 ∧ ¬ (xs (nI (5 * k)).toNatClampNeg &&& 63).toInt = 3 ∧ ¬ (xs (nI (5 * k)).toNatClampNeg &&& 63).toInt = 4 ∧ ¬ (xs (nI (5 * k)).toNatClampNeg &&& 63).toInt = 5 ∧ ¬ (xs (nI (5 * k)).toNatClampNeg &&& 63).toInt = 6 ∧ ¬ (xs (nI (5 * k)).toNatClampNeg &&& 63).toInt = 7 ∧ ¬ (xs (nI (5 * k)).toNatClampNeg &&& 63).toInt = 8 ∧ ¬ (xs (nI (5 * k)).toNatClampNeg &&& 63).toInt = 9 ∧ ¬ (xs (nI (5 * k)).toNatClampNeg &&& 63).toInt = 10 ∧ ¬ (xs (nI (5 * k)).toNatClampNeg &&& 63).toInt = 11 ∧ ¬ (xs (nI (5 * k)).toNatClampNeg &&& 63).toInt = 12 ∧ ¬ (xs (nI (5 * k)).toNatClampNeg &&& 63).toInt = 13 ∧ ¬ (xs (nI (5 * k)).toNatClampNeg &&& 63).toInt = 14 ∧ ¬ (xs (nI (5 * k)).toNatClampNeg &&& 63).toInt = 15 ∧ ¬ (xs (nI (5 * k)).toNatClampNeg &&& 63).toInt = 16 ∧ ¬ (xs (nI (5 * k)).toNatClampNeg &&& 63).toInt = 17 ∧ ¬ (xs (nI (5 * k)).toNatClampNeg &&& 63).toInt = 18 ∧ ¬ (xs (nI (5 * k)).toNatClampNeg &&& 63).toInt = 19 ∧ ¬ (xs (nI (5 * k)).toNatClampNeg &&& 63).toInt = 20 ∧ ¬ (xs (nI (5 * k)).toNatClampNeg &&& 63).toInt = 21 ∧ ¬ (xs (nI (5 * k)).toNatClampNeg &&& 63).toInt = 22 ∧ ¬ (xs (nI (5 * k)).toNatClampNeg &&& 63).toInt = 23 ∧ ¬ (xs (nI (5 * k)).toNatClampNeg &&& 63).toInt = 24 ∧ ¬ (xs (nI (5 * k)).toNatClampNeg &&& 63).toInt = 25 ∧ ¬ (xs (nI (5 * k)).toNatClampNeg &&& 63).toInt = 26 ∧ ¬ (xs (nI (5 * k)).toNatClampNeg &&& 63).toInt = 27 ∧ ¬ (xs (nI (5 * k)).toNatClampNeg &&& 63).toInt = 28 ∧ ¬ (xs (nI (5 * k)).toNatClampNeg &&& 63).toInt = 29 ∧ ¬ (xs (nI (5 * k)).toNatClampNeg &&& 63).toInt = 30 ∧ ¬ (xs (nI (5 * k)).toNatClampNeg &&& 63).toInt = 31 ∧ ¬ (xs (nI (5 * k)).toNatClampNeg &&& 63).toInt = 32 ∧ ¬ (xs (nI (5 * k)).toNatClampNeg &&& 63).toInt = 33 ∧ ¬ (xs (nI (5 * k)).toNatClampNeg &&& 63).toInt = 34 := ⟨lv_neT (a := 0) c0 rfl, lv_neT (a := 1) c1 rfl, lv_neT (a := 2) c2 rfl, lv_neT (a := 3) c3 rfl, lv_neT (a := 4) c4 rfl, lv_neT (a := 5) c5 rfl, lv_neT (a := 6) c6 rfl, lv_neT (a := 7) c7 rfl, lv_neT (a := 8) c8 rfl, lv_neT (a := 9) c9 rfl, lv_neT (a := 10) c10 rfl, lv_neT (a := 11) c11 rfl, lv_neT (a := 12) c12 rfl, lv_neT (a := 13) c13 rfl, lv_neT (a := 14) c14 rfl, lv_neT (a := 15) c15 rfl, lv_neT (a := 16) c16 rfl, lv_neT (a := 17) c17 rfl, lv_neT (a := 18) c18 rfl, lv_neT (a := 19) c19 rfl, lv_neT (a := 20) c20 rfl, lv_neT (a := 21) c21 rfl, lv_neT (a := 22) c22 rfl, lv_neT (a := 23) c23 rfl, lv_neT (a := 24) c24 rfl, lv_neT (a := 25) c25 rfl, lv_neT (a := 26) c26 rfl, lv_neT (a := 27) c27 rfl, lv_neT (a := 28) c28 rfl, lv_neT (a := 29) c29 rfl, lv_neT (a := 30) c30 rfl, lv_neT (a := 31) c31 rfl, lv_neT (a := 32) c32 rfl, lv_neT (a := 33) c33 rfl, lv_neT (a := 34) c34 rfl⟩
  have z2 : (xs (nI (5 * k)).toNatClampNeg &&& 63).toInt < 0 ∨ 34 < (xs (nI (5 * k)).toNatClampNeg &&& 63).toInt := by
    generalize (xs (nI (5 * k)).toNatClampNeg &&& 63).toInt = w at z
    omega
  refine g_tableOut C 1261 dL_law_32 z2 (by decide) ?_
  exact fin μ (hmono _ _ hinv)
set_option maxRecDepth 20000 in
set_option maxHeartbeats 8000000 in
theorem law_loop {X : XT} {Y : YT} {l0 : Launch} {hd : Cond} {b L : Nat} {xs : Nat → Int32} {I : Nat → Mem → Prop} (C : Cx X Y 4 cL_law RL (hd :: GW) room_1 l0) (hSX : SX X b L xs) (hI : YI Y) (h6 : isX6 Y 0) (h7 : isX7 Y 100) (hLb : L ≤ 2560) (hmono : ∀ k μ, I k μ → I (k + 1) μ) (hs0 : St_feed I) (hs1 : St_end I) (hs2 : St_text I) (hs3 : St_fault I) (hs4 : St_thing I) (hs5 : St_supper I) (hs6 : St_rule I) (hs7 : St_put I) (hs8 : St_has I) (hs9 : St_may I) (hs10 : St_lacks I) (hs11 : St_eat I) (hs12 : St_night I) (hs13 : St_now I) (hs14 : St_last I) (hs15 : St_keep I) (hs16 : St_back I) (hs17 : St_day I) (hs18 : St_clear I) (hs19 : St_row I) (hs20 : St_bears I) (hs21 : St_best I) (hs22 : St_fairest I) (hs23 : St_surest I) (hs24 : St_closes I) (hs25 : St_shortest I) (hs26 : St_small I) (hs27 : St_dish I) (hs28 : St_cheap I) (hs29 : St_cold I) (hs30 : St_sheet I) (hs31 : St_lay I) (hs32 : St_read I) (hs33 : St_torn I) (hs34 : St_count I) (hend : ∀ (lv : List (Nat × Value)) (μ : Mem), G X Y 4 1268 lv [.int 1] μ) : ∀ (n k : Nat) (μ : Mem), L < 5 * (k + n) → 5 * k ≤ L → I k μ → G X Y 4 18 [(3, .int (nI (5 * k))), (2, .ref (Y.ad 100)), (1, .ref (Y.ad 0)), (0, .ref b)] [] μ := by
  intro n
  induction n with
  | zero =>
    intro k μ hn hk hinv
    omega
  | succ n ih =>
    intro k μ hn hk hinv
    refine g_iload_n C 0 dL_law_18 rfl ?_
    refine g_aload_n C 3 dL_law_19 rfl ?_
    refine g_scl C hSX dL_law_20 ?_
    refine g_iconst C (v := (5 : Int32)) dL_law_21 (by decide) ?_
    refine g_isub C dL_law_22 ?_
    refine g_icmp_gt C 1267 dL_law_23 (by decide) (fun c => ?_) (fun c => ?_)
    · exact g_iconst C (v := (1 : Int32)) dL_law_1267 (by decide) (hend _ _)
    · have hL : 5 * k + 5 ≤ L := by
        rcases Nat.lt_or_ge L (5 * k + 5) with q | q
        · exact absurd ((law_cmp hLb hk).mpr q) c
        · exact q
      refine law_step C hSX hI h6 h7 hmono hs0 hs1 hs2 hs3 hs4 hs5 hs6 hs7 hs8 hs9 hs10 hs11 hs12 hs13 hs14 hs15 hs16 hs17 hs18 hs19 hs20 hs21 hs22 hs23 hs24 hs25 hs26 hs27 hs28 hs29 hs30 hs31 hs32 hs33 hs34 hL hLb hinv (fun μ' h' => ?_)
      refine g_iinc C (v := nI (5 * (k + 1))) 0 [(3, .int (nI (5 * (k + 1)))), (2, .ref (Y.ad 100)), (1, .ref (Y.ad 0)), (0, .ref b)] dL_law_1261 rfl (by rw [show Int32.ofInt 5 = nI 5 from rfl, nI_add]; rfl) (by decide) rfl ?_
      refine g_goto C 18 dL_law_1264 (by decide) ?_
      exact ih (k + 1) μ' (by omega) (by omega) h'
