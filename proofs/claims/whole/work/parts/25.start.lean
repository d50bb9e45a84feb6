def tmS (i : Nat) : Term := Term.string RX1 (sIdx.getD i 0)
set_option maxRecDepth 100000 in
set_option maxHeartbeats 4000000 in
theorem ev0 {s : State} {args : Array Value} (hts : ∀ w ∈ lw_tbl, w.before args s = true) (hgv : (Jvm.Cond.and given_1 narrow_1).before args s = true) : ∃ aK aV : Nat → Nat, EVA aK aV (fun q : Nat => s.heap.size ≤ q) s s.heap := by
  have hs := flat_of_before _ hgv
  have hA : ∀ a : Nat, a < s.heap.size → ¬ (fun q : Nat => s.heap.size ≤ q) a := fun a h => Nat.not_le.mpr h
  have m1 : ∀ i : Nat, i < nS → Cond.exactly (tmS i) "java/lang/String" ∈ flatC (Jvm.Cond.and given_1 narrow_1) := by decide +kernel
  have m2 : ∀ i : Nat, i < nS → Cond.eq (.field (tmS i) "java/lang/String" "coder" "B") (.int 0) ∈ flatC (Jvm.Cond.and given_1 narrow_1) := by decide +kernel
  have m3 : ∀ i : Nat, i < nS → Cond.arrayOf (.field (tmS i) "java/lang/String" "value" "[B") .byte ∈ flatC (Jvm.Cond.and given_1 narrow_1) := by decide +kernel
  have m4 : ∀ i : Nat, i < nS → Cond.eq (.length (.field (tmS i) "java/lang/String" "value" "[B")) (.int (Int32.ofNat (sLen.getD i 0))) ∈ flatC (Jvm.Cond.and given_1 narrow_1) := by decide +kernel
  have m5 : ∀ i : Nat, i < nS → ∀ j : Nat, j < sLen.getD i 0 → Cond.eq (.elem (.field (tmS i) "java/lang/String" "value" "[B") (.int (Int32.ofNat j))) (.int ((sByt.getD i []).getD j 0)) ∈ flatC (Jvm.Cond.and given_1 narrow_1) := by decide +kernel
  have m6 : ∀ i : Nat, i < nS → ∀ j : Nat, j < nS → i ≠ j → (Cond.not (Cond.eq (tmS i) (tmS j)) ∈ flatC (Jvm.Cond.and given_1 narrow_1) ∨ Cond.not (Cond.eq (tmS j) (tmS i)) ∈ flatC (Jvm.Cond.and given_1 narrow_1)) := by decide +kernel
  have m7 : ∀ i : Nat, i < nS → Cond.stringRef RX1 (sIdx.getD i 0) (sTxt.getD i "") ∈ lw_tbl := by decide +kernel
  have m8 : ∀ q ∈ sNst, Cond.methodLinkNest q.1 q.2.1 q.2.2.1 q.2.2.2 ∈ lw_tbl := by decide +kernel
  obtain ⟨aK, aV, hS, hE⟩ := vk_Sof (args := args) (s := s) (N := nS) (tm := tmS) (len := sLen) (byt := sByt) (A := fun q : Nat => s.heap.size ≤ q) (by decide) (fun i hi => hs _ (m1 i hi)) (fun i hi => hs _ (m2 i hi)) (fun i hi => hs _ (m3 i hi)) (fun i hi => hs _ (m4 i hi)) (fun i hi j hj => hs _ (m5 i hi j hj)) (fun i j hi hj n => (m6 i hi j hj n).imp (hs _) (hs _)) hA
  refine ⟨aK, aV, hS, fun i hi => vk_R.of (hts _ (m7 i hi)) (hE i hi), va_Zof (hts _ (by decide +kernel)) (hts _ (by decide +kernel)) (va_eqi (hs _ (by decide +kernel))) hA, va_Zqof (hts _ (by decide +kernel)) (hts _ (by decide +kernel)) (hs _ (by decide +kernel)) hA, fun q hq => va_Nw.of rfl (hts _ (m8 q hq)), va_AO.of (hts (.arrayOver (.object RX0)) (by decide +kernel))⟩
set_option maxRecDepth 100000 in
set_option maxHeartbeats 4000000 in
theorem kn0 {s : State} {args : Array Value} (hts : ∀ w ∈ lw_tbl, w.before args s = true) : ∃ (D : va_G) (cI cB cZ cK : ClassId), va_K D vwCl [(cI, .int), (cB, .byte), (cZ, .boolean), (cK, .object RX0)] s := by
  have htg : ∀ w ∈ GW, w.before args s = true := fun w h => hts w (List.mem_filter.mp h).1
  obtain ⟨c0, i0, k0⟩ := u_known (C := RX0) (T := TX0) (N := 8) (n := 8) htg inX0 (htg _ mIns_X0)
  obtain ⟨c1, i1, k1⟩ := u_known (C := RX1) (T := TX1) (N := 12) (n := 12) htg inX1 (htg _ mIns_X1)
  obtain ⟨c2, i2, k2⟩ := u_known (C := RX2) (T := TX2) (N := 16) (n := 16) htg inX2 (htg _ mIns_X2)
  obtain ⟨c3, i3, k3⟩ := u_known (C := RX3) (T := TX3) (N := 18) (n := 18) htg inX3 (htg _ mIns_X3)
  obtain ⟨c4, i4, k4⟩ := u_known (C := RX4) (T := TX4) (N := 3) (n := 3) htg inX4 (htg _ mIns_X4)
  obtain ⟨c5, i5, k5⟩ := u_known (C := RX5) (T := TX5) (N := 2) (n := 2) htg inX5 (htg _ mIns_X5)
  obtain ⟨c6, i6, k6⟩ := u_known (C := RX6) (T := TX6) (N := 13) (n := 13) htg inX6 (htg _ mIns_X6)
  obtain ⟨c7, i7, k7⟩ := u_known (C := RX7) (T := TX7) (N := 56) (n := 56) htg inX7 (htg _ mIns_X7)
  obtain ⟨cI, kI, pI, a1, a2, a3⟩ := Cond.arrayClass_spec (htg _ mArr_I)
  obtain ⟨cB, kB, pB, b1, b2, b3⟩ := Cond.arrayClass_spec (htg _ mArr_B)
  obtain ⟨cZ, kZ, pZ, d1, d2, d3⟩ := Cond.arrayClass_spec (htg _ mArr_Z)
  obtain ⟨pK, cK, kK, e1, e2, e3, e4, e5⟩ := Cond.arrayOver_spec (hts (.arrayOver (.object RX0)) (by decide +kernel))
  refine ⟨(fun k => match k with | 0 => c0 | 1 => c1 | 2 => c2 | 3 => c3 | 4 => c4 | 5 => c5 | 6 => c6 | _ => c7, fun k => match k with | 0 => i0 | 1 => i1 | 2 => i2 | 3 => i3 | 4 => i4 | 5 => i5 | 6 => i6 | _ => i7), cI, cB, cZ, cK, ?_, ?_⟩
  · intro k q hq
    match k, hq with
    | 0, hq => cases hq; exact k0
    | 1, hq => cases hq; exact k1
    | 2, hq => cases hq; exact k2
    | 3, hq => cases hq; exact k3
    | 4, hq => cases hq; exact k4
    | 5, hq => cases hq; exact k5
    | 6, hq => cases hq; exact k6
    | 7, hq => cases hq; exact k7
    | k + 8, hq => simp [vwCl] at hq
  · intro k q hq
    match k, hq with
    | 0, hq => cases hq; exact ⟨fun n z => ⟨fun k h => (by cases h), kI, a2, pI, a3⟩, a1⟩
    | 1, hq => cases hq; exact ⟨fun n z => ⟨fun k h => (by cases h), kB, b2, pB, b3⟩, b1⟩
    | 2, hq => cases hq; exact ⟨fun n z => ⟨fun k h => (by cases h), kZ, d2, pZ, d3⟩, d1⟩
    | 3, hq => cases hq; exact ⟨fun n z => ⟨fun k h => (by cases h), kK, e3, pK, e4⟩, kK, pK, e3, e4, e1, e5⟩
    | k + 4, hq => simp at hq
def mu0 : Mem := (fun _ _ => 0, fun _ _ => 0)
set_option maxRecDepth 100000 in
set_option maxHeartbeats 8000000 in
/-- the law from its entry, over what is asked of the pure side -/
theorem whole_open {p : Program} {e : Env} {s : State} {m : MethodId} {below : List Frame} {meth : Method} {c : Code} (l : Launch) {b L : Nat} {xs : Nat → Int32} (hLb : L ≤ 2560) (C0 : lw_At p s m meth c b L xs) {I : Nat → Mem → Prop} (hmono : ∀ k μ, I k μ → I (k + 1) μ) (hinit : PX6_init 0 (mz mu0 0) (fun m1 => PX7_init 100 (mz m1 100) (fun m2 => I 0 m2))) (hs0 : St_feed I) (hs1 : St_end I) (hs2 : St_text I) (hs3 : St_fault I) (hs4 : St_thing I) (hs5 : St_supper I) (hs6 : St_rule I) (hs7 : St_put I) (hs8 : St_has I) (hs9 : St_may I) (hs10 : St_lacks I) (hs11 : St_eat I) (hs12 : St_night I) (hs13 : St_now I) (hs14 : St_last I) (hs15 : St_keep I) (hs16 : St_back I) (hs17 : St_day I) (hs18 : St_clear I) (hs19 : St_row I) (hs20 : St_bears I) (hs21 : St_best I) (hs22 : St_fairest I) (hs23 : St_surest I) (hs24 : St_closes I) (hs25 : St_shortest I) (hs26 : St_small I) (hs27 : St_dish I) (hs28 : St_cheap I) (hs29 : St_cold I) (hs30 : St_sheet I) (hs31 : St_lay I) (hs32 : St_read I) (hs33 : St_torn I) (hs34 : St_count I) : W p l e room_1 s m #[Value.ref b] below meth c s.heap [] 0 0 (lw_Z below #[Value.ref b] s) (entryFrame m ([Value.ref b] : List Value).toArray 4) := by
  obtain ⟨hx, hb, hr, hml, hown, hts, hX, hbl, hlocks, hgv⟩ := id C0
  obtain ⟨aK, aV, hEV⟩ := ev0 hts hgv
  obtain ⟨D, cI, cB, cZ, cK, hK⟩ := kn0 hts
  have htg : ∀ w ∈ GW, w.before #[Value.ref b] s = true := fun w h => hts w (List.mem_filter.mp h).1
  obtain ⟨X, hXe⟩ : ∃ X : XT, X = (p, l, e, room_1, s, m, #[Value.ref b], below, meth, c, (fun q : Nat => s.heap.size ≤ q), s.heap, 0, 0, lw_Z below #[Value.ref b] s) := ⟨_, rfl⟩
  obtain ⟨Y, hYe⟩ : ∃ Y : YT, Y = (D, (cI, cB, cZ, cK), (fun _ => 0), 0, (fun _ _ => .inr (0, [])), aK, aV) := ⟨_, rfl⟩
  have hN : Y.N = 0 := by rw [hYe]
  have C : Cx (xset X 0 0) Y 4 cL_law RL (Cond.initialized RX6 :: GW) room_1 l := by
    subst hXe; subst hYe
    exact ⟨hx, hb, hml, hown, fun w hw => by rcases List.mem_cons.mp hw with rfl | h; exact htg _ mInit_RX6; exact htg w h, hK, fun i j hi _ _ => absurd hi (Nat.not_lt_zero _), fun i hi => absurd hi (Nat.not_lt_zero _), hlocks, rfl, rfl, Nat.zero_le _, Nat.zero_le _, rfl, hEV⟩
  have hXa : NXa X := by subst hXe; exact fun q h => h
  have hSX : SX (xset X 125 4005) b L xs := by subst hXe; exact ⟨hX, hbl, Nat.not_le.mpr hbl⟩
  have hend : ∀ (Y : YT) (lv : List (Nat × Value)) (μ : Mem), G (xset X 125 4005) Y 4 1268 lv [.int 1] μ := by
    subst hXe
    intro Y lv μ H locs ls hP hS hl
    exact va_forget (fun q hq => hS.2.2 q hq) (lw_ret hx hb hr hlocks dL_law_1268)
  have key : G (xset X 0 0) Y 4 0 [(0, .ref b)] [] mu0 := by
    refine g_newO C hXa (id := 0) hN (Cn := RX6) (T := TX6) (Nc := 13) (ci := 6) (ty := tyX6) (fun w hw => List.mem_cons_of_mem _ (inX6 w hw)) tyX6_ok (List.mem_cons_of_mem _ mCl_RL_7) (List.mem_cons_of_mem _ mIns_X6) (List.mem_cons_of_mem _ mInit_RX6) rfl [.null, .null, .null, .int 0, .null, .null, .null, .null, .int 0, .null, .null, .null, .int 0] dfX6 fX6 rfl (by decide) (by decide) dL_law_0 (fun Y1 x1 C1 K1 n1 a1 s1 => ?_)
    refine g_dup C1 dL_law_3 rfl ?_
    refine g_callC C1 hXa (ok_X6_init (cx_YI C1) (b := 0) n1 s1 hinit) (by omega) a1 (gw_cons mC_X6_init) rfl (List.mem_cons_of_mem _ mInit_RX6) (List.mem_cons_of_mem _ mM_RL_9) (List.mem_cons_of_mem _ mI_X6_init) rfl dc_X6_init ⟨by decide, by decide⟩ (by decide) (by decide) (Nat.le_of_ble_eq_true rfl) dL_law_4 (fun Y2 m2 C2 K2 P2 => ?_)
    obtain ⟨n2, f2, h⟩ := P2
    have a2 : Y2.ad 0 = x1 := (K2.2.2.1 0 (by omega)).trans a1
    refine g_astore_n C2 [(1, .ref x1), (0, .ref b)] dL_law_7 (by decide) rfl ?_
    refine g_newO C2 hXa (id := 100) n2 (Cn := RX7) (T := TX7) (Nc := 56) (ci := 7) (ty := tyX7) (fun w hw => List.mem_cons_of_mem _ (inX7 w hw)) tyX7_ok (List.mem_cons_of_mem _ mCl_RL_10) (List.mem_cons_of_mem _ mIns_X7) (List.mem_cons_of_mem _ mInit_RX7) rfl [.int 0, .null, .int 0, .null, .null, .null, .int 0, .int 0, .int 0, .null, .int 0, .null, .int 0, .null, .null, .null, .int 0, .int 0, .int 0, .null, .int 0, .int 0, .int 0, .null, .null, .null, .int 0, .int 0, .int 0, .int 0, .int 0, .int 0, .int 0, .null, .null, .null, .null, .int 0, .null, .int 0, .null, .int 0, .null, .int 0, .int 0, .int 0, .int 0, .int 0, .int 0, .null, .int 0, .int 0, .null, .null, .null, .int 0] dfX7 fX7 rfl (by decide) (by decide) dL_law_8 (fun Y3 x2 C3 K3 n3 a3 s3 => ?_)
    have a4 : Y3.ad 0 = x1 := (K3.2.2.1 0 (by omega)).trans a2
    have f3 := isX6_tr f2 K3 (Or.inr (by decide))
    refine g_dup C3 dL_law_11 rfl ?_
    refine g_callC C3 hXa (ok_X7_init (cx_YI C3) (b := 100) n3 s3 h) (by omega) a3 (gw_cons mC_X7_init) rfl (List.mem_cons_of_mem _ mInit_RX7) (List.mem_cons_of_mem _ mM_RL_12) (List.mem_cons_of_mem _ mI_X7_init) rfl dc_X7_init ⟨by decide, by decide⟩ (by decide) (by decide) (Nat.le_of_ble_eq_true rfl) dL_law_12 (fun Y4 m4 C4 K4 P4 => ?_)
    obtain ⟨n4, f4, h4⟩ := P4
    have a5 : Y4.ad 0 = x1 := (K4.2.2.1 0 (by omega)).trans a4
    have a6 : Y4.ad 100 = x2 := (K4.2.2.1 100 (by omega)).trans a3
    have f5 := isX6_tr f3 K4 (Or.inr (by decide))
    refine g_astore_n C4 [(2, .ref x2), (1, .ref x1), (0, .ref b)] dL_law_15 (by decide) rfl ?_
    refine g_iconst C4 (v := (0 : Int32)) dL_law_16 (by decide) ?_
    refine g_istore_n C4 [(3, .int 0), (2, .ref x2), (1, .ref x1), (0, .ref b)] dL_law_17 (by decide) rfl ?_
    rw [← a5, ← a6]
    exact law_loop C4 hSX (cx_YI C4) f5 f4 hLb hmono hs0 hs1 hs2 hs3 hs4 hs5 hs6 hs7 hs8 hs9 hs10 hs11 hs12 hs13 hs14 hs15 hs16 hs17 hs18 hs19 hs20 hs21 hs22 hs23 hs24 hs25 hs26 hs27 hs28 hs29 hs30 hs31 hs32 hs33 hs34 (hend Y4) 513 0 m4 (by omega) (by omega) h4
  rw [lg_entry_eq]
  subst hXe; subst hYe
  exact key s.heap [] _ (fun k q h => absurd (wd_in h).1 (Nat.not_lt_zero _)) va_S.rf (lv_entry [.ref b] (Nat.le_of_ble_eq_true rfl))
