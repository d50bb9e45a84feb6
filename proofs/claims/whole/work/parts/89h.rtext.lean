-- the reference's lines, the text
theorem r_279_f {μ : Mem} {c f : Nat} {Q : Mem → Prop} (h : RF μ c f) (k : Q μ) : nX7_readLine_279 100 Q μ := ⟨fun _ => r_nf h k, fun d => absurd d (RF_nz h)⟩
theorem r_279 {R : Type} {G : R → Prop} {E : Nat → Nat → R} {K : Nat → R} {tl p : Nat} {tp : Nat → Nat} {μ : Mem} {Q : Mem → Prop} (hT : TR μ tl tp) (hp : p ≤ tl) (hR : RT tl tp μ p) (hG : G (fStop tl tp p E K)) (hB : ∀ e : Nat, tS tl tp e = 4 → K e = E 1 (tF tl tp e))
    (hE : ∀ c f : Nat, 1 ≤ c → c ≤ 6 → f ≤ tl → G (E c f) → ∀ m : Mem, RF m c f → FD μ m → Q m)
    (hK : ∀ e : Nat, p < e → e ≤ tl → G (K e) → ∀ m : Mem, RT tl tp m e → FN μ m → Q m) : nX7_readLine_279 100 Q μ := by
  have hb : ∀ i : Nat, i < tl → tp i < 256 := fun i hi => (hT.2.2 i hi).1
  unfold nX7_readLine_279 nX7_readLine_300 nX7_readLine_304
  unfold fStop at hG
  have e29 : μ.1 100 29 = (3 : Int32) ↔ tS tl tp p = 3 := RT_eq (x := 3) hR (by omega)
  rw [e29]
  refine ⟨fun d => absurd hR.2.2.2.2.2 d, fun _ => ⟨fun z => ?_, fun z => ?_⟩⟩
  · rw [if_pos z] at hG
    exact r_need (c := 2) hR (by omega) (by omega) (fun m rf fn => r_nf rf (hE 2 _ (by omega) (by omega) (tF_le hp).2 hG m rf (FD_FN fn)))
  · rw [if_neg (by omega)] at hG
    have gt := tE_gt (tp := tp) hp hb (by omega) (by omega)
    have := tF_le (tp := tp) hp
    exact r_needs_y np1 (r_nx hT (tE_le hp).2 hR.1 hR.2.2.2.2.2 hG (fun s => hB _ s) (fun c f c1 c2 f1 ge m rf fn => hE c f c1 c2 f1 ge m rf (FD_FN fn)) (fun g m rt fn => hK _ (by omega) (tE_le hp).2 g m rt fn))
theorem r_187_f {μ : Mem} {c f : Nat} {Q : Mem → Prop} {v w : Int32} (hw : nz w) (h : RF μ c f) (k : ∀ m : Mem, RF m c f → FD μ m → Q m) : nX7_readLine_187 100 Q v w μ := by
  have rf : RF (ms μ 100 21 w) c f := RF_ms100 h (by omega)
  refine ⟨hw, r_nf rf ⟨fun d => absurd (show nI c ≤ 0 by rw [← rf.1]; exact d) (nI_nle (by have := h.2.2; omega) (by have := h.2.2; omega)), fun _ => k _ rf (FD_ms100 (by omega))⟩⟩
theorem r_165_f {μ : Mem} {c f : Nat} {Q : Mem → Prop} {v w : Int32} (hw : nz w) (h : RF μ c f) (k : ∀ m : Mem, RF m c f → FD μ m → Q m) : nX7_readLine_165 100 Q v w μ := by
  have rf : RF (ms μ 100 20 w) c f := RF_ms100 h (by omega)
  have k' : ∀ m : Mem, RF m c f → FD (ms μ 100 20 w) m → Q m := fun m r d => k m r (FD_trans (FD_ms100 (by omega)) d)
  exact ⟨hw, fun _ => r_187_f nz1 rf k', fun _ => ⟨fun _ => r_187_f nz0 rf k', fun _ => r_187_f nz1 rf k'⟩⟩
theorem r_142_f {μ : Mem} {c f : Nat} {Q : Mem → Prop} {v w : Int32} (h : RF μ c f) (k : ∀ m : Mem, RF m c f → FD μ m → Q m) : nX7_readLine_142 100 Q v w μ :=
  r_needs_f h ⟨fun _ => r_165_f nz1 h k, fun _ => ⟨fun _ => r_165_f nz0 h k, fun _ => r_165_f nz1 h k⟩⟩
theorem r_124_f {μ : Mem} {c f : Nat} {Q : Mem → Prop} {v : Int32} (h : RF μ c f) (k : ∀ m : Mem, RF m c f → FD μ m → Q m) : nX7_readLine_124 100 Q v μ :=
  ⟨fun _ => r_142_f h k, fun _ => ⟨fun _ => r_142_f h k, fun _ => r_142_f h k⟩⟩
theorem r_106_f {μ : Mem} {c f : Nat} {Q : Mem → Prop} {v w : Int32} (h : RF μ c f) (k : ∀ m : Mem, RF m c f → FD μ m → Q m) : nX7_readLine_106 100 Q v w μ :=
  r_needs_f h ⟨fun _ => r_124_f h k, fun _ => ⟨fun _ => r_142_f h k, fun _ => r_124_f h k⟩⟩
theorem r_75_f {μ : Mem} {c f : Nat} {Q : Mem → Prop} {v w : Int32} (h : RF μ c f) (k : ∀ m : Mem, RF m c f → FD μ m → Q m) : nX7_readLine_75 100 Q v w μ :=
  r_needs_f h (r_in (fun _ _ => ⟨fun d => absurd d np1, fun _ => ⟨fun _ => r_106_f h k, fun _ => r_106_f h k⟩⟩) (fun _ => ⟨fun _ => r_106_f h k, fun d => absurd rfl d⟩))
theorem r_50_f {μ : Mem} {c f : Nat} {Q : Mem → Prop} {v w : Int32} (h : RF μ c f) (k : ∀ m : Mem, RF m c f → FD μ m → Q m) : nX7_readLine_50 100 Q v w μ :=
  r_needs_f h ⟨fun _ => r_75_f h k, fun _ => ⟨fun _ => r_75_f h k, fun _ => r_75_f h k⟩⟩
/-- the flags set -/
theorem r_142 {x ag sh ag' sh' : Nat} {μ : Mem} {Q : Mem → Prop} (hx : x ≤ 14) (ha : ag ≤ 1) (hh : sh ≤ 1) (ea : ag' = if x = 11 then 1 else ag) (eh : sh' = if x = 12 then 1 else sh) (h20 : μ.1 100 20 = nI ag) (h21 : μ.1 100 21 = nI sh) (h : nX7_readLine_187 100 Q (nI x) (nI sh') (ms μ 100 20 (nI ag'))) : nX7_readLine_142 100 Q (nI x) 1 μ := by
  have q11 : nI x = (11 : Int32) ↔ x = 11 := nI_eq (b := 11) (by omega) (by omega)
  have q12 : nI x = (12 : Int32) ↔ x = 12 := nI_eq (b := 12) (by omega) (by omega)
  have qa : nI ag = (0 : Int32) ↔ ag = 0 := nI_eq (b := 0) (by omega) (by omega)
  have qs : nI sh = (0 : Int32) ↔ sh = 0 := nI_eq (b := 0) (by omega) (by omega)
  have t165 : ∀ w : Int32, nz w → w = nI ag' → nX7_readLine_165 100 Q (nI x) w μ := fun w nw hw => by
    unfold nX7_readLine_165 nX7_readLine_182
    have e21 : (ms μ 100 20 w).1 100 21 = nI sh := by rw [ms_1, if_pos rfl, if_neg (by decide)]; exact h21
    rw [e21, q12, qs, hw]
    rw [hw] at nw
    refine ⟨nw, fun d => ?_, fun d => ⟨fun d2 => ?_, fun d2 => ?_⟩⟩
    · have : sh' = 1 := by rw [eh]; split <;> omega
      rw [this] at h; exact h
    · have : sh' = 0 := by rw [eh, if_neg d2]; exact d
      rw [this] at h; exact h
    · have : sh' = 1 := by rw [eh, if_pos d2]
      rw [this] at h; exact h
  unfold nX7_readLine_142 nX7_readLine_160
  refine r_needs_y np1 ?_
  rw [h20, q11, qa]
  refine ⟨fun d => t165 _ nz1 ?_, fun d => ⟨fun d2 => t165 _ nz0 ?_, fun d2 => t165 _ nz1 ?_⟩⟩
  · have : ag' = 1 := by rw [ea]; split <;> omega
    rw [this]; rfl
  · have : ag' = 0 := by rw [ea, if_neg d2]; exact d
    rw [this]; rfl
  · have : ag' = 1 := by rw [ea, if_pos d2]
    rw [this]; rfl
theorem r_readLine {R : Type} {G : R → Prop} {E : Nat → Nat → R} {K : RA → List (Nat × Nat) → Nat → Nat → Nat → R} {tl p ag sh : Nat} {tp : Nat → Nat} {ρ : RA} {U : List (Nat × Nat)} {μ : Mem} {Q : Mem → Prop} (hS : RS tl tp μ ρ U ag sh) (hI : LI ρ U p (14 * ρ 0 4)) (ha : ag ≤ 1) (hh : sh ≤ 1) (hp : p ≤ tl) (hR : RT tl tp μ p) (hG : G (fLine tl tp E K ρ U ag sh p)) (hB : ∀ (ρ' : RA) (U' : List (Nat × Nat)) (ag' sh' e : Nat), tS tl tp e = 4 → K ρ' U' ag' sh' e = E 1 (tF tl tp e))
    (hE : ∀ c f : Nat, 1 ≤ c → c ≤ 6 → f ≤ tl → G (E c f) → ∀ m : Mem, RF m c f → FD μ m → Q m)
    (hK : ∀ (ρ' : RA) (U' : List (Nat × Nat)) (ag' sh' e : Nat), LI ρ' U' e (14 * ρ' 0 4) → ag' ≤ 1 → sh' ≤ 1 → p < e → e ≤ tl → G (K ρ' U' ag' sh' e) → ∀ m : Mem, RS tl tp m ρ' U' ag' sh' → RT tl tp m e → FD μ m → Q m) : PX7_readLine 100 μ Q := by
  have hq := tE_le (tp := tp) hp
  have hfl := (tF_le (tp := tp) hp).2
  have mo := tE_mono (tp := tp) hp
  have l8 := hI.2.2.1
  have h31 := hR.2.2.2.2.2
  have x10 : μ.1 100 10 = nI (ρ 0 0) := hS.2.1.1
  have x12 : μ.1 100 12 = nI (ρ 0 4) := hS.2.1.2.1
  have liE : LI ρ U (tE tl tp p) (14 * ρ 0 4) := LI_mono hI mo (Nat.le_refl _)
  -- a name that begins no line
  have bad : G (E 2 (tF tl tp p)) → ∀ v : Int32, (v.toInt < 0 ∨ 14 < v.toInt) → nX7_readLine_17 100 Q v μ := fun g v hv => by
    unfold nX7_readLine_17
    refine r_in (fun z1 z2 => ?_) (fun _ => ⟨fun d => absurd rfl d, fun _ => r_in (fun z1 z2 => ?_) (fun _ => ⟨fun _ => ?_, fun d => absurd rfl d⟩)⟩)
    · rw [show (0 : Int64).toInt = 0 by decide] at z1
      rw [show (3 : Int64).toInt = 3 by decide] at z2
      omega
    · rw [show (10 : Int64).toInt = 10 by decide] at z1
      rw [show (14 : Int64).toInt = 14 by decide] at z2
      omega
    · have kq : ∀ m1 : Mem, RF m1 2 (tF tl tp p) → FN μ m1 → ∀ m : Mem, RF m 2 (tF tl tp p) → FD m1 m → Q m := fun m1 rf1 fn m rf fd => hE 2 _ (by omega) (by omega) hfl g m rf (FD_trans (FD_FN fn) fd)
      unfold nX7_readLine_50
      exact r_need (c := 2) hR (by omega) (by omega) (fun m1 rf fn => ⟨fun _ => r_75_f rf (kq m1 rf fn), fun _ => ⟨fun _ => r_75_f rf (kq m1 rf fn), fun _ => r_75_f rf (kq m1 rf fn)⟩⟩)
  -- behind the flags
  have go : ∀ (x ag' sh' : Nat) (Y : R), x ≤ 14 → ag' ≤ 1 → sh' ≤ 1 → G Y → (tS tl tp (tE tl tp p) = 4 → Y = E 1 (tF tl tp (tE tl tp p))) → (G Y → ∀ m : Mem, RS tl tp m ρ U ag' sh' → RT tl tp m (tE tl tp p) → FD μ m → (¬ nI x = ((10 : Int32)) → (¬ nI x = ((11 : Int32)) → (¬ nI x = ((12 : Int32)) → (¬ nI x = ((13 : Int32)) → (¬ nI x = ((14 : Int32)) → PX7_readSupper 100 (nI x) m (fun (m38 : Mem) => nX7_readLine_279 100 Q m38)) ∧ (nI x = ((14 : Int32)) → PX7_readGuest 100 m (fun (m40 : Mem) => nX7_readLine_279 100 Q m40))) ∧ (nI x = ((13 : Int32)) → PX7_readOut 100 m (fun (m42 : Mem) => nX7_readLine_279 100 Q m42))) ∧ (nI x = ((12 : Int32)) → PX7_readShops 100 m (fun (m44 : Mem) => nX7_readLine_279 100 Q m44))) ∧ (nI x = ((11 : Int32)) → PX7_readNumber 100 ((0 : Int32)) ((7 : Int32)) m (fun (r47 : Int32) (m46 : Mem) => nX7_readLine_279 100 Q (ms m46 100 16 r47)))) ∧ (nI x = ((10 : Int32)) → PX7_readThing 100 m (fun (m48 : Mem) => nX7_readLine_279 100 Q m48))) → nX7_readLine_187 100 Q (nI x) (nI sh') (ms μ 100 20 (nI ag')) := by
    intro x ag' sh' Y hx ha' hh' gY bY hY
    unfold nX7_readLine_187
    have rs1 : RS tl tp (ms (ms μ 100 20 (nI ag')) 100 21 (nI sh')) ρ U ag' sh' := by
      have o : ∀ a j : Nat, (a = 100 → j ≠ 20 ∧ j ≠ 21) → (ms (ms μ 100 20 (nI ag')) 100 21 (nI sh')).1 a j = μ.1 a j := fun a j z => by
        rw [ms_1]
        by_cases y : a = 100
        · have := z y
          rw [if_pos y, if_neg (by omega), ms_1, if_pos y, if_neg (by omega)]
        · rw [if_neg y, ms_1, if_neg y]
      exact ⟨⟨(o _ _ (by omega)).trans hS.1.1, hS.1.2.1, fun i hi => ⟨(hS.1.2.2 i hi).1, (o _ _ (by omega)).trans (hS.1.2.2 i hi).2⟩⟩, MD_of hS.2.1 (fun a j q => o a j (by omega)), RU_of hS.2.2.1 (o _ _ (by omega)) (fun i => ⟨o _ _ (by omega), o _ _ (by omega)⟩), by rw [ms_1, if_pos rfl, if_neg (by decide), ms_1, if_pos rfl, if_pos rfl], by rw [ms_1, if_pos rfl, if_pos rfl]⟩
    have rt1 : RT tl tp (ms (ms μ 100 20 (nI ag')) 100 21 (nI sh')) p := RT_ms100 (RT_ms100 hR (by omega)) (by omega)
    have fd1 : FD μ (ms (ms μ 100 20 (nI ag')) 100 21 (nI sh')) := FD_trans (FD_ms100 (by omega)) (FD_ms100 (by omega))
    have nzs : nz (nI sh') := by
      rcases (show sh' = 0 ∨ sh' = 1 by omega) with y | y
      · rw [y]; exact nz0
      · rw [y]; exact nz1
    refine ⟨nzs, r_nx rs1.1 hq.2 rt1.1 rt1.2.2.2.2.2 gY bY (fun c f c1 c2 f1 ge m rf fn => ⟨fun d => absurd (show nI c ≤ 0 by rw [← rf.1]; exact d) (nI_nle (by omega) (by omega)), fun _ => hE c f c1 c2 f1 ge m rf (FD_trans fd1 (FD_FN fn))⟩) (fun g m rt fn => ⟨fun _ => ?_, fun d => absurd (show m.1 100 31 ≤ 0 by rw [rt.2.2.2.2.2]; exact nI_le (a := 0) (b := 0) (by omega) (by omega)) d⟩)⟩
    exact hY g m (RS_FN rs1 fn) rt (FD_trans fd1 (FD_FN fn))
  -- behind the line
  have stop : ∀ (ρ' : RA) (U' : List (Nat × Nat)) (ag' sh' p' : Nat), LI ρ' U' p' (14 * ρ' 0 4) → ag' ≤ 1 → sh' ≤ 1 → p ≤ p' → p' ≤ tl → G (fStop tl tp p' E (fun e => K ρ' U' ag' sh' e)) → ∀ m : Mem, RS tl tp m ρ' U' ag' sh' → RT tl tp m p' → FD μ m → nX7_readLine_279 100 Q m := fun ρ' U' ag' sh' p' li a1 s1 pp pl g m rs rt fd =>
    r_279 rs.1 pl rt g (fun e s => hB _ _ _ _ e s) (fun c f c1 c2 f1 ge m' rf fd' => hE c f c1 c2 f1 ge m' rf (FD_trans fd fd')) (fun e pe el ge m' rt' fn' => hK ρ' U' ag' sh' e (LI_mono li (by omega) (Nat.le_refl _)) a1 s1 (by omega) el ge m' (RS_FN rs fn') rt' (FD_trans fd (FD_FN fn')))
  have fE : ∀ m1 : Mem, FD μ m1 → ∀ c f : Nat, 1 ≤ c → c ≤ 6 → f ≤ tl → G (E c f) → ∀ m : Mem, RF m c f → FD m1 m → nX7_readLine_279 100 Q m := fun m1 fd1 c f c1 c2 f1 ge m rf fd => r_279_f rf (hE c f c1 c2 f1 ge m rf (FD_trans fd1 fd))
  unfold fLine at hG
  unfold PX7_readLine
  have e29 : μ.1 100 29 = (1 : Int32) ↔ tS tl tp p = 1 := RT_eq (x := 1) hR (by omega)
  rw [e29]
  refine ⟨fun z => ?_, fun z => ?_⟩
  · have nn : ∀ s : Nat, ¬ (tS tl tp p = 1 ∧ isWd tp s (tF tl tp p) (tE tl tp p)) := fun s y => z y.1
    rw [if_neg (nn 0), if_neg (nn 1), if_neg (nn 2), if_neg (nn 3), if_neg (nn 4), if_neg (nn 5), if_neg (nn 6), if_neg (nn 7), if_neg (nn 8)] at hG
    exact bad hG _ (Or.inl (by decide))
  refine r_nameNow hS.1 hR.1 hR.2.1 hq.1 hq.2 (fun a a12 y => ?_) (fun no => ?_)
  · have nn : ∀ s : Nat, s < 12 → s ≠ a → ¬ (tS tl tp p = 1 ∧ isWd tp s (tF tl tp p) (tE tl tp p)) := fun s hs ne y2 => ne (wd_uniq hs a12 y2.2 y)
    have yes : tS tl tp p = 1 ∧ isWd tp a (tF tl tp p) (tE tl tp p) := ⟨z, y⟩
    -- the supper
    have sup : ∀ k : Nat, k ≤ 3 → G (fSup tl tp k E (fun ρ' U' e => K ρ' U' ag sh e) ρ U (tF tl tp p) (tE tl tp p)) → nX7_readLine_17 100 Q (nI k) μ := fun k hk g => by
      unfold fSup at g
      have ne : ∀ u : Nat, 4 ≤ u → u < 100 → ¬ nI k = nI u := fun u h1 h2 x => by
        rw [nI_eq (by omega) (by omega)] at x
        omega
      unfold nX7_readLine_17 nX7_readLine_45
      refine r_in (fun _ _ => ⟨fun _ => ?_, fun d => absurd d np1⟩) (fun z1 => ?_)
      · unfold nX7_readLine_50 nX7_readLine_70
        refine r_needs_y np1 ⟨fun _ => ?_, fun d => absurd d (ne 10 (by omega) (by omega))⟩
        unfold nX7_readLine_75 nX7_readLine_101
        refine r_needs_y np1 (r_in (fun _ _ => ⟨fun d => absurd d np1, fun _ => ?_⟩) (fun z1 => ?_))
        · rw [x12]
          refine ⟨fun d => ?_, fun d => ?_⟩
          · have c8 : ¬ ρ 0 4 < 8 := by
              have := (nI_leI (a := 8) (by omega) (by omega)).1 d
              omega
            rw [if_neg c8] at g
            unfold nX7_readLine_106
            have kq : ∀ m1 : Mem, FN μ m1 → ∀ m : Mem, RF m 5 (tF tl tp p) → FD m1 m → Q m := fun m1 fn m rf fd => hE 5 _ (by omega) (by omega) hfl g m rf (FD_trans (FD_FN fn) fd)
            exact r_need (c := 5) hR (by omega) (by omega) (fun m1 rf fn => ⟨fun _ => r_124_f rf (kq m1 fn), fun _ => ⟨fun _ => r_142_f rf (kq m1 fn), fun _ => r_124_f rf (kq m1 fn)⟩⟩)
          · have c8 : ρ 0 4 < 8 := by
              by_cases c8 : ρ 0 4 < 8
              · exact c8
              · exact absurd (nI_le (a := 8) (by omega) (by omega)) d
            rw [if_pos c8] at g
            unfold nX7_readLine_106 nX7_readLine_124 nX7_readLine_137
            refine r_needs_y np1 ⟨fun _ => ⟨fun _ => ?_, fun d => absurd d (ne 12 (by omega) (by omega))⟩, fun d => absurd d (ne 11 (by omega) (by omega))⟩
            refine r_142 (ag' := ag) (sh' := sh) (by omega) ha hh (by rw [if_neg (by omega)]) (by rw [if_neg (by omega)]) hS.2.2.2.1 hS.2.2.2.2 ?_
            refine go k ag sh _ (by omega) ha hh g (fun s4 => ?_) (fun g2 m rs rt fd => ⟨fun _ => ⟨fun _ => ⟨fun _ => ⟨fun _ => ⟨fun _ => ?_, fun d => absurd d (ne 14 (by omega) (by omega))⟩, fun d => absurd d (ne 13 (by omega) (by omega))⟩, fun d => absurd d (ne 12 (by omega) (by omega))⟩, fun d => absurd d (ne 11 (by omega) (by omega))⟩, fun d => absurd d (ne 10 (by omega) (by omega))⟩)
            · by_cases k3 : k = 3
              · rw [if_pos k3]; exact fNum_4 s4
              · rw [if_neg k3]; exact fTok_4 s4
            · exact r_readSupper rs liE (by omega) hk c8 hq.2 rt g2 (fE m fd) (fun ρ' U' p' li x4 pp pl g3 m' rs' rt' fd' => stop ρ' U' ag sh p' (LI_mono li (Nat.le_refl _) (by omega)) ha hh (by omega) pl g3 m' rs' rt' (FD_trans fd fd'))
        · rw [nI_toInt (by omega), show (0 : Int64).toInt = 0 by decide, show (3 : Int64).toInt = 3 by decide] at z1
          omega
      · rw [nI_toInt (by omega), show (0 : Int64).toInt = 0 by decide, show (3 : Int64).toInt = 3 by decide] at z1
        omega
    -- the others
    have in17 : ∀ x : Nat, 10 ≤ x → x ≤ 14 → nX7_readLine_50 100 Q (nI x) 1 μ → nX7_readLine_17 100 Q (nI x) μ := fun x h1 h2 h => by
      unfold nX7_readLine_17 nX7_readLine_45
      refine r_in (fun z1 z2 => ?_) (fun _ => ⟨fun d => absurd rfl d, fun _ => r_in (fun _ _ => ⟨fun d => absurd d np1, fun _ => h⟩) (fun z1 => ?_)⟩)
      · rw [nI_toInt (by omega), show (3 : Int64).toInt = 3 by decide] at z2
        omega
      · rw [nI_toInt (by omega), show (10 : Int64).toInt = 10 by decide, show (14 : Int64).toInt = 14 by decide] at z1
        omega
    have in75 : ∀ x : Nat, 10 ≤ x → x ≤ 14 → nX7_readLine_106 100 Q (nI x) 1 μ → nX7_readLine_75 100 Q (nI x) 1 μ := fun x h1 h2 h => by
      unfold nX7_readLine_75 nX7_readLine_101
      refine r_needs_y np1 (r_in (fun z1 z2 => ?_) (fun _ => ⟨fun _ => h, fun d => absurd rfl d⟩))
      rw [nI_toInt (by omega), show (3 : Int64).toInt = 3 by decide] at z2
      omega
    rcases (show a = 0 ∨ a = 1 ∨ a = 2 ∨ a = 3 ∨ a = 4 ∨ a = 5 ∨ a = 6 ∨ a = 7 ∨ a = 8 ∨ 9 ≤ a by omega) with q | q | q | q | q | q | q | q | q | q
    · subst q
      rw [if_pos yes] at hG
      unfold fThing at hG
      refine in17 10 (by omega) (by omega) ?_
      unfold nX7_readLine_50 nX7_readLine_70
      refine r_needs_y np1 ⟨fun d => absurd rfl d, fun _ => ?_⟩
      rw [x10]
      have t6 := hI.1.1
      refine ⟨fun d => ?_, fun d => ?_⟩
      · have c6 : ¬ ρ 0 0 < 6 := by
          have := (nI_leI (a := 6) (by omega) (by omega)).1 d
          omega
        rw [if_neg c6] at hG
        unfold nX7_readLine_75
        have kq : ∀ m1 : Mem, FN μ m1 → ∀ m : Mem, RF m 5 (tF tl tp p) → FD m1 m → Q m := fun m1 fn m rf fd => hE 5 _ (by omega) (by omega) hfl hG m rf (FD_trans (FD_FN fn) fd)
        exact r_need (c := 5) hR (by omega) (by omega) (fun m1 rf fn => r_in (fun _ _ => ⟨fun d => absurd d np1, fun _ => ⟨fun _ => r_106_f rf (kq m1 fn), fun _ => r_106_f rf (kq m1 fn)⟩⟩) (fun _ => ⟨fun _ => r_106_f rf (kq m1 fn), fun d => absurd rfl d⟩))
      · have c6 : ρ 0 0 < 6 := by
          by_cases c6 : ρ 0 0 < 6
          · exact c6
          · exact absurd (nI_le (a := 6) (by omega) (by omega)) d
        rw [if_pos c6] at hG
        refine in75 10 (by omega) (by omega) ?_
        unfold nX7_readLine_106 nX7_readLine_124 nX7_readLine_137
        refine r_needs_y np1 ⟨fun _ => ⟨fun _ => ?_, fun d => absurd d (by decide)⟩, fun d => absurd d (by decide)⟩
        refine r_142 (ag' := ag) (sh' := sh) (by omega) ha hh (by rw [if_neg (by omega)]) (by rw [if_neg (by omega)]) hS.2.2.2.1 hS.2.2.2.2 ?_
        refine go 10 ag sh _ (by omega) ha hh hG (fun s4 => fNum_4 s4) (fun g2 m rs rt fd => ⟨fun d => absurd rfl d, fun _ => ?_⟩)
        exact r_readThing rs liE c6 hq.2 rt g2 (fE m fd) (fun ρ' p' li x4 pp pl g3 m' rs' rt' fd' => stop ρ' U ag sh p' (by rw [x4]; exact li) ha hh (by omega) pl g3 m' rs' rt' (FD_trans fd fd'))
    · subst q
      rw [if_neg (nn 0 (by omega) (by omega)), if_pos yes] at hG
      exact sup 0 (by omega) hG
    · subst q
      rw [if_neg (nn 0 (by omega) (by omega)), if_neg (nn 1 (by omega) (by omega)), if_pos yes] at hG
      exact sup 1 (by omega) hG
    · subst q
      rw [if_neg (nn 0 (by omega) (by omega)), if_neg (nn 1 (by omega) (by omega)), if_neg (nn 2 (by omega) (by omega)), if_pos yes] at hG
      exact sup 2 (by omega) hG
    · subst q
      rw [if_neg (nn 0 (by omega) (by omega)), if_neg (nn 1 (by omega) (by omega)), if_neg (nn 2 (by omega) (by omega)), if_neg (nn 3 (by omega) (by omega)), if_pos yes] at hG
      exact sup 3 (by omega) hG
    · subst q
      rw [if_neg (nn 0 (by omega) (by omega)), if_neg (nn 1 (by omega) (by omega)), if_neg (nn 2 (by omega) (by omega)), if_neg (nn 3 (by omega) (by omega)), if_neg (nn 4 (by omega) (by omega)), if_pos yes] at hG
      unfold fAgain at hG
      refine in17 11 (by omega) (by omega) ?_
      unfold nX7_readLine_50 nX7_readLine_70
      refine r_needs_y np1 ⟨fun _ => in75 11 (by omega) (by omega) ?_, fun d => absurd d (by decide)⟩
      unfold nX7_readLine_106 nX7_readLine_124 nX7_readLine_137 nX7_readLine_141
      refine r_needs_y np1 ⟨fun d => absurd rfl d, fun _ => ?_⟩
      have qa : nI ag = (0 : Int32) ↔ ag = 0 := nI_eq (b := 0) (by omega) (by omega)
      rw [hS.2.2.2.1, qa]
      refine ⟨fun d => ?_, fun d => ⟨fun _ => ?_, fun d => absurd d (by decide)⟩⟩
      · rw [if_neg d] at hG
        have kq : ∀ m1 : Mem, FN μ m1 → ∀ m : Mem, RF m 4 (tF tl tp p) → FD m1 m → Q m := fun m1 fn m rf fd => hE 4 _ (by omega) (by omega) hfl hG m rf (FD_trans (FD_FN fn) fd)
        unfold nX7_readLine_142
        exact r_need (c := 4) hR (by omega) (by omega) (fun m1 rf fn => ⟨fun _ => r_165_f nz1 rf (kq m1 fn), fun _ => ⟨fun _ => r_165_f nz0 rf (kq m1 fn), fun _ => r_165_f nz1 rf (kq m1 fn)⟩⟩)
      · rw [if_pos d] at hG
        refine r_142 (ag' := 1) (sh' := sh) (by omega) ha hh rfl (by rw [if_neg (by omega)]) hS.2.2.2.1 hS.2.2.2.2 ?_
        refine go 11 1 sh _ (by omega) (by omega) hh hG (fun s4 => fNum_4 s4) (fun g2 m rs rt fd => ⟨fun _ => ⟨fun d => absurd rfl d, fun _ => ?_⟩, fun d => absurd d (by decide)⟩)
        refine r_num (lo := 0) (hi := 7) rs.1 hq.2 rt (by omega) (by omega) g2 (fun _ _ _ s4 => fPoint_4 s4) (fun c f c1 c2 f1 ge x m' rf fn => fE m fd c f c1 c2 f1 ge _ (RF_ms100 rf (by omega)) (FD_trans (FD_FN fn) (FD_ms100 (by omega)))) (fun v v0 v7 _ g3 m3 rt3 fn3 => ?_)
        rw [fPoint_n rt3.2.2.2.2.1] at g3
        have mo1 := tE_mono (tp := tp) hq.2
        exact stop (rset ρ 0 12 v) U 1 sh _ (by
          rw [rset_n _ _ _ _ 0 4 (Or.inr (by omega))]
          exact LI_0 hI (by omega) (Or.inl ⟨rfl, v7⟩)) (by omega) hh (by omega) (tE_le hq.2).2 g3 _ (RS_set0 (j := 12) (RS_FN rs fn3) (by omega)) (RT_ms100 rt3 (by omega)) (FD_trans fd (FD_trans (FD_FN fn3) (FD_ms100 (by omega))))
    · subst q
      rw [if_neg (nn 0 (by omega) (by omega)), if_neg (nn 1 (by omega) (by omega)), if_neg (nn 2 (by omega) (by omega)), if_neg (nn 3 (by omega) (by omega)), if_neg (nn 4 (by omega) (by omega)), if_neg (nn 5 (by omega) (by omega)), if_pos yes] at hG
      unfold fShop at hG
      refine in17 12 (by omega) (by omega) ?_
      unfold nX7_readLine_50 nX7_readLine_70
      refine r_needs_y np1 ⟨fun _ => in75 12 (by omega) (by omega) ?_, fun d => absurd d (by decide)⟩
      unfold nX7_readLine_106 nX7_readLine_124 nX7_readLine_137 nX7_readLine_141
      refine r_needs_y np1 ⟨fun _ => ⟨fun d => absurd rfl d, fun _ => ?_⟩, fun d => absurd d (by decide)⟩
      have qa : nI sh = (0 : Int32) ↔ sh = 0 := nI_eq (b := 0) (by omega) (by omega)
      rw [hS.2.2.2.2, qa]
      refine ⟨fun d => ?_, fun d => ?_⟩
      · rw [if_neg d] at hG
        have kq : ∀ m1 : Mem, FN μ m1 → ∀ m : Mem, RF m 4 (tF tl tp p) → FD m1 m → Q m := fun m1 fn m rf fd => hE 4 _ (by omega) (by omega) hfl hG m rf (FD_trans (FD_FN fn) fd)
        unfold nX7_readLine_142
        exact r_need (c := 4) hR (by omega) (by omega) (fun m1 rf fn => ⟨fun _ => r_165_f nz1 rf (kq m1 fn), fun _ => ⟨fun _ => r_165_f nz0 rf (kq m1 fn), fun _ => r_165_f nz1 rf (kq m1 fn)⟩⟩)
      · rw [if_pos d] at hG
        refine r_142 (ag' := ag) (sh' := 1) (by omega) ha hh (by rw [if_neg (by omega)]) rfl hS.2.2.2.1 hS.2.2.2.2 ?_
        refine go 12 ag 1 _ (by omega) ha (by omega) hG (fun s4 => if_pos s4) (fun g2 m rs rt fd => ⟨fun _ => ⟨fun _ => ⟨fun d => absurd rfl d, fun _ => ?_⟩, fun d => absurd d (by decide)⟩, fun d => absurd d (by decide)⟩)
        exact r_readShops (K := fun ρ' e => K ρ' U ag 1 e) rs liE hq.2 rt g2 (fE m fd) (fun ρ' p' li x4 pp pl g3 m' rs' rt' fd' => stop ρ' U ag 1 p' (by rw [x4]; exact li) ha (by omega) (by omega) pl g3 m' rs' rt' (FD_trans fd fd'))
    · subst q
      rw [if_neg (nn 0 (by omega) (by omega)), if_neg (nn 1 (by omega) (by omega)), if_neg (nn 2 (by omega) (by omega)), if_neg (nn 3 (by omega) (by omega)), if_neg (nn 4 (by omega) (by omega)), if_neg (nn 5 (by omega) (by omega)), if_neg (nn 6 (by omega) (by omega)), if_pos yes] at hG
      refine in17 13 (by omega) (by omega) ?_
      unfold nX7_readLine_50 nX7_readLine_70
      refine r_needs_y np1 ⟨fun _ => in75 13 (by omega) (by omega) ?_, fun d => absurd d (by decide)⟩
      unfold nX7_readLine_106 nX7_readLine_124 nX7_readLine_137
      refine r_needs_y np1 ⟨fun _ => ⟨fun _ => ?_, fun d => absurd d (by decide)⟩, fun d => absurd d (by decide)⟩
      refine r_142 (ag' := ag) (sh' := sh) (by omega) ha hh (by rw [if_neg (by omega)]) (by rw [if_neg (by omega)]) hS.2.2.2.1 hS.2.2.2.2 ?_
      refine go 13 ag sh _ (by omega) ha hh hG (fun s4 => fNum_4 s4) (fun g2 m rs rt fd => ⟨fun _ => ⟨fun _ => ⟨fun _ => ⟨fun d => absurd rfl d, fun _ => ?_⟩, fun d => absurd d (by decide)⟩, fun d => absurd d (by decide)⟩, fun d => absurd d (by decide)⟩)
      exact r_readOut (K := fun ρ' e => K ρ' U ag sh e) rs liE hq.2 rt g2 (fE m fd) (fun ρ' p' li x4 pp pl g3 m' rs' rt' fd' => stop ρ' U ag sh p' (by rw [x4]; exact li) ha hh (by omega) pl g3 m' rs' rt' (FD_trans fd fd'))
    · subst q
      rw [if_neg (nn 0 (by omega) (by omega)), if_neg (nn 1 (by omega) (by omega)), if_neg (nn 2 (by omega) (by omega)), if_neg (nn 3 (by omega) (by omega)), if_neg (nn 4 (by omega) (by omega)), if_neg (nn 5 (by omega) (by omega)), if_neg (nn 6 (by omega) (by omega)), if_neg (nn 7 (by omega) (by omega)), if_pos yes] at hG
      refine in17 14 (by omega) (by omega) ?_
      unfold nX7_readLine_50 nX7_readLine_70
      refine r_needs_y np1 ⟨fun _ => in75 14 (by omega) (by omega) ?_, fun d => absurd d (by decide)⟩
      unfold nX7_readLine_106 nX7_readLine_124 nX7_readLine_137
      refine r_needs_y np1 ⟨fun _ => ⟨fun _ => ?_, fun d => absurd d (by decide)⟩, fun d => absurd d (by decide)⟩
      refine r_142 (ag' := ag) (sh' := sh) (by omega) ha hh (by rw [if_neg (by omega)]) (by rw [if_neg (by omega)]) hS.2.2.2.1 hS.2.2.2.2 ?_
      refine go 14 ag sh _ (by omega) ha hh hG (fun s4 => fNum_4 s4) (fun g2 m rs rt fd => ⟨fun _ => ⟨fun _ => ⟨fun _ => ⟨fun _ => ⟨fun d => absurd rfl d, fun _ => ?_⟩, fun d => absurd d (by decide)⟩, fun d => absurd d (by decide)⟩, fun d => absurd d (by decide)⟩, fun d => absurd d (by decide)⟩)
      exact r_readGuest (K := fun ρ' e => K ρ' U ag sh e) rs liE hq.2 rt g2 (fE m fd) (fun ρ' p' li x4 pp pl g3 m' rs' rt' fd' => stop ρ' U ag sh p' (by rw [x4]; exact li) ha hh (by omega) pl g3 m' rs' rt' (FD_trans fd fd'))
    · rw [if_neg (nn 0 (by omega) (by omega)), if_neg (nn 1 (by omega) (by omega)), if_neg (nn 2 (by omega) (by omega)), if_neg (nn 3 (by omega) (by omega)), if_neg (nn 4 (by omega) (by omega)), if_neg (nn 5 (by omega) (by omega)), if_neg (nn 6 (by omega) (by omega)), if_neg (nn 7 (by omega) (by omega)), if_neg (nn 8 (by omega) (by omega))] at hG
      obtain ⟨w17, w15, _, _⟩ := wdR_tab a a12
      exact bad hG _ (Or.inr (by rw [nI_toInt (by omega)]; have := w15.2 q; omega))
  · rw [if_neg (fun y => no 0 (by omega) y.2), if_neg (fun y => no 1 (by omega) y.2), if_neg (fun y => no 2 (by omega) y.2), if_neg (fun y => no 3 (by omega) y.2), if_neg (fun y => no 4 (by omega) y.2), if_neg (fun y => no 5 (by omega) y.2), if_neg (fun y => no 6 (by omega) y.2), if_neg (fun y => no 7 (by omega) y.2), if_neg (fun y => no 8 (by omega) y.2)] at hG
    exact bad hG _ (Or.inl (by decide))
