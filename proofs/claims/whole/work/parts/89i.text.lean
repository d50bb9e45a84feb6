-- the text
theorem bits_top {ρ : RA} {s n : Nat} : ∀ k : Nat, (∀ t : Nat, n ≤ t → t < n + k → ρ 9 (6 * s + t) = 0) → bitsW ρ s (n + k) = bitsW ρ s n := fun k => by
  induction k with
  | zero => intro _; rfl
  | succ k ih =>
    intro h
    show bitsW ρ s (n + k) + (if 0 < ρ 9 (6 * s + (n + k)) then 2 ^ (n + k) else 0) = bitsW ρ s n
    rw [ih (fun t h1 h2 => h t h1 (by omega)), h (n + k) (by omega) (by omega), if_neg (by omega)]
    rfl
theorem thg_told {ρ : RA} {U : List (Nat × Nat)} {p L : Nat} (hI : LI ρ U p L) (hN : fnT (ρ 0 0) U = none) (s : Nat) : thgM ρ s = thgN ρ s := by
  have h6 := hI.1.1
  have e : bitsW ρ s 6 = bitsW ρ s (ρ 0 0) := by
    have := bits_top (ρ := ρ) (s := s) (n := ρ 0 0) (6 - ρ 0 0) (fun t h1 h2 => by
      by_cases c : ρ 9 (6 * s + t) = 0
      · exact c
      · obtain ⟨q, hq⟩ := hI.2.2.2.2 s t (by omega) c
        have := fnT_none hN t q hq
        omega)
    rw [show ρ 0 0 + (6 - ρ 0 0) = 6 by omega] at this
    exact this
  unfold thgM thgN
  rw [e]
theorem r_text {R : Type} {G : R → Prop} {E : Nat → Nat → R} {K : RA → Nat → R} {tl : Nat} {tp : Nat → Nat} {μ : Mem} {Q : Int32 → Mem → Prop} (hT : TR μ tl tp) (hG : G (fLines tl tp E K 401 rho0 [] 0 0 0 0))
    (hE : ∀ c f : Nat, 1 ≤ c → c ≤ 6 → f ≤ tl → G (E c f) → ∀ m : Mem, m.1 100 31 = nI c → m.1 100 26 = nI 0 → (∀ a j : Nat, (a = 100 → j < 10 ∨ 32 < j) → (a < 106 ∨ 112 < a) → m.1 a j = μ.1 a j) → Q (-10 - nI f) m)
    (hK : ∀ (ρ : RA) (U : List (Nat × Nat)) (k p L : Nat), LI ρ U p L → G (K ρ k) → ∀ m : Mem, MR m ρ → KM m 280 newK → m.1 115 0 = 0 → m.1 115 1 = 0 → m.1 100 37 = nI 0 → m.1 100 31 = 0 → m.1 100 26 = nI 0 → (∀ a j : Nat, (a = 100 → 37 < j) → (a < 101 ∨ 112 < a) → (a = 114 → 320 ≤ j) → a ≠ 115 → m.1 a j = μ.1 a j) → Q (nI k) m) : PX7_text 100 μ Q := by
  have htl := hT.2.1
  intro S20 S46 h20 h46 m1 hm1
  have o26 : ∀ (m : Mem) (a j : Nat), (a = 100 → j ≠ 26) → (ms m 100 26 0).1 a j = m.1 a j := fun m a j z => by
    rw [ms_1]
    by_cases y : a = 100
    · rw [if_pos y, if_neg (z y)]
    · rw [if_neg y]
  have w26 : ∀ m : Mem, (ms m 100 26 0).1 100 26 = nI 0 := fun m => by rw [ms_1, if_pos rfl, if_pos rfl]; rfl
  have f46 : ∀ (c f : Nat) (x y : Int32) (m : Mem), G (E c f) → f ≤ tl → RF m c f → FD μ m → S46 x y m := fun c f x y m g fl rf fd => by
    have t96 : nX7_text_96 100 Q S20 S46 x m := by
      unfold nX7_text_96
      rw [o26 m 100 31 (by omega), o26 m 100 32 (by omega), rf.1, rf.2.1]
      have c1 := rf.2.2
      refine ⟨fun d => absurd d (nI_nle (by omega) (by omega)), fun _ => hE c f (by omega) (by omega) fl g _ ((o26 m 100 31 (by omega)).trans rf.1) (w26 m) (fun a j z1 z2 => ?_)⟩
      rw [o26 m a j (fun y => by have := z1 y; omega)]
      exact fd a j (fun y => by have := z1 y; omega) z2
    apply h46
    unfold nX7_text_46
    exact ⟨fun _ => t96, fun _ => ⟨fun _ => t96, fun d => absurd d (RF_nz rf)⟩⟩
  have f20 : ∀ (c f : Nat) (x : Int32) (m : Mem), G (E c f) → f ≤ tl → RF m c f → FD μ m → S20 x m := fun c f x m g fl rf fd => by
    apply h20
    unfold nX7_text_20 nX7_text_44
    exact ⟨fun _ => f46 c f x 0 m g fl rf fd, fun d => absurd d (RF_nz rf)⟩
  have ok46 : ∀ (ρ : RA) (U : List (Nat × Nat)) (ag sh k p L : Nat) (m : Mem), RS tl tp m ρ U ag sh → LI ρ U p L → p ≤ tl → L < 400 → G (optR (fnT (ρ 0 0) U) (K ρ k) (fun q => E 6 q)) → m.1 100 31 = 0 → FD μ m → S46 (nI k) 0 m := fun ρ U ag sh k p L m rs li hp hl g e31 fd => by
    have th6 := li.1.1
    have e10 : m.1 100 10 = nI (ρ 0 0) := rs.2.1.1
    have ul := li.2.2.2.1.2.2
    have lp : ∀ n i : Nat, i + n = U.length → fnT (ρ 0 0) (U.drop i) = fnT (ρ 0 0) U → S46 (nI k) (nI i) m := by
      intro n
      induction n with
      | zero =>
        intro i hi hd
        apply h46
        unfold nX7_text_46
        rw [rs.2.2.1.1]
        refine ⟨fun _ => ?_, fun d => absurd (nI_le (by omega) (by omega)) d⟩
        rw [List.drop_eq_nil_of_le (by omega)] at hd
        have hN : fnT (ρ 0 0) U = none := hd.symm
        rw [hN] at g
        unfold nX7_text_96
        rw [o26 m 100 31 (by omega), e31]
        refine ⟨fun _ => ?_, fun d => absurd (nI_le (a := 0) (b := 0) (by omega) (by omega)) d⟩
        refine r_keepDraft (ρ := ρ) (MD_of rs.2.1 (fun a j q => o26 m a j (by omega))) th6 li.2.2.1 (fun s _ => thg_told li hN s) (fun m2 k1 k2 k3 k4 k5 fr => ?_)
        refine hK ρ U k p L li g m2 k1 k2 k3 k4 k5 ?_ ?_ (fun a j z1 z2 z3 z4 => ?_)
        · rw [fr 100 31 (by omega) (by omega) (by omega) (by omega), o26 m 100 31 (by omega)]; exact e31
        · rw [fr 100 26 (by omega) (by omega) (by omega) (by omega)]; exact w26 m
        · rw [fr a j (fun y => by have := z1 y; omega) (by omega) (fun y => Or.inr (z3 y)) z4, o26 m a j (fun y => by have := z1 y; omega)]
          exact fd a j (fun y => by have := z1 y; omega) (by omega)
      | succ n ih =>
        intro i hi hd
        have hlt : i < U.length := by omega
        obtain ⟨t, q, hx⟩ : ∃ t q : Nat, U[i] = (t, q) := ⟨U[i].1, U[i].2, rfl⟩
        obtain ⟨e111, e112⟩ := rs.2.2.1.2 i (t, q) (by rw [List.getElem?_eq_getElem hlt, hx])
        have hm : (t, q) ∈ U := by rw [← hx]; exact List.getElem_mem hlt
        obtain ⟨t6, qp⟩ := li.2.2.2.1.1 _ hm
        have t6' : t < 6 := t6
        have qp' : q ≤ p := qp
        rw [List.drop_eq_getElem_cons hlt, hx] at hd
        have hd' : (if t < ρ 0 0 then fnT (ρ 0 0) (U.drop (i + 1)) else some q) = fnT (ρ 0 0) U := hd
        have e111' : m.1 (100 + 11) i = nI t := e111
        apply h46
        unfold nX7_text_46 nX7_text_90
        rw [rs.2.2.1.1, nI_clamp (n := i) (by omega), e111', e10, nI_1]
        refine ⟨fun d => absurd d (nI_ge (by omega) (by omega)), fun _ => ⟨fun d => absurd e31 d, fun _ => ⟨vp_in_nI (by omega) (by omega), fun d => ?_, fun d => ⟨vp_in_nI (by omega) (by omega), fun m13 hm13 => ?_⟩⟩⟩⟩
        · have c : t < ρ 0 0 := (nI_ltI (by omega) (by omega)).1 d
          rw [if_pos c] at hd'
          exact ih (i + 1) (by omega) hd'
        · have c : ¬ t < ρ 0 0 := fun y => d (nI_lt y (by omega))
          rw [if_neg c] at hd'
          rw [← hd'] at g
          have o : ∀ a j : Nat, (a = 100 → j ≠ 31 ∧ j ≠ 32) → m13.1 a j = m.1 a j := fun a j z => by
            rw [hm13, ms_1]
            by_cases y : a = 100
            · have := z y
              rw [if_pos y, if_neg (by omega), ms_1, if_pos y, if_neg (by omega)]
            · rw [if_neg y, ms_1, if_neg y]
          have r31 : m13.1 100 31 = nI 6 := by rw [hm13, ms_1, if_pos rfl, if_neg (by decide), ms_1, if_pos rfl, if_pos rfl]; rfl
          have r32 : m13.1 100 32 = nI q := by
            rw [hm13, ms_1, if_pos rfl, if_pos rfl, ms_1, if_neg (by decide)]
            exact e112
          exact f46 6 q _ _ m13 g (by omega) ⟨r31, r32, by omega, by omega⟩ (FD_trans fd (fun a j z1 z2 => o a j (fun y => by have := z1 y; omega)))
    exact lp U.length 0 (by omega) rfl
  have lp : ∀ (n : Nat) (ρ : RA) (U : List (Nat × Nat)) (ag sh k p : Nat) (m : Mem), 401 ≤ n + p → n + k = 401 → p ≤ tl → LI ρ U p (14 * ρ 0 4) → ag ≤ 1 → sh ≤ 1 → G (fLines tl tp E K n ρ U ag sh k p) → RS tl tp m ρ U ag sh → RT tl tp m p → FD μ m → S20 (nI k) m := by
    intro n
    induction n with
    | zero => intro ρ U ag sh k p m h1 h2 h3; omega
    | succ n ih =>
      intro ρ U ag sh k p m h1 h2 hp li ha hh g rs rt fd
      have l8 := li.2.2.1
      apply h20
      unfold nX7_text_20 nX7_text_44
      unfold fLines at g
      rw [fTok_n rt.2.2.2.2.1] at g
      have e29 : m.1 100 29 = (0 : Int32) ↔ tS tl tp p = 0 := RT_eq (x := 0) rt (by omega)
      rw [e29]
      refine ⟨fun d => absurd rt.2.2.2.2.2 d, fun _ => ⟨fun z => ?_, fun z => ?_⟩⟩
      · rw [if_pos z] at g
        exact ok46 ρ U ag sh k p _ m rs li hp (by omega) g rt.2.2.2.2.2 fd
      · rw [if_neg z] at g
        refine r_readLine rs li ha hh hp rt g (fun ρ' U' ag' sh' e s4 => ?_) (fun c f c1 c2 f1 ge m' rf fd' => f20 c f _ m' ge f1 rf (FD_trans fd fd')) (fun ρ' U' ag' sh' e li' ha' hh' pe el g' m' rs' rt' fd' => ?_)
        · have nz' : ¬ tl ≤ tF tl tp p := fun y => z (by unfold tS; rw [if_pos y])
          have pf := (tF_le (tp := tp) hp).1
          cases n with
          | zero => omega
          | succ n => exact fTok_4 s4
        · rw [nI_1]
          exact ih ρ' U' ag' sh' (k + 1) e m' (by omega) (by omega) el li' ha' hh' g' rs' rt' (FD_trans fd fd')
  have b1 : ∀ a j : Nat, (a = 100 → j ≠ 31 ∧ j ≠ 27) → m1.1 a j = μ.1 a j := fun a j z => by
    rw [hm1, ms_1]
    by_cases y : a = 100
    · have := z y
      rw [if_pos y, if_neg (by omega), ms_1, if_pos y, if_neg (by omega)]
    · rw [if_neg y, ms_1, if_neg y]
  have v31 : m1.1 100 31 = 0 := by rw [hm1, ms_1, if_pos rfl, if_neg (by decide), ms_1, if_pos rfl, if_pos rfl]
  have v27 : m1.1 100 27 = nI 0 := by rw [hm1, ms_1, if_pos rfl, if_pos rfl]; rfl
  refine r_firstDraft (fun m2 md v20 v21 v22 fr => ?_)
  have fd2 : FD μ m2 := fun a j z1 z2 => by
    rw [fr a j (fun y => by have := z1 y; omega) (by omega)]
    exact b1 a j (fun y => by have := z1 y; omega)
  have rs2 : RS tl tp m2 rho0 [] 0 0 := ⟨TR_FD hT fd2, md, ⟨v22, fun i x hx => absurd hx (by simp)⟩, v20, v21⟩
  refine r_nx (e := 0) rs2.1 (by omega) ((fr 100 27 (by omega) (by omega)).trans v27) ((fr 100 31 (by omega) (by omega)).trans v31) hG (fun s4 => fTok_4 s4) (fun c f c1 c2 f1 ge m rf fn => f20 c f _ m ge f1 rf (FD_trans fd2 (FD_FN fn))) (fun g m rt fn => ?_)
  exact lp 401 rho0 [] 0 0 0 0 m (by omega) (by omega) (by omega) (LI_mono LI_rho0 (Nat.le_refl _) (by omega)) (by omega) (by omega) g (RS_FN rs2 fn) rt (FD_trans fd2 (FD_FN fn))
theorem c_text {R : Type} {G : R → Prop} {E : Nat → Nat → R} {K : RA → Nat → R} {tl : Nat} {tp : Nat → Nat} {μ : Mem} {Q : Int32 → Mem → Prop} (hT : TC μ tl tp) (hG : G (fLines tl tp E K 401 rho0 [] 0 0 0 0))
    (hE : ∀ c f : Nat, 1 ≤ c → c ≤ 6 → f ≤ tl → G (E c f) → ∀ m : Mem, m.1 0 3 = nI c → m.1 25 1 = nI 0 → (∀ a j : Nat, (a = 0 → j ≠ 3) → (a < 25 ∨ 39 < a ∨ a = 26) → m.1 a j = μ.1 a j) → Q (-10 - nI f) m)
    (hK : ∀ (ρ : RA) (U : List (Nat × Nat)) (k p L : Nat), LI ρ U p L → G (K ρ k) → ∀ m : Mem, CR m 1 ρ → KC m 40 newK → m.1 53 0 = 0 → m.1 53 1 = 0 → m.1 0 3 = 0 → m.1 0 8 = nI 0 → m.1 25 1 = nI 0 → (∀ a j : Nat, (a = 0 → j ≠ 3 ∧ j ≠ 8) → (a = 0 ∨ (12 < a ∧ a < 25) ∨ a = 26 ∨ (42 < a ∧ a ≠ 53)) → m.1 a j = μ.1 a j) → Q (nI k) m) : PX6_text 0 μ Q := by
  intro S73 h73
  have o : ∀ (m1 : Mem) (a j : Nat), (a = 0 → j ≠ 3) → (a = 25 → j ≠ 1) → (ms (ms m1 25 1 0) 0 3 ((ms m1 25 1 0).1 25 3)).1 a j = m1.1 a j := fun m1 a j z1 z2 => by
    rw [ms_1]
    by_cases y : a = 0
    · rw [if_pos y, if_neg (z1 y), ms_1, if_neg (by omega)]
    · rw [if_neg y, ms_1]
      by_cases y2 : a = 25
      · rw [if_pos y2, if_neg (z2 y2)]
      · rw [if_neg y2]
  have w1 : ∀ m1 : Mem, (ms (ms m1 25 1 0) 0 3 ((ms m1 25 1 0).1 25 3)).1 25 1 = nI 0 := fun m1 => by
    rw [ms_1, if_neg (by decide), ms_1, if_pos rfl, if_pos rfl]; rfl
  have w3 : ∀ m1 : Mem, (ms (ms m1 25 1 0) 0 3 ((ms m1 25 1 0).1 25 3)).1 0 3 = m1.1 25 3 := fun m1 => by
    rw [ms_1, if_pos rfl, if_pos rfl, ms_1, if_pos rfl, if_neg (by decide)]
  refine c_readTape hT hG (fun c f c1 c2 f1 g x m1 e3 e4 fw m3 hm3 => ?_) (fun ρ U k p L li hN k4 g m1 cr e3 fw m3 hm3 => ?_)
  · have hm : m3 = ms (ms m1 25 1 0) 0 3 ((ms m1 25 1 0).1 25 3) := hm3
    have v3 : m3.1 0 3 = nI c := by rw [hm, w3, e3]
    have v4 : m3.1 (0 + 25) 4 = nI f := by
      rw [hm]
      exact (o m1 25 4 (by omega) (by omega)).trans e4
    rw [v3, v4]
    refine ⟨fun d => absurd d (nI_ne0 (by omega) (by omega)), fun _ => hE c f c1 c2 f1 g m3 v3 (by rw [hm]; exact w1 m1) (fun a j z1 z2 => ?_)⟩
    rw [hm, o m1 a j z1 (by omega)]
    exact fw a j (by omega) (by omega)
  · have hm : m3 = ms (ms m1 25 1 0) 0 3 ((ms m1 25 1 0).1 25 3) := hm3
    have v3 : m3.1 0 3 = 0 := by rw [hm, w3, e3]
    have cr3 : CR m3 27 ρ := CR_of cr (fun a j z1 z2 => by rw [hm]; exact o m1 a j (by omega) (by omega))
    refine ⟨fun _ => ?_, fun d => absurd v3 d⟩
    refine c_rcopy (b := 0 + 1) (r := 0 + 25 + 2) cr3 (by omega) li.1.1 (fun m5 cr5 f5 => ?_)
    refine c_kreset (b := 0 + 40) (fun m7 kc7 f7 => ?_)
    have vb : vp_nar .boolean (0 : Int32) = 0 := by decide
    have p' : ∀ a j : Nat, (a = 0 → j ≠ 8) → a ≠ 53 → (ms (ms (ms m7 0 8 0) 53 0 0) 53 1 0).1 a j = m7.1 a j := fun a j z1 z2 => by
      rw [ms_1, if_neg z2, ms_1, if_neg z2, ms_1]
      by_cases y : a = 0
      · rw [if_pos y, if_neg (z1 y)]
      · rw [if_neg y]
    have q : ∀ a j : Nat, (a < 1 ∨ 13 ≤ a) → (a < 40 ∨ 43 ≤ a) → m7.1 a j = m3.1 a j := fun a j z1 z2 => by
      rw [f7.1 a (by omega) j, f5.1 a (by omega) j]
    have fin : Q (nI k) (ms (ms (ms m7 0 8 0) 53 0 0) 53 1 0) := by
      refine hK ρ U k p L li g _ (CR_of cr5 (fun a j z1 z2 => ?_)) (KC_of kc7 (fun a j z1 z2 => p' a j (by omega) (by omega))) ?_ ?_ ?_ ?_ ?_ (fun a j z1 z2 => ?_)
      · rw [p' a j (by omega) (by omega), f7.1 a (by omega) j]
      · rw [ms_1, if_pos rfl, if_neg (by decide), ms_1, if_pos rfl, if_pos rfl]
      · rw [ms_1, if_pos rfl, if_pos rfl]
      · rw [p' 0 3 (by omega) (by omega), q 0 3 (by omega) (by omega)]; exact v3
      · rw [ms_1, if_neg (by decide), ms_1, if_neg (by decide), ms_1, if_pos rfl, if_pos rfl]; rfl
      · rw [p' 25 1 (by omega) (by omega), q 25 1 (by omega) (by omega), hm]; exact w1 m1
      · rw [p' a j (fun y => (z1 y).2) (by omega), q a j (by omega) (by omega), hm, o m1 a j (fun y => (z1 y).1) (by omega)]
        exact fw a j (by omega) (by omega)
    have k1 : ((0 : Int32) + 1).toNatClampNeg = 1 := by decide
    apply h73
    unfold nX6_text_73
    rw [cz0, vb]
    refine ⟨fun d => absurd d (by decide), fun _ => ⟨vp_in_nI (n := 0) (by omega) (by omega), ?_⟩⟩
    apply h73
    unfold nX6_text_73
    rw [k1, vb]
    refine ⟨fun d => absurd d (by decide), fun _ => ⟨vp_in_nI (n := 1) (by omega) (by omega), ?_⟩⟩
    apply h73
    unfold nX6_text_73
    exact ⟨fun _ => fin, fun d => absurd (by decide) d⟩
