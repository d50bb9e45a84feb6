theorem nar1 : vp_nar .boolean (1 : Int32) = 1 := by decide
theorem st_keep : St_keep Inv := by
  intro k μ p1 hk hI
  obtain ⟨ρ, κ, im, g, R, rl, tl, tp, ln, sz, h1, ⟨kc, km, kw⟩, h3, h4, h5, h6, h7⟩ := id hI
  have hs := Inv_s hI
  unfold PX6_keep
  rcases yesI p1 2 with ⟨i, hi, rfl⟩ | hn
  · obtain ⟨g1, g2, g3, g4⟩ := h3 i hi
    have e1 : μ.1 (0 + 53) i = nI (g i) := g1
    rw [nI_clamp (by omega), e1]
    refine ⟨fun c => absurd c (nI_pos (by omega)), fun _ => ⟨fun _ => ⟨vp_in_nI (by omega) (by omega), ?_⟩, fun c => absurd (nI_lt hi (by omega)) c⟩⟩
    have main : nX6_keep_25 0 (nI i) (fun r1 m1 => PX7_keep 100 (nI i) m1 (fun r2 m2 => r1 = r2 ∧ Inv (k + 1) m2)) (nI (g i)) μ := by
      unfold nX6_keep_25 PX7_keep
      rw [nI_clamp (by omega), nar1]
      refine ⟨vp_in_nI (by omega) (by omega), ?_⟩
      refine c_copyFrom (r := 40) (b := 45 + 4 * i) kc (by omega) (fun m kc2 f => ⟨vp_in_nI (by omega) (by omega), ?_⟩)
      have f3 : ∀ a j : Nat, a ≠ 53 → (a < 45 + 4 * i ∨ 45 + 4 * i + 3 ≤ a) → (ms m (0 + 53) i 1).1 a j = μ.1 a j := fun a j q1 q2 => by
        rw [ms_1, if_neg (by omega)]; exact f.1 a (by omega) j
      refine r_in_y (a := 0) (b := 1) (by omega) (by omega) (by rw [nI_toInt (by omega)]; omega) (by rw [nI_toInt (by omega)]; omega) ⟨fun _ => ⟨vp_in_nI (by omega) (by omega), ?_⟩, fun c => absurd c np1⟩
      have e2 : (ms m (0 + 53) i 1).1 (100 + 15) i = nI (g i) := (f3 115 i (by decide) (by omega)).trans g2
      rw [e2]
      refine r_flag g3 ⟨vp_in_nI (by omega) (by omega), ?_⟩
      have f4 : ∀ a j : Nat, a ≠ 53 → a ≠ 115 → (a < 45 + 4 * i ∨ 45 + 4 * i + 3 ≤ a) → (ms (ms m (0 + 53) i 1) (100 + 15) i 1).1 a j = μ.1 a j := fun a j q1 q2 q3 => by
        rw [ms_1, if_neg (by omega)]; exact f3 a j q1 q3
      have km2 := KM_of km (m := ms (ms m (0 + 53) i 1) (100 + 15) i 1) (fun j _ => f4 114 _ (by decide) (by decide) (by omega))
      rw [show (320 : Int32) + (40 : Int32) * nI i = nI (320 + 40 * i) by rw [show (40 : Int32) * nI i = nI (40 * i) from pk_mul 40 i, show (320 : Int32) = nI 320 from rfl, nI_add]]
      refine r_copies (B := 320 + 40 * i) (C := 280) km2 (by omega) (by omega) (by omega) (fun m2 km3 f5 => ⟨rfl, ?_⟩)
      have f6 : ∀ a j : Nat, a ≠ 53 → a ≠ 115 → (a < 45 + 4 * i ∨ 45 + 4 * i + 3 ≤ a) → a ≠ 116 → a ≠ 117 → (a = 114 → j < 320 + 40 * i ∨ 320 + 40 * i + 40 ≤ j) → m2.1 a j = μ.1 a j := fun a j q1 q2 q3 q4 q5 q6 => (f5.1 a j q4 q5 q6).trans (f4 a j q1 q2 q3)
      refine ⟨ρ, κ, fun j => if j = i then κ else im j, fun j => if j = i then 1 else g j, R, rl, tl, tp, ln, sz, IRules_fr h1 (fun a j q => f6 a j (by omega) (by omega) (by omega) (by omega) (by omega) (by omega)), IKit_fr ⟨kc, km, kw⟩ (fun a j q => f6 a j (by omega) (by omega) (by omega) (by omega) (by omega) (by omega)), fun j hj => ?_, IRow_fr h4 (fun a j q => f6 a j (by omega) (by omega) (by omega) (by omega) (by omega) (by omega)), ITape_fr h5 (fun a j q => f6 a j (by omega) (by omega) (by omega) (by omega) (by omega) (by omega)), ISheet_fr h6 (fun a j q => f6 a j (by omega) (by omega) (by omega) (by omega) (by omega) (by omega)), (let z := IFlt_fr h7 (fun a j q => f6 a j (by omega) (by omega) (by omega) (by omega) (by omega) (by omega)); ⟨z.1, z.2.1, z.2.2.1, fun j hj q s d e => by
        change (if j = i then 1 else g j) = 1 at q
        change (if j = i then κ else im j).la s = some d at e
        by_cases c : j = i
        · rw [if_pos c] at e; exact h7.2.2.1 s d e
        · rw [if_neg c] at e q; exact h7.2.2.2 j hj q s d e⟩)⟩
      have z53 : m2.1 53 j = (if j = i then 1 else μ.1 53 j) := by
        rw [f5.1 53 j (by decide) (by decide) (by simp), ms_1, if_neg (by decide)]
        show (ms m 53 i 1).1 53 j = _
        rw [ms_1, if_pos rfl]
        by_cases c : j = i
        · rw [if_pos c, if_pos c]
        · rw [if_neg c, if_neg c]; exact f.1 53 (by omega) j
      have z115 : m2.1 115 j = (if j = i then 1 else μ.1 115 j) := by
        rw [f5.1 115 j (by decide) (by decide) (by simp)]
        show (ms (ms m (0 + 53) i 1) 115 i 1).1 115 j = _
        rw [ms_1, if_pos rfl]
        by_cases c : j = i
        · rw [if_pos c, if_pos c]
        · rw [if_neg c, if_neg c]; exact f3 115 j (by decide) (by omega)
      show m2.1 53 j = nI (if j = i then 1 else g j) ∧ m2.1 115 j = nI (if j = i then 1 else g j) ∧ (if j = i then 1 else g j) ≤ 1 ∧ ((if j = i then 1 else g j) = 1 → KC m2 (45 + 4 * j) (if j = i then κ else im j) ∧ KM m2 (320 + 40 * j) (if j = i then κ else im j) ∧ KW (if j = i then κ else im j) (9 + 6 * (k + 1)) (k + 1))
      by_cases c : j = i
      · subst c
        refine ⟨by rw [z53, if_pos rfl, if_pos rfl]; rfl, by rw [z115, if_pos rfl, if_pos rfl]; rfl, by rw [if_pos rfl]; exact Nat.le_refl _, fun _ => ?_⟩
        rw [if_pos rfl]
        refine ⟨KC_of kc2 (fun a i' q1 q2 => ?_), km3, KW_mono kw (by omega) (by omega)⟩
        rw [f5.1 a i' (by omega) (by omega) (by omega), ms_1, if_neg (by omega), ms_1, if_neg (by omega)]
      · obtain ⟨w1, w2, w3, w4⟩ := h3 j hj
        refine ⟨by rw [z53, if_neg c, if_neg c]; exact w1, by rw [z115, if_neg c, if_neg c]; exact w2, by rw [if_neg c]; exact w3, fun q => ?_⟩
        rw [if_neg c] at q
        rw [if_neg c]
        obtain ⟨v1, v2, v3⟩ := w4 q
        exact ⟨KC_of v1 (fun a i' q1 q2 => f6 a i' (by omega) (by omega) (by omega) (by omega) (by omega) (by omega)), KM_of v2 (fun i' hi' => f6 114 _ (by decide) (by decide) (by omega) (by decide) (by decide) (fun _ => by omega)), KW_mono v3 (by omega) (by omega)⟩
    refine ⟨fun c => ?_, fun c => ?_⟩
    · rw [c] at main; exact main
    · have : g i = 1 := by
        have : g i ≠ 0 := fun q => c (by rw [q]; rfl)
        omega
      rw [this] at main; exact main
  · have out : PX7_keep 100 p1 μ (fun r2 m2 => (-1 : Int32) = r2 ∧ Inv (k + 1) m2) := by
      unfold PX7_keep
      exact r_in_n (a := 0) (b := 1) (by omega) (by omega) (by unfold noI at hn; omega) ⟨fun c => absurd rfl c, fun _ => ⟨rfl, hs⟩⟩
    rw [show (0 : Int32) = nI 0 from rfl, show (2 : Int32) = nI 2 from rfl, i_lt (by omega), i_lt (by omega)]
    exact ⟨fun _ => out, fun c => ⟨fun d => absurd (show 0 ≤ p1.toInt ∧ p1.toInt < (2 : Nat) by omega) hn, fun _ => out⟩⟩
theorem st_back : St_back Inv := by
  intro k μ p1 hk hI
  obtain ⟨ρ, κ, im, g, R, rl, tl, tp, ln, sz, h1, ⟨kc, km, kw⟩, h3, h4, h5, h6, h7⟩ := id hI
  have hs := Inv_s hI
  unfold PX6_back PX7_back
  rcases yesI p1 2 with ⟨i, hi, rfl⟩ | hn
  · obtain ⟨g1, g2, g3, g4⟩ := h3 i hi
    have e1 : μ.1 (0 + 53) i = nI (g i) := g1
    rw [nI_clamp (by omega), e1]
    refine ⟨fun c => absurd c (nI_pos (by omega)), fun _ => ⟨fun _ => ⟨vp_in_nI (by omega) (by omega), fun c => ⟨vp_in_nI (by omega) (by omega), ?_⟩, fun c => ?_⟩, fun c => absurd (nI_lt hi (by omega)) c⟩⟩
    · have gi : g i = 1 := by
        have : g i ≠ 0 := fun q => c (by rw [q]; rfl)
        omega
      obtain ⟨v1, v2, v3⟩ := g4 gi
      refine c_copyFrom (r := 45 + 4 * i) (b := 40) v1 (by omega) (fun m kc2 f => ?_)
      have ed : m.1 (0 + 40) 2 = nI (im i).date := kc2.2.2.1
      rw [ed]
      refine r_in_y (a := 0) (b := 1) (by omega) (by omega) (by rw [nI_toInt (by omega)]; omega) (by rw [nI_toInt (by omega)]; omega) ⟨fun _ => ⟨vp_in_nI (by omega) (by omega), ?_⟩, fun c => absurd c np1⟩
      have e2 : m.1 (100 + 15) i = nI 1 := (f.1 115 (by omega) i).trans (g2.trans (by rw [gi]))
      rw [e2]
      refine ⟨fun _ => ?_, fun c => absurd c (by decide)⟩
      have vm := KM_of v2 (m := m) (fun j _ => f.1 114 (by omega) _)
      rw [show (320 : Int32) + (40 : Int32) * nI i = nI (320 + 40 * i) by rw [show (40 : Int32) * nI i = nI (40 * i) from pk_mul 40 i, show (320 : Int32) = nI 320 from rfl, nI_add]]
      refine r_copies (B := 280) (C := 320 + 40 * i) vm (by omega) (by omega) (by omega) (fun m2 km2 f2 => ⟨vp_in_nI (n := 316) (by omega) (by omega), km2.2.2.1.symm, ?_⟩)
      refine Inv_kit (κ' := im i) h1 h3 h4 h5 h6 h7 (h7.2.2.2 i hi gi) ⟨KC_of kc2 (fun a j _ _ => f2.1 a j (by omega) (by omega) (by omega)), km2, KW_mono v3 (by omega) (by omega)⟩ (fun a j q => ?_)
      rw [f2.1 a j (by omega) (by omega) (fun _ => by omega), f.1 a (by omega)]
    · have gi : g i = 0 := (nI_eq (b := 0) (by omega) (by omega)).1 c
      refine r_in_y (a := 0) (b := 1) (by omega) (by omega) (by rw [nI_toInt (by omega)]; omega) (by rw [nI_toInt (by omega)]; omega) ⟨fun _ => ⟨vp_in_nI (by omega) (by omega), ?_⟩, fun c => absurd c np1⟩
      have e2 : μ.1 (100 + 15) i = nI 0 := g2.trans (by rw [gi])
      rw [e2]
      exact ⟨fun c => absurd rfl c, fun _ => ⟨rfl, hs⟩⟩
  · have out : PX7_back 100 p1 μ (fun r2 m2 => (-1 : Int32) = r2 ∧ Inv (k + 1) m2) := by
      unfold PX7_back
      exact r_in_n (a := 0) (b := 1) (by omega) (by omega) (by unfold noI at hn; omega) ⟨fun c => absurd rfl c, fun _ => ⟨rfl, hs⟩⟩
    unfold PX7_back at out
    rw [show (0 : Int32) = nI 0 from rfl, show (2 : Int32) = nI 2 from rfl, i_lt (by omega), i_lt (by omega)]
    exact ⟨fun _ => out, fun c => ⟨fun d => absurd (show 0 ≤ p1.toInt ∧ p1.toInt < (2 : Nat) by omega) hn, fun _ => out⟩⟩
theorem st_day : St_day Inv := by
  intro k μ p1 hk hI
  obtain ⟨ρ, κ, im, g, R, rl, tl, tp, ln, sz, ⟨hC, hM, hw, hx, h8⟩, h2, h3, ⟨r1, r2, r3, r4, r5⟩, h5, h6, h7⟩ := id hI
  have h1 : IRules μ ρ := ⟨hC, hM, hw, hx, h8⟩
  have hs := Inv_s hI
  -- a supper, or none, that may stand there
  have main : ∀ o : Option Nat, (∀ s : Nat, o = some s → s < ρ 0 4) → p1 = oI o → (∀ (m : Mem) (Q : Int32 → Mem → Prop), MR m ρ → nX7_day_16 100 p1 Q m → PX7_day 100 p1 m Q) → nX6_day_19 0 p1 (fun r1 m1 => PX7_day 100 p1 m1 (fun r2 m2 => r1 = r2 ∧ Inv (k + 1) m2)) μ := by
    intro o ho hp ent
    unfold nX6_day_19
    rw [r1]
    refine ⟨fun c => ⟨?_, fun m6 hm6 => ?_⟩, fun c => ?_⟩
    · have c2 := (nI_ltI (b := 7) (by omega) (by omega)).1 c
      exact vp_in_nI c2 (by omega)
    · have c2 := (nI_ltI (b := 7) (by omega) (by omega)).1 c
      have x8 : (ms μ (0 + 54) (nI rl).toNatClampNeg p1).1 0 8 = nI rl := by rw [ms_1, if_neg (by decide)]; exact r1
      rw [x8, nI_1, nI_clamp (by omega)] at hm6
      have y8 : m6.1 0 8 = nI (rl + 1) := by rw [hm6, ms_1, if_pos rfl, if_pos rfl]
      rw [y8]
      have f6 : ∀ a j : Nat, a ≠ 54 → (a = 0 → j ≠ 8) → m6.1 a j = μ.1 a j := fun a j q1 q2 => by
        rw [hm6, ms_1]
        by_cases c : a = 0
        · rw [if_pos c, if_neg (q2 c), ms_1, if_neg (by omega)]
        · rw [if_neg c, ms_1, if_neg (by omega)]
      have f54 : ∀ j : Nat, m6.1 54 j = if j = rl then p1 else μ.1 54 j := fun j => by
        rw [hm6, ms_1, if_neg (by decide)]
        show (ms μ 54 rl p1).1 54 j = _
        rw [ms_1, if_pos rfl]
      have hM6 := MR_of hM (m := m6) (fun a j q => f6 a j (by omega) (by omega))
      refine ent m6 _ hM6 ?_
      unfold nX7_day_16
      have y37 : m6.1 100 37 = nI rl := (f6 100 37 (by decide) (by decide)).trans r2
      rw [y37]
      refine ⟨fun _ => ⟨vp_in_nI (by omega) (by omega), fun m7 hm7 => ?_⟩, fun c => ?_⟩
      · have x37 : (ms m6 (100 + 18) (nI rl).toNatClampNeg p1).1 100 37 = nI rl := by rw [ms_1, if_neg (by decide)]; exact y37
        rw [x37, nI_1, nI_clamp (by omega)] at hm7
        have z37 : m7.1 100 37 = nI (rl + 1) := by rw [hm7, ms_1, if_pos rfl, if_pos rfl]
        have f7 : ∀ a j : Nat, a ≠ 118 → (a = 100 → j ≠ 37) → m7.1 a j = m6.1 a j := fun a j q1 q2 => by
          rw [hm7, ms_1]
          by_cases c : a = 100
          · rw [if_pos c, if_neg (q2 c), ms_1, if_neg (by omega)]
          · rw [if_neg c, ms_1, if_neg (by omega)]
        have f118 : ∀ j : Nat, m7.1 118 j = if j = rl then p1 else μ.1 118 j := fun j => by
          rw [hm7, ms_1, if_neg (by decide)]
          show (ms m6 118 rl p1).1 118 j = _
          rw [ms_1, if_pos rfl]
          by_cases c : j = rl
          · rw [if_pos c, if_pos c]
          · rw [if_neg c, if_neg c]; exact f6 118 j (by decide) (by simp)
        have ff : ∀ a j : Nat, a ≠ 54 → a ≠ 118 → (a = 0 → j ≠ 8) → (a = 100 → j ≠ 37) → m7.1 a j = μ.1 a j := fun a j q1 q2 q3 q4 => (f7 a j q2 q4).trans (f6 a j q1 q3)
        refine ⟨z37.symm, ρ, κ, im, g, fun j => if j = rl then o else R j, rl + 1, tl, tp, ln, sz, IRules_fr h1 (fun a j q => ff a j (by omega) (by omega) (by omega) (by omega)), IKit_fr h2 (fun a j q => ff a j (by omega) (by omega) (by omega) (by omega)), IImg_fr h3 (fun a j q => ff a j (by omega) (by omega) (by omega) (by omega)), ⟨?_, z37, by omega, fun i hi => ?_, fun i s hi e => ?_⟩, ITape_fr h5 (fun a j q => ff a j (by omega) (by omega) (by omega) (by omega)), ISheet_fr h6 (fun a j q => ff a j (by omega) (by omega) (by omega) (by omega)), IFlt_fr h7 (fun a j q => ff a j (by omega) (by omega) (by omega) (by omega))⟩
        · rw [f7 0 8 (by decide) (by decide)]; exact y8
        · rw [f7 54 i (by decide) (by simp), f54, f118]
          show (if i = rl then p1 else μ.1 54 i) = oI (if i = rl then o else R i) ∧ (if i = rl then p1 else μ.1 118 i) = oI (if i = rl then o else R i)
          by_cases c : i = rl
          · rw [if_pos c, if_pos c, if_pos c]; exact ⟨hp, hp⟩
          · rw [if_neg c, if_neg c, if_neg c]; exact r4 i (by omega)
        · change (if i = rl then o else R i) = some s at e
          by_cases c : i = rl
          · rw [if_pos c] at e; exact ho s e
          · rw [if_neg c] at e; exact r5 i s (by omega) e
      · exact absurd ((nI_eq (b := 7) (by omega) (by omega)).1 c) (by omega)
    · have c2 : ¬ rl < 7 := fun z => c ((nI_ltI (b := 7) (by omega) (by omega)).2 z)
      refine ent μ _ hM ?_
      unfold nX7_day_16
      rw [r2]
      exact ⟨fun d => absurd (by rw [show rl = 7 by omega]; rfl) d, fun _ => ⟨rfl, hs⟩⟩
  unfold PX6_day
  refine ⟨fun c => ?_, fun c => ?_⟩
  · exact main none (fun s e => by cases e) c (fun m Q _ h => by
      unfold PX7_day
      exact ⟨fun _ => h, fun d => absurd c d⟩)
  · rcases yesI p1 (ρ 0 4) with ⟨s, hss, rfl⟩ | hn
    · refine c_hasSupper_y hC hw hss ⟨fun _ => ?_, fun d => absurd d np1⟩
      refine main (some s) (fun y e => by cases e; exact hss) rfl (fun m Q hM' h => ?_)
      unfold PX7_day
      exact ⟨fun d => absurd d c, fun _ => r_isSupper_y hM' hw hss ⟨fun _ => h, fun d => absurd d np1⟩⟩
    · refine c_hasSupper_n hC hw hn ⟨fun d => absurd rfl d, fun _ => ?_⟩
      unfold PX7_day
      exact ⟨fun d => absurd d c, fun _ => r_isSupper_n hM hw hn ⟨fun d => absurd rfl d, fun _ => ⟨rfl, hs⟩⟩⟩
def handN (ρ : RA) (κ : KA) (R : Nat → Option Nat) (n : Nat) : Prop := ∀ d : Nat, d < n → R d = none → outN ρ (κ.date + d)
theorem c_handCloses {m : Mem} {ρ : RA} {κ : KA} {R : Nat → Option Nat} {rl k : Nat} {Q : Int32 → Mem → Prop} (hC : CR m 1 ρ) (hw : RW ρ) (kc : KC m 40 κ) (kw : KW κ (9 + 6 * k) k) (hk : k ≤ 600) (hl : m.1 0 8 = nI rl) (hr : rl ≤ 7) (hrow : ∀ i : Nat, i < rl → m.1 54 i = oI (R i)) (hrs : ∀ i s : Nat, i < rl → R i = some s → s < ρ 0 4) (hx : KCx m 56 (kAt ρ κ R 0 rl)) (h1 : 1 ≤ rl → rl ≤ 5 → handN ρ κ R rl → closeN ρ κ (kAt ρ κ R 0 rl) R rl → Q 1 m) (h0 : ¬ (1 ≤ rl ∧ rl ≤ 5 ∧ handN ρ κ R rl ∧ closeN ρ κ (kAt ρ κ R 0 rl) R rl) → Q 0 m) : PX6_rowByHandCloses 0 m Q := by
  have s9 := hw.2.1
  intro S hS
  rw [hl]
  refine ⟨fun c => ?_, fun c => ⟨fun c2 => ?_, fun c2 => ?_⟩⟩
  · have := (nI_ltI (b := 1) (by omega) (by omega)).1 c
    exact h0 (by omega)
  · have d1 : ¬ rl < 1 := fun z => c ((nI_ltI (b := 1) (by omega) (by omega)).2 z)
    have d2 := (nI_leI (b := 5) (by omega) (by omega)).1 c2
    have key : ∀ i : Nat, i ≤ rl → (∀ d : Nat, d < i → R d = none → outN ρ (κ.date + d)) → S (nI i) m := by
      refine up_pure ?_ ?_
      · intro i hi ih hj
        have er : m.1 (0 + 54) i = oI (R i) := hrow i hi
        have ed : m.1 (0 + 40) 2 = nI κ.date := kc.2.2.1
        have hdate := kw.2.1
        apply hS
        unfold nX6_rowByHandCloses_20 nX6_rowByHandCloses_60
        rw [hl, nI_clamp (by omega), er, ed, nI_add κ.date i, nI_1]
        refine ⟨fun c => absurd c (nI_ge hi (by omega)), fun _ => ⟨vp_in_nI (by omega) (by omega), ?_⟩⟩
        cases e : R i with
        | none =>
          refine ⟨fun c => absurd rfl c, fun _ => ?_⟩
          refine c_isOut hC hw (by omega) (fun z => ⟨fun c => absurd rfl c, fun _ => h0 (fun y => z (y.2.2.1 i hi e))⟩) (fun z => ⟨fun _ => ih (fun d hd hn => ?_), fun c => absurd c (by decide)⟩)
          by_cases q : d = i
          · rw [q]; exact z
          · exact hj d (by omega) hn
        | some s =>
          have hs4 := hrs i s hi e
          refine ⟨fun _ => ih (fun d hd hn => ?_), fun c => absurd c (nI_ne4 (by omega))⟩
          by_cases q : d = i
          · rw [q, e] at hn; cases hn
          · exact hj d (by omega) hn
      · intro hj
        have hkn := kAt_KW (R := R) (g := 0) hw kw rl
        have bt := kAt_thr (R := R) (g := 0) hw kw (by omega) rl (by omega)
        apply hS
        unfold nX6_rowByHandCloses_20
        rw [hl]
        refine ⟨fun _ => ?_, fun c => absurd (nI_le (Nat.le_refl _) (by omega)) c⟩
        exact c_isClosed hC hw kc kw (by omega) hx hkn (by omega) (by omega) (by omega) (by omega) hrow (fun i s hi e => by have := hrs i s hi e; omega) (fun z => ⟨nz1, h1 (by omega) d2 hj z⟩) (fun z => ⟨nz0, h0 (fun y => z y.2.2.2)⟩)
    exact key 0 (Nat.zero_le _) (fun d hd => absurd hd (Nat.not_lt_zero _))
  · have : ¬ rl ≤ 5 := fun z => c2 ((nI_leI (b := 5) (by omega) (by omega)).2 z)
    exact h0 (by omega)
set_option maxHeartbeats 1000000 in
theorem r_rowClosed {m : Mem} {ρ : RA} {κ : KA} {R : Nat → Option Nat} {rl done k : Nat} {Q : Int32 → Mem → Prop} (hM : MR m ρ) (hw : RW ρ) (km : KM m 280 κ) (kw : KW κ (9 + 6 * k) k) (hk : k ≤ 600) (hl : m.1 100 37 = nI rl) (hr : rl ≤ 7) (hd : done ≤ rl) (hrow : ∀ i : Nat, i < rl → m.1 118 i = oI (R i)) (hrs : ∀ i s : Nat, i < rl → R i = some s → s < ρ 0 4) (hx : done = rl → KMx m 240 (kAt ρ κ R 0 rl)) (h1 : ∀ m' : Mem, (∀ a j : Nat, a ≠ 119 → m'.1 a j = m.1 a j) → done = rl → 1 ≤ rl → rl ≤ 5 → handN ρ κ R rl → closeN ρ κ (kAt ρ κ R 0 rl) R rl → Q 1 m') (h0 : ∀ m' : Mem, (∀ a j : Nat, a ≠ 119 → m'.1 a j = m.1 a j) → ¬ (done = rl ∧ 1 ≤ rl ∧ rl ≤ 5 ∧ handN ρ κ R rl ∧ closeN ρ κ (kAt ρ κ R 0 rl) R rl) → Q 0 m') : PX7_isRowClosed 100 (nI done) m Q := by
  have s9 := hw.2.1
  intro S hS
  rw [hl]
  refine ⟨fun c => ?_, fun c => ?_⟩
  · have := (nI_ltI (by omega) (by omega)).1 c
    exact h0 m (fun _ _ _ => rfl) (by omega)
  have dn : done = rl := by
    have : ¬ done < rl := fun z => c ((nI_ltI (by omega) (by omega)).2 z)
    omega
  refine r_in (fun c1 c2 => ⟨fun _ => ?_, fun d => absurd d np1⟩) (fun c1 => ⟨fun d => absurd rfl d, fun _ => h0 m (fun _ _ _ => rfl) ?_⟩)
  · rw [nI_toInt (by omega), show (1 : Int64).toInt = 1 from by decide] at c1
    rw [nI_toInt (by omega), show (5 : Int64).toInt = 5 from by decide] at c2
    have key : ∀ i m', i ≤ rl → ((∀ a j : Nat, a ≠ 119 → m'.1 a j = m.1 a j) ∧ (∀ j : Nat, j < i → m'.1 119 j = oI (R j))) → ∀ v : Int32, ((v = 1 ∧ ∀ d : Nat, d < i → R d = none → outN ρ (κ.date + d)) ∨ (v = 0 ∧ ¬ handN ρ κ R rl)) → S v (nI i) m' := by
      refine up_loop (T := fun i m' => ∀ v : Int32, ((v = 1 ∧ ∀ d : Nat, d < i → R d = none → outN ρ (κ.date + d)) ∨ (v = 0 ∧ ¬ handN ρ κ R rl)) → S v (nI i) m') ?_ ?_
      · intro i m' hi ⟨b1, b2⟩ ih v hv
        have er : m'.1 (100 + 18) i = oI (R i) := (b1 118 i (by decide)).trans (hrow i hi)
        have el : m'.1 100 37 = nI rl := (b1 100 37 (by decide)).trans hl
        have ed : m'.1 114 316 = nI κ.date := (b1 114 316 (by decide)).trans km.2.2.1
        have eo : m'.1 100 8 = nI (ρ 0 14) := (b1 100 8 (by decide)).trans hM.2.2.2.2.1
        have hdate := kw.2.1
        have b14 := hw.2.2.2.2.1
        have m7 : (κ.date + i) % 7 < 7 := Nat.mod_lt _ (by decide)
        have ihm := ih (ms m' 119 i (oI (R i))) ⟨fun a j q => by rw [ms_1, if_neg q]; exact b1 a j q, fun j hj => by
          rw [ms_1, if_pos rfl]
          by_cases c : j = i
          · rw [if_pos c, c]
          · rw [if_neg c]; exact b2 j (by omega)⟩
        have x18 : (ms m' (100 + 19) i (oI (R i))).1 (100 + 18) i = oI (R i) := by rw [ms_1, if_neg (by decide)]; exact er
        have x8 : (ms m' (100 + 19) i (oI (R i))).1 100 8 = nI (ρ 0 14) := by rw [ms_1, if_neg (by decide)]; exact eo
        have x316 : (ms m' (100 + 19) i (oI (R i))).1 (100 + 14) (316 : Int32).toNatClampNeg = nI κ.date := by
          rw [ms_1, if_neg (by decide)]; exact ed
        apply hS
        unfold nX7_isRowClosed_29 nX7_isRowClosed_88 nX7_isRowClosed_92 nX7_isRowClosed_93
        rw [el, nI_clamp (n := i) (by omega), er, x18, x8, x316, nI_add κ.date i, show (7 : Int32) = nI 7 from rfl, pk_rem (by omega) (by omega) (by omega), nI_1]
        refine ⟨fun c => absurd c (nI_ge hi (by omega)), fun _ => ⟨vp_in_nI (by omega) (by omega), vp_in_nI (by omega) (by omega), fun c => ?_, fun c => ⟨vp_in_nI (by omega) (by omega), fun c2 => ?_, fun c2 => ⟨vp_in_nI (n := 316) (by omega) (by omega), fun c3 => ?_, fun c3 => ?_⟩⟩⟩⟩
        · rcases hv with hv | hv
          · rw [hv.1] at c; exact absurd c np1
          · exact ihm 0 (Or.inr ⟨rfl, hv.2⟩)
        · rcases hv with hv | hv
          · refine ihm 1 (Or.inl ⟨rfl, fun d hd hn => ?_⟩)
            by_cases q : d = i
            · rw [← q, hn] at c2; exact absurd rfl c2
            · exact hv.2 d (by omega) hn
          · rw [hv.1] at c; exact absurd rfl c
        · have hno : ¬ outN ρ (κ.date + i) := fun z => c3 ((jb_1 (by omega) (by omega)).2 z)
          have en : R i = none := by
            cases e : R i with
            | none => rfl
            | some s =>
              have hs4 := hrs i s hi e
              rw [e] at c2
              exact absurd c2 (nI_ne4 (by omega))
          exact ihm 0 (Or.inr ⟨rfl, fun z => hno (z i hi en)⟩)
        · have hyes : outN ρ (κ.date + i) := (jb_1 (by omega) (by omega)).1 c3
          rcases hv with hv | hv
          · refine ihm 1 (Or.inl ⟨rfl, fun d hd hn => ?_⟩)
            by_cases q : d = i
            · rw [q]; exact hyes
            · exact hv.2 d (by omega) hn
          · rw [hv.1] at c; exact absurd rfl c
      · intro m' ⟨b1, b2⟩ v hv
        have el : m'.1 100 37 = nI rl := (b1 100 37 (by decide)).trans hl
        have hM' := MR_of hM (m := m') (fun a j q => b1 a j (by omega))
        have km' := KM_of km (m := m') (fun j _ => b1 114 _ (by decide))
        have hx' := KMx_of (hx dn) (m := m') (fun j _ => b1 114 _ (by decide))
        have hkn := kAt_KW (R := R) (g := 0) hw kw rl
        have bt := kAt_thr (R := R) (g := 0) hw kw (by omega) rl (by omega)
        apply hS
        unfold nX7_isRowClosed_29 nX7_isRowClosed_122
        rw [el]
        refine ⟨fun _ => ⟨fun c => ?_, fun c => ?_⟩, fun c => absurd (nI_le (Nat.le_refl _) (by omega)) c⟩
        · rcases hv with hv | hv
          · rw [hv.1] at c; exact absurd c np1
          · exact h0 m' b1 (fun z => hv.2 z.2.2.2.1)
        · rcases hv with hv | hv
          · exact r_isClosed (C := 240) hM' hw km' kw (by omega) (by omega) hx' hkn (by omega) (by omega) hr b2 (fun i s hi e => by have := hrs i s hi e; omega) (fun z => ⟨fun d => absurd d np1, fun _ => h1 m' b1 dn (by omega) (by omega) hv.2 z⟩) (fun z => ⟨fun _ => h0 m' b1 (fun y => z y.2.2.2.2), fun d => absurd rfl d⟩)
          · rw [hv.1] at c; exact absurd rfl c
    exact key 0 m (Nat.zero_le _) ⟨fun _ _ _ => rfl, fun j hj => absurd hj (Nat.not_lt_zero _)⟩ 1 (Or.inl ⟨rfl, fun d hd => absurd hd (Nat.not_lt_zero _)⟩)
  · rw [nI_toInt (by omega), show (1 : Int64).toInt = 1 from by decide, show (5 : Int64).toInt = 5 from by decide] at c1
    omega
