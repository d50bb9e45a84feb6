theorem isSheet_y {q l : Nat} {m : Mem} {Q : Int32 → Mem → Prop} (hq : q < 4) (hl : l < 3) (h : Q 1 m) : PX7_isSheet (nI q) (nI l) m Q := by
  unfold PX7_isSheet nX7_isSheet_28
  refine r_in_y (a := 0) (b := 3) (by omega) (by omega) (by rw [nI_toInt (by omega)]; omega) (by rw [nI_toInt (by omega)]; omega) ⟨fun d => absurd d np1, fun _ => ?_⟩
  exact r_in_y (a := 0) (b := 2) (by omega) (by omega) (by rw [nI_toInt (by omega)]; omega) (by rw [nI_toInt (by omega)]; omega) ⟨fun d => absurd d np1, fun _ => h⟩
theorem isSheet_n {p1 p2 : Int32} {m : Mem} {Q : Int32 → Mem → Prop} (hn : ¬ ((0 ≤ p1.toInt ∧ p1.toInt < 4) ∧ (0 ≤ p2.toInt ∧ p2.toInt < 3))) (h : Q 0 m) : PX7_isSheet p1 p2 m Q := by
  unfold PX7_isSheet nX7_isSheet_28
  by_cases c2 : 0 ≤ p1.toInt ∧ p1.toInt < 4
  · refine r_in_y (a := 0) (b := 3) (by omega) (by omega) (by omega) (by omega) ⟨fun d => absurd d np1, fun _ => ?_⟩
    exact r_in_n (a := 0) (b := 2) (by omega) (by omega) (by omega) ⟨fun _ => h, fun d => absurd rfl d⟩
  · exact r_in_n (a := 0) (b := 3) (by omega) (by omega) (by omega) ⟨fun _ => h, fun d => absurd rfl d⟩
theorem st_read : St_read Inv := by
  intro k μ p1 p2 p3 p4 hk hI
  obtain ⟨ρ, κ, im, g, R, rl, tl, tp, ln, sz, ⟨hC, hM, hw, hx, h8⟩, ⟨kc, km, kw⟩, h3, h4, h5, ⟨s1, s2⟩, h7⟩ := id hI
  have h1 : IRules μ ρ := ⟨hC, hM, hw, hx, h8⟩
  have h6 : ISheet μ ln sz := ⟨s1, s2⟩
  have hs := Inv_s hI
  by_cases c : ((0 ≤ p1.toInt ∧ p1.toInt < 4) ∧ (0 ≤ p2.toInt ∧ p2.toInt < 3)) ∧ (0 ≤ p4.toInt ∧ p4.toInt ≤ 12)
  · obtain ⟨q, q1, rfl, q2⟩ := i_of (x := p1) (by omega)
    obtain ⟨l, l1, rfl, l2⟩ := i_of (x := p2) (by omega)
    obtain ⟨n, n1, rfl, n2⟩ := i_of (x := p4) (by omega)
    rw [nI_toInt q1, nI_toInt l1, nI_toInt n1] at c
    obtain ⟨a1, a2, a3, a4, a5, a6⟩ := s1 q (by omega)
    have a1' : μ.1 (0 + 96 + 1) q = oI (ln q) := a1
    have ent : ∀ (m : Mem) (Q : Int32 → Mem → Prop), (∀ (S32 : Int32 → Int32 → Int32 → Mem → Prop) (S47 : Int32 → Int32 → Int32 → Int32 → Mem → Prop) (S208 : Int32 → Int32 → Mem → Prop), (∀ (v5 : Int32) (v6 : Int32) (v7 : Int32) (μ : Mem), nX7_read_32 100 (nI q) (nI l) p3 (nI n) Q S32 S47 S208 v5 v6 v7 μ → S32 v5 v6 v7 μ) → (∀ (v5 : Int32) (v6 : Int32) (v7 : Int32) (v8 : Int32) (μ : Mem), nX7_read_47 100 (nI q) (nI l) p3 (nI n) Q S32 S47 S208 v5 v6 v7 v8 μ → S47 v5 v6 v7 v8 μ) → (∀ (v6 : Int32) (v7 : Int32) (μ : Mem), nX7_read_208 100 (nI q) (nI l) p3 (nI n) Q S32 S47 S208 v6 v7 μ → S208 v6 v7 μ) → S32 0 0 0 m) → PX7_read 100 (nI q) (nI l) p3 (nI n) m Q := by
      intro m Q h S32 S47 S208 h32 h47 h208
      refine isSheet_y (by omega) (by omega) ⟨fun d => absurd d np1, fun _ => ?_⟩
      exact r_in_y (a := 0) (b := 12) (by omega) (by omega) (by rw [nI_toInt (by omega)]; omega) (by rw [nI_toInt (by omega)]; omega) ⟨fun _ => h S32 S47 S208 h32 h47 h208, fun d => absurd d np1⟩
    intro S58 S129 h58 h129
    refine ⟨fun d => absurd d (nI_pos (by omega)), fun _ => ⟨fun d => absurd d (nI_ge (b := 4) (by omega) (by omega)), fun _ => ⟨fun d => absurd d (nI_pos (by omega)), fun _ => ⟨fun d => absurd d (nI_ge (b := 3) (by omega) (by omega)), fun _ => ⟨fun d => absurd d (nI_pos (by omega)), fun _ => ⟨fun _ => ?_, fun d => absurd (nI_le (b := 12) (by omega) (by omega)) d⟩⟩⟩⟩⟩⟩
    -- the lane is the due one, or nothing is asked
    have good : (n = 0 ∨ ln q = some l) → S58 0 0 0 μ := by
      intro hl
      obtain ⟨w, w1, w2, w3⟩ := rd_find (fun i => rdW p3 (sz q) i ∧ rdL ρ (μ.1 99) (rdX q p3 i)) n
      have hlane : n = 0 ∨ μ.1 122 q = nI l := by
        rcases hl with z | z
        · exact Or.inl z
        · right; rw [a2, z]; rfl
      refine c_readS h58 h129 hC hw kc (by omega) (by omega) a6 a4 w1 w2 (fun hwn hW => ⟨fun y => w3 hwn ⟨hW, y⟩, ?_⟩) (fun hnw v m v0 v2 mk mf => ?_)
      · refine ent _ _ (fun S32 S47 S208 h32 h47 h208 => ?_)
        exact r_readS h32 h47 h208 hM hw km (by omega) (by omega) (by omega) a6 hlane a5 (fun j hj => (s2 j hj).symm) w1 w2 (fun hwn hW => ⟨fun y => w3 hwn ⟨hW, y⟩, rfl, hs⟩) (fun z => absurd hW (z hwn))
      · have ff : ∀ a j : Nat, a ≠ 41 → (a = 0 → j ≠ 12) → (ms m 0 12 v).1 a j = μ.1 a j := fun a j z1 z2 => by
          rw [ms_1]
          by_cases z : a = 0
          · rw [if_pos z, if_neg (z2 z)]; exact mf a j z1
          · rw [if_neg z]; exact mf a j z1
        refine ent _ _ (fun S32 S47 S208 h32 h47 h208 => ?_)
        have hl2 : n = 0 ∨ (ms m 0 12 v).1 122 q = nI l := by rw [ff 122 q (by decide) (by omega)]; exact hlane
        refine r_readS (c := μ.1 99) h32 h47 h208 (MR_of hM (fun a j z => ff a j (by omega) (by omega))) hw (KM_of km (fun j hj => ff 114 _ (by decide) (by omega))) (by omega) (by omega) (by omega) a6 hl2 ((ff 123 q (by decide) (by omega)).trans a5) (fun j hj => (ff 124 j (by decide) (by omega)).trans (s2 j hj).symm) w1 w2 (fun hwn hW => absurd hW (hnw hwn)) (fun _ v' m2 v0' v2' km2 f2 t2 => ⟨rfl, ?_⟩)
        have ev : v' = v := by
          by_cases z : w = n
          · rw [v0 z, v0' z]
          · rw [v2 (by omega), v2' (by omega)]
        have gg : ∀ a j : Nat, a ≠ 41 → (a = 0 → j ≠ 12) → (a = 114 → j < 280 ∨ 320 ≤ j) → (a = 100 → j ≠ 55) → m2.1 a j = μ.1 a j := fun a j z1 z2 z3 z4 => (f2 a j z3 z4).trans (ff a j z1 z2)
        have kwk : ∀ i : Nat, i ≤ w → KW (rdK κ (μ.1 99) q p3 i) (9 + 6 * k) k := by
          intro i
          induction i with
          | zero => exact fun _ => kw
          | succ i ih =>
            intro hi
            obtain ⟨_, t, a, u, ht, ha, hu, y1, y2, y3⟩ := w2 i (by omega)
            refine put_KW (ih (by omega)) ?_
            rw [y3, nI_toInt (by omega), Int.toNat_natCast]
            omega
        have e2 := rdK_2 κ (μ.1 99) q p3 w
        refine ⟨ρ, rdK κ (μ.1 99) q p3 w, im, g, R, rl, tl, tp, ln, sz, IRules_fr h1 (fun a j z => gg a j (by omega) (by omega) (by omega) (by omega)), ⟨KC_of mk (fun a j z1 z2 => ?_), km2, KW_mono (kwk w (by omega)) (by omega) (by omega)⟩, IImg_fr h3 (fun a j z => gg a j (by omega) (by omega) (by omega) (by omega)), IRow_fr h4 (fun a j z => gg a j (by omega) (by omega) (by omega) (by omega)), ITape_fr h5 (fun a j z => gg a j (by omega) (by omega) (by omega) (by omega)), ISheet_fr h6 (fun a j z => gg a j (by omega) (by omega) (by omega) (by omega)), ?_, ?_, fun s d z => h7.2.2.1 s d ?_, h7.2.2.2⟩
        · rw [f2 a j (by omega) (by omega), ms_1, if_neg (by omega)]
        · rw [gg 0 3 (by decide) (by omega) (by omega) (by omega), gg 100 31 (by decide) (by omega) (by omega) (by omega)]; exact h7.1
        · rw [t2, f2 0 12 (by omega) (by omega), ms_1, if_pos rfl, if_pos rfl, ev]
        · have e3 : (rdK κ (μ.1 99) q p3 w).la = κ.la := congrArg (fun y => KA.la (κ.1, y)) e2
          rw [← e3]; exact z
    -- another lane, or nothing
    have other : ∀ F : Int32, ¬ F = 0 → n ≠ 0 → (∀ m : Mem, m.1 122 q = oI (ln q) → ∀ (Q : Int32 → Mem → Prop) (S32 : Int32 → Int32 → Int32 → Mem → Prop) (S47 : Int32 → Int32 → Int32 → Int32 → Mem → Prop) (S208 : Int32 → Int32 → Mem → Prop), S47 F 0 0 (0 + 1) m → nX7_read_47 100 (nI q) (nI l) p3 (nI n) Q S32 S47 S208 0 0 0 0 m) → S58 F 0 0 μ := by
      intro F hF hn hR
      have fin : PX7_read 100 (nI q) (nI l) p3 (nI n) (ms μ 0 12 F) (fun r2 m2 => (0 : Int32) = r2 ∧ Inv (k + 1) m2) := by
        refine ent _ _ (fun S32 S47 S208 h32 h47 h208 => ?_)
        have x208 : S208 0 0 (ms (ms μ 0 12 F) 100 55 F) := by
          apply h208
          unfold nX7_read_208
          refine ⟨fun _ => ⟨rfl, ?_⟩, fun d => absurd (by decide) d⟩
          have gg : ∀ a j : Nat, (a = 0 → j ≠ 12) → (a = 100 → j ≠ 55) → (ms (ms μ 0 12 F) 100 55 F).1 a j = μ.1 a j := fun a j z1 z2 => by
            rw [ms_1]
            by_cases z : a = 100
            · rw [if_pos z, if_neg (z2 z), ms_1, if_neg (by omega)]
            · rw [if_neg z, ms_1]
              by_cases z' : a = 0
              · rw [if_pos z', if_neg (z1 z')]
              · rw [if_neg z']
          refine ⟨ρ, κ, im, g, R, rl, tl, tp, ln, sz, IRules_fr h1 (fun a j z => gg a j (by omega) (by omega)), IKit_fr ⟨kc, km, kw⟩ (fun a j z => gg a j (by omega) (by omega)), IImg_fr h3 (fun a j z => gg a j (by omega) (by omega)), IRow_fr h4 (fun a j z => gg a j (by omega) (by omega)), ITape_fr h5 (fun a j z => gg a j (by omega) (by omega)), ISheet_fr h6 (fun a j z => gg a j (by omega) (by omega)), ?_, ?_, h7.2.2.1, h7.2.2.2⟩
          · rw [gg 0 3 (by omega) (by omega), gg 100 31 (by omega) (by omega)]; exact h7.1
          · rw [ms_1, if_neg (by decide), ms_1, if_pos rfl, if_pos rfl, ms_1, if_pos rfl, if_pos rfl]
        have x32 : S32 F 0 (0 + 1) (ms μ 0 12 F) := by
          apply h32
          unfold nX7_read_32 nX7_read_199
          exact ⟨fun _ => x208, fun _ => ⟨fun _ => x208, fun d => absurd d hF⟩⟩
        have x47 : S47 F 0 0 (0 + 1) (ms μ 0 12 F) := by
          apply h47
          unfold nX7_read_47 nX7_read_134 nX7_read_193
          exact ⟨fun _ => ⟨fun _ => x32, fun d => absurd d hF⟩, fun _ => ⟨fun _ => ⟨fun _ => x32, fun d => absurd d hF⟩, fun d => absurd d hF⟩⟩
        apply h32
        unfold nX7_read_32
        refine ⟨fun d => absurd d (nI_ge (a := 0) (b := n) (by omega) (by omega)), fun _ => ⟨fun d => absurd rfl d, fun _ => ?_⟩⟩
        apply h47
        exact hR _ (by rw [ms_1, if_neg (by decide)]; exact a2) _ _ _ _ x47
      apply h58
      unfold nX6_read_58 nX6_read_126
      have x129 : S129 F 0 0 μ := by
        apply h129
        unfold nX6_read_129
        exact ⟨fun _ => fin, fun d => absurd (by decide) d⟩
      exact ⟨fun _ => x129, fun _ => ⟨fun _ => x129, fun d => absurd d hF⟩⟩
    unfold nX6_read_50
    refine ⟨fun hn0 => ?_, fun hn0 => ?_⟩
    · have hn : n ≠ 0 := fun z => hn0 (by rw [z]; rfl)
      unfold PX4_faultAsOf PX4_isNothing
      rw [nI_clamp (n := q) (by omega), a1']
      refine ⟨vp_in_nI (by omega) (by omega), fun d => ⟨fun _ => ⟨vp_in_nI (by omega) (by omega), fun y => ?_, fun y => ?_⟩, fun z => absurd rfl z⟩, fun d => ⟨fun z => absurd z np1, fun _ => ?_⟩⟩
      · refine other 3 (by decide) hn (fun m hm Q S32 S47 S208 x => ?_)
        have hm' : m.1 (100 + 22) q = oI (ln q) := hm
        unfold nX7_read_47 nX7_read_126
        rw [nI_clamp (n := q) (by omega), hm']
        exact ⟨fun z => absurd z (by decide), fun _ => ⟨fun z => absurd rfl z, fun _ => ⟨vp_in_nI (by omega) (by omega), fun _ => ⟨vp_in_nI (by omega) (by omega), fun z => absurd (a1'.trans z) y, fun _ => x⟩, fun z => absurd z d⟩⟩⟩
      · refine good (Or.inr ?_)
        cases hln : ln q with
        | none => rw [hln] at d; exact absurd rfl d
        | some l' =>
          have := a3 l' hln
          have y' : nI l' = nI l := by
            have := a1'.symm.trans y
            rw [hln] at this
            exact this
          rw [nI_eq (by omega) (by omega)] at y'
          rw [y']
      · refine other 1 (by decide) hn (fun m hm Q S32 S47 S208 x => ?_)
        have hm' : m.1 (100 + 22) q = oI (ln q) := hm
        unfold nX7_read_47 nX7_read_126
        rw [nI_clamp (n := q) (by omega), hm']
        exact ⟨fun z => absurd z (by decide), fun _ => ⟨fun z => absurd rfl z, fun _ => ⟨vp_in_nI (by omega) (by omega), fun z => absurd d z, fun _ => x⟩⟩⟩
    · refine good (Or.inl ?_)
      have hn0' : nI n = nI 0 := hn0
      rwa [nI_eq (by omega) (by omega)] at hn0'
  · have out : PX7_read 100 p1 p2 p3 p4 μ (fun r2 m2 => (-1 : Int32) = r2 ∧ Inv (k + 1) m2) := by
      intro S32 S47 S208 _ _ _
      by_cases c2 : (0 ≤ p1.toInt ∧ p1.toInt < 4) ∧ (0 ≤ p2.toInt ∧ p2.toInt < 3)
      · obtain ⟨q, q1, rfl, q2⟩ := i_of (x := p1) (by omega)
        obtain ⟨l, l1, rfl, l2⟩ := i_of (x := p2) (by omega)
        rw [nI_toInt q1, nI_toInt l1] at c2
        refine isSheet_y (by omega) (by omega) ⟨fun d => absurd d np1, fun _ => ?_⟩
        exact r_in_n (a := 0) (b := 12) (by omega) (by omega) (by rw [nI_toInt q1, nI_toInt l1] at c; omega) ⟨fun d => absurd rfl d, fun _ => ⟨rfl, hs⟩⟩
      · exact isSheet_n c2 ⟨fun _ => ⟨rfl, hs⟩, fun d => absurd rfl d⟩
    intro S58 S129 h58 h129
    rw [ilt' (x := p1) 0 0 rfl (by omega), ige' (x := p1) 4 4 rfl (by omega), ilt' (x := p2) 0 0 rfl (by omega), ige' (x := p2) 3 3 rfl (by omega), ilt' (x := p4) 0 0 rfl (by omega), ile' (x := p4) 12 12 rfl (by omega)]
    exact ⟨fun _ => out, fun d1 => ⟨fun _ => out, fun d2 => ⟨fun _ => out, fun d3 => ⟨fun _ => out, fun d4 => ⟨fun _ => out, fun d5 => ⟨fun d6 => absurd (show ((0 ≤ p1.toInt ∧ p1.toInt < 4) ∧ (0 ≤ p2.toInt ∧ p2.toInt < 3)) ∧ (0 ≤ p4.toInt ∧ p4.toInt ≤ 12) by omega) c, fun _ => out⟩⟩⟩⟩⟩⟩
