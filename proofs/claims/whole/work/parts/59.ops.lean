def lotOK (ρ : RA) (p1 p2 p3 : Int32) : Prop := ∃ t a v : Nat, t < ρ 0 0 ∧ a < ρ 1 t ∧ v ≤ 9 ∧ p1 = nI t ∧ p2 = nI a ∧ p3 = nI v
theorem c_canPut_y {μ : Mem} {t a v : Nat} {ρ : RA} {Q : Int32 → Mem → Prop} (hC : CR μ 1 ρ) (hw : RW ρ) (ht : t < ρ 0 0) (ha : a < ρ 1 t) (hv : v ≤ 9) (h : Q 1 μ) : PX6_canPut 0 (nI t) (nI a) (nI v) μ Q := by
  have t6 := hw.1
  have k4 := (hw.2.2.2.2.2.1 t ht).1
  have e : μ.1 (0 + 1 + 1) t = nI (ρ 1 t) := (hC.2.2.2.2.2.1 t ht).1
  unfold PX6_canPut nX6_canPut_42
  refine c_hasThing_y hC hw ht ⟨fun c => absurd c np1, fun _ => ?_⟩
  rw [nI_clamp (n := t) (by omega), e]
  exact ⟨fun c => absurd c (nI_pos (by omega)), fun _ => ⟨vp_in_nI (by omega) (by omega), fun c => absurd c (nI_ge ha (by omega)), fun _ => ⟨fun c => absurd c (nI_pos (by omega)), fun _ => ⟨fun c => absurd c (nI_nlt (a := 9) hv (by omega)), fun _ => h⟩⟩⟩⟩
theorem c_canPut_n {μ : Mem} {p1 p2 p3 : Int32} {ρ : RA} {Q : Int32 → Mem → Prop} (hC : CR μ 1 ρ) (hw : RW ρ) (hn : ¬ lotOK ρ p1 p2 p3) (h : Q 0 μ) : PX6_canPut 0 p1 p2 p3 μ Q := by
  have t6 := hw.1
  unfold PX6_canPut nX6_canPut_42
  rcases yesI p1 (ρ 0 0) with ⟨t, ht, rfl⟩ | hn1
  · have k4 := (hw.2.2.2.2.2.1 t ht).1
    have e : μ.1 (0 + 1 + 1) t = nI (ρ 1 t) := (hC.2.2.2.2.2.1 t ht).1
    refine c_hasThing_y hC hw ht ⟨fun c => absurd c np1, fun _ => ?_⟩
    rw [nI_clamp (n := t) (by omega), e, show (0 : Int32) = nI 0 from rfl, show (9 : Int32) = nI 9 from rfl, i_lt (by omega), i_lt (by omega), i_ge (by omega), i_gt (by omega)]
    refine ⟨fun _ => h, fun c1 => ⟨vp_in_nI (by omega) (by omega), fun _ => h, fun c2 => ⟨fun _ => h, fun c3 => ⟨fun _ => h, fun c4 => ?_⟩⟩⟩⟩
    obtain ⟨a, a1, rfl, a2⟩ := i_of (x := p2) (by omega)
    obtain ⟨v, v1, rfl, v2⟩ := i_of (x := p3) (by omega)
    exact absurd ⟨t, a, v, ht, by omega, by omega, rfl, rfl, rfl⟩ hn
  · exact c_hasThing_n hC hw hn1 ⟨fun _ => h, fun c => absurd rfl c⟩
theorem r_isLot_y {μ : Mem} {t a v : Nat} {ρ : RA} {Q : Int32 → Mem → Prop} (hM : MR μ ρ) (hw : RW ρ) (ht : t < ρ 0 0) (ha : a < ρ 1 t) (hv : v ≤ 9) (h : Q 1 μ) : PX7_isLot 100 (nI t) (nI a) (nI v) μ Q := by
  have t6 := hw.1
  have k4 := (hw.2.2.2.2.2.1 t ht).1
  unfold PX7_isLot nX7_isLot_41
  refine r_isThing_y hM hw ht ⟨fun c => absurd c np1, fun _ => ?_⟩
  refine r_keeps hM hw ht ?_
  rw [nI_m1]
  refine r_in (fun _ _ => ⟨fun c => absurd c np1, fun _ => ?_⟩) (fun c => ?_)
  · exact r_in_y (a := 0) (b := 9) (by omega) (by omega) (by rw [nI_toInt (by omega)]; omega) (by rw [nI_toInt (by omega)]; omega) ⟨fun c => absurd c np1, fun _ => h⟩
  · rw [Int32.toInt_toInt64, dI_toInt (by omega), nI_toInt (by omega), show (0 : Int64).toInt = 0 from by decide] at c
    omega
theorem r_isLot_n {μ : Mem} {p1 p2 p3 : Int32} {ρ : RA} {Q : Int32 → Mem → Prop} (hM : MR μ ρ) (hw : RW ρ) (hn : ¬ lotOK ρ p1 p2 p3) (h : Q 0 μ) : PX7_isLot 100 p1 p2 p3 μ Q := by
  have t6 := hw.1
  unfold PX7_isLot nX7_isLot_41
  rcases yesI p1 (ρ 0 0) with ⟨t, ht, rfl⟩ | hn1
  · have k4 := (hw.2.2.2.2.2.1 t ht).1
    refine r_isThing_y hM hw ht ⟨fun c => absurd c np1, fun _ => ?_⟩
    refine r_keeps hM hw ht ?_
    rw [nI_m1]
    refine r_in (fun c1 c2 => ⟨fun c => absurd c np1, fun _ => ?_⟩) (fun c => ⟨fun _ => h, fun c => absurd rfl c⟩)
    refine r_in (a := 0) (b := 9) (fun c3 c4 => ?_) (fun c => ⟨fun _ => h, fun c => absurd rfl c⟩)
    rw [Int32.toInt_toInt64, dI_toInt (by omega)] at c2
    rw [show (0 : Int64).toInt = 0 from by decide] at c1 c3
    rw [show (9 : Int64).toInt = 9 from by decide] at c4
    obtain ⟨a, a1, rfl, a2⟩ := i_of (x := p2) (by omega)
    obtain ⟨v, v1, rfl, v2⟩ := i_of (x := p3) (by omega)
    exact absurd ⟨t, a, v, ht, by omega, by omega, rfl, rfl, rfl⟩ hn
  · exact r_isThing_n hM hw hn1 ⟨fun _ => h, fun c => absurd rfl c⟩
def putK (κ : KA) (i v : Nat) : KA := (fun j => if j = i then v else κ.u j, κ.2)
theorem put_KW {κ : KA} {B D i v : Nat} (h : KW κ B D) (hv : v ≤ B) : KW (putK κ i v) B D := ⟨fun j => by
  show (if j = i then v else κ.u j) ≤ B
  have := h.1 j
  split <;> omega, h.2⟩
/-- both larders changed at one place -/
theorem Inv_kit {k : Nat} {μ m : Mem} {ρ : RA} {κ κ' : KA} {im : Nat → KA} {g : Nat → Nat} {R : Nat → Option Nat} {rl tl : Nat} {tp : Nat → Nat} {ln : Nat → Option Nat} {sz : Nat → Nat} (h1 : IRules μ ρ) (h3 : IImg k μ im g) (h4 : IRow μ ρ R rl) (h5 : ITape μ tl tp) (h6 : ISheet μ ln sz) (h7 : IFlt μ ρ κ im g) (hla : ∀ s d : Nat, κ'.la s = some d → s < ρ 0 4) (hk : IKit (k + 1) m κ') (f : ∀ a j : Nat, a ≤ 12 ∨ 25 ≤ a ∧ a ≤ 26 ∨ 45 ≤ a ∧ a ≤ 47 ∨ 49 ≤ a ∧ a ≤ 51 ∨ a = 53 ∨ a = 54 ∨ 97 ≤ a ∧ a ≤ 105 ∧ (a = 100 → j < 39 ∨ j = 55) ∨ a = 113 ∨ (a = 114 ∧ 320 ≤ j) ∨ a = 115 ∨ (a = 118 ∧ j < 7) ∨ 122 ≤ a ∧ a ≤ 124 → m.1 a j = μ.1 a j) : Inv (k + 1) m :=
  ⟨ρ, κ', im, g, R, rl, tl, tp, ln, sz, IRules_fr h1 (fun a j q => f a j (by omega)), hk, IImg_fr h3 (fun a j q => f a j (by omega)), IRow_fr h4 (fun a j q => f a j (by omega)), ITape_fr h5 (fun a j q => f a j (by omega)), ISheet_fr h6 (fun a j q => f a j (by omega)), let z := IFlt_fr h7 (fun a j q => f a j (by omega)); ⟨z.1, z.2.1, hla, z.2.2.2⟩⟩
theorem st_put : St_put Inv := by
  intro k μ p1 p2 p3 hk hI
  obtain ⟨ρ, κ, im, g, R, rl, tl, tp, ln, sz, ⟨hC, hM, hw, hx, h8⟩, ⟨kc, km, kw⟩, h3, h4, h5, h6, h7⟩ := id hI
  have h1 : IRules μ ρ := ⟨hC, hM, hw, hx, h8⟩
  have t6 := hw.1
  have hs := Inv_s hI
  unfold PX6_put PX7_put
  by_cases hl : lotOK ρ p1 p2 p3
  · obtain ⟨t, a, v, ht, ha, hv, rfl, rfl, rfl⟩ := hl
    have k4 := (hw.2.2.2.2.2.1 t ht).1
    refine c_canPut_y hC hw ht ha hv ⟨fun _ => ?_, fun c => absurd c np1⟩
    have e1 : μ.1 (0 + 40 + 1) (4 * t + a) = nI (κ.u (4 * t + a)) := kc.1 _ (by omega)
    rw [show nI t * (4 : Int32) = nI (t * 4) from pk_mul t 4, nI_add, nI_clamp (by omega), Nat.mul_comm t 4, e1]
    refine ⟨vp_in_nI (by omega) (by omega), vp_in_nI (by omega) (by omega), ?_⟩
    have g1 : ∀ a' j : Nat, a' ≠ 41 → (ms μ (0 + 40 + 1) (4 * t + a) (nI v)).1 a' j = μ.1 a' j := fun a' j q => by rw [ms_1, if_neg (by omega)]
    have hM' := MR_of hM (m := ms μ (0 + 40 + 1) (4 * t + a) (nI v)) (fun a' j q => g1 a' j (by omega))
    have km' := KM_of km (m := ms μ (0 + 40 + 1) (4 * t + a) (nI v)) (fun j _ => g1 114 _ (by decide))
    refine r_isLot_y hM' hw ht ha hv ⟨fun _ => ?_, fun c => absurd c np1⟩
    have e2 : (ms μ (0 + 40 + 1) (4 * t + a) (nI v)).1 (100 + 14) (280 + (4 * t + a)) = nI (κ.u (4 * t + a)) := km'.1 _ (by omega)
    rw [show (280 : Int32) + (4 : Int32) * nI t + nI a = nI (280 + (4 * t + a)) by rw [show (4 : Int32) * nI t = nI (4 * t) from pk_mul 4 t, show (280 : Int32) = nI 280 from rfl, nI_add, nI_add, Nat.add_assoc], nI_clamp (by omega), e2]
    refine ⟨vp_in_nI (by omega) (by omega), fun x hx => ⟨vp_in_nI (by omega) (by omega), hx.symm, ?_⟩⟩
    have kcu : KC (ms μ 41 (4 * t + a) (nI v)) 40 (putK κ (4 * t + a) v) := KC_u kc (by omega)
    have kmu : KM (ms (ms μ 41 (4 * t + a) (nI v)) 114 (280 + (4 * t + a)) (nI v)) 280 (putK κ (4 * t + a) v) := KM_u km' (by omega)
    refine Inv_kit (κ' := putK κ (4 * t + a) v) h1 h3 h4 h5 h6 h7 h7.2.2.1 ⟨KC_of kcu (fun a' j _ _ => ?_), kmu, put_KW (KW_mono kw (by omega) (by omega)) (by omega)⟩ (fun a' j q => ?_)
    · show (ms (ms μ 41 (4 * t + a) (nI v)) 114 (280 + (4 * t + a)) (nI v)).1 a' j = _
      rw [ms_1, if_neg (by omega)]
    · show (ms (ms μ 41 (4 * t + a) (nI v)) 114 (280 + (4 * t + a)) (nI v)).1 a' j = _
      rw [ms_1]
      by_cases c : a' = 114
      · rw [if_pos c, if_neg (by omega), ms_1, if_neg (by omega)]
      · rw [if_neg c, ms_1, if_neg (by omega)]
  · refine c_canPut_n hC hw hl ⟨fun c => absurd rfl c, fun _ => ?_⟩
    exact r_isLot_n hM hw hl ⟨fun c => absurd rfl c, fun _ => ⟨rfl, hs⟩⟩
theorem st_eat : St_eat Inv := by
  intro k μ p1 p2 hp hk hI
  obtain ⟨ρ, κ, im, g, R, rl, tl, tp, ln, sz, ⟨hC, hM, hw, hx, h8⟩, ⟨kc, km, kw⟩, h3, h4, h5, h6, h7⟩ := id hI
  have h1 : IRules μ ρ := ⟨hC, hM, hw, hx, h8⟩
  have hs := Inv_s hI
  obtain ⟨gg, hg, rfl⟩ : ∃ gg : Nat, gg ≤ 1 ∧ p2 = nI gg := by
    rcases hp with rfl | rfl
    · exact ⟨0, by omega, rfl⟩
    · exact ⟨1, by omega, rfl⟩
  have ec : μ.1 (0 + 40) 3 = oI κ.tod := kc.2.2.2.1
  have em : μ.1 (100 + 14) (317 : Int32).toNatClampNeg = oI κ.tod := km.2.2.2.1
  unfold PX6_eat PX7_eat nX7_eat_35
  rcases yesI p1 (ρ 0 4) with ⟨s, hss, rfl⟩ | hn
  · refine c_hasSupper_y hC hw hss ⟨fun _ => ?_, fun c => absurd c np1⟩
    rw [ec]
    refine ⟨fun c => ?_, fun c => ?_⟩
    · refine r_isSupper_y hM hw hss ⟨fun _ => ⟨vp_in_nI (n := 317) (by omega) (by omega), ?_⟩, fun c => absurd c np1⟩
      rw [em]
      exact ⟨fun _ => ⟨rfl, hs⟩, fun d => absurd d c⟩
    · refine c_whyNot kc kw (by omega) (by omega) hC hw (by omega) hg ?_
      have bw := why_le (ρ := ρ) (κ := κ) (s := s) (g := gg)
      refine ⟨fun c2 => ?_, fun c2 => ?_⟩
      · have w0 : whyN ρ κ s gg = 0 := (nI_eq (b := 0) (by omega) (by omega)).1 c2
        refine c_serve kc kw (by omega) (by omega) hC hw (by omega) (by omega) hg (fun m kc2 f => ?_)
        have hM' := MR_of hM (m := m) (fun a j q => f.1 a (by omega) j)
        have km' := KM_of km (m := m) (fun j _ => f.1 114 (by omega) _)
        have em' : m.1 (100 + 14) (317 : Int32).toNatClampNeg = oI κ.tod := km'.2.2.2.1
        refine r_isSupper_y hM' hw hss ⟨fun _ => ⟨vp_in_nI (n := 317) (by omega) (by omega), ?_⟩, fun c => absurd c np1⟩
        rw [em']
        refine ⟨fun d => absurd c d, fun _ => ?_⟩
        refine r_whyNot (B := 280) km' (by omega) kw (by omega) (by omega) hM' hw hss hg ?_
        rw [w0]
        refine ⟨fun _ => ?_, fun d => absurd (by decide) d⟩
        refine r_eats (B := 280) km' (by omega) kw (by omega) (by omega) hM' hw hss hg (fun m2 km2 f2 => ⟨rfl, ?_⟩)
        refine Inv_kit (κ' := servN ρ κ s gg) h1 h3 h4 h5 h6 h7 (fun q d e => by
          change (if q = s then some κ.date else κ.la q) = some d at e
          by_cases c : q = s
          · rw [c]; exact hss
          · rw [if_neg c] at e; exact h7.2.2.1 q d e) ⟨KC_of kc2 (fun a j _ _ => f2.1 a j (by omega) (by omega) (by omega)), km2, KW_mono (serv_KW hw kw) (by omega) (by omega)⟩ (fun a j q => ?_)
        rw [f2.1 a j (by omega) (by omega) (fun _ => by omega), f.1 a (by omega)]
      · have w0 : whyN ρ κ s gg ≠ 0 := fun q => c2 (by rw [q]; rfl)
        refine r_isSupper_y hM hw hss ⟨fun _ => ⟨vp_in_nI (n := 317) (by omega) (by omega), ?_⟩, fun c => absurd c np1⟩
        rw [em]
        refine ⟨fun d => absurd c d, fun _ => ?_⟩
        refine r_whyNot (B := 280) km (by omega) kw (by omega) (by omega) hM hw hss hg ?_
        refine ⟨fun d => ?_, fun _ => ⟨rfl, hs⟩⟩
        have := (nI_leI (b := 0) (by omega) (by omega)).1 d
        omega
  · refine c_hasSupper_n hC hw hn ⟨fun c => absurd rfl c, fun _ => ?_⟩
    exact r_isSupper_n hM hw hn ⟨fun c => absurd rfl c, fun _ => ⟨rfl, hs⟩⟩
theorem st_night : St_night Inv := by
  intro k μ hk hI
  obtain ⟨ρ, κ, im, g, R, rl, tl, tp, ln, sz, ⟨hC, hM, hw, hx, h8⟩, ⟨kc, km, kw⟩, h3, h4, h5, h6, h7⟩ := id hI
  have h1 : IRules μ ρ := ⟨hC, hM, hw, hx, h8⟩
  unfold PX6_night PX7_night
  refine c_passNight kc hC hw (by omega) (fun m kc2 f => ?_)
  have hM' := MR_of hM (m := m) (fun a j q => f.1 a (by omega) j)
  have km' := KM_of km (m := m) (fun j _ => f.1 114 (by omega) _)
  refine r_nights (B := 280) km' (by omega) hM' hw (fun m2 km2 f2 => ⟨rfl, ?_⟩)
  refine Inv_kit (κ' := nightN ρ κ) h1 h3 h4 h5 h6 h7 h7.2.2.1 ⟨KC_of kc2 (fun a j _ _ => f2.1 a j (by omega) (by omega) (by omega)), km2, KW_mono (night_KW kw) (by omega) (by omega)⟩ (fun a j q => ?_)
  rw [f2.1 a j (by omega) (by omega) (fun _ => by omega), f.1 a (by omega)]
theorem st_now : St_now Inv := by
  intro k μ p1 hk hI
  obtain ⟨ρ, κ, im, g, R, rl, tl, tp, ln, sz, ⟨hC, hM, hw, hx, h8⟩, ⟨kc, km, kw⟩, h3, h4, h5, h6, h7⟩ := id hI
  have hs := Inv_s hI
  obtain ⟨c1, c2, c3, c4, c5, c6, c7⟩ := id kc
  obtain ⟨m1, m2, m3, m4, m5, m6, m7⟩ := id km
  have ref : ∀ r : Int32, (p1 = 0 → r = nI κ.date) → (p1 = 1 → r = oI κ.tod) → (p1 = 2 → r = nI κ.paid) → (p1 = 3 → r = nI κ.thr) → (p1 = 4 → r = nI κ.lik) → (p1 = 5 → r = nI (sumN κ.u 24)) → ((p1.toInt < 0 ∨ 5 < p1.toInt) → r = -1) → PX7_now 100 p1 μ (fun r2 m2 => r = r2 ∧ Inv (k + 1) m2) := by
    intro r q0 q1 q2 q3 q4 q5 q6 S hS
    have key : ∀ i : Nat, i ≤ 24 → S (nI (sumN κ.u i)) (nI i) μ := by
      refine up_pure ?_ ?_
      · intro i hi hn
        have e : μ.1 (100 + 14) (280 + i) = nI (κ.u i) := m1 i hi
        apply hS
        unfold nX7_now_4
        rw [show (280 : Int32) + nI i = nI (280 + i) from nI_add 280 i, nI_clamp (by omega), e, nI_add, nI_1]
        exact ⟨fun c => absurd c (nI_ge (b := 24) hi (by omega)), fun _ => ⟨vp_in_nI (by omega) (by omega), hn⟩⟩
      · apply hS
        unfold nX7_now_4
        have v : ∀ n : Nat, n < 400 → vp_in (nI n) 400 := fun n hn => vp_in_nI hn (by omega)
        refine ⟨fun _ => ⟨fun c => ⟨v 316 (by omega), ?_, hs⟩, fun c => ⟨v 317 (by omega), ?_, hs⟩, fun c => ⟨v 313 (by omega), ?_, hs⟩, fun c => ⟨v 314 (by omega), ?_, hs⟩, fun c => ⟨v 315 (by omega), ?_, hs⟩, fun c => ⟨q5 c, hs⟩, fun c => ⟨q6 c, hs⟩⟩, fun c => absurd (by decide) c⟩
        · rw [q0 c]; exact m3.symm
        · rw [q1 c]; exact m4.symm
        · rw [q2 c]; exact m5.symm
        · rw [q3 c]; exact m6.symm
        · rw [q4 c]; exact m7.symm
    exact key 0 (by omega)
  unfold PX6_now
  have f2 : μ.1 (0 + 40) 2 = nI κ.date := c3
  have f3 : μ.1 (0 + 40) 3 = oI κ.tod := c4
  have f4 : μ.1 (0 + 40) 4 = nI κ.paid := c5
  have f5 : μ.1 (0 + 40) 5 = nI κ.thr := c6
  have f6 : μ.1 (0 + 40) 6 = nI κ.lik := c7
  rw [f2, f3, f4, f5, f6]
  have bad : ∀ {j i : Nat} {P : Prop}, p1 = nI j → p1 = nI i → j < 100 → i < 100 → i ≠ j → P := fun a b h1 h2 h3 => absurd ((nI_eq (by omega) (by omega)).1 (b.symm.trans a)) h3
  have badn : ∀ {i : Nat} {P : Prop}, p1 = nI i → i ≤ 5 → (p1.toInt < 0 ∨ 5 < p1.toInt) → P := fun a b c => absurd a (sw_n (n := 5) c b (by omega))
  refine ⟨fun a => ref _ (fun _ => rfl) (fun b => bad (j := 0) (i := 1) a b (by omega) (by omega) (by omega)) (fun b => bad (j := 0) (i := 2) a b (by omega) (by omega) (by omega)) (fun b => bad (j := 0) (i := 3) a b (by omega) (by omega) (by omega)) (fun b => bad (j := 0) (i := 4) a b (by omega) (by omega) (by omega)) (fun b => bad (j := 0) (i := 5) a b (by omega) (by omega) (by omega)) (fun b => badn (i := 0) a (by omega) b), fun a => ref _ (fun b => bad (j := 1) (i := 0) a b (by omega) (by omega) (by omega)) (fun _ => rfl) (fun b => bad (j := 1) (i := 2) a b (by omega) (by omega) (by omega)) (fun b => bad (j := 1) (i := 3) a b (by omega) (by omega) (by omega)) (fun b => bad (j := 1) (i := 4) a b (by omega) (by omega) (by omega)) (fun b => bad (j := 1) (i := 5) a b (by omega) (by omega) (by omega)) (fun b => badn (i := 1) a (by omega) b), fun a => ref _ (fun b => bad (j := 2) (i := 0) a b (by omega) (by omega) (by omega)) (fun b => bad (j := 2) (i := 1) a b (by omega) (by omega) (by omega)) (fun _ => rfl) (fun b => bad (j := 2) (i := 3) a b (by omega) (by omega) (by omega)) (fun b => bad (j := 2) (i := 4) a b (by omega) (by omega) (by omega)) (fun b => bad (j := 2) (i := 5) a b (by omega) (by omega) (by omega)) (fun b => badn (i := 2) a (by omega) b), fun a => ref _ (fun b => bad (j := 3) (i := 0) a b (by omega) (by omega) (by omega)) (fun b => bad (j := 3) (i := 1) a b (by omega) (by omega) (by omega)) (fun b => bad (j := 3) (i := 2) a b (by omega) (by omega) (by omega)) (fun _ => rfl) (fun b => bad (j := 3) (i := 4) a b (by omega) (by omega) (by omega)) (fun b => bad (j := 3) (i := 5) a b (by omega) (by omega) (by omega)) (fun b => badn (i := 3) a (by omega) b), fun a => ref _ (fun b => bad (j := 4) (i := 0) a b (by omega) (by omega) (by omega)) (fun b => bad (j := 4) (i := 1) a b (by omega) (by omega) (by omega)) (fun b => bad (j := 4) (i := 2) a b (by omega) (by omega) (by omega)) (fun b => bad (j := 4) (i := 3) a b (by omega) (by omega) (by omega)) (fun _ => rfl) (fun b => bad (j := 4) (i := 5) a b (by omega) (by omega) (by omega)) (fun b => badn (i := 4) a (by omega) b), fun a => c_unitsInAll kc (ref _ (fun b => bad (j := 5) (i := 0) a b (by omega) (by omega) (by omega)) (fun b => bad (j := 5) (i := 1) a b (by omega) (by omega) (by omega)) (fun b => bad (j := 5) (i := 2) a b (by omega) (by omega) (by omega)) (fun b => bad (j := 5) (i := 3) a b (by omega) (by omega) (by omega)) (fun b => bad (j := 5) (i := 4) a b (by omega) (by omega) (by omega)) (fun _ => rfl) (fun b => badn (i := 5) a (by omega) b)), fun a => ref _ (fun b => badn (i := 0) b (by omega) a) (fun b => badn (i := 1) b (by omega) a) (fun b => badn (i := 2) b (by omega) a) (fun b => badn (i := 3) b (by omega) a) (fun b => badn (i := 4) b (by omega) a) (fun b => badn (i := 5) b (by omega) a) (fun _ => rfl)⟩
theorem st_last : St_last Inv := by
  intro k μ p1 hk hI
  obtain ⟨ρ, κ, im, g, R, rl, tl, tp, ln, sz, ⟨hC, hM, hw, hx, h8⟩, ⟨kc, km, kw⟩, h3, h4, h5, h6, h7⟩ := id hI
  have hs := Inv_s hI
  unfold PX6_last PX7_last
  rcases yesI p1 (ρ 0 4) with ⟨s, hss, rfl⟩ | hn
  · have e1 : μ.1 (0 + 40 + 2) s = oI (κ.la s) := kc.2.1 s (by omega)
    have e2 : μ.1 (100 + 14) (304 + s) = oI (κ.la s) := km.2.1 s (by omega)
    refine c_hasSupper_y hC hw hss ⟨fun c => absurd c np1, fun _ => ⟨vp_in_nI (by omega) (by omega), ?_⟩⟩
    rw [nI_clamp (by omega), e1]
    refine r_isSupper_y hM hw hss ⟨fun c => absurd c np1, fun _ => ?_⟩
    rw [show (304 : Int32) + nI s = nI (304 + s) from nI_add 304 s, nI_clamp (by omega), e2]
    exact ⟨vp_in_nI (by omega) (by omega), rfl, hs⟩
  · refine c_hasSupper_n hC hw hn ⟨fun _ => ?_, fun c => absurd rfl c⟩
    exact r_isSupper_n hM hw hn ⟨fun _ => ⟨rfl, hs⟩, fun c => absurd rfl c⟩
