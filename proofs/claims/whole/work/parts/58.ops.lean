-- the bits of things
theorem bits_lt {ρ : RA} {s : Nat} : ∀ n : Nat, bitsW ρ s n < 2 ^ n
  | 0 => by simp [bitsW]
  | n + 1 => by
    have := bits_lt (ρ := ρ) (s := s) n
    have e : 2 ^ (n + 1) = 2 ^ n + 2 ^ n := by rw [Nat.pow_succ]; omega
    unfold bitsW
    split <;> omega
theorem or_add {a t : Nat} (h : a < 2 ^ t) (ht : t < 31) : nI a ||| nI (2 ^ t) = nI (a + 2 ^ t) := by
  have e : a ||| 2 ^ t = a + 2 ^ t := by
    have := Nat.two_pow_add_eq_or_of_lt h 1
    rw [Nat.mul_one, Nat.or_comm] at this
    rw [← this, Nat.add_comm]
  rw [← e]
  apply Int32.toBitVec_inj.mp
  show BitVec.ofNat 32 a ||| BitVec.ofNat 32 (2 ^ t) = BitVec.ofNat 32 (a ||| 2 ^ t)
  apply BitVec.eq_of_toNat_eq
  have h1 : 2 ^ t < 2 ^ 32 := Nat.pow_lt_pow_right (by decide) (by omega)
  have h2 : a ||| 2 ^ t < 2 ^ 32 := Nat.or_lt_two_pow (by omega) h1
  rw [BitVec.toNat_or, BitVec.toNat_ofNat, BitVec.toNat_ofNat, BitVec.toNat_ofNat, Nat.mod_eq_of_lt (by omega), Nat.mod_eq_of_lt h1, Nat.mod_eq_of_lt h2]
theorem thg_zero {ρ : RA} {s : Nat} (hx : RZ2 ρ) (h3 : ρ 4 s = 3) : ∀ n : Nat, n ≤ 6 → bitsW ρ s n = 0
  | 0, _ => rfl
  | n + 1, h => by
    unfold bitsW
    rw [thg_zero hx h3 n (by omega), hx.2 s n (by omega) h3]
    rfl
theorem c_thingsOf {μ : Mem} {r s : Nat} {ρ : RA} {Q : Int32 → Mem → Prop} (hR : CR μ r ρ) (hw : RW ρ) (hx : RZ2 ρ) (hs : s < 9) (h : Q (nI (thgN ρ s)) μ) : PX2_thingsOf r (nI s) μ Q := by
  intro S hS
  have t6 := hw.1
  have e8 := (hR.2.2.2.2.2.2.1 s hs).2.2.2.2
  rw [nI_clamp (by omega), e8]
  refine ⟨vp_in_nI (by omega) (by omega), ?_⟩
  have key : ∀ n : Nat, n ≤ ρ 0 0 → S (nI (ρ 8 s + bitsW ρ s n)) (nI n) μ := by
    refine up_pure ?_ ?_
    · intro n hn ih
      have e9 := (hR.2.2.2.2.2.2.2.1 (s * 6 + n) (by omega)).1
      have b9 := (hw.2.2.2.2.2.2.2.2.1 (s * 6 + n)).1
      apply hS
      unfold nX2_thingsOf_9 nX2_thingsOf_37
      rw [hR.1, show nI s * (6 : Int32) = nI (s * 6) from pk_mul s 6, nI_add, nI_clamp (by omega), e9, nI_1 n]
      refine ⟨fun c => absurd c (nI_ge hn (by omega)), fun _ => ⟨vp_in_nI (by omega) (by omega), fun c => ?_, fun c => ?_⟩⟩
      · have c2 : ρ 9 (s * 6 + n) = 0 := by
          have := (nI_leI (b := 0) (by omega) (by omega)).1 c
          omega
        have eb : bitsW ρ s (n + 1) = bitsW ρ s n := by
          show bitsW ρ s n + (if 0 < ρ 9 (6 * s + n) then 2 ^ n else 0) = _
          rw [Nat.mul_comm 6 s, c2]; rfl
        rw [eb] at ih; exact ih
      · have c2 : 0 < ρ 9 (s * 6 + n) := by
          have : ρ 9 (s * 6 + n) ≠ 0 := fun q => c (by rw [q]; decide)
          omega
        have eb : bitsW ρ s (n + 1) = bitsW ρ s n + 2 ^ n := by
          show bitsW ρ s n + (if 0 < ρ 9 (6 * s + n) then 2 ^ n else 0) = _
          rw [Nat.mul_comm 6 s, if_pos c2]
        have h4 : ρ 4 s ≠ 3 := fun q => by
          have := hx.2 s n (by omega) q
          rw [Nat.mul_comm 6 s] at this; omega
        have h8 := hx.1 s h4
        rw [eb, h8, Nat.zero_add] at ih
        rw [show ((1 : Int32) <<< (nI n &&& 31)) = nI (2 ^ n) from jsh (by omega), h8, Nat.zero_add, or_add (bits_lt n) (by omega)]
        exact ih
    · apply hS
      unfold nX2_thingsOf_9
      rw [hR.1]
      refine ⟨fun _ => ?_, fun c => absurd (nI_le (Nat.le_refl _) (by omega)) c⟩
      have : ρ 8 s + bitsW ρ s (ρ 0 0) = thgN ρ s := by
        unfold thgN
        by_cases c : ρ 4 s = 3
        · rw [if_pos c, thg_zero hx c _ (by omega), Nat.add_zero]
        · rw [if_neg c, hx.1 s c, Nat.zero_add]
      rw [this]; exact h
  have := key 0 (Nat.zero_le _)
  exact this
theorem st_supper : St_supper Inv := by
  intro k μ p1 p2 hk hI
  obtain ⟨ρ, κ, im, g, R, rl, tl, tp, ln, sz, ⟨hC, hM, hw, hx, h8⟩, h2, h3, h4, h5, h6, h7⟩ := id hI
  have t6 := hw.1
  have hs' := Inv_s hI
  unfold PX6_supper
  rcases yesI p1 (ρ 0 4) with ⟨s, hs, rfl⟩ | hn
  · obtain ⟨c4, c5, c6, c7, c8⟩ := hC.2.2.2.2.2.2.1 s (by omega)
    obtain ⟨m4, m5, m6, m7, m8⟩ := hM.2.2.2.2.2.2.1 s hs
    refine c_hasSupper_y hC hw hs ⟨fun _ => ?_, fun c => absurd c np1⟩
    -- the reference's answer
    have refA : ∀ (v : Int32) (i : Nat), i ≤ 4 → μ.1 102 (5 * s + i) = v → PX7_supper 100 (nI s) (nI i) μ (fun r2 m2 => v = r2 ∧ Inv (k + 1) m2) := by
      intro v i hi hv
      unfold PX7_supper
      refine r_isSupper_y hM hw hs ⟨fun _ => ?_, fun c => absurd c np1⟩
      refine r_in_n (a := 10) (b := 15) (by omega) (by omega) (by rw [nI_toInt (by omega)]; omega) ⟨fun _ => ?_, fun c => absurd rfl c⟩
      refine r_in_n (a := 20) (b := 25) (by omega) (by omega) (by rw [nI_toInt (by omega)]; omega) ⟨fun _ => ?_, fun c => absurd rfl c⟩
      refine r_in_y (a := 0) (b := 4) (by omega) (by omega) (by rw [nI_toInt (by omega)]; omega) (by rw [nI_toInt (by omega)]; omega) ⟨fun c => absurd c np1, fun _ => ?_⟩
      rw [show (5 : Int32) * nI s = nI (5 * s) from pk_mul 5 s, nI_add, nI_clamp (by omega)]
      exact ⟨vp_in_nI (by omega) (by omega), hv.symm, hs'⟩
    have refW : ∀ (x : Int32), 10 ≤ x.toInt → x.toInt < 20 → ∀ v : Int32, (noI (x - 10) (ρ 0 0) → v = -1) → (∀ t : Nat, t < ρ 0 0 → x = nI (10 + t) → v = nI (ρ 9 (6 * s + t))) → PX7_supper 100 (nI s) x μ (fun r2 m2 => v = r2 ∧ Inv (k + 1) m2) := by
      intro x h1 h2 v hv1 hv2
      unfold PX7_supper
      refine r_isSupper_y hM hw hs ⟨fun _ => ?_, fun c => absurd c np1⟩
      obtain ⟨j, j1, rfl, j2⟩ := i_of (x := x) (by omega)
      have es : nI j - (10 : Int32) = nI (j - 10) := by rw [show (10 : Int32) = nI 10 from rfl, pk_sub (by omega)]
      rw [es] at hv1 ⊢
      by_cases c15 : j ≤ 15
      · refine r_in_y (a := 10) (b := 15) (by omega) (by omega) (by omega) (by omega) ⟨fun c => absurd c np1, fun _ => ?_⟩
        by_cases ct : j - 10 < ρ 0 0
        · refine r_isThing_y hM hw ct ⟨fun c => absurd c np1, fun _ => ?_⟩
          have e9 := (hM.2.2.2.2.2.2.2.1 (6 * s + (j - 10)) (by omega)).1
          have ei : (6 : Int32) * nI s + nI j - (10 : Int32) = nI (6 * s + (j - 10)) := by
            rw [show (6 : Int32) * nI s = nI (6 * s) from pk_mul 6 s, nI_add, show (10 : Int32) = nI 10 from rfl, pk_sub (by omega), show 6 * s + j - 10 = 6 * s + (j - 10) by omega]
          rw [ei, nI_clamp (by omega)]
          refine ⟨vp_in_nI (by omega) (by omega), ?_, hs'⟩
          rw [hv2 (j - 10) ct (by rw [show 10 + (j - 10) = j by omega])]
          exact e9.symm
        · have hno : noI (nI (j - 10)) (ρ 0 0) := fun z => by rw [nI_toInt (by omega)] at z; omega
          exact r_isThing_n hM hw hno ⟨fun _ => ⟨hv1 hno, hs'⟩, fun c => absurd rfl c⟩
      · have hno : noI (nI (j - 10)) (ρ 0 0) := fun z => by rw [nI_toInt (by omega)] at z; omega
        refine r_in_n (a := 10) (b := 15) (by omega) (by omega) (by omega) ⟨fun _ => ?_, fun c => absurd rfl c⟩
        refine r_in_n (a := 20) (b := 25) (by omega) (by omega) (by omega) ⟨fun _ => ?_, fun c => absurd rfl c⟩
        exact r_in_n (a := 0) (b := 4) (by omega) (by omega) (by omega) ⟨fun _ => ⟨hv1 hno, hs'⟩, fun c => absurd rfl c⟩
    have refL : ∀ (x : Int32), 20 ≤ x.toInt → ∀ v : Int32, (noI (x - 20) (ρ 0 0) → v = -1) → (∀ t : Nat, t < ρ 0 0 → x = nI (20 + t) → v = nI (ρ 10 (6 * s + t))) → PX7_supper 100 (nI s) x μ (fun r2 m2 => v = r2 ∧ Inv (k + 1) m2) := by
      intro x h1 v hv1 hv2
      unfold PX7_supper
      refine r_isSupper_y hM hw hs ⟨fun _ => ?_, fun c => absurd c np1⟩
      obtain ⟨j, j1, rfl, j2⟩ := i_of (x := x) (by omega)
      have es : nI j - (20 : Int32) = nI (j - 20) := by rw [show (20 : Int32) = nI 20 from rfl, pk_sub (by omega)]
      rw [es] at hv1 ⊢
      refine r_in_n (a := 10) (b := 15) (by omega) (by omega) (by omega) ⟨fun _ => ?_, fun c => absurd rfl c⟩
      by_cases c15 : j ≤ 25
      · refine r_in_y (a := 20) (b := 25) (by omega) (by omega) (by omega) (by omega) ⟨fun c => absurd c np1, fun _ => ?_⟩
        by_cases ct : j - 20 < ρ 0 0
        · refine r_isThing_y hM hw ct ⟨fun c => absurd c np1, fun _ => ?_⟩
          have e9 := (hM.2.2.2.2.2.2.2.1 (6 * s + (j - 20)) (by omega)).2
          have ei : (6 : Int32) * nI s + nI j - (20 : Int32) = nI (6 * s + (j - 20)) := by
            rw [show (6 : Int32) * nI s = nI (6 * s) from pk_mul 6 s, nI_add, show (20 : Int32) = nI 20 from rfl, pk_sub (by omega), show 6 * s + j - 20 = 6 * s + (j - 20) by omega]
          rw [ei, nI_clamp (by omega)]
          refine ⟨vp_in_nI (by omega) (by omega), ?_, hs'⟩
          rw [hv2 (j - 20) ct (by rw [show 20 + (j - 20) = j by omega])]
          exact e9.symm
        · have hno : noI (nI (j - 20)) (ρ 0 0) := fun z => by rw [nI_toInt (by omega)] at z; omega
          exact r_isThing_n hM hw hno ⟨fun _ => ⟨hv1 hno, hs'⟩, fun c => absurd rfl c⟩
      · have hno : noI (nI (j - 20)) (ρ 0 0) := fun z => by rw [nI_toInt (by omega)] at z; omega
        refine r_in_n (a := 20) (b := 25) (by omega) (by omega) (by omega) ⟨fun _ => ?_, fun c => absurd rfl c⟩
        exact r_in_n (a := 0) (b := 4) (by omega) (by omega) (by omega) ⟨fun _ => ⟨hv1 hno, hs'⟩, fun c => absurd rfl c⟩
    have refN : ∀ (x : Int32), (x.toInt < 0 ∨ 4 < x.toInt) → x.toInt < 10 → PX7_supper 100 (nI s) x μ (fun r2 m2 => (-1 : Int32) = r2 ∧ Inv (k + 1) m2) := by
      intro x h1 h2
      unfold PX7_supper
      refine r_isSupper_y hM hw hs ⟨fun _ => ?_, fun c => absurd c np1⟩
      refine r_in_n (a := 10) (b := 15) (by omega) (by omega) (by omega) ⟨fun _ => ?_, fun c => absurd rfl c⟩
      refine r_in_n (a := 20) (b := 25) (by omega) (by omega) (by omega) ⟨fun _ => ?_, fun c => absurd rfl c⟩
      exact r_in_n (a := 0) (b := 4) (by omega) (by omega) (by omega) ⟨fun _ => ⟨rfl, hs'⟩, fun c => absurd rfl c⟩
    rw [show (20 : Int32) = nI 20 from rfl, show (10 : Int32) = nI 10 from rfl, i_lt (by omega), i_lt (by omega)]
    refine ⟨fun c20 => ⟨fun c10 => ?_, fun c10 => ?_⟩, fun c20 => ?_⟩
    · rcases sw (x := p2) (n := 4) (by omega) with ⟨j, hj, rfl⟩ | ho
      · have cl : ∀ a : Nat, ∀ v : Int32, μ.1 a s = v → μ.1 a (nI s).toNatClampNeg = v := fun a v h => by rw [nI_clamp (by omega)]; exact h
        have f4 : μ.1 (0 + 1 + 4) (nI s).toNatClampNeg = nI (ρ 4 s) := cl _ _ c4
        have f5 : μ.1 (0 + 1 + 5) (nI s).toNatClampNeg = nI (ρ 5 s) := cl _ _ c5
        have f6 : μ.1 (0 + 1 + 6) (nI s).toNatClampNeg = nI (ρ 6 s) := cl _ _ c6
        have f7 : μ.1 (0 + 1 + 7) (nI s).toNatClampNeg = nI (ρ 7 s) := cl _ _ c7
        have v9 : vp_in (nI s) 9 := vp_in_nI (by omega) (by omega)
        rcases (show j = 0 ∨ j = 1 ∨ j = 2 ∨ j = 3 ∨ j = 4 by omega) with rfl | rfl | rfl | rfl | rfl
        · refine ⟨fun _ => ⟨v9, ?_⟩, fun c => absurd c (by decide), fun c => absurd c (by decide), fun c => absurd c (by decide), fun c => absurd c (by decide), fun c => absurd c (by decide)⟩
          rw [f4]; exact refA _ 0 (by omega) m4
        · refine ⟨fun c => absurd c (by decide), fun _ => ⟨v9, ?_⟩, fun c => absurd c (by decide), fun c => absurd c (by decide), fun c => absurd c (by decide), fun c => absurd c (by decide)⟩
          rw [f5]; exact refA _ 1 (by omega) m5
        · refine ⟨fun c => absurd c (by decide), fun c => absurd c (by decide), fun _ => ⟨v9, ?_⟩, fun c => absurd c (by decide), fun c => absurd c (by decide), fun c => absurd c (by decide)⟩
          rw [f6]; exact refA _ 2 (by omega) m6
        · refine ⟨fun c => absurd c (by decide), fun c => absurd c (by decide), fun c => absurd c (by decide), fun _ => ⟨v9, ?_⟩, fun c => absurd c (by decide), fun c => absurd c (by decide)⟩
          rw [f7]; exact refA _ 3 (by omega) m7
        · refine ⟨fun c => absurd c (by decide), fun c => absurd c (by decide), fun c => absurd c (by decide), fun c => absurd c (by decide), fun _ => ?_, fun c => absurd c (by decide)⟩
          exact c_thingsOf hC hw hx (by omega) (refA _ 4 (by omega) m8)
      · exact ⟨fun c => absurd c (sw_n (j := 0) ho (by omega) (by omega)), fun c => absurd c (sw_n (j := 1) ho (by omega) (by omega)), fun c => absurd c (sw_n (j := 2) ho (by omega) (by omega)), fun c => absurd c (sw_n (j := 3) ho (by omega) (by omega)), fun c => absurd c (sw_n (j := 4) ho (by omega) (by omega)), fun _ => refN p2 ho (by omega)⟩
    · rcases yesI (p2 - nI 10) (ρ 0 0) with ⟨t, ht, e⟩ | hno
      · obtain ⟨j, j1, rfl, j2⟩ := i_of (x := p2) (by omega)
        rw [pk_sub (by omega)] at e
        have ej : j - 10 = t := (nI_eq (by omega) (by omega)).1 e
        rw [pk_sub (by omega), ej]
        refine c_hasThing_y hC hw ht ⟨fun c => absurd c np1, fun _ => ?_⟩
        have e9 : μ.1 (0 + 1 + 9) (s * 6 + t) = nI (ρ 9 (s * 6 + t)) := (hC.2.2.2.2.2.2.2.1 (s * 6 + t) (by omega)).1
        have ei : nI s * (6 : Int32) + nI j - nI 10 = nI (s * 6 + t) := by
          rw [show nI s * (6 : Int32) = nI (s * 6) from pk_mul s 6, nI_add, pk_sub (by omega), show s * 6 + j - 10 = s * 6 + t by omega]
        rw [ei, nI_clamp (by omega), e9]
        refine ⟨vp_in_nI (by omega) (by omega), refW (nI j) (by omega) (by omega) _ (fun z => ?_) (fun t' ht' e' => ?_)⟩
        · exact absurd (show 0 ≤ (nI j - (10 : Int32)).toInt ∧ (nI j - (10 : Int32)).toInt < (ρ 0 0 : Nat) by
            rw [show (10 : Int32) = nI 10 from rfl, pk_sub (by omega), nI_toInt (by omega)]; omega) z
        · have : j = 10 + t' := (nI_eq (by omega) (by omega)).1 e'
          rw [show t' = t by omega, Nat.mul_comm]
      · refine c_hasThing_n hC hw hno ⟨fun _ => refW p2 (by omega) (by omega) _ (fun _ => rfl) (fun t' ht' e' => ?_), fun c => absurd rfl c⟩
        rw [e', pk_sub (by omega), show 10 + t' - 10 = t' by omega] at hno
        exact absurd (show 0 ≤ (nI t').toInt ∧ (nI t').toInt < (ρ 0 0 : Nat) by rw [nI_toInt (by omega)]; omega) hno
    · rcases yesI (p2 - nI 20) (ρ 0 0) with ⟨t, ht, e⟩ | hno
      · obtain ⟨j, j1, rfl, j2⟩ := i_of (x := p2) (by omega)
        rw [pk_sub (by omega)] at e
        have ej : j - 20 = t := (nI_eq (by omega) (by omega)).1 e
        rw [pk_sub (by omega), ej]
        refine c_hasThing_y hC hw ht ⟨fun c => absurd c np1, fun _ => ?_⟩
        have e9 : μ.1 (0 + 1 + 10) (s * 6 + t) = nI (ρ 10 (s * 6 + t)) := (hC.2.2.2.2.2.2.2.1 (s * 6 + t) (by omega)).2
        have ei : nI s * (6 : Int32) + nI j - nI 20 = nI (s * 6 + t) := by
          rw [show nI s * (6 : Int32) = nI (s * 6) from pk_mul s 6, nI_add, pk_sub (by omega), show s * 6 + j - 20 = s * 6 + t by omega]
        rw [ei, nI_clamp (by omega), e9]
        refine ⟨vp_in_nI (by omega) (by omega), refL (nI j) (by omega) _ (fun z => ?_) (fun t' ht' e' => ?_)⟩
        · exact absurd (show 0 ≤ (nI j - (20 : Int32)).toInt ∧ (nI j - (20 : Int32)).toInt < (ρ 0 0 : Nat) by
            rw [show (20 : Int32) = nI 20 from rfl, pk_sub (by omega), nI_toInt (by omega)]; omega) z
        · have : j = 20 + t' := (nI_eq (by omega) (by omega)).1 e'
          rw [show t' = t by omega, Nat.mul_comm]
      · refine c_hasThing_n hC hw hno ⟨fun _ => refL p2 (by omega) _ (fun _ => rfl) (fun t' ht' e' => ?_), fun c => absurd rfl c⟩
        rw [e', pk_sub (by omega), show 20 + t' - 20 = t' by omega] at hno
        exact absurd (show 0 ≤ (nI t').toInt ∧ (nI t').toInt < (ρ 0 0 : Nat) by rw [nI_toInt (by omega)]; omega) hno
  · refine c_hasSupper_n hC hw hn ⟨fun c => absurd rfl c, fun _ => ?_⟩
    unfold PX7_supper
    exact r_isSupper_n hM hw hn ⟨fun c => absurd rfl c, fun _ => ⟨rfl, hs'⟩⟩
theorem st_has : St_has Inv := by
  intro k μ p1 p2 hk hI
  obtain ⟨ρ, κ, im, g, R, rl, tl, tp, ln, sz, ⟨hC, hM, hw, hx, h8⟩, ⟨kc, km, kw⟩, h3, h4, h5, h6, h7⟩ := id hI
  have t6 := hw.1
  have hs := Inv_s hI
  unfold PX6_has PX7_has nX6_has_36 nX7_has_37
  rcases yesI p1 (ρ 0 0) with ⟨t, ht, rfl⟩ | hn
  · refine c_hasThing_y hC hw ht ⟨fun c => absurd c np1, fun _ => ?_⟩
    rcases yesI p2 4 with ⟨a, ha, rfl⟩ | hna
    · have e1 : μ.1 (0 + 40 + 1) (t * 4 + a) = nI (κ.u (t * 4 + a)) := kc.1 _ (by omega)
      have e2 : μ.1 (100 + 14) (280 + (4 * t + a)) = nI (κ.u (4 * t + a)) := km.1 _ (by omega)
      rw [show nI t * (4 : Int32) = nI (t * 4) from pk_mul t 4, nI_add, nI_clamp (by omega), e1]
      refine ⟨fun c => absurd c (nI_pos (by omega)), fun _ => ⟨fun c => absurd c (nI_ge (b := 4) ha (by omega)), fun _ => ⟨vp_in_nI (by omega) (by omega), ?_⟩⟩⟩
      refine r_isThing_y hM hw ht ⟨fun c => absurd c np1, fun _ => ?_⟩
      refine r_in_y (a := 0) (b := 3) (by omega) (by omega) (by rw [nI_toInt (by omega)]; omega) (by rw [nI_toInt (by omega)]; omega) ⟨fun c => absurd c np1, fun _ => ?_⟩
      rw [show (280 : Int32) + (4 : Int32) * nI t + nI a = nI (280 + (4 * t + a)) by rw [show (4 : Int32) * nI t = nI (4 * t) from pk_mul 4 t, show (280 : Int32) = nI 280 from rfl, nI_add, nI_add, Nat.add_assoc], nI_clamp (by omega), e2, Nat.mul_comm]
      exact ⟨vp_in_nI (by omega) (by omega), rfl, hs⟩
    · have out : PX7_isThing 100 (nI t) μ (fun (r2 : Int32) (m1 : Mem) => (r2 = 0 → ((-1 : Int32) = -1 ∧ Inv (k + 1) m1)) ∧ (¬ r2 = 0 → PX7_in p2.toInt64 (0 : Int64) (3 : Int64) m1 (fun (r5 : Int32) (m4 : Mem) => (r5 = 0 → ((-1 : Int32) = -1 ∧ Inv (k + 1) m4)) ∧ (¬ r5 = 0 → vp_in ((((280 : Int32)) + (((4 : Int32)) * nI t)) + p2) 400 ∧ ((-1 : Int32) = m4.1 (100 + 14) ((((280 : Int32)) + (((4 : Int32)) * nI t)) + p2).toNatClampNeg ∧ Inv (k + 1) m4))))) := by
        refine r_isThing_y hM hw ht ⟨fun c => absurd c np1, fun _ => ?_⟩
        exact r_in_n (a := 0) (b := 3) (by omega) (by omega) (by unfold noI at hna; omega) ⟨fun _ => ⟨rfl, hs⟩, fun c => absurd rfl c⟩
      rw [show (0 : Int32) = nI 0 from rfl, show (4 : Int32) = nI 4 from rfl, i_lt (by omega), i_ge (by omega)]
      exact ⟨fun _ => out, fun c => ⟨fun _ => out, fun d => absurd (show 0 ≤ p2.toInt ∧ p2.toInt < (4 : Nat) by omega) hna⟩⟩
  · refine c_hasThing_n hC hw hn ⟨fun _ => ?_, fun c => absurd rfl c⟩
    exact r_isThing_n hM hw hn ⟨fun _ => ⟨rfl, hs⟩, fun c => absurd rfl c⟩
theorem st_may : St_may Inv := by
  intro k μ p1 p2 hp hk hI
  obtain ⟨ρ, κ, im, g, R, rl, tl, tp, ln, sz, ⟨hC, hM, hw, hx, h8⟩, ⟨kc, km, kw⟩, h3, h4, h5, h6, h7⟩ := id hI
  have hs := Inv_s hI
  obtain ⟨gg, hg, rfl⟩ : ∃ gg : Nat, gg ≤ 1 ∧ p2 = nI gg := by
    rcases hp with rfl | rfl
    · exact ⟨0, by omega, rfl⟩
    · exact ⟨1, by omega, rfl⟩
  unfold PX6_may PX7_may
  rcases yesI p1 (ρ 0 4) with ⟨s, hss, rfl⟩ | hn
  · refine c_hasSupper_y hC hw hss ⟨fun c => absurd c np1, fun _ => ?_⟩
    refine c_whyNot kc kw (by omega) (by omega) hC hw (by omega) hg ?_
    refine r_isSupper_y hM hw hss ⟨fun c => absurd c np1, fun _ => ?_⟩
    exact r_whyNot (B := 280) km (by omega) kw (by omega) (by omega) hM hw hss hg ⟨rfl, hs⟩
  · refine c_hasSupper_n hC hw hn ⟨fun _ => ?_, fun c => absurd rfl c⟩
    exact r_isSupper_n hM hw hn ⟨fun _ => ⟨rfl, hs⟩, fun c => absurd rfl c⟩
theorem tak_sum {ρ : RA} {κ : KA} {s g t : Nat} (ht : t < ρ 0 0) : takA ρ κ s g t 0 + takA ρ κ s g t 1 + takA ρ κ s g t 2 + takA ρ κ s g t 3 = takN ρ κ s g t := by
  have t0 := take_same (κ := κ) (s := s) (g := g) ht (4 * t) (by omega)
  unfold takN
  split
  · show _ = sumN (fun k => takA ρ κ s g t (3 - k)) 4
    simp only [sumN, Nat.reduceSub, Nat.sub_zero, Nat.zero_add]
    omega
  · rename_i c
    have ea : ∀ a : Nat, a < 4 → takA ρ κ s g t (3 - a) = min (wantN ρ s g t - sumN (fun k => κ.u (4 * t + (3 - k))) a) (κ.u (4 * t + (3 - a))) := fun a ha => takA_3 c ha
    have a3 := ea 0 (by omega)
    have a2 := ea 1 (by omega)
    have a1 := ea 2 (by omega)
    have a0 := ea 3 (by omega)
    simp only [sumN, Nat.reduceSub, Nat.sub_zero, Nat.zero_add, Nat.add_zero] at a0 a1 a2 a3
    simp only [untN, sumN, Nat.add_zero, Nat.zero_add]
    omega
theorem st_lacks : St_lacks Inv := by
  intro k μ p1 p2 p3 p4 hp hk hI
  obtain ⟨ρ, κ, im, g, R, rl, tl, tp, ln, sz, ⟨hC, hM, hw, hx, h8⟩, ⟨kc, km, kw⟩, h3, h4, h5, h6, h7⟩ := id hI
  have t6 := hw.1
  have hs := Inv_s hI
  obtain ⟨gg, hg, rfl⟩ : ∃ gg : Nat, gg ≤ 1 ∧ p2 = nI gg := by
    rcases hp with rfl | rfl
    · exact ⟨0, by omega, rfl⟩
    · exact ⟨1, by omega, rfl⟩
  unfold PX6_lacks
  rcases yesI p1 (ρ 0 4) with ⟨s, hss, rfl⟩ | hn
  · refine c_hasSupper_y hC hw hss ⟨fun c => absurd c np1, fun _ => ?_⟩
    rcases yesI p3 (ρ 0 0) with ⟨t, ht, rfl⟩ | hnt
    · refine c_hasThing_y hC hw ht ⟨fun _ => ?_, fun c => absurd c np1⟩
      rcases sw (x := p4) (n := 2) (by omega) with ⟨j, hj, rfl⟩ | ho
      · have ent : ∀ (m : Mem) (Q : Int32 → Mem → Prop), MR m ρ → (PX7_in (nI j).toInt64 (0 : Int64) (2 : Int64) m (fun (r8 : Int32) (m7 : Mem) => (¬ r8 = 0 → (((2 : Int32)) ≤ nI j → PX7_findTaken 100 ((280 : Int32)) (nI s) (nI gg) m7 (fun (m11 : Mem) => vp_in (((4 : Int32)) * nI t) 24 ∧ (vp_in ((((4 : Int32)) * nI t) + ((1 : Int32))) 24 ∧ (vp_in ((((4 : Int32)) * nI t) + ((2 : Int32))) 24 ∧ (vp_in ((((4 : Int32)) * nI t) + ((3 : Int32))) 24 ∧ (Q ((((m11.1 (100 + 16) (((4 : Int32)) * nI t).toNatClampNeg) + (m11.1 (100 + 16) ((((4 : Int32)) * nI t) + ((1 : Int32))).toNatClampNeg)) + (m11.1 (100 + 16) ((((4 : Int32)) * nI t) + ((2 : Int32))).toNatClampNeg)) + (m11.1 (100 + 16) ((((4 : Int32)) * nI t) + ((3 : Int32))).toNatClampNeg)) m11)))))) ∧ (¬ ((2 : Int32)) ≤ nI j → (¬ nI j = 0 → PX7_packsOf 100 ((280 : Int32)) (nI s) (nI gg) (nI t) m7 (fun (r15 : Int32) (m14 : Mem) => Q r15 m14)) ∧ (nI j = 0 → PX7_lackOf 100 ((280 : Int32)) (nI s) (nI gg) (nI t) m7 (fun (r17 : Int32) (m16 : Mem) => Q r17 m16)))) ∧ (r8 = 0 → Q ((-1 : Int32)) m7))) → PX7_lacks 100 (nI s) (nI gg) (nI t) (nI j) m Q := by
          intro m Q hM' hq
          unfold PX7_lacks
          refine r_isSupper_y hM' hw hss ⟨fun c => absurd c np1, fun _ => ?_⟩
          exact r_isThing_y hM' hw ht ⟨fun c => absurd c np1, fun _ => hq⟩
        have vin : ∀ (m : Mem) (Q : Int32 → Mem → Prop), Q 1 m → PX7_in (nI j).toInt64 (0 : Int64) (2 : Int64) m Q := fun m Q hq => r_in_y (a := 0) (b := 2) (by omega) (by omega) (by rw [nI_toInt (by omega)]; omega) (by rw [nI_toInt (by omega)]; omega) hq
        rcases (show j = 0 ∨ j = 1 ∨ j = 2 by omega) with rfl | rfl | rfl
        · refine ⟨fun _ => ?_, fun c => absurd c (by decide), fun c => absurd c (by decide), fun c => absurd c (by decide)⟩
          refine c_lacking kc kw (by omega) hC hw (by omega) ht hg ?_
          refine ent μ _ hM (vin _ _ ⟨fun _ => ⟨fun c => absurd c (by decide), fun _ => ⟨fun c => absurd rfl c, fun _ => ?_⟩⟩, fun c => absurd c np1⟩)
          exact r_lackOf (B := 280) km (by omega) kw (by omega) hM hw hss ht hg ⟨rfl, hs⟩
        · refine ⟨fun c => absurd c (by decide), fun _ => ?_, fun c => absurd c (by decide), fun c => absurd c (by decide)⟩
          refine c_packs kc kw (by omega) (by omega) hC hw (by omega) ht hg ?_
          refine ent μ _ hM (vin _ _ ⟨fun _ => ⟨fun c => absurd c (by decide), fun _ => ⟨fun _ => ?_, fun c => absurd c (by decide)⟩⟩, fun c => absurd c np1⟩)
          exact r_packsOf (B := 280) km (by omega) kw (by omega) (by omega) hM hw hss ht hg ⟨rfl, hs⟩
        · refine ⟨fun c => absurd c (by decide), fun c => absurd c (by decide), fun _ => ?_, fun c => absurd c (by decide)⟩
          refine c_taking kc kw (by omega) hC hw (by omega) (by omega) hg ht (fun m f => ?_)
          have hM' := MR_of hM (m := m) (fun a j q => f.1 a (by omega) j)
          have km' := KM_of km (m := m) (fun j _ => f.1 114 (by omega) _)
          refine ent m _ hM' (vin _ _ ⟨fun _ => ⟨fun _ => ?_, fun c => absurd (by decide) c⟩, fun c => absurd c np1⟩)
          refine r_findTaken (B := 280) km' (by omega) kw (by omega) hM' hw hss hg (fun m2 f2 e2 => ?_)
          have x0 : m2.1 (100 + 16) (4 * t) = nI (takA ρ κ s gg t 0) := e2 t 0 ht (by omega)
          have x1 : m2.1 (100 + 16) (4 * t + 1) = nI (takA ρ κ s gg t 1) := e2 t 1 ht (by omega)
          have x2 : m2.1 (100 + 16) (4 * t + 2) = nI (takA ρ κ s gg t 2) := e2 t 2 ht (by omega)
          have x3 : m2.1 (100 + 16) (4 * t + 3) = nI (takA ρ κ s gg t 3) := e2 t 3 ht (by omega)
          rw [show (4 : Int32) * nI t = nI (4 * t) from pk_mul 4 t, show nI (4 * t) + (1 : Int32) = nI (4 * t + 1) from nI_add _ _, show nI (4 * t) + (2 : Int32) = nI (4 * t + 2) from nI_add _ _, show nI (4 * t) + (3 : Int32) = nI (4 * t + 3) from nI_add _ _, nI_clamp (n := 4 * t) (by omega), nI_clamp (n := 4 * t + 1) (by omega), nI_clamp (n := 4 * t + 2) (by omega), nI_clamp (n := 4 * t + 3) (by omega), x0, x1, x2, x3, nI_add, nI_add, nI_add, tak_sum ht]
          refine ⟨vp_in_nI (by omega) (by omega), vp_in_nI (by omega) (by omega), vp_in_nI (by omega) (by omega), vp_in_nI (by omega) (by omega), rfl, ?_⟩
          refine Inv_fr hI (fun a j q => ?_)
          unfold cellI at q
          rw [f2.1 a j (by omega) (by omega) (fun _ => by omega), f.1 a (by omega)]
      · have fin : PX7_lacks 100 (nI s) (nI gg) (nI t) p4 μ (fun r2 m2 => (-1 : Int32) = r2 ∧ Inv (k + 1) m2) := by
          unfold PX7_lacks
          refine r_isSupper_y hM hw hss ⟨fun c => absurd c np1, fun _ => ?_⟩
          refine r_isThing_y hM hw ht ⟨fun c => absurd c np1, fun _ => ?_⟩
          exact r_in_n (a := 0) (b := 2) (by omega) (by omega) (by omega) ⟨fun c => absurd rfl c, fun _ => ⟨rfl, hs⟩⟩
        exact ⟨fun c => absurd c (sw_n (j := 0) ho (by omega) (by omega)), fun c => absurd c (sw_n (j := 1) ho (by omega) (by omega)), fun c => absurd c (sw_n (j := 2) ho (by omega) (by omega)), fun _ => fin⟩
    · refine c_hasThing_n hC hw hnt ⟨fun c => absurd rfl c, fun _ => ?_⟩
      unfold PX7_lacks
      refine r_isSupper_y hM hw hss ⟨fun c => absurd c np1, fun _ => ?_⟩
      exact r_isThing_n hM hw hnt ⟨fun _ => ⟨rfl, hs⟩, fun c => absurd rfl c⟩
  · refine c_hasSupper_n hC hw hn ⟨fun _ => ?_, fun c => absurd rfl c⟩
    unfold PX7_lacks
    exact r_isSupper_n hM hw hn ⟨fun _ => ⟨rfl, hs⟩, fun c => absurd rfl c⟩
