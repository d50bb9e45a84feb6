def FSs (μ m : Mem) : Prop := ∀ a j : Nat, a ≠ 116 → a ≠ 117 → a ≠ 118 → a ≠ 119 → a ≠ 120 → (a = 100 → j ≠ 39 ∧ (j < 41 ∨ 51 < j)) → (a = 114 → 280 ≤ j) → m.1 a j = μ.1 a j
theorem DR_acc2 {A : List (Nat → Option Nat) → Mem → Prop} {ρ : RA} {κ : KA} {d : Nat} {P : Nat → Option Nat} {L L' : List (Nat → Option Nat)} {m m' : Mem} (hd : d ≤ 5) (h : DRs A ρ κ d P L m) (f : ∀ a j : Nat, a ≠ 116 → a ≠ 117 → a ≠ 118 → a ≠ 120 → (a = 100 → j ≠ 39) → (a = 114 → j < 240 ∨ 280 ≤ j) → m'.1 a j = m.1 a j) (hA : A L' m') : DRs A ρ κ d P L' m' := by
  obtain ⟨h1, h2, h3, h4, h5, h6⟩ := h
  exact ⟨MR_of h1 (fun a j q => f a j (by omega) (by omega) (by omega) (by omega) (fun z => by omega) (fun z => by omega)), KM_of h2 (fun j hj => f _ _ (by decide) (by decide) (by decide) (by decide) (by simp) (fun _ => by omega)), fun j hj => KMx_of (h3 j hj) (fun i hi => f _ _ (by decide) (by decide) (by decide) (by decide) (by simp) (fun _ => by omega)), fun j hj => (f _ _ (by decide) (by decide) (by decide) (by decide) (by simp) (by simp)).trans (h4 j hj), h5, hA⟩
def SureR (n : Nat) (m : Mem) (x : Option (Nat → Option Nat)) : Prop := match x with
  | none => True
  | some P => ∀ i : Nat, i < n → m.1 120 i = oI (P i)
theorem SureR_fr {n : Nat} {m m' : Mem} {x : Option (Nat → Option Nat)} (h : SureR n m x) (f : ∀ i : Nat, m'.1 120 i = m.1 120 i) : SureR n m' x := by
  cases x with
  | none => trivial
  | some P => exact fun i hi => (f i).trans (h i hi)
def AS (μ : Mem) (ρ : RA) (κ : KA) (n : Nat) (L : List (Nat → Option Nat)) (m : Mem) : Prop := FSs μ m ∧ SureR n m (sureL ρ κ n L)
theorem AS_stab {μ : Mem} {ρ : RA} {κ : KA} {n : Nat} : Astab (AS μ ρ κ n) := by
  intro L m m' h e
  obtain ⟨h1, h2⟩ := h
  exact ⟨fun a j q1 q2 _ q4 q5 q6 q7 => (e a j q1 q2 q4 (fun z => by have := q6 z; omega) (fun z => by have := q7 z; omega)).trans (h1 a j q1 q2 (by assumption) q4 q5 q6 q7), SureR_fr h2 (fun i => e 120 i (by decide) (by decide) (by decide) (by simp) (by simp))⟩
noncomputable def mostI (ρ : RA) (κ : KA) (n : Nat) (x : Option (Nat → Option Nat)) : Int32 := match x with
  | none => -4
  | some P => nI (brN ρ κ P n)
set_option maxHeartbeats 2000000 in
theorem r_surest {μ : Mem} {n l B D : Nat} {p2 : Int32} {κ : KA} {ρ : RA} {Q : Int32 → Mem → Prop} {S44 S84 : Int32 → Int32 → Mem → Prop} {S95 S141 : Int32 → Int32 → Int32 → Mem → Prop} {S178 : Int32 → Int32 → Mem → Prop} (h44 : ∀ (v3 : Int32) (v4 : Int32) (μ : Mem), nX7_surest_44 100 (nI n) p2 Q S44 S84 S95 S141 S178 v3 v4 μ → S44 v3 v4 μ) (h84 : ∀ (v3 : Int32) (v4 : Int32) (μ : Mem), nX7_surest_84 100 (nI n) p2 Q S44 S84 S95 S141 S178 v3 v4 μ → S84 v3 v4 μ) (h95 : ∀ (v3 : Int32) (v4 : Int32) (v5 : Int32) (μ : Mem), nX7_surest_95 100 (nI n) p2 Q S44 S84 S95 S141 S178 v3 v4 v5 μ → S95 v3 v4 v5 μ) (h141 : ∀ (v3 : Int32) (v4 : Int32) (v6 : Int32) (μ : Mem), nX7_surest_141 100 (nI n) p2 Q S44 S84 S95 S141 S178 v3 v4 v6 μ → S141 v3 v4 v6 μ) (h178 : ∀ (v4 : Int32) (v5 : Int32) (μ : Mem), nX7_surest_178 100 (nI n) p2 Q S44 S84 S95 S141 S178 v4 v5 μ → S178 v4 v5 μ) (hR : MR μ ρ) (hw : RW ρ) (hK : KM μ 280 κ) (hk : KW κ B D) (hB : B ≤ 80000) (hD : D ≤ 90000) (hn0 : 1 ≤ n) (hn : n ≤ 3) (hl : μ.1 100 37 = nI l) (hp2 : p2 = 0 ∨ p2 = 1 ∨ ∃ i : Nat, i < n ∧ p2 = nI (10 + i)) (h : ∀ m : Mem, (∀ a j : Nat, a ≠ 116 → a ≠ 117 → a ≠ 118 → a ≠ 119 → a ≠ 120 → a ≠ 121 → (a = 100 → j ≠ 39 ∧ (j < 41 ∨ 51 < j)) → (a = 114 → 280 ≤ j) → m.1 a j = μ.1 a j) → (∀ j : Nat, j < 7 → m.1 118 j = μ.1 118 j) → (sureL ρ κ n (rowsN ρ κ n) = none → Q (-4) m) ∧ (∀ P : Nat → Option Nat, sureL ρ κ n (rowsN ρ κ n) = some P → (p2 = 0 → Q (nI (brN ρ κ P n / Nat.gcd (brN ρ κ P n) (2 ^ (2 * n)))) m) ∧ (p2 = 1 → Q (nI (2 ^ (2 * n) / Nat.gcd (brN ρ κ P n) (2 ^ (2 * n)))) m) ∧ (∀ i : Nat, i < n → p2 = nI (10 + i) → Q (oI (P i)) m))) : nX7_surest_36 100 (nI n) p2 Q S44 S84 S95 S141 S178 μ := by
  have s9 := hw.2.1
  have p2n := p2_le (n := n) (by omega)
  have brb : ∀ P : Nat → Option Nat, brN ρ κ P n ≤ 128 * 16384 := fun P => Nat.le_trans (br_le (κ := κ) (R := P) (n := n) (m := 2 ^ n) hw (by omega)) (Nat.mul_le_mul_right _ p2n)
  unfold nX7_surest_36
  rw [hl]
  -- the end: the row comes back
  have back : ∀ (μ1 m : Mem), (∀ a j : Nat, a ≠ 121 → (a = 100 → j ≠ 37) → μ1.1 a j = μ.1 a j) → (∀ j : Nat, j < 7 → μ1.1 121 j = μ.1 118 j) → AS μ1 ρ κ n (rowsN ρ κ n) m → S178 (mostI ρ κ n (sureL ρ κ n (rowsN ρ κ n))) 0 (ms m 100 37 (nI l)) := by
    intro μ1 m g1 g2 ⟨a1, a2⟩
    have lp : ∀ i m', i ≤ 7 → ((∀ a j : Nat, a ≠ 118 → m'.1 a j = (ms m 100 37 (nI l)).1 a j) ∧ (∀ j : Nat, j < i → m'.1 118 j = μ.1 118 j)) → S178 (mostI ρ κ n (sureL ρ κ n (rowsN ρ κ n))) (nI i) m' := by
      refine up_loop ?_ ?_
      · intro i m' hi ⟨b1, b2⟩ ih
        have e21 : m'.1 (100 + 21) i = μ.1 118 i := by
          refine (b1 121 i (by decide)).trans ?_
          rw [ms_1, if_neg (by decide), a1 121 i (by decide) (by decide) (by decide) (by decide) (by decide) (by simp) (by simp)]
          exact g2 i hi
        apply h178
        unfold nX7_surest_178
        rw [nI_clamp (by omega), e21, nI_1]
        refine ⟨fun c => absurd c (nI_ge (b := 7) hi (by omega)), fun _ => ⟨vp_in_nI (by omega) (by omega), vp_in_nI (by omega) (by omega), ih _ ⟨fun a j q => ?_, fun j hj => ?_⟩⟩⟩
        · show (ms m' 118 i (μ.1 118 i)).1 a j = _
          rw [ms_1, if_neg q]; exact b1 a j q
        · show (ms m' 118 i (μ.1 118 i)).1 118 j = _
          rw [ms_1, if_pos rfl]
          by_cases c : j = i
          · rw [if_pos c, c]
          · rw [if_neg c]; exact b2 j (by omega)
      · intro m' ⟨b1, b2⟩
        have hq := h m' (fun a j q1 q2 q3 q4 q5 q6 q7 q8 => by
          rw [b1 a j q3, ms_1]
          by_cases c : a = 100
          · by_cases c2 : j = 37
            · rw [if_pos c, if_pos c2, c, c2]; exact hl.symm
            · rw [if_pos c, if_neg c2, a1 a j q1 q2 q3 q4 q5 q7 q8]
              exact g1 a j q6 (fun _ => c2)
          · rw [if_neg c, a1 a j q1 q2 q3 q4 q5 q7 q8]
            exact g1 a j q6 (fun z => absurd z c)) b2
        have hb : ∀ P : Nat → Option Nat, sureL ρ κ n (rowsN ρ κ n) = some P → ∀ i : Nat, i < n → m'.1 120 i = oI (P i) := by
          intro P e i hi
          rw [b1 120 i (by decide), ms_1, if_neg (by decide)]
          rw [e] at a2
          exact a2 i hi
        apply h178
        unfold nX7_surest_178
        refine ⟨fun _ => ?_, fun c => absurd (by decide) c⟩
        cases e : sureL ρ κ n (rowsN ρ κ n) with
        | none => exact ⟨fun c => absurd rfl c, fun _ => hq.1 e⟩
        | some P =>
          obtain ⟨x1, x2, x3⟩ := hq.2 P e
          have bP := brb P
          refine ⟨fun _ => ⟨fun c => ?_, fun c => ?_⟩, fun c => absurd c (nI_ne4 (by omega))⟩
          · rcases hp2 with z | z | ⟨i, hi, z⟩
            · rw [z] at c; exact absurd c (by decide)
            · rw [z] at c; exact absurd c (by decide)
            · have e10 : p2 - (10 : Int32) = nI i := by
                rw [z, show (10 : Int32) = nI 10 from rfl, pk_sub (by omega), Nat.add_sub_cancel_left]
              have e20 : m'.1 (100 + 20) i = oI (P i) := hb P e i hi
              rw [e10, nI_clamp (by omega), e20]
              exact ⟨vp_in_nI (by omega) (by omega), x3 i hi z⟩
          · show PX7_told (nI (brN ρ κ P n)) _ p2 m' _
            have h14 : 2 ^ (2 * n) ≤ 16384 := Nat.le_trans (Nat.pow_le_pow_right (by decide) (show 2 * n ≤ 14 by omega)) (by decide)
            rw [show (2 : Int32) * nI n = nI (2 * n) from pk_mul 2 n, show ((1 : Int32) <<< (nI (2 * n) &&& 31)) = nI (2 ^ (2 * n)) from jsh (by omega)]
            refine r_told (by omega) (Nat.two_pow_pos _) (by omega) x1 (fun c0 => ?_)
            rcases hp2 with z | z | ⟨i, hi, z⟩
            · exact absurd z c0
            · exact x2 z
            · rw [z] at c
              exact absurd (show (2 : Int32) ≤ nI (10 + i) from nI_le (a := 2) (by omega) (by omega)) c
    exact lp 0 _ (by omega) ⟨fun a j _ => rfl, fun j hj => absurd hj (Nat.not_lt_zero _)⟩
  -- the beginning: the row is put aside
  have save : ∀ i m, i ≤ 7 → ((∀ a j : Nat, a ≠ 121 → m.1 a j = μ.1 a j) ∧ (∀ j : Nat, j < i → m.1 121 j = μ.1 118 j)) → S44 (nI l) (nI i) m := by
    refine up_loop ?_ ?_
    · intro i m hi ⟨b1, b2⟩ ih
      have e18 : m.1 (100 + 18) i = μ.1 118 i := b1 118 i (by decide)
      apply h44
      unfold nX7_surest_44
      rw [nI_clamp (by omega), e18, nI_1]
      refine ⟨fun c => absurd c (nI_ge (b := 7) hi (by omega)), fun _ => ⟨vp_in_nI (by omega) (by omega), vp_in_nI (by omega) (by omega), ih _ ⟨fun a j q => ?_, fun j hj => ?_⟩⟩⟩
      · show (ms m 121 i (μ.1 118 i)).1 a j = _
        rw [ms_1, if_neg q]; exact b1 a j q
      · show (ms m 121 i (μ.1 118 i)).1 121 j = _
        rw [ms_1, if_pos rfl]
        by_cases c : j = i
        · rw [if_pos c, c]
        · rw [if_neg c]; exact b2 j (by omega)
    · intro m0 ⟨b1, b2⟩
      apply h44
      unfold nX7_surest_44
      refine ⟨fun _ => ?_, fun c => absurd (by decide) c⟩
      have g1 : ∀ a j : Nat, a ≠ 121 → (a = 100 → j ≠ 37) → (ms m0 100 37 (nI n)).1 a j = μ.1 a j := fun a j q1 q2 => by
        rw [ms_1]
        by_cases c : a = 100
        · rw [if_pos c, if_neg (q2 c)]; exact b1 a j q1
        · rw [if_neg c]; exact b1 a j q1
      have g2 : ∀ j : Nat, j < 7 → (ms m0 100 37 (nI n)).1 121 j = μ.1 118 j := fun j hj => by
        rw [ms_1, if_neg (by decide)]; exact b2 j hj
      have g3 : (ms m0 100 37 (nI n)).1 100 37 = nI n := by rw [ms_1, if_pos rfl, if_pos rfl]
      have hR1 := MR_of hR (m := ms m0 100 37 (nI n)) (fun a j q => g1 a j (by omega) (fun z => by omega))
      have hK1 := KM_of hK (m := ms m0 100 37 (nI n)) (fun j hj => g1 _ _ (by decide) (by simp))
      refine r_rows (A := AS (ms m0 100 37 (nI n)) ρ κ n) (T := fun m11 => S84 (nI l) ((-4 : Int32)) m11) (Qf := fun L (r14 : Int32) (m13 : Mem) => (r14 = 0 → S178 (mostI ρ κ n (sureL ρ κ n L)) ((0 : Int32)) (ms m13 100 37 (nI l))) ∧ (¬ r14 = 0 → S95 (nI l) (mostI ρ κ n (sureL ρ κ n L)) ((0 : Int32)) m13)) (fun m hm => h84 _ _ _ hm) AS_stab hR1 hw hK1 hk hB hD hn0 (by omega) ⟨fun _ _ _ _ _ _ _ _ _ => rfl, trivial⟩ ?_ (fun m _ _ a => ⟨fun _ => back _ m g1 g2 a, fun c => absurd rfl c⟩)
      intro P L m hd hdeep hlen hnx
      refine ⟨fun c => absurd c (by decide), fun _ => ?_⟩
      have hps : ∀ i s : Nat, i < n → P i = some s → s < ρ 0 4 := fun i s _ e => hd.2.2.2.2.1 i s e
      have hp := hd.2.2.2.1
      obtain ⟨a1, a2⟩ := hd.2.2.2.2.2
      have go : ∀ m' : Mem, (∀ a j : Nat, a ≠ 116 → a ≠ 117 → a ≠ 118 → a ≠ 120 → (a = 100 → j ≠ 39) → (a = 114 → j < 240 ∨ 280 ≤ j) → m'.1 a j = m.1 a j) → SureR n m' (sureL ρ κ n (L ++ [P])) → S84 (nI l) (mostI ρ κ n (sureL ρ κ n (L ++ [P]))) m' := by
        intro m' e1 e2
        refine h84 _ _ _ (hnx m' (DR_acc2 (by omega) hd e1 ⟨fun a j q1 q2 q3 q4 q5 q6 q7 => (e1 a j q1 q2 q3 q5 (fun z => (q6 z).1) (fun z => Or.inr (q7 z))).trans (a1 a j q1 q2 q3 q4 q5 q6 q7), e2⟩) ((e1 100 41 (by decide) (by decide) (by decide) (by decide) (by decide) (by simp)).trans hdeep))
      have better : ∀ m' : Mem, (∀ a j : Nat, a ≠ 116 → a ≠ 117 → a ≠ 118 → (a = 100 → j ≠ 39) → (a = 114 → j < 240 ∨ 280 ≤ j) → m'.1 a j = m.1 a j) → sureL ρ κ n (L ++ [P]) = some P → S141 (nI l) (nI (brN ρ κ P n)) 0 m' := by
        intro m1 e1 es
        have lp : ∀ i m', i ≤ n → ((∀ a j : Nat, a ≠ 120 → m'.1 a j = m1.1 a j) ∧ (∀ j : Nat, j < i → m'.1 120 j = oI (P j))) → S141 (nI l) (nI (brN ρ κ P n)) (nI i) m' := by
          refine up_loop ?_ ?_
          · intro i m' hi ⟨b1, b2⟩ ih
            have e19 : m'.1 (100 + 19) i = oI (P i) := (b1 119 i (by decide)).trans ((e1 119 i (by decide) (by decide) (by decide) (by simp) (by simp)).trans (hp i hi))
            apply h141
            unfold nX7_surest_141
            rw [nI_clamp (by omega), e19, nI_1]
            refine ⟨fun c => absurd c (nI_ge hi (by omega)), fun _ => ⟨vp_in_nI (by omega) (by omega), vp_in_nI (by omega) (by omega), ih _ ⟨fun a j q => ?_, fun j hj => ?_⟩⟩⟩
            · show (ms m' 120 i (oI (P i))).1 a j = _
              rw [ms_1, if_neg q]; exact b1 a j q
            · show (ms m' 120 i (oI (P i))).1 120 j = _
              rw [ms_1, if_pos rfl]
              by_cases c : j = i
              · rw [if_pos c, c]
              · rw [if_neg c]; exact b2 j (by omega)
          · intro m' ⟨b1, b2⟩
            apply h141
            unfold nX7_surest_141 nX7_surest_167
            have := go m' (fun a j q1 q2 q3 q4 q5 q6 => (b1 a j q4).trans (e1 a j q1 q2 q3 q5 q6)) (by rw [es]; exact b2)
            rw [es] at this
            exact ⟨fun _ => this, fun c => absurd (nI_le (Nat.le_refl _) (by omega)) c⟩
        exact lp 0 m1 (Nat.zero_le _) ⟨fun a j _ => rfl, fun j hj => absurd hj (Nat.not_lt_zero _)⟩
      have rowc : ∀ i m', i ≤ n → ((∀ a j : Nat, a ≠ 118 → m'.1 a j = m.1 a j) ∧ (∀ j : Nat, j < i → m'.1 118 j = oI (P j))) → S95 (nI l) (mostI ρ κ n (sureL ρ κ n L)) (nI i) m' := by
        refine up_loop ?_ ?_
        · intro i m' hi ⟨b1, b2⟩ ih
          have e19 : m'.1 (100 + 19) i = oI (P i) := (b1 119 i (by decide)).trans (hp i hi)
          apply h95
          unfold nX7_surest_95
          rw [nI_clamp (by omega), e19, nI_1]
          refine ⟨fun c => absurd c (nI_ge hi (by omega)), fun _ => ⟨vp_in_nI (by omega) (by omega), vp_in_nI (by omega) (by omega), ih _ ⟨fun a j q => ?_, fun j hj => ?_⟩⟩⟩
          · show (ms m' 118 i (oI (P i))).1 a j = _
            rw [ms_1, if_neg q]; exact b1 a j q
          · show (ms m' 118 i (oI (P i))).1 118 j = _
            rw [ms_1, if_pos rfl]
            by_cases c : j = i
            · rw [if_pos c, c]
            · rw [if_neg c]; exact b2 j (by omega)
        · intro m' ⟨b1, b2⟩
          have hR' := MR_of hd.1 (m := m') (fun a j q => b1 a j (by omega))
          have hK' := KM_of hd.2.1 (m := m') (fun j hj => b1 _ _ (by decide))
          have hl' : m'.1 100 37 = nI n := (b1 100 37 (by decide)).trans ((a1 100 37 (by decide) (by decide) (by decide) (by decide) (by decide) (by decide) (by simp)).trans g3)
          apply h95
          unfold nX7_surest_95 nX7_surest_167
          refine ⟨fun _ => ?_, fun c => absurd (nI_le (Nat.le_refl _) (by omega)) c⟩
          refine r_bearsNow hK' hk hB hD hR' hw (by omega) hl' b2 hps (fun m2 f2 => ?_)
          rw [← br_eq hw]
          have fr : ∀ a j : Nat, a ≠ 116 → a ≠ 117 → a ≠ 118 → (a = 100 → j ≠ 39) → (a = 114 → j < 240 ∨ 280 ≤ j) → m2.1 a j = m.1 a j := fun a j q1 q2 q3 q4 q5 => (f2.1 a j q1 q2 q4 q5).trans (b1 a j q3)
          have bP := brb P
          cases e : sureL ρ κ n L with
          | none =>
            have es : sureL ρ κ n (L ++ [P]) = some P := by rw [sureL_s, e]; rfl
            refine ⟨fun c => ?_, fun _ => better m2 fr es⟩
            have := Int32.le_iff_toInt_le.mp c
            rw [nI_toInt (by omega), show (mostI ρ κ n none).toInt = -4 from by show (-4 : Int32).toInt = -4; decide] at this
            omega
          | some T =>
            have bT := brb T
            show (nI (brN ρ κ P n) ≤ nI (brN ρ κ T n) → S84 (nI l) (nI (brN ρ κ T n)) m2) ∧ (¬ nI (brN ρ κ P n) ≤ nI (brN ρ κ T n) → _)
            rw [nI_leI (by omega) (by omega)]
            refine ⟨fun c => ?_, fun c => better m2 fr ?_⟩
            · have es : sureL ρ κ n (L ++ [P]) = some T := by
                rw [sureL_s, e]; exact if_neg (by omega)
              have := go m2 (fun a j q1 q2 q3 _ q5 q6 => fr a j q1 q2 q3 q5 q6) (by
                rw [es]
                rw [e] at a2
                exact fun i hi => (fr 120 i (by decide) (by decide) (by decide) (by simp) (by simp)).trans (a2 i hi))
              rw [es] at this
              exact this
            · rw [sureL_s, e]; exact if_pos (by omega)
      exact rowc 0 m (Nat.zero_le _) ⟨fun a j _ => rfl, fun j hj => absurd hj (Nat.not_lt_zero _)⟩
  exact save 0 μ (by omega) ⟨fun a j _ => rfl, fun j hj => absurd hj (Nat.not_lt_zero _)⟩
