/-- the tape as the class holds it -/
def TC (μ : Mem) (tl : Nat) (tp : Nat → Nat) : Prop := μ.1 25 1 = nI tl ∧ tl ≤ 400 ∧ ∀ i : Nat, i < tl → tp i < 256 ∧ μ.1 26 i = sg (tp i)
theorem c_token {tl p : Nat} {tp : Nat → Nat} {μ : Mem} {Q : Int32 → Mem → Prop} (hT : TC μ tl tp) (hp : p ≤ tl) (h5 : μ.1 25 5 = nI p)
    (hE : tS tl tp p = 4 → ∀ m : Mem, m.1 25 3 = 1 → m.1 25 4 = nI (tF tl tp p) → (∀ a j : Nat, (a = 25 → j < 3 ∨ 8 < j) → m.1 a j = μ.1 a j) → Q 0 m)
    (hK : tS tl tp p ≠ 4 → ∀ m : Mem, m.1 25 5 = nI (tE tl tp p) → m.1 25 6 = nI (tS tl tp p) → m.1 25 7 = nI (tF tl tp p) → (tS tl tp p = 2 → m.1 25 8 = nI (tV tl tp p)) → (∀ a j : Nat, (a = 25 → j < 5 ∨ 8 < j) → m.1 a j = μ.1 a j) → Q 1 m) : PX1_readToken 25 μ Q := by
  obtain ⟨ht1, ht2, ht3⟩ := hT
  intro S0 S122 S166 h0 h122 h166
  have hfl := tF_le (tp := tp) hp
  have hel := tE_le (tp := tp) hp
  have o5 : ∀ (m : Mem) (v : Int32) (a j : Nat), (a = 25 → j ≠ 5) → (ms m 25 5 v).1 a j = m.1 a j := fun m v a j z => by
    rw [ms_1]
    by_cases y : a = 25
    · rw [if_pos y, if_neg (z y)]
    · rw [if_neg y]
  -- the end of a token
  have ok : ∀ m : Mem, tS tl tp p ≠ 4 → m.1 25 5 = nI (tE tl tp p) → m.1 25 6 = nI (tS tl tp p) → m.1 25 7 = nI (tF tl tp p) → (tS tl tp p = 2 → tE tl tp p - tF tl tp p = 1 ∨ tE tl tp p - tF tl tp p = 2) → (tS tl tp p = 2 → m.1 25 8 = nI (tV tl tp p)) → (∀ a j : Nat, (a = 25 → j < 5 ∨ 8 < j) → m.1 a j = μ.1 a j) → nX1_readToken_229 25 Q S0 S122 S166 m := by
    intro m n4 e5 e6 e7 e2 e8 fr
    have fin : Q 1 m := hK n4 m e5 e6 e7 e8 fr
    unfold nX1_readToken_229 nX1_readToken_263 nX1_readToken_268 nX1_readToken_285
    have f1 : (¬ (1 : Int32) = 0 → Q 1 m) ∧ ((1 : Int32) = 0 → PX1_refuse 25 ((1 : Int32)) (nI (tF tl tp p)) m (fun (r15 : Int32) (m14 : Mem) => (r15 = 0 → Q ((0 : Int32)) m14) ∧ (¬ r15 = 0 → Q 1 m14))) := ⟨fun _ => fin, fun d => absurd d np1⟩
    have ts4 : tS tl tp p ≤ 4 := by
      unfold tS
      split
      · omega
      · split
        · omega
        · split
          · omega
          · split <;> omega
    rw [e5, e6, e7, pk_sub hel.1]
    refine ⟨fun _ => f1, fun d => ⟨fun _ => f1, fun d1 => ⟨fun d2 => ?_, fun _ => f1⟩⟩⟩
    have d' : nI (tS tl tp p) = nI 2 := d
    rw [nI_eq (by omega) (by omega)] at d'
    rcases e2 d' with z | z
    · exact absurd (by rw [z]; rfl) d1
    · exact absurd (by rw [z]; rfl) d2
  have bad : ∀ m : Mem, tS tl tp p = 4 → ¬ (tE tl tp p - tF tl tp p = 1 ∨ tE tl tp p - tF tl tp p = 2) → m.1 25 5 = nI (tE tl tp p) → m.1 25 6 = nI 2 → m.1 25 7 = nI (tF tl tp p) → (∀ a j : Nat, (a = 25 → j < 5 ∨ 8 < j) → m.1 a j = μ.1 a j) → nX1_readToken_229 25 Q S0 S122 S166 m := by
    intro m n4 nn e5 e6 e7 fr
    unfold nX1_readToken_229 nX1_readToken_263 nX1_readToken_268 nX1_readToken_285
    rw [e5, e6, e7, pk_sub hel.1]
    have c1 : ¬ nI (tE tl tp p - tF tl tp p) = 1 := fun z => by
      have z' : nI (tE tl tp p - tF tl tp p) = nI 1 := z
      rw [nI_eq (by omega) (by omega)] at z'
      exact nn (Or.inl z')
    have c2 : ¬ nI (tE tl tp p - tF tl tp p) = 2 := fun z => by
      have z' : nI (tE tl tp p - tF tl tp p) = nI 2 := z
      rw [nI_eq (by omega) (by omega)] at z'
      exact nn (Or.inr z')
    refine ⟨fun d => absurd rfl d, fun _ => ⟨fun d => absurd d c1, fun _ => ⟨fun _ => ⟨fun d => absurd rfl d, fun _ => ?_⟩, fun d => absurd d c2⟩⟩⟩
    intro m1 hm1
    refine ⟨fun _ => hE n4 m1 ?_ ?_ (fun a j z => ?_), fun d => absurd rfl d⟩
    · rw [hm1, ms_1, if_pos rfl, if_neg (by decide), ms_1, if_pos rfl, if_pos rfl]
    · rw [hm1, ms_1, if_pos rfl, if_pos rfl]
    · rw [hm1, ms_1]
      by_cases y : a = 25
      · have := z y
        rw [if_pos y, if_neg (by omega), ms_1, if_pos y, if_neg (by omega)]; exact fr a j (fun _ => by omega)
      · rw [if_neg y, ms_1, if_neg y]; exact fr a j (fun q => absurd q y)
  -- letters
  have let1 : ∀ n q : Nat, ∀ m : Mem, q + n = tl → tS tl tp p = 1 → scanN ltB tp n q = tE tl tp p → m.1 25 5 = nI q → m.1 25 6 = nI 1 → m.1 25 7 = nI (tF tl tp p) → (∀ a j : Nat, (a = 25 → j < 5 ∨ 8 < j) → m.1 a j = μ.1 a j) → S122 m := by
    intro n
    induction n with
    | zero =>
      intro q m hq hs hsc e5 e6 e7 fr
      apply h122
      unfold nX1_readToken_122
      have e1 : m.1 25 1 = nI tl := (fr 25 1 (by omega)).trans ht1
      have hsc' : q = tE tl tp p := hsc
      rw [e1, e5]
      exact ⟨fun _ => ok m (by omega) (by rw [e5, hsc']) (by rw [e6, hs]) e7 (by omega) (by omega) fr, fun d => absurd (nI_le (by omega) (by omega)) d⟩
    | succ n ih =>
      intro q m hq hs hsc e5 e6 e7 fr
      apply h122
      unfold nX1_readToken_122
      have e1 : m.1 25 1 = nI tl := (fr 25 1 (by omega)).trans ht1
      obtain ⟨t1, t2⟩ := ht3 q (by omega)
      have e26 : m.1 (25 + 1) q = sg (tp q) := (fr 26 q (by omega)).trans t2
      rw [e1, e5, nI_clamp (n := q) (by omega), e26]
      unfold scanN at hsc
      refine ⟨fun d => absurd d (nI_ge (by omega) (by omega)), fun _ => ⟨vp_in_nI (by omega) (by omega), ?_⟩⟩
      refine c_isLetter t1 (fun z => ⟨fun d => absurd d np1, fun _ => ?_⟩) (fun z => ⟨fun _ => ?_, fun d => absurd rfl d⟩)
      · rw [if_pos z] at hsc
        rw [e5, nI_1]
        refine ih (q + 1) _ (by omega) hs hsc (by rw [ms_1, if_pos rfl, if_pos rfl]) ((o5 _ _ _ _ (by omega)).trans e6) ((o5 _ _ _ _ (by omega)).trans e7) (fun a j y => (o5 _ _ _ _ (by omega)).trans (fr a j y))
      · rw [if_neg (by rw [z]; decide)] at hsc
        exact ok m (by omega) (by rw [e5, hsc]) (by rw [e6, hs]) e7 (by omega) (by omega) fr
  have fig1 : ∀ n q : Nat, ∀ m : Mem, q + n = tl → tF tl tp p ≤ q → (tS tl tp p = 2 ∨ tS tl tp p = 4) → figE tl tp (tF tl tp p) = tE tl tp p → ((tS tl tp p = 2) ↔ (tE tl tp p - tF tl tp p = 1 ∨ tE tl tp p - tF tl tp p = 2)) → scanN fgB tp n q = tE tl tp p → m.1 25 5 = nI q → m.1 25 6 = nI 2 → m.1 25 7 = nI (tF tl tp p) → (q = tF tl tp p → m.1 25 8 = nI 0) → (q = tF tl tp p + 1 → m.1 25 8 = nI (tp (tF tl tp p) - 48)) → (q = tF tl tp p + 2 → m.1 25 8 = nI (10 * (tp (tF tl tp p) - 48) + (tp (tF tl tp p + 1) - 48))) → (∀ a j : Nat, (a = 25 → j < 5 ∨ 8 < j) → m.1 a j = μ.1 a j) → S166 m := by
    have stop : ∀ q : Nat, ∀ m : Mem, (tS tl tp p = 2 ∨ tS tl tp p = 4) → figE tl tp (tF tl tp p) = tE tl tp p → ((tS tl tp p = 2) ↔ (tE tl tp p - tF tl tp p = 1 ∨ tE tl tp p - tF tl tp p = 2)) → q = tE tl tp p → m.1 25 5 = nI q → m.1 25 6 = nI 2 → m.1 25 7 = nI (tF tl tp p) → (q = tF tl tp p + 1 → m.1 25 8 = nI (tp (tF tl tp p) - 48)) → (q = tF tl tp p + 2 → m.1 25 8 = nI (10 * (tp (tF tl tp p) - 48) + (tp (tF tl tp p + 1) - 48))) → (∀ a j : Nat, (a = 25 → j < 5 ∨ 8 < j) → m.1 a j = μ.1 a j) → nX1_readToken_229 25 Q S0 S122 S166 m := by
      intro q m hs hfe hiff hq e5 e6 e7 v1 v2 fr
      rcases hs with hs | hs
      · refine ok m (by omega) (by rw [e5, hq]) (by rw [e6, hs]) e7 (fun _ => hiff.1 hs) (fun _ => ?_) fr
        unfold tV
        rw [hfe]
        rcases hiff.1 hs with z | z
        · rw [if_pos z]; exact v1 (by omega)
        · rw [if_neg (by omega)]; exact v2 (by omega)
      · exact bad m hs (fun z => by have := hiff.2 z; omega) (by rw [e5, hq]) e6 e7 fr
    intro n
    induction n with
    | zero =>
      intro q m hq hfq hs hfe hiff hsc e5 e6 e7 v0 v1 v2 fr
      apply h166
      unfold nX1_readToken_166
      have e1 : m.1 25 1 = nI tl := (fr 25 1 (by omega)).trans ht1
      have hsc' : q = tE tl tp p := hsc
      rw [e1, e5]
      exact ⟨fun _ => stop q m hs hfe hiff hsc' e5 e6 e7 v1 v2 fr, fun d => absurd (nI_le (by omega) (by omega)) d⟩
    | succ n ih =>
      intro q m hq hfq hs hfe hiff hsc e5 e6 e7 v0 v1 v2 fr
      apply h166
      unfold nX1_readToken_166
      have e1 : m.1 25 1 = nI tl := (fr 25 1 (by omega)).trans ht1
      obtain ⟨t1, t2⟩ := ht3 q (by omega)
      have e26 : m.1 (25 + 1) q = sg (tp q) := (fr 26 q (by omega)).trans t2
      rw [e1, e5, nI_clamp (n := q) (by omega), e26]
      unfold scanN at hsc
      refine ⟨fun d => absurd d (nI_ge (by omega) (by omega)), fun _ => ⟨vp_in_nI (by omega) (by omega), ?_⟩⟩
      refine c_isFigure t1 (fun z => ⟨fun d => absurd d np1, fun _ => ?_⟩) (fun z => ⟨fun _ => ?_, fun d => absurd rfl d⟩)
      · rw [if_pos z] at hsc
        have zz := of_decide_eq_true z
        have es : sg (tp q) = nI (tp q) := (sg_eq t1 (by omega)).2 rfl
        rw [e5, nI_clamp (n := q) (by omega), e26, es]
        refine ⟨vp_in_nI (by omega) (by omega), fun m25 hm25 => ?_⟩
        have o8 : ∀ a j : Nat, (a = 25 → j ≠ 8) → m25.1 a j = m.1 a j := fun a j y => by
          rw [hm25, ms_1]
          by_cases w : a = 25
          · rw [if_pos w, if_neg (y w)]
          · rw [if_neg w]
        have n8 : m25.1 25 8 = m.1 25 8 * 10 + nI (tp q) - 48 := by rw [hm25, ms_1, if_pos rfl, if_pos rfl]
        have nv : ∀ x : Nat, m.1 25 8 = nI x → m25.1 25 8 = nI (10 * x + (tp q - 48)) := fun x hx => by
          rw [n8, hx, show nI x * (10 : Int32) = nI (x * 10) from pk_mul x 10, nI_add, show (48 : Int32) = nI 48 from rfl, pk_sub (by omega), show x * 10 + tp q - 48 = 10 * x + (tp q - 48) by omega]
        rw [(o8 25 5 (by omega)).trans e5, nI_1]
        refine ih (q + 1) _ (by omega) (by omega) hs hfe hiff hsc (by rw [ms_1, if_pos rfl, if_pos rfl]) ((o5 _ _ _ _ (by omega)).trans ((o8 _ _ (by omega)).trans e6)) ((o5 _ _ _ _ (by omega)).trans ((o8 _ _ (by omega)).trans e7)) (fun y => absurd y (by omega)) (fun y => ?_) (fun y => ?_) (fun a j y => (o5 _ _ _ _ (by omega)).trans ((o8 _ _ (by omega)).trans (fr a j y)))
        · rw [o5 _ _ _ _ (by omega)]
          have hq2 : q = tF tl tp p := by omega
          rw [nv 0 (v0 hq2), hq2, Nat.mul_zero, Nat.zero_add]
        · rw [o5 _ _ _ _ (by omega)]
          have hq2 : q = tF tl tp p + 1 := by omega
          rw [nv _ (v1 hq2), hq2]
      · rw [if_neg (by rw [z]; decide)] at hsc
        exact stop q m hs hfe hiff hsc e5 e6 e7 v1 v2 fr
  -- its first sign
  have fst1 : ∀ m : Mem, m.1 25 5 = nI (tF tl tp p) → (∀ a j : Nat, (a = 25 → j < 5 ∨ 8 < j) → m.1 a j = μ.1 a j) → nX1_readToken_38 25 Q S0 S122 S166 m := by
    intro m e5 fr m3 hm3
    have o3 : ∀ a j : Nat, (a = 25 → j ≠ 7 ∧ j ≠ 8) → m3.1 a j = m.1 a j := fun a j y => by
      rw [hm3, ms_1]
      by_cases w : a = 25
      · rw [if_pos w, if_neg (y w).2, ms_1, if_pos w, if_neg (y w).1]
      · rw [if_neg w, ms_1, if_neg w]
    have e7 : m3.1 25 7 = nI (tF tl tp p) := by rw [hm3, ms_1, if_pos rfl, if_neg (by decide), ms_1, if_pos rfl, if_pos rfl, e5]
    have e8 : m3.1 25 8 = nI 0 := by rw [hm3, ms_1, if_pos rfl, if_pos rfl]; rfl
    have e5' : m3.1 25 5 = nI (tF tl tp p) := (o3 25 5 (by omega)).trans e5
    have e1 : m3.1 25 1 = nI tl := (o3 25 1 (by omega)).trans ((fr 25 1 (by omega)).trans ht1)
    have o6 : ∀ (v : Int32) (a j : Nat), (a = 25 → j ≠ 6) → (ms m3 25 6 v).1 a j = m3.1 a j := fun v a j z => by
      rw [ms_1]
      by_cases y : a = 25
      · rw [if_pos y, if_neg (z y)]
      · rw [if_neg y]
    have v6 : ∀ v : Int32, (ms m3 25 6 v).1 25 6 = v := fun v => by rw [ms_1, if_pos rfl, if_pos rfl]
    have fr6 : ∀ (v : Int32) (a j : Nat), (a = 25 → j < 5 ∨ 8 < j) → (ms m3 25 6 v).1 a j = μ.1 a j := fun v a j y => (o6 v a j (by omega)).trans ((o3 a j (by omega)).trans (fr a j y))
    rw [e5', e1]
    by_cases c : tl ≤ tF tl tp p
    · refine ⟨fun d => absurd d (nI_nlt (by omega) (by omega)), fun _ => ?_⟩
      have hs : tS tl tp p = 0 := by unfold tS; rw [if_pos c]
      have he : tE tl tp p = tF tl tp p := by unfold tE; rw [if_pos c]
      exact ok _ (by omega) (by rw [o6 _ _ _ (by omega), e5', he]) (by rw [v6, hs]; rfl) (by rw [o6 _ _ _ (by omega), e7]) (by omega) (by omega) (fr6 _)
    · obtain ⟨t1, t2⟩ := ht3 (tF tl tp p) (by omega)
      have e26 : m3.1 (25 + 1) (tF tl tp p) = sg (tp (tF tl tp p)) := (o3 26 _ (by omega)).trans ((fr 26 _ (by omega)).trans t2)
      refine ⟨fun _ => ⟨vp_in_nI (by omega) (by omega), ?_⟩, fun d => absurd (nI_lt (by omega) (by omega)) d⟩
      rw [nI_clamp (n := tF tl tp p) (by omega), e26, show (59 : Int32) = nI 59 from rfl, sg_eq t1 (by omega)]
      refine ⟨fun c59 => ⟨vp_in_nI (by omega) (by omega), ?_⟩, fun c59 m9 hm9 => ?_⟩
      · refine c_isLetter t1 (fun z => ⟨fun d => absurd d np1, fun _ => ?_⟩) (fun z => ⟨fun _ => ?_, fun d => absurd rfl d⟩)
        · have hs : tS tl tp p = 1 := by unfold tS; rw [if_neg c, if_pos z]
          have he : tE tl tp p = scanN ltB tp (tl - tF tl tp p) (tF tl tp p) := by unfold tE; rw [if_neg c, if_pos z]
          exact let1 (tl - tF tl tp p) (tF tl tp p) _ (by omega) hs he.symm (by rw [o6 _ _ _ (by omega), e5']) (v6 _) (by rw [o6 _ _ _ (by omega), e7]) (fr6 _)
        · have zn : ¬ ltB (tp (tF tl tp p)) = true := by rw [z]; decide
          have he : tE tl tp p = figE tl tp (tF tl tp p) := by unfold tE; rw [if_neg c, if_neg zn, if_neg c59]
          have hs : tS tl tp p = if tE tl tp p - tF tl tp p = 1 ∨ tE tl tp p - tF tl tp p = 2 then 2 else 4 := by
            rw [he]; unfold tS; rw [if_neg c, if_neg zn, if_neg c59]
          refine fig1 (tl - tF tl tp p) (tF tl tp p) _ (by omega) (Nat.le_refl _) ?_ he.symm ?_ he.symm (by rw [o6 _ _ _ (by omega), e5']) (v6 _) (by rw [o6 _ _ _ (by omega), e7]) (fun _ => by rw [o6 _ _ _ (by omega), e8]) (fun y => absurd y (by omega)) (fun y => absurd y (by omega)) (fr6 _)
          · rw [hs]; split <;> omega
          · rw [hs]
            by_cases y : tE tl tp p - tF tl tp p = 1 ∨ tE tl tp p - tF tl tp p = 2
            · rw [if_pos y]; exact ⟨fun _ => y, fun _ => rfl⟩
            · rw [if_neg y]; exact ⟨fun w => absurd w (by decide), fun w => absurd w y⟩
      · have zn : ¬ ltB (tp (tF tl tp p)) = true := by rw [c59]; decide
        have hs : tS tl tp p = 3 := by unfold tS; rw [if_neg c, if_neg zn, if_pos c59]
        have he : tE tl tp p = tF tl tp p + 1 := by unfold tE; rw [if_neg c, if_neg zn, if_pos c59]
        subst hm9
        rw [o6 _ _ _ (by omega), e5', nI_1]
        exact ok _ (by omega) (by rw [ms_1, if_pos rfl, if_pos rfl, he]) (by rw [o5 _ _ _ _ (by omega), v6, hs]; rfl) (by rw [o5 _ _ _ _ (by omega), o6 _ _ _ (by omega), e7]) (by omega) (by omega) (fun a j y => (o5 _ _ _ _ (by omega)).trans (fr6 _ a j y))
  -- spaces
  have spc : ∀ n q : Nat, ∀ m : Mem, q + n = tl → scanN spB tp n q = tF tl tp p → m.1 25 5 = nI q → (∀ a j : Nat, (a = 25 → j < 5 ∨ 8 < j) → m.1 a j = μ.1 a j) → S0 m := by
    intro n
    induction n with
    | zero =>
      intro q m hq hsc e5 fr
      apply h0
      unfold nX1_readToken_0
      have e1 : m.1 25 1 = nI tl := (fr 25 1 (by omega)).trans ht1
      have hsc' : q = tF tl tp p := hsc
      have := fst1 m (by rw [e5, hsc']) fr
      rw [e1, e5]
      exact ⟨fun _ => this, fun d => absurd (nI_le (by omega) (by omega)) d⟩
    | succ n ih =>
      intro q m hq hsc e5 fr
      apply h0
      unfold nX1_readToken_0
      have e1 : m.1 25 1 = nI tl := (fr 25 1 (by omega)).trans ht1
      obtain ⟨t1, t2⟩ := ht3 q (by omega)
      have e26 : m.1 (25 + 1) q = sg (tp q) := (fr 26 q (by omega)).trans t2
      rw [e1, e5, nI_clamp (n := q) (by omega), e26, show (32 : Int32) = nI 32 from rfl, sg_eq t1 (by omega)]
      unfold scanN at hsc
      refine ⟨fun d => absurd d (nI_ge (by omega) (by omega)), fun _ => ⟨vp_in_nI (by omega) (by omega), fun z => ?_, fun z => ?_⟩⟩
      · rw [if_neg (show ¬ spB (tp q) = true from fun y => z (of_decide_eq_true y))] at hsc
        exact fst1 m (by rw [e5, hsc]) fr
      · rw [if_pos (show spB (tp q) = true from decide_eq_true z)] at hsc
        rw [nI_1]
        exact ih (q + 1) _ (by omega) hsc (by rw [ms_1, if_pos rfl, if_pos rfl]) (fun a j y => (o5 _ _ _ _ (by omega)).trans (fr a j y))
  exact spc (tl - p) p μ (by omega) rfl h5 (fun _ _ _ => rfl)
