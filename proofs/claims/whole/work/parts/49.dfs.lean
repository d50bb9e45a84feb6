def FJ (lo hi : Nat) (μ m : Mem) : Prop := ∀ a j : Nat, (a < lo ∨ hi ≤ a) → m.1 a j = μ.1 a j
theorem FJ_trans {lo hi : Nat} {μ m m' : Mem} (h : FJ lo hi μ m) (h2 : FJ lo hi m m') : FJ lo hi μ m' := fun a j q => (h2 a j q).trans (h a j q)
theorem FJ_I {lo hi lo' hi' : Nat} {μ m : Mem} (h : FI lo hi μ m) (h1 : lo' ≤ lo) (h2 : hi ≤ hi') : FJ lo' hi' μ m := fun a j q => h.1 a (by omega) j
theorem CR_of {r : Nat} {ρ : RA} {μ m : Mem} (h : CR μ r ρ) (f : ∀ a j : Nat, r ≤ a → a < r + 12 → m.1 a j = μ.1 a j) : CR m r ρ := by
  have e : ∀ k j : Nat, k < 12 → m.1 (r + k) j = μ.1 (r + k) j := fun k j hk => f _ j (by omega) (by omega)
  have e0 : ∀ j : Nat, m.1 r j = μ.1 r j := fun j => e 0 j (by omega)
  obtain ⟨h1, h2, h3, h4, h5, h6, h7, h8, h9⟩ := h
  refine ⟨(e0 _).trans h1, (e0 _).trans h2, (e0 _).trans h3, (e0 _).trans h4, (e0 _).trans h5, fun t ht => ?_, fun s hs => ?_, fun i hi => ?_, fun w hw => ?_⟩
  · exact ⟨(e 1 _ (by omega)).trans (h6 t ht).1, (e 2 _ (by omega)).trans (h6 t ht).2.1, (e 3 _ (by omega)).trans (h6 t ht).2.2⟩
  · obtain ⟨q1, q2, q3, q4, q5⟩ := h7 s hs
    exact ⟨(e 4 _ (by omega)).trans q1, (e 5 _ (by omega)).trans q2, (e 6 _ (by omega)).trans q3, (e 7 _ (by omega)).trans q4, (e 8 _ (by omega)).trans q5⟩
  · exact ⟨(e 9 _ (by omega)).trans (h8 i hi).1, (e 10 _ (by omega)).trans (h8 i hi).2⟩
  · exact (e 11 _ (by omega)).trans (h9 w hw)
theorem KC_of {b : Nat} {κ : KA} {μ m : Mem} (h : KC μ b κ) (f : ∀ a j : Nat, b ≤ a → a < b + 3 → m.1 a j = μ.1 a j) : KC m b κ := by
  have e : ∀ k j : Nat, k < 3 → m.1 (b + k) j = μ.1 (b + k) j := fun k j hk => f _ j (by omega) (by omega)
  have e0 : ∀ j : Nat, m.1 b j = μ.1 b j := fun j => e 0 j (by omega)
  obtain ⟨h1, h2, h3, h4, h5, h6, h7⟩ := h
  exact ⟨fun i hi => (e 1 _ (by omega)).trans (h1 i hi), fun s hs => (e 2 _ (by omega)).trans (h2 s hs), (e0 _).trans h3, (e0 _).trans h4, (e0 _).trans h5, (e0 _).trans h6, (e0 _).trans h7⟩
theorem KCx_eq {b : Nat} {κ : KA} {μ m : Mem} (h : KCx μ b κ) (f : ∀ a j : Nat, b ≤ a → a < b + 3 → m.1 a j = μ.1 a j) : KCx m b κ := by
  obtain ⟨o, h⟩ := h
  exact ⟨o, KC_of h f⟩
def ACs (ρ : RA) (κ : KA) (n w : Nat) (L : List (Nat → Option Nat)) (m : Mem) : Prop := m.1 60 3 = nI L.length ∧ BestC ρ κ n m (bestL ρ κ n L) ∧ FairC ρ κ n m (fairL ρ κ n L) ∧ CloseC n m (closL ρ κ n L) ∧ (w = 1 → SureC ρ κ n m (sureL ρ κ n L))
theorem ACs_fr {ρ : RA} {κ : KA} {n w : Nat} {L : List (Nat → Option Nat)} {m m' : Mem} (h : ACs ρ κ n w L m) (f : ∀ a j : Nat, (a = 60 ∨ (92 ≤ a ∧ a ≤ 95)) → m'.1 a j = m.1 a j) (f2 : ∀ j : Nat, m'.2 60 j = m.2 60 j) : ACs ρ κ n w L m' := by
  obtain ⟨h1, h2, h3, h4, h5⟩ := h
  exact ⟨(f _ _ (by omega)).trans h1, BestC_fr h2 (fun j _ _ => f _ _ (by omega)) (f2 _) (fun i => f _ _ (by omega)), FairC_fr h3 (f _ _ (by omega)) (f2 _) (fun i => f _ _ (by omega)), CloseC_fr h4 (f _ _ (by omega)) (f _ _ (by omega)) (fun i => f _ _ (by omega)), fun q => SureC_fr (h5 q) (f _ _ (by omega)) (fun i => f _ _ (by omega))⟩
set_option maxHeartbeats 1000000 in
theorem c_judge {m : Mem} {r n w B D : Nat} {κ : KA} {ρ : RA} {L : List (Nat → Option Nat)} {R : Nat → Option Nat} {Q : Mem → Prop} (hR : CR m r ρ) (hr : r + 12 ≤ 40) (hw : RW ρ) (hK : KC m 40 κ) (hk : KW κ B D) (hB : B ≤ 80000) (hn : n ≤ 5) (hKn : KCx m (62 + 4 * n) (kAt ρ κ R 0 n)) (hp : ∀ i : Nat, i < n → m.1 86 i = oI (R i)) (hrs : ∀ i s : Nat, i < n → R i = some s → s < 9) (hl : L.length + 1 ≤ 1000000) (hA : ACs ρ κ n w L m) (h : ∀ m' : Mem, m'.1 60 3 = nI (L ++ [R]).length → BestC ρ κ n m' (bestL ρ κ n (L ++ [R])) → FairC ρ κ n m' (fairL ρ κ n (L ++ [R])) → CloseC n m' (closL ρ κ n (L ++ [R])) → (w = 1 → SureC ρ κ n m' (sureL ρ κ n L)) → (∀ a j : Nat, a ≠ 60 → (a < 92 ∨ 95 < a) → m'.1 a j = m.1 a j) → Q m') : PX3_judge 60 r 40 (nI n) m Q := by
  obtain ⟨a1, a2, a3, a4, a5⟩ := hA
  have bp := kAt_paid (κ := κ) (R := R) (g := 0) hw n
  have bl := kAt_lik (κ := κ) (R := R) (g := 0) hw n
  have bt := kAt_thr (R := R) (g := 0) hw hk hB n (by omega)
  have hkn := kAt_KW (R := R) (g := 0) hw hk n
  unfold PX3_judge
  rw [nI_clamp (by omega), show 60 + 1 + 1 + 4 * n = 62 + 4 * n by omega]
  refine ⟨vp_in_nI (by omega) (by omega), fun x hx => ?_⟩
  have e0 : ∀ a j : Nat, a ≠ 60 → (ms m 60 3 (m.1 60 3 + (1 : Int32))).1 a j = m.1 a j := fun a j q => by rw [ms_1, if_neg q]
  have e1 : ∀ j : Nat, j ≠ 3 → (ms m 60 3 (m.1 60 3 + (1 : Int32))).1 60 j = m.1 60 j := fun j q => by rw [ms_1, if_pos rfl, if_neg q]
  have e2 : (ms m 60 3 (m.1 60 3 + (1 : Int32))).1 60 3 = nI (L.length + 1) := by rw [ms_1, if_pos rfl, if_pos rfl, a1, nI_1]
  have hKn' := hKn
  obtain ⟨o, hKo⟩ := hKn'
  have k4 : m.1 (62 + 4 * n) 4 = nI (kAt ρ κ R 0 n).paid := hKo.2.2.2.2.1
  have k5 : m.1 (62 + 4 * n) 5 = nI (kAt ρ κ R 0 n).thr := hKo.2.2.2.2.2.1
  have k6 : m.1 (62 + 4 * n) 6 = nI (kAt ρ κ R 0 n).lik := hKo.2.2.2.2.2.2
  rw [e0 _ _ (by omega), e0 _ _ (by omega), e0 _ _ (by omega), k4, k5, k6] at hx
  have hx2 : x.toInt = rankZ (kAt ρ κ R 0 n) := by
    rw [hx]
    exact rank_c (by omega) (by omega) (by omega)
  refine c_judgeBest hn e2 (by omega) (BestC_fr a2 (fun j _ _ => e1 j (by omega)) rfl (fun i => e0 _ _ (by decide))) hx2 (KCx_eq hKn (fun a j _ _ => e0 a j (by omega))) ⟨by omega, by omega⟩ (fun i hi => (e0 _ _ (by decide)).trans (hp i hi)) (fun m3 b3 f3 => ?_)
  have g3 : ∀ a j : Nat, a ≠ 60 → a ≠ 92 → m3.1 a j = m.1 a j := fun a j q1 q2 => (f3.1 a j q2 (fun z => absurd z q1)).trans (e0 a j q1)
  have hR3 := CR_of hR (m := m3) (fun a j _ _ => g3 a j (by omega) (by omega))
  have hp3 : ∀ i : Nat, i < n → m3.1 86 i = oI (R i) := fun i hi => (g3 _ _ (by decide) (by decide)).trans (hp i hi)
  refine c_timesFedLeast hR3 hw (by omega) (by omega) hp3 hrs ?_
  have c3 : m3.1 60 3 = nI (L.length + 1) := (f3.1 60 3 (by decide) (by decide)).trans e2
  refine c_judgeFairest hn c3 (by omega) (FairC_fr a3 ((f3.1 60 11 (by decide) (by decide)).trans (e1 _ (by decide))) (f3.2 60 10 (by decide)) (fun i => g3 _ _ (by decide) (by decide))) hx2 hp3 (fun m7 b7 f7 => ?_)
  have g7 : ∀ a j : Nat, a ≠ 60 → a ≠ 92 → a ≠ 93 → m7.1 a j = m.1 a j := fun a j q1 q2 q3 => (f7.1 a j q3 (fun z => absurd z q1)).trans (g3 a j q1 q2)
  have hR7 := CR_of hR (m := m7) (fun a j _ _ => g7 a j (by omega) (by omega) (by omega))
  have hK7 := KC_of hK (m := m7) (fun a j _ _ => g7 a j (by omega) (by omega) (by omega))
  have hp7 : ∀ i : Nat, i < n → m7.1 86 i = oI (R i) := fun i hi => (g7 _ _ (by decide) (by decide) (by decide)).trans (hp i hi)
  have hB7 : BestC ρ κ n m7 (bestL ρ κ n (L ++ [R])) := BestC_fr b3 (fun j _ _ => f7.1 60 j (by decide) (fun _ => by omega)) (f7.2 60 4 (by decide)) (fun i => f7.1 92 i (by decide) (by simp))
  have c7 : m7.1 60 3 = nI (L ++ [R]).length := by
    rw [List.length_append]
    exact (f7.1 60 3 (by decide) (by decide)).trans c3
  have cl7 : CloseC n m7 (closL ρ κ n L) := CloseC_fr a4 ((f7.1 60 15 (by decide) (by decide)).trans ((f3.1 60 15 (by decide) (by decide)).trans (e1 _ (by decide)))) ((f7.1 60 16 (by decide) (by decide)).trans ((f3.1 60 16 (by decide) (by decide)).trans (e1 _ (by decide)))) (fun i => g7 _ _ (by decide) (by decide) (by decide))
  have s7 : w = 1 → SureC ρ κ n m7 (sureL ρ κ n L) := fun q => SureC_fr (a5 q) ((f7.1 60 13 (by decide) (by decide)).trans ((f3.1 60 13 (by decide) (by decide)).trans (e1 _ (by decide)))) (fun i => g7 _ _ (by decide) (by decide) (by decide))
  refine c_isClosed hR7 hw hK7 hk (by omega) (KCx_eq hKn (m := m7) (fun a j _ _ => g7 a j (by omega) (by omega) (by omega))) hkn (by omega) (by omega) (by omega) (by omega) hp7 hrs (fun cz => ⟨fun c => absurd c (by decide), fun _ => ?_⟩) (fun cz => ⟨fun _ => ?_, fun c => absurd rfl c⟩)
  · have bc := closL_len (ρ := ρ) (κ := κ) (n := n) (L := L)
    refine c_addClosing hn (by omega) cl7 hp7 hrs (fun m9 b9 f9 => ?_)
    rw [← closL_y cz] at b9
    exact h m9 ((f9.1 60 3 (by decide) (by decide)).trans c7) (BestC_fr hB7 (fun j _ _ => f9.1 60 j (by decide) (fun _ => by omega)) (f9.2 60 4) (fun i => f9.1 92 i (by decide) (by simp))) (FairC_fr b7 (f9.1 60 11 (by decide) (by decide)) (f9.2 60 10) (fun i => f9.1 93 i (by decide) (by simp))) b9 (fun q => SureC_fr (s7 q) (f9.1 60 13 (by decide) (by decide)) (fun i => f9.1 94 i (by decide) (by simp))) (fun a j q1 q2 => (f9.1 a j (by omega) (fun z => absurd z q1)).trans (g7 a j q1 (by omega) (by omega)))
  · rw [← closL_n cz] at cl7
    exact h m7 c7 hB7 b7 cl7 s7 (fun a j q1 q2 => g7 a j q1 (by omega) (by omega))
theorem c_takeDay {m : Mem} {r d B D : Nat} {κ : KA} {ρ : RA} {o : Option Nat} {Q : Mem → Prop} (hR : CR m r ρ) (hr : r + 12 ≤ 40) (hw : RW ρ) (hd : d < 5) (hK : KCx m (62 + 4 * d) κ) (hk : KW κ B D) (hB : B ≤ 90000) (hD : D ≤ 100000) (ho : ∀ s : Nat, o = some s → s < 9) (h : ∀ m' : Mem, KCx m' (62 + 4 * (d + 1)) (stepK ρ κ o 0) → FI (62 + 4 * (d + 1)) (62 + 4 * (d + 1) + 4) m m' → Q m') : PX3_takeDay 60 r (nI d) (oI o) m Q := by
  obtain ⟨q, hK⟩ := hK
  unfold PX3_takeDay nX3_takeDay_36
  rw [nI_1, nI_clamp (n := d + 1) (by omega), nI_clamp (n := d) (by omega), show 60 + 1 + 1 + 4 * (d + 1) = 62 + 4 * (d + 1) by omega, show 60 + 1 + 1 + 4 * d = 62 + 4 * d by omega]
  refine ⟨vp_in_nI (by omega) (by omega), vp_in_nI (by omega) (by omega), ?_⟩
  refine c_copyFrom hK (by omega) (fun m3 hK3 f3 => ?_)
  have hR3 := CR_fr hR f3 (by omega)
  cases e : o with
  | none =>
    refine ⟨fun _ => ⟨vp_in_nI (by omega) (by omega), ?_⟩, fun c => absurd rfl c⟩
    refine c_passNight hK3 hR3 hw (by omega) (fun m4 hK4 f4 => ?_)
    refine h m4 ?_ (FI_trans (FI_mono f3 (by omega) (by omega)) f4)
    rw [e]; exact KCx_of hK4
  | some s =>
    have hs9 := ho s e
    refine ⟨fun c => absurd c (nI_ne4 (by omega)), fun _ => ?_⟩
    show PX0_serve _ r (nI s) (nI 0) m3 _
    refine c_serve hK3 (KW_wt hk) hB hD hR3 hw (by omega) hs9 (by omega) (fun m4 hK4 f4 => ?_)
    have hR4 := CR_fr hR3 f4 (by omega)
    refine ⟨vp_in_nI (by omega) (by omega), ?_⟩
    refine c_passNight hK4 hR4 hw (by omega) (fun m5 hK5 f5 => ?_)
    refine h m5 ?_ (FI_trans (FI_trans (FI_mono f3 (by omega) (by omega)) f4) f5)
    rw [e]; exact KCx_of hK5
theorem c_following {m : Mem} {r d B D : Nat} {κ : KA} {ρ : RA} {Q : Int32 → Mem → Prop} (hR : CR m r ρ) (hw : RW ρ) (hd : d < 5) (hK : KCx m (62 + 4 * d) κ) (hk : KW κ B D) (hB : B ≤ 90000) (hD : D ≤ 100000) (h1 : outN ρ κ.date → m.1 86 d = -1 → Q (oI none) m) (h2 : outN ρ κ.date → ¬ m.1 86 d = -1 → Q (-2) m) (h3 : ¬ outN ρ κ.date → ∃ p : Nat, p ≤ ρ 0 4 ∧ m.1 86 d = dI p ∧ ((∀ s : Nat, p ≤ s → s < ρ 0 4 → (∀ q : Nat, p ≤ q → q < s → whyN ρ κ q 0 ≠ 0) → whyN ρ κ s 0 = 0 → Q (oI (some s)) m) ∧ ((∀ q : Nat, p ≤ q → q < ρ 0 4 → whyN ρ κ q 0 ≠ 0) → Q (-2) m))) : PX3_following 60 r (nI d) m Q := by
  obtain ⟨o, hK⟩ := hK
  have s9 := hw.2.1
  intro S hS
  have hdate : κ.date ≤ 100000 := Nat.le_trans hk.2.1 hD
  have ed : m.1 (62 + 4 * d) 2 = nI κ.date := hK.2.2.1
  rw [nI_clamp (by omega), show 60 + 1 + 1 + 4 * d = 62 + 4 * d by omega, ed]
  refine ⟨vp_in_nI (by omega) (by omega), ?_⟩
  refine c_isOut hR hw (by omega) (fun c => ⟨fun _ => ⟨vp_in_nI (by omega) (by omega), ?_⟩, fun z => absurd rfl z⟩) (fun c => ⟨fun z => absurd z (by decide), fun _ => ⟨vp_in_nI (by omega) (by omega), h2 c, h1 c⟩⟩)
  obtain ⟨p, hp, ep, y1, y2⟩ := h3 c
  have ep' : m.1 (60 + 26) d = dI p := ep
  have edp : dI p + (1 : Int32) = nI p := by
    cases p with
    | zero => rfl
    | succ p => exact nI_1 p
  rw [ep', edp]
  have loop : ∀ f q : Nat, q + f = ρ 0 4 → p ≤ q → (∀ z : Nat, p ≤ z → z < q → whyN ρ κ z 0 ≠ 0) → S (nI q) m := by
    intro f
    induction f with
    | zero =>
      intro q hq hpq hz
      have : q = ρ 0 4 := by omega
      apply hS
      unfold nX3_following_46
      rw [hR.2.1, this]
      exact ⟨vp_in_nI (by omega) (by omega), fun _ => y2 (fun z z1 z2 => hz z z1 (by omega)), fun z => absurd (nI_le (Nat.le_refl _) (by omega)) z⟩
    | succ f ih =>
      intro q hq hpq hz
      apply hS
      unfold nX3_following_46
      rw [hR.2.1, nI_clamp (by omega), show 60 + 1 + 1 + 4 * d = 62 + 4 * d by omega, nI_1]
      refine ⟨vp_in_nI (by omega) (by omega), fun z => absurd z (nI_ge (by omega) (by omega)), fun _ => ?_⟩
      refine c_whyNot (g := 0) hK (KW_wt hk) (by omega) hD hR hw (by omega) (by omega) ?_
      rw [why_wt]
      have bw := why_le (ρ := ρ) (κ := κ) (s := q) (g := 0)
      refine ⟨fun z => ?_, fun z => ?_⟩
      · have z2 : whyN ρ κ q 0 ≠ 0 := fun y => z (by rw [y]; rfl)
        refine ih (q + 1) (by omega) (by omega) (fun y y1 y3 => ?_)
        by_cases y4 : y = q
        · rw [y4]; exact z2
        · exact hz y y1 (by omega)
      · have z2 : whyN ρ κ q 0 = 0 := (nI_eq (b := 0) (by omega) (by omega)).1 z
        exact y1 q hpq (by omega) hz z2
  exact loop (ρ 0 4 - p) p (by omega) (Nat.le_refl _) (fun z z1 z2 => by omega)
def Tn : Nat → Nat
  | 0 => 0
  | r + 1 => 10 + 9 * Tn r
def DI (μ : Mem) (ρ : RA) (κ : KA) (n w d : Nat) (P : Nat → Option Nat) (L : List (Nat → Option Nat)) (m : Mem) : Prop := FJ 60 96 μ m ∧ (∀ j : Nat, j ≤ d → KCx m (62 + 4 * j) (kAt ρ κ P 0 j)) ∧ (∀ j : Nat, j < d → m.1 86 j = oI (P j)) ∧ (∀ j s : Nat, P j = some s → s < ρ 0 4) ∧ ACs ρ κ n w L m
def bodyC (r n w d step : Nat) (Q : Mem → Prop) (S : Int32 → Int32 → Mem → Prop) (m : Mem) : Prop := (nI n ≤ (nI d + ((1 : Int32))) → PX3_judge 60 r 40 (nI n) m (fun (m14 : Mem) => (nI w = 0 → nX3_lookAtRows_131 60 r 40 (nI n) (nI w) Q S (nI d) (nI step) m14) ∧ (¬ nI w = 0 → PX5_bearing (60 + 27) r 40 (60 + 26) 5 (nI n) m14 (fun (r18 : Int32) (m17 : Mem) => PX3_judgeSurest 60 r18 m17 (fun (m19 : Mem) => nX3_lookAtRows_131 60 r 40 (nI n) (nI w) Q S (nI d) (nI step) m19))))) ∧ (¬ nI n ≤ (nI d + ((1 : Int32))) → vp_in (nI d + 1) 5 ∧ (nX3_lookAtRows_131 60 r 40 (nI n) (nI w) Q S (nI d + 1) (nI step) (ms m (60 + 26) (nI d + 1).toNatClampNeg ((-1 : Int32)))))
theorem DI_up {μ : Mem} {ρ : RA} {κ : KA} {n w d : Nat} {P : Nat → Option Nat} {o : Option Nat} {L : List (Nat → Option Nat)} {m : Mem} (hs : ∀ j s : Nat, P j = some s → s < ρ 0 4) (h : DI μ ρ κ n w (d + 1) (setP P d o) L m) : DI μ ρ κ n w d P L m ∧ m.1 86 d = oI o := by
  obtain ⟨h1, h2, h3, h4, h5⟩ := h
  refine ⟨⟨h1, fun j hj => ?_, fun j hj => ?_, hs, h5⟩, ?_⟩
  · have := h2 j (by omega)
    rw [kAt_pre (P' := P) j (fun i hi => setP_ne (by omega))] at this
    exact this
  · have := h3 j (by omega)
    rw [setP_ne (by omega)] at this
    exact this
  · have := h3 d (by omega)
    rw [setP_eq] at this
    exact this
set_option maxHeartbeats 1000000 in
theorem c_leaf {μ m : Mem} {r n w d step B D : Nat} {κ : KA} {ρ : RA} {P : Nat → Option Nat} {L : List (Nat → Option Nat)} {Q : Mem → Prop} {S : Int32 → Int32 → Mem → Prop} (hR : CR μ r ρ) (hr : r + 12 ≤ 40) (hw : RW ρ) (hK : KC μ 40 κ) (hk : KW κ B D) (hB : B ≤ 80000) (hD : D ≤ 90000) (hn : n ≤ 5) (hw1 : w ≤ 1) (hdn : d + 1 = n) (hdi : DI μ ρ κ n w n P L m) (hl : L.length + 1 ≤ 60000) (h : ∀ m' : Mem, DI μ ρ κ n w n P (L ++ [P]) m' → S (nI d) (nI (step + 1)) m') : bodyC r n w d step Q S m := by
  obtain ⟨h1, h2, h3, h4, h5⟩ := hdi
  have s9 := hw.2.1
  have hRm := CR_of hR (m := m) (fun a j _ _ => h1 a j (by omega))
  have hKm := KC_of hK (m := m) (fun a j _ _ => h1 a j (by omega))
  have hrs : ∀ i s : Nat, i < n → P i = some s → s < 9 := fun i s _ e => by have := h4 i s e; omega
  unfold bodyC
  rw [nI_1]
  refine ⟨fun _ => ?_, fun c => absurd (nI_le (by omega) (by omega)) c⟩
  refine c_judge hRm hr hw hKm hk hB hn (h2 n (Nat.le_refl _)) h3 hrs (by omega) h5 (fun m' a1 a2 a3 a4 a5 f => ?_)
  have fj : FJ 60 96 μ m' := FJ_trans h1 (fun a j q => f a j (by omega) (by omega))
  have hk' : ∀ j : Nat, j ≤ n → KCx m' (62 + 4 * j) (kAt ρ κ P 0 j) := fun j hj => KCx_eq (h2 j hj) (fun a i _ _ => f a i (by omega) (by omega))
  have hp' : ∀ j : Nat, j < n → m'.1 86 j = oI (P j) := fun j hj => (f 86 j (by decide) (by decide)).trans (h3 j hj)
  unfold nX3_lookAtRows_131
  rw [nI_1]
  refine ⟨fun c => ?_, fun c => ?_⟩
  · have w0 : w = 0 := (nI_eq (b := 0) (by omega) (by omega)).1 c
    exact h m' ⟨fj, hk', hp', h4, a1, a2, a3, a4, fun q => by omega⟩
  · have w1 : w = 1 := by
      have : w ≠ 0 := fun q => c (by rw [q]; rfl)
      omega
    have hRm' := CR_of hR (m := m') (fun a j _ _ => fj a j (by omega))
    have hKm' := KC_of hK (m := m') (fun a j _ _ => fj a j (by omega))
    refine c_bearing hKm' hk hB hD hRm' hw (by omega) (by omega) hp' hrs (by omega) (by omega) (by omega) (fun m2 f2 => ?_)
    have s2 : SureC ρ κ n m2 (sureL ρ κ n L) := SureC_fr (a5 w1) (f2.1 60 (by omega) 13) (fun i => f2.1 94 (by omega) i)
    refine c_judgeSurest hw hn s2 (fun i hi => (f2.1 86 (by omega) i).trans (hp' i hi)) (fun m3 b3 f3 => ?_)
    have g3 : ∀ a j : Nat, (a < 87 ∨ 92 ≤ a) → a ≠ 94 → (a = 60 → j ≠ 13) → m3.1 a j = m'.1 a j := fun a j q1 q2 q3 => (f3.1 a j q2 q3).trans (f2.1 a (by omega) j)
    have l3 : ∀ a j : Nat, m3.2 a j = m'.2 a j := fun a j => by rw [f3.2 a j, f2.2]
    refine h m3 ⟨fun a j q => (g3 a j (by omega) (by omega) (fun _ => by omega)).trans (fj a j q), fun j hj => KCx_eq (hk' j hj) (fun a i _ _ => g3 a i (by omega) (by omega) (fun _ => by omega)), fun j hj => (g3 86 j (by omega) (by omega) (by simp)).trans (hp' j hj), h4, ?_, ?_, ?_, ?_, fun _ => b3⟩
    · exact (g3 60 3 (by omega) (by omega) (by decide)).trans a1
    · exact BestC_fr a2 (fun j _ _ => g3 60 j (by omega) (by omega) (fun _ => by omega)) (l3 _ _) (fun i => g3 92 i (by omega) (by omega) (by simp))
    · exact FairC_fr a3 (g3 60 11 (by omega) (by omega) (by decide)) (l3 _ _) (fun i => g3 93 i (by omega) (by omega) (by simp))
    · exact CloseC_fr a4 (g3 60 15 (by omega) (by omega) (by decide)) (g3 60 16 (by omega) (by omega) (by decide)) (fun i => g3 95 i (by omega) (by omega) (by simp))
