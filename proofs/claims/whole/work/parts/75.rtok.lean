/-- the tape as the reference holds it -/
def TR (μ : Mem) (tl : Nat) (tp : Nat → Nat) : Prop := μ.1 100 26 = nI tl ∧ tl ≤ 400 ∧ ∀ i : Nat, i < tl → tp i < 256 ∧ μ.1 113 i = nI (tp i)
theorem r_look {tl q : Nat} {tp : Nat → Nat} {μ : Mem} {Q : Int32 → Mem → Prop} (hT : TR μ tl tp) (hq : q < 1000) (h1 : q < tl → tp q < 256 → Q (nI (tp q)) μ) (h0 : tl ≤ q → Q (-1) μ) : PX7_look 100 (nI q) μ Q := by
  obtain ⟨ht1, ht2, ht3⟩ := hT
  unfold PX7_look
  rw [ht1]
  by_cases c : tl ≤ q
  · exact ⟨fun _ => h0 c, fun d => absurd (nI_le (by omega) (by omega)) d⟩
  · obtain ⟨t1, t2⟩ := ht3 q (by omega)
    have e : μ.1 (100 + 13) q = nI (tp q) := t2
    rw [nI_clamp (n := q) (by omega), e]
    exact ⟨fun d => absurd d (nI_ge (by omega) (by omega)), fun _ => ⟨vp_in_nI (by omega) (by omega), h1 (by omega) t1⟩⟩
theorem r_isL {v : Nat} {μ : Mem} {Q : Int32 → Mem → Prop} (hv : v < 256) (h1 : ltB v = true → Q 1 μ) (h0 : ltB v = false → Q 0 μ) : PX7_in (nI v).toInt64 (97 : Int64) (122 : Int64) μ Q := by
  by_cases c : 97 ≤ v ∧ v ≤ 122
  · exact r_in_y (a := 97) (b := 122) (by omega) (by omega) (by rw [nI_toInt (by omega)]; omega) (by rw [nI_toInt (by omega)]; omega) (h1 (decide_eq_true c))
  · exact r_in_n (a := 97) (b := 122) (by omega) (by omega) (by rw [nI_toInt (by omega)]; omega) (h0 (decide_eq_false c))
theorem r_isF {v : Nat} {μ : Mem} {Q : Int32 → Mem → Prop} (hv : v < 256) (h1 : fgB v = true → Q 1 μ) (h0 : fgB v = false → Q 0 μ) : PX7_in (nI v).toInt64 (48 : Int64) (57 : Int64) μ Q := by
  by_cases c : 48 ≤ v ∧ v ≤ 57
  · exact r_in_y (a := 48) (b := 57) (by omega) (by omega) (by rw [nI_toInt (by omega)]; omega) (by rw [nI_toInt (by omega)]; omega) (h1 (decide_eq_true c))
  · exact r_in_n (a := 48) (b := 57) (by omega) (by omega) (by rw [nI_toInt (by omega)]; omega) (h0 (decide_eq_false c))
theorem m1_toInt : (-1 : Int32).toInt = -1 := by decide
theorem r_needs_y {v c : Int32} {μ : Mem} {Q : Mem → Prop} (hv : ¬ v = 0) (h : Q μ) : PX7_needs 100 v c μ Q := ⟨fun _ => h, fun d => absurd d hv⟩
theorem r_needs_n {c : Int32} {f : Nat} {μ : Mem} {Q : Mem → Prop} (h31 : μ.1 100 31 = 0) (h28 : μ.1 100 28 = nI f) (h : ∀ m : Mem, m.1 100 31 = c → m.1 100 32 = nI f → (∀ a j : Nat, (a = 100 → j ≠ 31 ∧ j ≠ 32) → m.1 a j = μ.1 a j) → Q m) : PX7_needs 100 0 c μ Q := by
  refine ⟨fun d => absurd rfl d, fun _ => ⟨fun d => absurd h31 d, fun _ m3 hm3 => h m3 ?_ ?_ (fun a j z => ?_)⟩⟩
  · rw [hm3, ms_1, if_pos rfl, if_neg (by decide), ms_1, if_pos rfl, if_pos rfl]
  · rw [hm3, ms_1, if_pos rfl, if_pos rfl, ms_1, if_pos rfl, if_neg (by decide)]; exact h28
  · rw [hm3, ms_1]
    by_cases y : a = 100
    · have := z y
      rw [if_pos y, if_neg (by omega), ms_1, if_pos y, if_neg (by omega)]
    · rw [if_neg y, ms_1, if_neg y]
theorem r_next_f {μ : Mem} {c : Nat} {Q : Mem → Prop} (h31 : μ.1 100 31 = nI c) (hc : 1 ≤ c) (hc2 : c < 100) (h : Q μ) : PX7_next 100 μ Q := by
  intro S8 S82 S140 _ _ _
  rw [h31]
  exact ⟨fun d => absurd d (nI_ge (a := 0) (b := c) (by omega) (by omega)), fun _ => h⟩
theorem r_next {tl p : Nat} {tp : Nat → Nat} {μ : Mem} {Q : Mem → Prop} (hT : TR μ tl tp) (hp : p ≤ tl) (h27 : μ.1 100 27 = nI p) (h31 : μ.1 100 31 = 0)
    (hE : tS tl tp p = 4 → ∀ m : Mem, m.1 100 31 = nI 1 → m.1 100 32 = nI (tF tl tp p) → (∀ a j : Nat, (a = 100 → j < 27 ∨ 32 < j) → m.1 a j = μ.1 a j) → Q m)
    (hK : tS tl tp p ≠ 4 → ∀ m : Mem, m.1 100 27 = nI (tE tl tp p) → m.1 100 28 = nI (tF tl tp p) → m.1 100 29 = nI (tS tl tp p) → (tS tl tp p = 2 → m.1 100 30 = nI (tV tl tp p)) → (∀ a j : Nat, (a = 100 → j < 27 ∨ 30 < j) → m.1 a j = μ.1 a j) → Q m) : PX7_next 100 μ Q := by
  intro S8 S82 S140 h8 h82 h140
  have hfl := tF_le (tp := tp) hp
  have hel := tE_le (tp := tp) hp
  have ht2 := hT.2.1
  have o : ∀ (m : Mem) (i : Nat) (v : Int32) (a j : Nat), (a = 100 → j ≠ i) → (ms m 100 i v).1 a j = m.1 a j := fun m i v a j z => by
    rw [ms_1]
    by_cases y : a = 100
    · rw [if_pos y, if_neg (z y)]
    · rw [if_neg y]
  have w : ∀ (m : Mem) (i : Nat) (v : Int32), (ms m 100 i v).1 100 i = v := fun m i v => by rw [ms_1, if_pos rfl, if_pos rfl]
  have tr : ∀ m : Mem, (∀ a j : Nat, (a = 100 → j < 27 ∨ 30 < j) → m.1 a j = μ.1 a j) → TR m tl tp := fun m fr => ⟨(fr 100 26 (by omega)).trans hT.1, ht2, fun i hi => ⟨(hT.2.2 i hi).1, (fr 113 i (by omega)).trans (hT.2.2 i hi).2⟩⟩
  -- letters
  have let1 : ∀ n q : Nat, ∀ m : Mem, q + n = tl → tS tl tp p = 1 → scanN ltB tp n q = tE tl tp p → m.1 100 27 = nI q → m.1 100 28 = nI (tF tl tp p) → m.1 100 29 = nI 1 → (∀ a j : Nat, (a = 100 → j < 27 ∨ 30 < j) → m.1 a j = μ.1 a j) → S82 m := by
    intro n
    induction n with
    | zero =>
      intro q m hq hs hsc e7 e8 e9 fr
      apply h82
      unfold nX7_next_82
      have hsc' : q = tE tl tp p := hsc
      rw [e7]
      refine r_look (tr m fr) (by omega) (fun z => absurd z (by omega)) (fun _ => ?_)
      exact r_in_n (a := 97) (b := 122) (by omega) (by omega) (by rw [m1_toInt]; omega) ⟨fun _ => hK (by omega) m (by rw [e7, hsc']) e8 (by rw [e9, hs]) (by omega) fr, fun d => absurd rfl d⟩
    | succ n ih =>
      intro q m hq hs hsc e7 e8 e9 fr
      apply h82
      unfold nX7_next_82
      unfold scanN at hsc
      rw [e7]
      refine r_look (tr m fr) (by omega) (fun _ t1 => ?_) (fun z => absurd z (by omega))
      refine r_isL t1 (fun z => ⟨fun d => absurd d np1, fun _ => ?_⟩) (fun z => ⟨fun _ => ?_, fun d => absurd rfl d⟩)
      · rw [if_pos z] at hsc
        rw [e7, nI_1]
        exact ih (q + 1) _ (by omega) hs hsc (w _ _ _) ((o _ _ _ _ _ (by omega)).trans e8) ((o _ _ _ _ _ (by omega)).trans e9) (fun a j y => (o _ _ _ _ _ (by omega)).trans (fr a j y))
      · rw [if_neg (by rw [z]; decide)] at hsc
        exact hK (by omega) m (by rw [e7, hsc]) e8 (by rw [e9, hs]) (by omega) fr
  -- figures
  have fig1 : ∀ n q : Nat, ∀ m : Mem, q + n = tl → tF tl tp p ≤ q → tF tl tp p < tE tl tp p → (tS tl tp p = 2 ∨ tS tl tp p = 4) → figE tl tp (tF tl tp p) = tE tl tp p → ((tS tl tp p = 2) ↔ (tE tl tp p - tF tl tp p = 1 ∨ tE tl tp p - tF tl tp p = 2)) → scanN fgB tp n q = tE tl tp p → m.1 100 27 = nI q → m.1 100 28 = nI (tF tl tp p) → m.1 100 29 = nI 2 → (q = tF tl tp p → m.1 100 30 = nI 0) → (q = tF tl tp p + 1 → m.1 100 30 = nI (tp (tF tl tp p) - 48)) → (q = tF tl tp p + 2 → m.1 100 30 = nI (10 * (tp (tF tl tp p) - 48) + (tp (tF tl tp p + 1) - 48))) → (∀ a j : Nat, (a = 100 → j < 27 ∨ 30 < j) → m.1 a j = μ.1 a j) → S140 m := by
    have stop : ∀ q : Nat, ∀ m : Mem, tF tl tp p < tE tl tp p → (tS tl tp p = 2 ∨ tS tl tp p = 4) → figE tl tp (tF tl tp p) = tE tl tp p → ((tS tl tp p = 2) ↔ (tE tl tp p - tF tl tp p = 1 ∨ tE tl tp p - tF tl tp p = 2)) → q = tE tl tp p → m.1 100 27 = nI q → m.1 100 28 = nI (tF tl tp p) → m.1 100 29 = nI 2 → (q = tF tl tp p + 1 → m.1 100 30 = nI (tp (tF tl tp p) - 48)) → (q = tF tl tp p + 2 → m.1 100 30 = nI (10 * (tp (tF tl tp p) - 48) + (tp (tF tl tp p + 1) - 48))) → (∀ a j : Nat, (a = 100 → j < 27 ∨ 30 < j) → m.1 a j = μ.1 a j) → ((((2 : Int32)) < ((m.1 100 27) - (m.1 100 28)) → nX7_next_236 100 Q S8 S82 S140 ((0 : Int32)) m) ∧ (¬ ((2 : Int32)) < ((m.1 100 27) - (m.1 100 28)) → nX7_next_236 100 Q S8 S82 S140 ((1 : Int32)) m)) := by
      intro q m hlt hs hfe hiff hq e7 e8 e9 v1 v2 fr
      unfold nX7_next_236
      rw [e7, e8, pk_sub (by omega)]
      have e31 : m.1 100 31 = 0 := (fr 100 31 (by omega)).trans h31
      rcases hs with hs | hs
      · have hh := hiff.1 hs
        refine ⟨fun d => absurd d (nI_nlt (a := 2) (by omega) (by omega)), fun _ => r_needs_y np1 (hK (by omega) m (by rw [e7, hq]) e8 (by rw [e9, hs]) (fun _ => ?_) fr)⟩
        unfold tV
        rw [hfe]
        rcases hh with z | z
        · rw [if_pos z]; exact v1 (by omega)
        · rw [if_neg (by omega)]; exact v2 (by omega)
      · have hh : ¬ (tE tl tp p - tF tl tp p = 1 ∨ tE tl tp p - tF tl tp p = 2) := fun z => by have := hiff.2 z; omega
        refine ⟨fun _ => r_needs_n e31 e8 (fun m' c1 c2 c3 => hE hs m' c1 c2 (fun a j z => (c3 a j (by omega)).trans (fr a j (by omega)))), fun d => absurd (nI_lt (a := 2) (by omega) (by omega)) d⟩
    intro n
    induction n with
    | zero =>
      intro q m hq hfq hlt hs hfe hiff hsc e7 e8 e9 v0 v1 v2 fr
      apply h140
      unfold nX7_next_140
      have hsc' : q = tE tl tp p := hsc
      have st := stop q m hlt hs hfe hiff hsc' e7 e8 e9 v1 v2 fr
      rw [e7]
      refine r_look (tr m fr) (by omega) (fun z => absurd z (by omega)) (fun _ => ?_)
      rw [e7] at st
      exact r_in_n (a := 48) (b := 57) (by omega) (by omega) (by rw [m1_toInt]; omega) ⟨fun _ => by rw [e7]; exact st, fun d => absurd rfl d⟩
    | succ n ih =>
      intro q m hq hfq hlt hs hfe hiff hsc e7 e8 e9 v0 v1 v2 fr
      apply h140
      unfold nX7_next_140 nX7_next_201
      unfold scanN at hsc
      have e31 : m.1 100 31 = 0 := (fr 100 31 (by omega)).trans h31
      rw [e7]
      refine r_look (tr m fr) (by omega) (fun _ t1 => ?_) (fun z => absurd z (by omega))
      refine r_isF t1 (fun z => ⟨fun d => absurd d np1, fun _ => ?_⟩) (fun z => ⟨fun _ => ?_, fun d => absurd rfl d⟩)
      · rw [if_pos z] at hsc
        have zz := of_decide_eq_true z
        rw [e7, e8, pk_sub (by omega)]
        have nx : ∀ v : Int32, (q + 1 = tF tl tp p + 1 → v = nI (tp (tF tl tp p) - 48)) → (q + 1 = tF tl tp p + 2 → v = nI (10 * (tp (tF tl tp p) - 48) + (tp (tF tl tp p + 1) - 48))) → (∀ m30 : Mem, m30 = ms (ms m 100 30 v) 100 27 (((ms m 100 30 v).1 100 27) + ((1 : Int32))) → (S140 m30)) := by
          intro v w1 w2 m30 hm30
          have e7' : (ms m 100 30 v).1 100 27 = nI q := (o _ _ _ _ _ (by omega)).trans e7
          rw [e7', nI_1] at hm30
          subst hm30
          refine ih (q + 1) _ (by omega) (by omega) hlt hs hfe hiff hsc (w _ _ _) ((o _ _ _ _ _ (by omega)).trans ((o _ _ _ _ _ (by omega)).trans e8)) ((o _ _ _ _ _ (by omega)).trans ((o _ _ _ _ _ (by omega)).trans e9)) (fun y => absurd y (by omega)) (fun y => ((o _ _ _ _ _ (by omega)).trans (w _ _ _)).trans (w1 y)) (fun y => ((o _ _ _ _ _ (by omega)).trans (w _ _ _)).trans (w2 y)) (fun a j y => (o _ _ _ _ _ (by omega)).trans ((o _ _ _ _ _ (by omega)).trans (fr a j y)))
        refine ⟨fun d => nx _ (fun y => ?_) (fun y => ?_), fun d => ?_⟩
        · exact absurd d (nI_ge (b := 2) (by omega) (by omega))
        · exact absurd d (nI_ge (b := 2) (by omega) (by omega))
        · refine r_look (tr m fr) (by omega) (fun _ _ => nx _ (fun y => ?_) (fun y => ?_)) (fun z => absurd z (by omega))
          · have hq2 : q = tF tl tp p := by omega
            rw [v0 hq2, show (10 : Int32) * nI 0 = nI (10 * 0) from pk_mul 10 0, nI_add, show (48 : Int32) = nI 48 from rfl, pk_sub (by omega), hq2, Nat.mul_zero, Nat.zero_add]
          · have hq2 : q = tF tl tp p + 1 := by omega
            rw [v1 hq2, show (10 : Int32) * nI (tp (tF tl tp p) - 48) = nI (10 * (tp (tF tl tp p) - 48)) from pk_mul 10 _, nI_add, show (48 : Int32) = nI 48 from rfl, pk_sub (by omega), ← hq2, Nat.add_sub_assoc (by omega)]
      · rw [if_neg (by rw [z]; decide)] at hsc
        exact stop q m hlt hs hfe hiff hsc e7 e8 e9 v1 v2 fr
  -- its first sign
  have fst1 : ∀ m : Mem, m.1 100 27 = nI (tF tl tp p) → (∀ a j : Nat, (a = 100 → j < 27 ∨ 30 < j) → m.1 a j = μ.1 a j) → nX7_next_8 100 Q S8 S82 S140 m := by
    intro m e7 fr
    have e31 : m.1 100 31 = 0 := (fr 100 31 (by omega)).trans h31
    have f28 : ∀ a j : Nat, (a = 100 → j < 27 ∨ 30 < j) → (ms m 100 28 (nI (tF tl tp p))).1 a j = μ.1 a j := fun a j y => (o _ _ _ _ _ (by omega)).trans (fr a j y)
    have e7' : (ms m 100 28 (nI (tF tl tp p))).1 100 27 = nI (tF tl tp p) := (o _ _ _ _ _ (by omega)).trans e7
    have e8' : (ms m 100 28 (nI (tF tl tp p))).1 100 28 = nI (tF tl tp p) := w _ _ _
    unfold nX7_next_8 nX7_next_260
    rw [e7]
    refine r_look (tr m fr) (by omega) (fun hlt t1 => ?_) (fun hge => ?_)
    · have c : ¬ tl ≤ tF tl tp p := by omega
      have n32 : ¬ nI (tp (tF tl tp p)) = 32 := fun z => by
        have z' : nI (tp (tF tl tp p)) = nI 32 := z
        rw [nI_eq (by omega) (by omega)] at z'
        have := scan_stop spB tp (tl - p) p (show tF tl tp p < _ by omega)
        have h2 : spB (tp (tF tl tp p)) = false := this
        rw [z'] at h2
        exact absurd h2 (by decide)
      refine ⟨fun _ => ?_, fun d => absurd d n32⟩
      rw [e7, e7']
      refine r_look (tr _ f28) (by omega) (fun _ _ => ⟨fun _ => ?_, fun d => absurd (nI_le (a := 0) (by omega) (by omega)) d⟩) (fun z => absurd z c)
      refine r_isL t1 (fun z => ⟨fun d => absurd d np1, fun _ => ?_⟩) (fun z => ⟨fun _ => ?_, fun d => absurd rfl d⟩)
      · have hs : tS tl tp p = 1 := by unfold tS; rw [if_neg c, if_pos z]
        have he : tE tl tp p = scanN ltB tp (tl - tF tl tp p) (tF tl tp p) := by unfold tE; rw [if_neg c, if_pos z]
        exact let1 (tl - tF tl tp p) (tF tl tp p) _ (by omega) hs he.symm ((o _ _ _ _ _ (by omega)).trans e7') ((o _ _ _ _ _ (by omega)).trans e8') (w _ _ _) (fun a j y => (o _ _ _ _ _ (by omega)).trans (f28 a j y))
      · have zn : ¬ ltB (tp (tF tl tp p)) = true := by rw [z]; decide
        refine r_isF t1 (fun z2 => ⟨fun d => absurd d np1, fun _ m15 hm15 => ?_⟩) (fun z2 => ⟨fun _ => ?_, fun d => absurd rfl d⟩)
        · have z2' := of_decide_eq_true z2
          have c59 : ¬ tp (tF tl tp p) = 59 := by omega
          have he : tE tl tp p = figE tl tp (tF tl tp p) := by unfold tE; rw [if_neg c, if_neg zn, if_neg c59]
          have hs : tS tl tp p = if tE tl tp p - tF tl tp p = 1 ∨ tE tl tp p - tF tl tp p = 2 then 2 else 4 := by
            rw [he]; unfold tS; rw [if_neg c, if_neg zn, if_neg c59]
          have hlt2 : tF tl tp p < tE tl tp p := by
            rw [he]; unfold figE
            rw [show tl - tF tl tp p = (tl - tF tl tp p - 1) + 1 by omega]
            unfold scanN
            rw [if_pos z2]
            have := scan_ge fgB tp (tl - tF tl tp p - 1) (tF tl tp p + 1)
            omega
          subst hm15
          refine fig1 (tl - tF tl tp p) (tF tl tp p) _ (by omega) (Nat.le_refl _) hlt2 ?_ he.symm ?_ he.symm ((o _ _ _ _ _ (by omega)).trans ((o _ _ _ _ _ (by omega)).trans e7')) ((o _ _ _ _ _ (by omega)).trans ((o _ _ _ _ _ (by omega)).trans e8')) ((o _ _ _ _ _ (by omega)).trans (w _ _ _)) (fun _ => w _ _ _) (fun y => absurd y (by omega)) (fun y => absurd y (by omega)) (fun a j y => (o _ _ _ _ _ (by omega)).trans ((o _ _ _ _ _ (by omega)).trans (f28 a j y)))
          · rw [hs]; split <;> omega
          · rw [hs]
            by_cases y : tE tl tp p - tF tl tp p = 1 ∨ tE tl tp p - tF tl tp p = 2
            · rw [if_pos y]; exact ⟨fun _ => y, fun _ => rfl⟩
            · rw [if_neg y]; exact ⟨fun w => absurd w (by decide), fun w => absurd w y⟩
        · have zn2 : ¬ fgB (tp (tF tl tp p)) = true := by rw [z2]; decide
          have g31 : (ms (ms m 100 28 (nI (tF tl tp p))) 100 29 3).1 100 31 = 0 := (o _ _ _ _ _ (by omega)).trans ((o _ _ _ _ _ (by omega)).trans e31)
          have g28 : (ms (ms m 100 28 (nI (tF tl tp p))) 100 29 3).1 100 28 = nI (tF tl tp p) := (o _ _ _ _ _ (by omega)).trans e8'
          have g27 : (ms (ms m 100 28 (nI (tF tl tp p))) 100 29 3).1 100 27 = nI (tF tl tp p) := (o _ _ _ _ _ (by omega)).trans e7'
          refine ⟨fun c59 => ?_, fun c59 => ?_⟩
          · have n59 : ¬ tp (tF tl tp p) = 59 := fun y => c59 (by rw [y]; rfl)
            have he : figE tl tp (tF tl tp p) = tF tl tp p := by
              unfold figE
              rw [show tl - tF tl tp p = (tl - tF tl tp p - 1) + 1 by omega]
              unfold scanN
              rw [if_neg zn2]
            have hs : tS tl tp p = 4 := by
              unfold tS; rw [if_neg c, if_neg zn, if_neg n59, he, if_neg (by omega)]
            refine r_needs_n g31 g28 (fun m' k1 k2 k3 => hE hs _ ((o _ _ _ _ _ (by omega)).trans k1) ((o _ _ _ _ _ (by omega)).trans k2) (fun a j y => (o _ _ _ _ _ (by omega)).trans ((k3 a j (by omega)).trans ((o _ _ _ _ _ (by omega)).trans (f28 a j (by omega))))))
          · have y59 : tp (tF tl tp p) = 59 := by
              have z' : nI (tp (tF tl tp p)) = nI 59 := c59
              rwa [nI_eq (by omega) (by omega)] at z'
            have hs : tS tl tp p = 3 := by unfold tS; rw [if_neg c, if_neg zn, if_pos y59]
            have he : tE tl tp p = tF tl tp p + 1 := by unfold tE; rw [if_neg c, if_neg zn, if_pos y59]
            refine r_needs_y np1 ?_
            rw [g27, nI_1]
            exact hK (by omega) _ (by rw [w, he]) ((o _ _ _ _ _ (by omega)).trans g28) (by rw [o _ _ _ _ _ (by omega), w, hs]; rfl) (by omega) (fun a j y => (o _ _ _ _ _ (by omega)).trans ((o _ _ _ _ _ (by omega)).trans (f28 a j y)))
    · have c : tl ≤ tF tl tp p := hge
      have hs : tS tl tp p = 0 := by unfold tS; rw [if_pos c]
      have he : tE tl tp p = tF tl tp p := by unfold tE; rw [if_pos c]
      refine ⟨fun _ => ?_, fun d => absurd d (by decide)⟩
      rw [e7, e7']
      refine r_look (tr _ f28) (by omega) (fun z => absurd z (by omega)) (fun _ => ⟨fun d => absurd d (by decide), fun _ => ?_⟩)
      exact hK (by omega) _ (by rw [o _ _ _ _ _ (by omega), e7', he]) ((o _ _ _ _ _ (by omega)).trans e8') (by rw [w, hs]; rfl) (by omega) (fun a j y => (o _ _ _ _ _ (by omega)).trans (f28 a j y))
  have spc : ∀ n q : Nat, ∀ m : Mem, q + n = tl → scanN spB tp n q = tF tl tp p → m.1 100 27 = nI q → (∀ a j : Nat, (a = 100 → j < 27 ∨ 30 < j) → m.1 a j = μ.1 a j) → S8 m := by
    intro n
    induction n with
    | zero =>
      intro q m hq hsc e7 fr
      apply h8
      have hsc' : q = tF tl tp p := hsc
      exact fst1 m (by rw [e7, hsc']) fr
    | succ n ih =>
      intro q m hq hsc e7 fr
      apply h8
      unfold scanN at hsc
      by_cases z : tp q = 32
      · rw [if_pos (show spB (tp q) = true from decide_eq_true z)] at hsc
        unfold nX7_next_8
        rw [e7]
        refine r_look (tr m fr) (by omega) (fun _ _ => ⟨fun d => absurd (by rw [z]; rfl) d, fun _ => ?_⟩) (fun y => absurd y (by omega))
        rw [e7, nI_1]
        exact ih (q + 1) _ (by omega) hsc (w _ _ _) (fun a j y => (o _ _ _ _ _ (by omega)).trans (fr a j y))
      · rw [if_neg (show ¬ spB (tp q) = true from fun y => z (of_decide_eq_true y))] at hsc
        exact fst1 m (by rw [e7, hsc]) fr
  rw [h31]
  exact ⟨fun _ => spc (tl - p) p μ (by omega) rfl h27 (fun _ _ _ => rfl), fun d => absurd (by decide) d⟩
