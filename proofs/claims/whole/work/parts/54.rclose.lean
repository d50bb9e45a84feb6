theorem i_lt {x : Int32} {k : Nat} (hk : k < 2 ^ 31) : x < nI k ↔ x.toInt < k := by rw [Int32.lt_iff_toInt_lt, nI_toInt hk]
theorem i_le {x : Int32} {k : Nat} (hk : k < 2 ^ 31) : x ≤ nI k ↔ x.toInt ≤ k := by rw [Int32.le_iff_toInt_le, nI_toInt hk]
theorem i_gt {x : Int32} {k : Nat} (hk : k < 2 ^ 31) : nI k < x ↔ (k : Int) < x.toInt := by rw [Int32.lt_iff_toInt_lt, nI_toInt hk]
theorem i_ge {x : Int32} {k : Nat} (hk : k < 2 ^ 31) : nI k ≤ x ↔ (k : Int) ≤ x.toInt := by rw [Int32.le_iff_toInt_le, nI_toInt hk]
theorem i_of {x : Int32} (h : 0 ≤ x.toInt) : ∃ j : Nat, j < 2 ^ 31 ∧ x = nI j ∧ x.toInt = j := by
  obtain ⟨j, h1, h2⟩ := nI_of (x := x) (fun c => by
    have := Int32.lt_iff_toInt_lt.mp c
    rw [show (0 : Int32).toInt = 0 from by decide] at this; omega)
  exact ⟨j, h1, h2, by rw [h2, nI_toInt h1]⟩
theorem r_in {x : Int32} {a b : Int64} {μ : Mem} {Q : Int32 → Mem → Prop} (h1 : a.toInt ≤ x.toInt → x.toInt ≤ b.toInt → Q 1 μ) (h0 : (x.toInt < a.toInt ∨ b.toInt < x.toInt) → Q 0 μ) : PX7_in x.toInt64 a b μ Q := by
  unfold PX7_in nX7_in_17
  rw [lg_cmp_lt, lg_cmp_gt, Int64.lt_iff_toInt_lt, Int64.lt_iff_toInt_lt, Int32.toInt_toInt64]
  exact ⟨fun c => h0 (Or.inl c), fun c => ⟨fun d => h0 (Or.inr d), fun d => h1 (by omega) (by omega)⟩⟩
theorem or0 (x : Int32) : x ||| 0 = x := by simp
def CloseR (n : Nat) (m : Mem) (L : List (Nat → Option Nat)) : Prop := m.1 100 50 = nI L.length ∧ m.1 100 51 = bitsL n L ∧ ∀ P : Nat → Option Nat, L.head? = some P → ∀ i : Nat, i < n → m.1 120 i = oI (P i)
def AK (μ : Mem) (ρ : RA) (κ : KA) (n : Nat) (L : List (Nat → Option Nat)) (m : Mem) : Prop := FSr μ m ∧ CloseR n m (closL ρ κ n L)
theorem AK_stab {μ : Mem} {ρ : RA} {κ : KA} {n : Nat} : Astab (AK μ ρ κ n) := by
  intro L m m' h e
  obtain ⟨h1, h2, h3, h4⟩ := h
  have e1 : ∀ j : Nat, j ≠ 41 → m'.1 100 j = m.1 100 j := fun j q => e 100 j (by decide) (by decide) (by decide) (fun _ => q) (by simp)
  have e2 : ∀ j : Nat, m'.1 120 j = m.1 120 j := fun j => e 120 j (by decide) (by decide) (by decide) (by simp) (by simp)
  exact ⟨fun a j q1 q2 q3 q4 q5 q6 => (e a j q1 q2 q3 (fun z => by have := q5 z; omega) q6).trans (h1 a j q1 q2 q3 q4 q5 q6), (e1 _ (by decide)).trans h2, (e1 _ (by decide)).trans h3, fun P hP i hi => (e2 i).trans (h4 P hP i hi)⟩
set_option maxHeartbeats 2000000 in
theorem r_findClosing {μ : Mem} {n B D : Nat} {κ : KA} {ρ : RA} {Q : Mem → Prop} (hR : MR μ ρ) (hw : RW ρ) (hK : KM μ 280 κ) (hk : KW κ B D) (hB : B ≤ 80000) (hD : D ≤ 90000) (hn0 : 1 ≤ n) (hn : n ≤ 5) (h : ∀ m : Mem, AK μ ρ κ n (rowsN ρ κ n) m → Q m) : PX7_findClosing 100 (nI n) μ Q := by
  have s9 := hw.2.1
  intro S14 S36 h14 h36 m1 hm1
  have f1 : ∀ a j : Nat, (a = 100 → j < 41 ∨ 51 < j) → m1.1 a j = μ.1 a j := fun a j q => by
    rw [hm1]
    by_cases c : a = 100
    · have := q c
      subst c
      simp (disch := omega) only [ms_1, ite_true, ite_false, if_neg, if_pos]
    · simp (disch := omega) only [ms_1, ite_true, ite_false, if_neg]
  have hK1 := KM_of hK (m := m1) (fun j hj => f1 _ _ (by simp))
  have hR1 := MR_of hR (m := m1) (fun a j q => f1 _ _ (fun z => by omega))
  have cl0 : closL ρ κ n [] = [] := List.eq_nil_of_length_eq_zero (Nat.le_zero.mp closL_len)
  refine r_rows (A := AK μ ρ κ n) (T := S14) (Qf := fun _ (r5 : Int32) (m4 : Mem) => (r5 = 0 → Q m4) ∧ (¬ r5 = 0 → PX7_isClosed 100 (((40 : Int32)) * nI n) (nI n) m4 (fun (r8 : Int32) (m7 : Mem) => (r8 = 0 → S14 m7) ∧ (¬ r8 = 0 → S36 ((0 : Int32)) m7)))) (fun m hm => h14 _ hm) AK_stab hR1 hw hK1 hk hB hD hn0 hn ⟨fun a j _ _ _ _ q5 _ => f1 a j q5, ?_⟩ ?_ (fun m _ _ a => ⟨fun _ => h m a, fun c => absurd rfl c⟩)
  · rw [cl0]
    refine ⟨?_, ?_, fun P hP => by cases hP⟩
    · rw [hm1, ms_1, if_pos rfl, if_neg (by decide), ms_1, if_pos rfl, if_pos rfl]; rfl
    · rw [hm1, ms_1, if_pos rfl, if_pos rfl]; rfl
  intro P L m hd hdeep hlen hnx
  have hps : ∀ i s : Nat, i < n → P i = some s → s < 9 := fun i s _ e => by have := hd.2.2.2.2.1 i s e; omega
  have hp := hd.2.2.2.1
  have hKn := hd.2.2.1 n (Nat.le_refl _)
  obtain ⟨a1, a2, a3, a4⟩ := hd.2.2.2.2.2
  have hkn := kAt_KW (R := P) (g := 0) hw hk n
  have bt := kAt_thr (R := P) (g := 0) hw hk hB n (by omega)
  have blen := closL_len (ρ := ρ) (κ := κ) (n := n) (L := L)
  have go : ∀ m' : Mem, (∀ a j : Nat, a ≠ 120 → (a = 100 → j < 43 ∨ 51 < j) → m'.1 a j = m.1 a j) → CloseR n m' (closL ρ κ n (L ++ [P])) → S14 m' := by
    intro m' e1 e2
    refine h14 _ (hnx m' (DR_acc hd e1 ⟨fun a j q1 q2 q3 q4 q5 q6 => (e1 a j q4 (fun z => by have := q5 z; omega)).trans (a1 a j q1 q2 q3 q4 q5 q6), e2⟩) ((e1 100 41 (by decide) (by decide)).trans hdeep))
  refine ⟨fun c => absurd c (by decide), fun _ => ?_⟩
  rw [show (40 : Int32) * nI n = nI (40 * n) from pk_mul 40 n]
  refine r_isClosed hd.1 hw hd.2.1 hk (by omega) (by omega) hKn hkn (by omega) (by omega) (by omega) hp hps (fun cz => ⟨fun c => absurd c (by decide), fun _ => ?_⟩) (fun cz => ⟨fun _ => go m (fun _ _ _ _ => rfl) (by rw [closL_n cz]; exact ⟨a2, a3, a4⟩), fun c => absurd rfl c⟩)
  have days : ∀ i m', i ≤ n → ((∀ a j : Nat, a ≠ 120 → (a = 100 → j ≠ 51) → m'.1 a j = m.1 a j) ∧ m'.1 100 51 = orR P i (bitsL n (closL ρ κ n L)) ∧ (∀ j : Nat, ((closL ρ κ n L).length = 0 ∧ j < i) ∨ ((closL ρ κ n L).length ≠ 0 ∧ j < n) → m'.1 120 j = (if (closL ρ κ n L).length = 0 then oI (P j) else m.1 120 j))) → S36 (nI i) m' := by
    refine up_loop ?_ ?_
    · intro i m' hi ⟨b1, b2, b3⟩ ih
      have e50 : m'.1 100 50 = nI (closL ρ κ n L).length := (b1 100 50 (by decide) (by decide)).trans a2
      have ep : ∀ j : Nat, j < n → m'.1 119 j = oI (P j) := fun j hj => (b1 119 j (by decide) (by simp)).trans (hp j hj)
      have tail : ∀ v : Int32, v = (if (closL ρ κ n L).length = 0 then oI (P i) else m.1 120 i) → nX7_findClosing_68 100 (nI n) Q S14 S36 (nI i) v (nI i) m' := by
        intro v hv
        unfold nX7_findClosing_68 nX7_findClosing_97
        have x119 : (ms m' (100 + 20) (nI i).toNatClampNeg v).1 (100 + 19) (nI i).toNatClampNeg = oI (P i) := by
          rw [nI_clamp (by omega), ms_1, if_neg (by decide)]; exact ep i hi
        have x51 : (ms m' (100 + 20) (nI i).toNatClampNeg v).1 100 51 = orR P i (bitsL n (closL ρ κ n L)) := by
          rw [ms_1, if_neg (by decide)]; exact b2
        rw [x119, x51, nI_clamp (by omega), nI_1]
        have fin : ∀ w : Int32, w = orR P (i + 1) (bitsL n (closL ρ κ n L)) → S36 (nI (i + 1)) (ms (ms m' (100 + 20) i v) 100 51 w) := by
          intro w hw
          refine ih _ ⟨fun a j q1 q2 => ?_, ?_, fun j hj => ?_⟩
          · rw [ms_1]
            by_cases c : a = 100
            · rw [if_pos c, if_neg (q2 c), ms_1, if_neg (by omega)]; exact b1 a j q1 q2
            · rw [if_neg c, ms_1, if_neg (by omega)]; exact b1 a j q1 q2
          · rw [ms_1, if_pos rfl, if_pos rfl]; exact hw
          · rw [ms_1, if_neg (by decide)]
            show (ms m' 120 i v).1 120 j = _
            rw [ms_1, if_pos rfl]
            by_cases c : j = i
            · rw [if_pos c, hv, c]
            · rw [if_neg c]; exact b3 j (by omega)
        refine ⟨vp_in_nI (by omega) (by omega), vp_in_nI (by omega) (by omega), ?_⟩
        cases e : P i with
        | none =>
          refine ⟨fun c => absurd rfl c, fun _ => fin _ ?_⟩
          rw [or0]
          show _ = (match P i with
            | none => orR P i (bitsL n (closL ρ κ n L))
            | some s => orR P i (bitsL n (closL ρ κ n L)) ||| ((1 : Int32) <<< (nI s &&& 31)))
          rw [e]
        | some s =>
          have hs9 := hps i s hi e
          refine ⟨fun _ => ⟨vp_in_nI (by omega) (by omega), fin _ ?_⟩, fun c => absurd c (nI_ne4 (by omega))⟩
          show _ = (match P i with
            | none => orR P i (bitsL n (closL ρ κ n L))
            | some s => orR P i (bitsL n (closL ρ κ n L)) ||| ((1 : Int32) <<< (nI s &&& 31)))
          rw [e]; rfl
      apply h36
      unfold nX7_findClosing_36
      rw [e50]
      refine ⟨fun c => absurd c (nI_ge hi (by omega)), fun _ => ⟨fun c => ⟨vp_in_nI (by omega) (by omega), tail _ ?_⟩, fun c => ⟨vp_in_nI (by omega) (by omega), tail _ ?_⟩⟩⟩
      · have c2 : (closL ρ κ n L).length ≠ 0 := fun q => c (by rw [q]; rfl)
        rw [if_neg c2, nI_clamp (by omega)]
        have := b3 i (Or.inr ⟨c2, hi⟩)
        rw [if_neg c2] at this
        exact this
      · have c2 : (closL ρ κ n L).length = 0 := (nI_eq (b := 0) (by omega) (by omega)).1 c
        rw [if_pos c2, nI_clamp (by omega)]
        exact ep i hi
    · intro m' ⟨b1, b2, b3⟩
      have e50 : m'.1 100 50 = nI (closL ρ κ n L).length := (b1 100 50 (by decide) (by decide)).trans a2
      apply h36
      unfold nX7_findClosing_36
      refine ⟨fun _ => go _ (fun a j q1 q2 => ?_) ?_, fun c => absurd (nI_le (Nat.le_refl _) (by omega)) c⟩
      · rw [ms_1]
        by_cases c : a = 100
        · have := q2 c
          rw [if_pos c, if_neg (by omega)]; exact b1 a j q1 (fun _ => by omega)
        · rw [if_neg c]; exact b1 a j q1 (fun z => absurd z c)
      · rw [closL_y cz]
        refine ⟨?_, ?_, fun T hT i hi => ?_⟩
        · rw [ms_1, if_pos rfl, if_pos rfl, e50, List.length_append]; exact nI_1 _
        · rw [ms_1, if_pos rfl, if_neg (by decide), b2, bitsL_s]
        · rw [ms_1, if_neg (by decide), b3 i (by omega)]
          cases hC : closL ρ κ n L with
          | nil =>
            rw [hC] at hT
            have eT : P = T := Option.some.inj hT
            rw [if_pos List.length_nil, eT]
          | cons x xs =>
            rw [if_neg (by simp)]
            rw [hC] at hT a4
            exact a4 T hT i hi
  refine days 0 m (Nat.zero_le _) ⟨fun _ _ _ _ => rfl, a3, fun j hj => ?_⟩
  rcases hj with hj | hj
  · exact absurd hj.2 (Nat.not_lt_zero _)
  · rw [if_neg hj.1]
