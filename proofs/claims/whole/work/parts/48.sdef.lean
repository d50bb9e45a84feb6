def setP (P : Nat → Option Nat) (d : Nat) (o : Option Nat) : Nat → Option Nat := fun i => if i = d then o else P i
theorem setP_eq {P : Nat → Option Nat} {d : Nat} {o : Option Nat} : setP P d o d = o := if_pos rfl
theorem setP_ne {P : Nat → Option Nat} {d i : Nat} {o : Option Nat} (h : i ≠ d) : setP P d o i = P i := if_neg h
def catN {α : Type} (f : Nat → List α) : Nat → Nat → List α
  | 0, _ => []
  | c + 1, p => f p ++ catN f c (p + 1)
/-- the rows of r more days behind the first d of P, the first ahead -/
noncomputable def rowsF (ρ : RA) (κ : KA) : Nat → Nat → (Nat → Option Nat) → List (Nat → Option Nat)
  | 0, _, P => [P]
  | r + 1, d, P => if bitN (ρ 0 14) ((kAt ρ κ P 0 d).date % 7) = 1 then rowsF ρ κ r (d + 1) (setP P d none) else catN (fun s => if whyN ρ (kAt ρ κ P 0 d) s 0 = 0 then rowsF ρ κ r (d + 1) (setP P d (some s)) else []) (ρ 0 4) 0
theorem kAt_pre {ρ : RA} {κ : KA} {P P' : Nat → Option Nat} {g : Nat} : ∀ d : Nat, (∀ j : Nat, j < d → P j = P' j) → kAt ρ κ P g d = kAt ρ κ P' g d
  | 0, _ => rfl
  | d + 1, h => by
    unfold kAt
    rw [kAt_pre d (fun j hj => h j (by omega)), h d (by omega)]
theorem bit_0 {j : Nat} : bitN 0 j = 0 := by unfold bitN; rw [Nat.zero_div]
theorem kAt_set {ρ : RA} {κ : KA} {P : Nat → Option Nat} {d : Nat} {o : Option Nat} : kAt ρ κ (setP P d o) 0 (d + 1) = stepK ρ (kAt ρ κ P 0 d) o 0 := by
  show stepK ρ (kAt ρ κ (setP P d o) 0 d) (setP P d o d) (bitN 0 d) = _
  rw [setP_eq, bit_0, kAt_pre (P' := P) d (fun j hj => setP_ne (by omega))]
theorem catN_len {α : Type} {f : Nat → List α} {M : Nat} (h : ∀ p : Nat, (f p).length ≤ M) : ∀ c p : Nat, (catN f c p).length ≤ c * M
  | 0, _ => by simp [catN]
  | c + 1, p => by
    have h1 := catN_len h c (p + 1)
    have h2 := h p
    have h3 : (c + 1) * M = c * M + M := Nat.succ_mul c M
    unfold catN
    rw [List.length_append]; omega
theorem rowsF_len {ρ : RA} {κ : KA} (hw : RW ρ) : ∀ (r d : Nat) (P : Nat → Option Nat), (rowsF ρ κ r d P).length ≤ 9 ^ r
  | 0, _, _ => Nat.le_refl _
  | r + 1, d, P => by
    have h9 := hw.2.1
    have e : 9 ^ (r + 1) = 9 ^ r * 9 := Nat.pow_succ 9 r
    unfold rowsF
    split
    · have := rowsF_len (κ := κ) hw r (d + 1) (setP P d none); omega
    · have h1 := catN_len (f := fun s => if whyN ρ (kAt ρ κ P 0 d) s 0 = 0 then rowsF ρ κ r (d + 1) (setP P d (some s)) else []) (M := 9 ^ r) (fun s => by
        show (if whyN ρ (kAt ρ κ P 0 d) s 0 = 0 then rowsF ρ κ r (d + 1) (setP P d (some s)) else []).length ≤ 9 ^ r
        split
        · exact rowsF_len (κ := κ) hw r (d + 1) (setP P d (some s))
        · exact Nat.zero_le _) (ρ 0 4) 0
      have h2 := Nat.mul_le_mul_right (9 ^ r) h9
      omega
theorem kAt_paid {ρ : RA} {κ : KA} {R : Nat → Option Nat} {g : Nat} (hw : RW ρ) : ∀ i : Nat, (kAt ρ κ R g i).paid ≤ 3600 * i
  | 0 => Nat.le_refl _
  | i + 1 => by
    have h1 := kAt_paid (κ := κ) (R := R) (g := g) hw i
    have h2 := step_paid (κ := kAt ρ κ R g i) (o := R i) (g := bitN g i) hw (by have := bitN_le g i; omega)
    show (stepK ρ (kAt ρ κ R g i) (R i) (bitN g i)).paid ≤ _
    omega
theorem kAt_lik {ρ : RA} {κ : KA} {R : Nat → Option Nat} {g : Nat} (hw : RW ρ) : ∀ i : Nat, (kAt ρ κ R g i).lik ≤ 9 * i
  | 0 => Nat.le_refl _
  | i + 1 => by
    have h1 := kAt_lik (κ := κ) (R := R) (g := g) hw i
    have h2 := step_lik (κ := kAt ρ κ R g i) (o := R i) (g := bitN g i) hw
    show (stepK ρ (kAt ρ κ R g i) (R i) (bitN g i)).lik ≤ _
    omega
theorem kAt_thr {ρ : RA} {κ : KA} {R : Nat → Option Nat} {g B D : Nat} (hw : RW ρ) (hk : KW κ B D) (hB : B ≤ 80000) : ∀ i : Nat, i ≤ 7 → (kAt ρ κ R g i).thr ≤ 2000000 * i
  | 0, _ => Nat.le_refl _
  | i + 1, hi => by
    have h1 := kAt_thr (R := R) (g := g) hw hk hB i (by omega)
    have h2 := step_thr (g := bitN g i) (o := R i) hw (kAt_KW (R := R) (g := g) hw hk i)
    show (stepK ρ (kAt ρ κ R g i) (R i) (bitN g i)).thr ≤ _
    omega
def rankZ (κ : KA) : Int := (((κ.thr * 100000 + κ.paid) * 100000 : Nat) : Int) - (κ.lik : Int)
theorem rank_l {a b : Nat} (ha : a < 2 ^ 62) (hb : b < 2 ^ 62) : (lN a - lN b).toInt = (a : Int) - (b : Int) := by
  show (Int64.ofNat a - Int64.ofNat b).toInt = _
  rw [Int64.toInt_sub, lg_ofNat_toInt (show a < 2 ^ 63 by omega), lg_ofNat_toInt (show b < 2 ^ 63 by omega)]
  simp only [Int.bmod]; split <;> omega
theorem rank_c {κ : KA} (h1 : κ.thr ≤ 20000000) (h2 : κ.paid < 100000) (h3 : κ.lik < 100000) : ((((nI κ.thr).toInt64 * (100000 : Int64)) + (nI κ.paid).toInt64) * (100000 : Int64) - (nI κ.lik).toInt64).toInt = rankZ κ := by
  rw [nI_l (by omega), nI_l (by omega), nI_l (by omega), show (100000 : Int64) = lN 100000 from rfl, lN_mul, lN_add, lN_mul, rank_l (by omega) (by omega)]
  rfl
theorem ml_2 (μ : Mem) (a j : Nat) (v : Int64) (b i : Nat) : (ml μ a j v).2 b i = if b = a then (if i = j then v else μ.2 b i) else μ.2 b i := by
  unfold ml vp_updL
  by_cases h : b = a
  · subst h; simp
  · simp [h]
theorem mr_2 (μ : Mem) (a : Nat) (f : Nat → Int32) : (mr μ a f).2 = μ.2 := rfl
noncomputable def bestS (ρ : RA) (κ : KA) (n : Nat) (acc : Option ((Nat → Option Nat) × Nat)) (R : Nat → Option Nat) : Option ((Nat → Option Nat) × Nat) := match acc with
  | none => some (R, 1)
  | some (P, c) => if rankZ (kAt ρ κ R 0 n) < rankZ (kAt ρ κ P 0 n) then some (R, 1) else if rankZ (kAt ρ κ R 0 n) = rankZ (kAt ρ κ P 0 n) then some (P, c + 1) else some (P, c)
noncomputable def fairS (ρ : RA) (κ : KA) (n : Nat) (acc : Option (Nat → Option Nat)) (R : Nat → Option Nat) : Option (Nat → Option Nat) := match acc with
  | none => some R
  | some P => if lfN ρ P n 4 < lfN ρ R n 4 ∨ (lfN ρ R n 4 = lfN ρ P n 4 ∧ rankZ (kAt ρ κ R 0 n) < rankZ (kAt ρ κ P 0 n)) then some R else some P
noncomputable def sureS (ρ : RA) (κ : KA) (n : Nat) (acc : Option (Nat → Option Nat)) (R : Nat → Option Nat) : Option (Nat → Option Nat) := match acc with
  | none => some R
  | some P => if brN ρ κ P n < brN ρ κ R n then some R else some P
noncomputable def closL (ρ : RA) (κ : KA) (n : Nat) : List (Nat → Option Nat) → List (Nat → Option Nat) := by
  classical exact fun L => L.filter (fun R => decide (closeN ρ κ (kAt ρ κ R 0 n) R n))
theorem closL_y {ρ : RA} {κ : KA} {n : Nat} {L : List (Nat → Option Nat)} {R : Nat → Option Nat} (h : closeN ρ κ (kAt ρ κ R 0 n) R n) : closL ρ κ n (L ++ [R]) = closL ρ κ n L ++ [R] := by
  unfold closL; simp [List.filter_append, List.filter_cons, h]
theorem closL_n {ρ : RA} {κ : KA} {n : Nat} {L : List (Nat → Option Nat)} {R : Nat → Option Nat} (h : ¬ closeN ρ κ (kAt ρ κ R 0 n) R n) : closL ρ κ n (L ++ [R]) = closL ρ κ n L := by
  unfold closL; simp [List.filter_append, List.filter_cons, h]
theorem closL_len {ρ : RA} {κ : KA} {n : Nat} {L : List (Nat → Option Nat)} : (closL ρ κ n L).length ≤ L.length := by
  unfold closL; exact List.length_filter_le _ _
/-- the suppers of a row's first days as bits beside those of x -/
def orR (R : Nat → Option Nat) : Nat → Int32 → Int32
  | 0, x => x
  | i + 1, x => match R i with
    | none => orR R i x
    | some s => orR R i x ||| ((1 : Int32) <<< (nI s &&& 31))
def bitsL (n : Nat) (L : List (Nat → Option Nat)) : Int32 := L.foldl (fun x R => orR R n x) 0
theorem bitsL_s {n : Nat} {L : List (Nat → Option Nat)} {R : Nat → Option Nat} : bitsL n (L ++ [R]) = orR R n (bitsL n L) := by
  unfold bitsL; rw [List.foldl_append]; rfl
noncomputable def bestL (ρ : RA) (κ : KA) (n : Nat) (L : List (Nat → Option Nat)) : Option ((Nat → Option Nat) × Nat) := L.foldl (bestS ρ κ n) none
noncomputable def fairL (ρ : RA) (κ : KA) (n : Nat) (L : List (Nat → Option Nat)) : Option (Nat → Option Nat) := L.foldl (fairS ρ κ n) none
noncomputable def sureL (ρ : RA) (κ : KA) (n : Nat) (L : List (Nat → Option Nat)) : Option (Nat → Option Nat) := L.foldl (sureS ρ κ n) none
theorem bestL_s {ρ : RA} {κ : KA} {n : Nat} {L : List (Nat → Option Nat)} {R : Nat → Option Nat} : bestL ρ κ n (L ++ [R]) = bestS ρ κ n (bestL ρ κ n L) R := by
  unfold bestL; rw [List.foldl_append]; rfl
theorem fairL_s {ρ : RA} {κ : KA} {n : Nat} {L : List (Nat → Option Nat)} {R : Nat → Option Nat} : fairL ρ κ n (L ++ [R]) = fairS ρ κ n (fairL ρ κ n L) R := by
  unfold fairL; rw [List.foldl_append]; rfl
theorem sureL_s {ρ : RA} {κ : KA} {n : Nat} {L : List (Nat → Option Nat)} {R : Nat → Option Nat} : sureL ρ κ n (L ++ [R]) = sureS ρ κ n (sureL ρ κ n L) R := by
  unfold sureL; rw [List.foldl_append]; rfl
theorem bestS_some {ρ : RA} {κ : KA} {n : Nat} {a : Option ((Nat → Option Nat) × Nat)} {R : Nat → Option Nat} : ∃ x, bestS ρ κ n a R = some x := by
  unfold bestS
  split
  · exact ⟨_, rfl⟩
  · split
    · exact ⟨_, rfl⟩
    · split <;> exact ⟨_, rfl⟩
theorem fairS_some {ρ : RA} {κ : KA} {n : Nat} {a : Option (Nat → Option Nat)} {R : Nat → Option Nat} : ∃ x, fairS ρ κ n a R = some x := by
  unfold fairS
  split
  · exact ⟨_, rfl⟩
  · split <;> exact ⟨_, rfl⟩
theorem sureS_some {ρ : RA} {κ : KA} {n : Nat} {a : Option (Nat → Option Nat)} {R : Nat → Option Nat} : ∃ x, sureS ρ κ n a R = some x := by
  unfold sureS
  split
  · exact ⟨_, rfl⟩
  · split <;> exact ⟨_, rfl⟩
theorem last_or {α : Type} : ∀ L : List α, L = [] ∨ ∃ (M : List α) (x : α), L = M ++ [x]
  | [] => Or.inl rfl
  | a :: L => Or.inr (by
    rcases last_or L with h | ⟨M, x, h⟩
    · exact ⟨[], a, by rw [h]; rfl⟩
    · exact ⟨a :: M, x, by rw [h]; rfl⟩)
theorem bestL_some {ρ : RA} {κ : KA} {n : Nat} {L : List (Nat → Option Nat)} (h : L.length ≠ 0) : ∃ x, bestL ρ κ n L = some x := by
  rcases last_or L with e | ⟨M, x, e⟩
  · exact absurd (by rw [e]; rfl) h
  · rw [e, bestL_s]; exact bestS_some
theorem fairL_some {ρ : RA} {κ : KA} {n : Nat} {L : List (Nat → Option Nat)} (h : L.length ≠ 0) : ∃ x, fairL ρ κ n L = some x := by
  rcases last_or L with e | ⟨M, x, e⟩
  · exact absurd (by rw [e]; rfl) h
  · rw [e, fairL_s]; exact fairS_some
theorem sureL_some {ρ : RA} {κ : KA} {n : Nat} {L : List (Nat → Option Nat)} (h : L.length ≠ 0) : ∃ x, sureL ρ κ n L = some x := by
  rcases last_or L with e | ⟨M, x, e⟩
  · exact absurd (by rw [e]; rfl) h
  · rw [e, sureL_s]; exact sureS_some
-- what the class's search holds of the rows looked at
def BestC (ρ : RA) (κ : KA) (n : Nat) (m : Mem) (x : Option ((Nat → Option Nat) × Nat)) : Prop := match x with
  | none => True
  | some (P, c) => (m.2 60 4).toInt = rankZ (kAt ρ κ P 0 n) ∧ m.1 60 5 = nI c ∧ m.1 60 6 = nI (kAt ρ κ P 0 n).thr ∧ m.1 60 7 = nI (kAt ρ κ P 0 n).paid ∧ m.1 60 8 = nI (kAt ρ κ P 0 n).lik ∧ ∀ i : Nat, i < n → m.1 92 i = oI (P i)
def FairC (ρ : RA) (κ : KA) (n : Nat) (m : Mem) (x : Option (Nat → Option Nat)) : Prop := match x with
  | none => True
  | some P => (m.2 60 10).toInt = rankZ (kAt ρ κ P 0 n) ∧ m.1 60 11 = nI (lfN ρ P n 4) ∧ ∀ i : Nat, i < n → m.1 93 i = oI (P i)
def SureC (ρ : RA) (κ : KA) (n : Nat) (m : Mem) (x : Option (Nat → Option Nat)) : Prop := match x with
  | none => m.1 60 13 = -1
  | some P => m.1 60 13 = nI (brN ρ κ P n) ∧ ∀ i : Nat, i < n → m.1 94 i = oI (P i)
def CloseC (n : Nat) (m : Mem) (L : List (Nat → Option Nat)) : Prop := m.1 60 15 = nI L.length ∧ m.1 60 16 = bitsL n L ∧ ∀ P : Nat → Option Nat, L.head? = some P → ∀ i : Nat, i < n → m.1 95 i = oI (P i)
def FB1 (m m' : Mem) : Prop := (∀ a j : Nat, a ≠ 92 → (a = 60 → j < 5 ∨ 8 < j) → m'.1 a j = m.1 a j) ∧ (∀ a j : Nat, (a = 60 → j ≠ 4) → m'.2 a j = m.2 a j)
def FB2 (m m' : Mem) : Prop := (∀ a j : Nat, a ≠ 93 → (a = 60 → j ≠ 11) → m'.1 a j = m.1 a j) ∧ (∀ a j : Nat, (a = 60 → j ≠ 10) → m'.2 a j = m.2 a j)
def FB3 (m m' : Mem) : Prop := (∀ a j : Nat, a ≠ 95 → (a = 60 → j < 15 ∨ 16 < j) → m'.1 a j = m.1 a j) ∧ (∀ a j : Nat, m'.2 a j = m.2 a j)
def FB4 (m m' : Mem) : Prop := (∀ a j : Nat, a ≠ 94 → (a = 60 → j ≠ 13) → m'.1 a j = m.1 a j) ∧ (∀ a j : Nat, m'.2 a j = m.2 a j)
theorem BestC_fr {ρ : RA} {κ : KA} {n : Nat} {m m' : Mem} {x : Option ((Nat → Option Nat) × Nat)} (h : BestC ρ κ n m x) (f1 : ∀ j : Nat, 4 ≤ j → j ≤ 8 → m'.1 60 j = m.1 60 j) (f2 : m'.2 60 4 = m.2 60 4) (f3 : ∀ i : Nat, m'.1 92 i = m.1 92 i) : BestC ρ κ n m' x := by
  unfold BestC at *
  split
  · trivial
  · obtain ⟨h1, h2, h3, h4, h5, h6⟩ := h
    exact ⟨by rw [f2]; exact h1, by rw [f1 _ (by omega) (by omega)]; exact h2, by rw [f1 _ (by omega) (by omega)]; exact h3, by rw [f1 _ (by omega) (by omega)]; exact h4, by rw [f1 _ (by omega) (by omega)]; exact h5, fun i hi => by rw [f3]; exact h6 i hi⟩
theorem FairC_fr {ρ : RA} {κ : KA} {n : Nat} {m m' : Mem} {x : Option (Nat → Option Nat)} (h : FairC ρ κ n m x) (f1 : m'.1 60 11 = m.1 60 11) (f2 : m'.2 60 10 = m.2 60 10) (f3 : ∀ i : Nat, m'.1 93 i = m.1 93 i) : FairC ρ κ n m' x := by
  unfold FairC at *
  split
  · trivial
  · obtain ⟨h1, h2, h6⟩ := h
    exact ⟨by rw [f2]; exact h1, by rw [f1]; exact h2, fun i hi => by rw [f3]; exact h6 i hi⟩
theorem SureC_fr {ρ : RA} {κ : KA} {n : Nat} {m m' : Mem} {x : Option (Nat → Option Nat)} (h : SureC ρ κ n m x) (f1 : m'.1 60 13 = m.1 60 13) (f3 : ∀ i : Nat, m'.1 94 i = m.1 94 i) : SureC ρ κ n m' x := by
  unfold SureC at *
  split
  · rw [f1]; exact h
  · exact ⟨by rw [f1]; exact h.1, fun i hi => by rw [f3]; exact h.2 i hi⟩
theorem CloseC_fr {n : Nat} {m m' : Mem} {L : List (Nat → Option Nat)} (h : CloseC n m L) (f1 : m'.1 60 15 = m.1 60 15) (f2 : m'.1 60 16 = m.1 60 16) (f3 : ∀ i : Nat, m'.1 95 i = m.1 95 i) : CloseC n m' L :=
  ⟨by rw [f1]; exact h.1, by rw [f2]; exact h.2.1, fun P hP i hi => by rw [f3]; exact h.2.2 P hP i hi⟩
set_option maxHeartbeats 1000000 in
theorem c_judgeBest {m : Mem} {ρ : RA} {κ : KA} {n e : Nat} {L : List (Nat → Option Nat)} {R : Nat → Option Nat} {x : Int64} {Q : Mem → Prop} (hn : n ≤ 5) (hc : m.1 60 3 = nI (L.length + 1)) (hl : L.length ≤ 1000000) (hb : BestC ρ κ n m (bestL ρ κ n L)) (hx : x.toInt = rankZ (kAt ρ κ R 0 n)) (hK : KCx m e (kAt ρ κ R 0 n)) (he : 60 < e ∧ e < 92) (hp : ∀ i : Nat, i < n → m.1 86 i = oI (R i)) (h : ∀ m' : Mem, BestC ρ κ n m' (bestL ρ κ n (L ++ [R])) → FB1 m m' → Q m') : PX3_judgeBest 60 x e m Q := by
  obtain ⟨o, hK⟩ := hK
  have k4 : m.1 e 4 = nI (kAt ρ κ R 0 n).paid := hK.2.2.2.2.1
  have k5 : m.1 e 5 = nI (kAt ρ κ R 0 n).thr := hK.2.2.2.2.2.1
  have k6 : m.1 e 6 = nI (kAt ρ κ R 0 n).lik := hK.2.2.2.2.2.2
  rw [bestL_s] at h
  have better : bestS ρ κ n (bestL ρ κ n L) R = some (R, 1) → nX3_judgeBest_17 60 x e Q m := by
    intro eb
    rw [eb] at h
    unfold nX3_judgeBest_17 nX3_judgeBest_65
    intro m4 hm4 m5 hm5 m6 hm6
    have e4 : m6.2 60 4 = x := by
      rw [hm6, mr_2, ms_2, hm5, ms_2, ms_2, hm4, ms_2, ml_2, if_pos rfl, if_pos rfl]
    have a4 : ∀ a j : Nat, (a = 60 → j ≠ 5) → m4.1 a j = m.1 a j := fun a j q => by
      rw [hm4, ms_1, ml_1]
      by_cases c : a = 60
      · rw [if_pos c, if_neg (q c)]
      · rw [if_neg c]
    have a5 : ∀ a j : Nat, (a = 60 → j < 5 ∨ 7 < j) → m5.1 a j = m.1 a j := fun a j q => by
      rw [hm5]
      by_cases c : a = 60
      · have := q c
        subst c
        simp (disch := omega) only [ms_1, if_neg, if_pos]; exact a4 60 j (fun _ => by omega)
      · simp (disch := omega) only [ms_1, if_neg]; exact a4 a j (fun z => absurd z c)
    have a6 : ∀ a j : Nat, a ≠ 92 → (a = 60 → j < 5 ∨ 8 < j) → m6.1 a j = m.1 a j := fun a j q0 q => by
      rw [hm6, mr_1, if_neg q0, ms_1]
      by_cases c : a = 60
      · have := q c
        rw [if_pos c, if_neg (by omega)]; exact a5 a j (fun _ => by omega)
      · rw [if_neg c]; exact a5 a j (fun z => absurd z c)
    have b5 : m6.1 60 5 = 0 := by
      rw [hm6, mr_1, if_neg (by decide), ms_1, if_pos rfl, if_neg (by decide), hm5, ms_1, if_pos rfl, if_neg (by decide), ms_1, if_pos rfl, if_neg (by decide), hm4, ms_1, if_pos rfl, if_pos rfl]
    have b6 : m6.1 60 6 = nI (kAt ρ κ R 0 n).thr := by
      rw [hm6, mr_1, if_neg (by decide), ms_1, if_pos rfl, if_neg (by decide), hm5, ms_1, if_pos rfl, if_neg (by decide), ms_1, if_pos rfl, if_pos rfl, a4 e 5 (fun z => by omega), k5]
    have b7 : m6.1 60 7 = nI (kAt ρ κ R 0 n).paid := by
      rw [hm6, mr_1, if_neg (by decide), ms_1, if_pos rfl, if_neg (by decide), hm5, ms_1, if_pos rfl, if_pos rfl, ms_1, if_neg (by omega), a4 e 4 (fun z => by omega), k4]
    have b8 : m6.1 60 8 = nI (kAt ρ κ R 0 n).lik := by
      rw [hm6, mr_1, if_neg (by decide), ms_1, if_pos rfl, if_pos rfl, a5 e 6 (fun z => by omega), k6]
    have b9 : ∀ i : Nat, i < n → m6.1 92 i = oI (R i) := fun i hi => by
      rw [hm6, mr_1, if_pos rfl]
      have := sb_cpy0 (f := (ms m5 60 8 (m5.1 e 6)).1 86) (g := (ms m5 60 8 (m5.1 e 6)).1 92) (n := 5) (j := i) (by omega)
      refine Eq.trans this ?_
      rw [ms_1, if_neg (by decide), a5 86 i (by simp)]
      exact hp i hi
    have c6 : ∀ a j : Nat, (a = 60 → j ≠ 4) → m6.2 a j = m.2 a j := fun a j q => by
      rw [hm6, mr_2, ms_2, hm5, ms_2, ms_2, hm4, ms_2, ml_2]
      by_cases c : a = 60
      · rw [if_pos c, if_neg (q c)]
      · rw [if_neg c]
    rw [e4]
    refine ⟨fun c => absurd ((lg_cmp_eq x x).2 rfl) c, fun _ => ?_⟩
    refine h _ ⟨?_, ?_, ?_, ?_, ?_, fun i hi => ?_⟩ ⟨fun a j q0 q => ?_, fun a j q => ?_⟩
    · rw [ms_2, e4]; exact hx
    · rw [ms_1, if_pos rfl, if_pos rfl, b5]; rfl
    · rw [ms_1, if_pos rfl, if_neg (by decide)]; exact b6
    · rw [ms_1, if_pos rfl, if_neg (by decide)]; exact b7
    · rw [ms_1, if_pos rfl, if_neg (by decide)]; exact b8
    · rw [ms_1, if_neg (by decide)]; exact b9 i hi
    · rw [ms_1]
      by_cases c : a = 60
      · have := q c
        rw [if_pos c, if_neg (by omega)]; exact a6 a j q0 q
      · rw [if_neg c]; exact a6 a j q0 q
    · rw [ms_2]; exact c6 a j q
  unfold PX3_judgeBest
  rw [hc]
  cases eb : bestL ρ κ n L with
  | none =>
    have el : L.length = 0 := by
      by_cases c : L.length = 0
      · exact c
      · obtain ⟨x, hx⟩ := bestL_some (ρ := ρ) (κ := κ) (n := n) c
        rw [eb] at hx; cases hx
    refine ⟨fun _ => better (by rw [eb]; rfl), fun c => absurd (by rw [el]; rfl) c⟩
  | some q =>
    obtain ⟨P, c⟩ := q
    have el : L.length ≠ 0 := by
      intro z
      have : L = [] := List.eq_nil_of_length_eq_zero z
      rw [this] at eb; cases eb
    rw [eb] at hb h better
    obtain ⟨h1, h2, h3, h4, h5, h6⟩ := hb
    refine ⟨fun c => absurd ((nI_eq (b := 1) (by omega) (by omega)).1 c) (by omega), fun _ => ⟨fun c0 => ?_, fun c0 => ?_⟩⟩
    · have c1 := (lg_cmp_ge _ _).1 c0
      have c2 : rankZ (kAt ρ κ P 0 n) ≤ rankZ (kAt ρ κ R 0 n) := by
        have := Int64.le_iff_toInt_le.mp c1
        rw [h1, hx] at this; exact this
      unfold nX3_judgeBest_65
      refine ⟨fun q => ?_, fun q => ?_⟩
      · have c3 : ¬ rankZ (kAt ρ κ R 0 n) = rankZ (kAt ρ κ P 0 n) := fun z => q ((lg_cmp_eq _ _).2 (Int64.toInt_inj.mp (by rw [h1, hx]; exact z)))
        have eb2 : bestS ρ κ n (some (P, c)) R = some (P, c) := by
          show (if _ then _ else if _ then _ else _) = _
          rw [if_neg (by omega), if_neg c3]
        rw [eb2] at h
        exact h m ⟨h1, h2, h3, h4, h5, h6⟩ ⟨fun _ _ _ _ => rfl, fun _ _ _ => rfl⟩
      · have c3 : rankZ (kAt ρ κ R 0 n) = rankZ (kAt ρ κ P 0 n) := by
          have := (lg_cmp_eq _ _).1 q
          rw [← hx, ← h1, this]
        have eb2 : bestS ρ κ n (some (P, c)) R = some (P, c + 1) := by
          show (if _ then _ else if _ then _ else _) = _
          rw [if_neg (by omega), if_pos c3]
        rw [eb2] at h
        refine h _ ⟨?_, ?_, ?_, ?_, ?_, fun i hi => ?_⟩ ⟨fun a j q0 q => ?_, fun a j q => ?_⟩
        · exact h1
        · rw [ms_1, if_pos rfl, if_pos rfl, h2]; exact nI_1 c
        · rw [ms_1, if_pos rfl, if_neg (by decide)]; exact h3
        · rw [ms_1, if_pos rfl, if_neg (by decide)]; exact h4
        · rw [ms_1, if_pos rfl, if_neg (by decide)]; exact h5
        · rw [ms_1, if_neg (by decide)]; exact h6 i hi
        · rw [ms_1]
          by_cases c : a = 60
          · have := q c
            rw [if_pos c, if_neg (by omega)]
          · rw [if_neg c]
        · rfl
    · have c1 : ¬ _ := fun z => c0 ((lg_cmp_ge _ _).2 z)
      have c2 : rankZ (kAt ρ κ R 0 n) < rankZ (kAt ρ κ P 0 n) := by
        have : ¬ (m.2 60 4).toInt ≤ x.toInt := fun z => c1 (Int64.le_iff_toInt_le.mpr z)
        rw [h1, hx] at this; omega
      refine better ?_
      show (if _ then _ else if _ then _ else _) = _
      rw [if_pos c2]
theorem c_judgeFairest {m : Mem} {ρ : RA} {κ : KA} {n : Nat} {L : List (Nat → Option Nat)} {R : Nat → Option Nat} {x : Int64} {Q : Mem → Prop} (hn : n ≤ 5) (hc : m.1 60 3 = nI (L.length + 1)) (hl : L.length ≤ 1000000) (hb : FairC ρ κ n m (fairL ρ κ n L)) (hx : x.toInt = rankZ (kAt ρ κ R 0 n)) (hp : ∀ i : Nat, i < n → m.1 86 i = oI (R i)) (h : ∀ m' : Mem, FairC ρ κ n m' (fairL ρ κ n (L ++ [R])) → FB2 m m' → Q m') : PX3_judgeFairest 60 x (nI (lfN ρ R n 4)) m Q := by
  rw [fairL_s] at h
  have bR := lf_le (ρ := ρ) (R := R) (n := n) 4
  have better : fairS ρ κ n (fairL ρ κ n L) R = some R → nX3_judgeFairest_45 60 x (nI (lfN ρ R n 4)) Q m := by
    intro eb
    rw [eb] at h
    unfold nX3_judgeFairest_45
    intro m6 hm6 m7 hm7
    have a6 : ∀ a j : Nat, (a = 60 → j ≠ 11) → m6.1 a j = m.1 a j := fun a j q => by
      rw [hm6, ml_1, ms_1]
      by_cases c : a = 60
      · rw [if_pos c, if_neg (q c)]
      · rw [if_neg c]
    refine h _ ⟨?_, ?_, fun i hi => ?_⟩ ⟨fun a j q0 q => ?_, fun a j q => ?_⟩
    · rw [hm7, mr_2, hm6, ml_2, if_pos rfl, if_pos rfl]; exact hx
    · rw [hm7, mr_1, if_neg (by decide), hm6, ml_1, ms_1, if_pos rfl, if_pos rfl]
    · rw [hm7, mr_1, if_pos rfl]
      have := sb_cpy0 (f := m6.1 86) (g := m6.1 93) (n := 5) (j := i) (by omega)
      refine Eq.trans this ?_
      rw [a6 86 i (by simp)]
      exact hp i hi
    · rw [hm7, mr_1, if_neg q0]; exact a6 a j q
    · rw [hm7, mr_2, hm6, ml_2]
      by_cases c : a = 60
      · rw [if_pos c, if_neg (q c)]; rfl
      · rw [if_neg c]; rfl
  unfold PX3_judgeFairest nX3_judgeFairest_25 nX3_judgeFairest_29
  cases eb : fairL ρ κ n L with
  | none =>
    have el : L.length = 0 := by
      by_cases c : L.length = 0
      · exact c
      · obtain ⟨x, hx⟩ := fairL_some (ρ := ρ) (κ := κ) (n := n) c
        rw [eb] at hx; cases hx
    have go : ∀ w : Int32, nX3_judgeFairest_30 60 x (nI (lfN ρ R n 4)) Q w m := fun w => by
      unfold nX3_judgeFairest_30
      rw [hc]
      exact ⟨fun _ => better (by rw [eb]; rfl), fun c => absurd (by rw [el]; rfl) c⟩
    exact ⟨fun _ => go 1, fun _ => ⟨fun _ => go 0, fun _ => ⟨fun _ => go 0, fun _ => go 1⟩⟩⟩
  | some P =>
    have el : L.length ≠ 0 := by
      intro z
      have : L = [] := List.eq_nil_of_length_eq_zero z
      rw [this] at eb; cases eb
    have bP := lf_le (ρ := ρ) (R := P) (n := n) 4
    rw [eb] at hb h better
    obtain ⟨h1, h2, h6⟩ := hb
    have c1 : ¬ m.1 60 3 = 1 := by
      rw [hc]
      exact fun c => absurd ((nI_eq (b := 1) (by omega) (by omega)).1 c) (by omega)
    have yes : (lfN ρ P n 4 < lfN ρ R n 4 ∨ (lfN ρ R n 4 = lfN ρ P n 4 ∧ rankZ (kAt ρ κ R 0 n) < rankZ (kAt ρ κ P 0 n))) → nX3_judgeFairest_30 60 x (nI (lfN ρ R n 4)) Q 1 m := fun c => by
      unfold nX3_judgeFairest_30
      exact ⟨fun z => absurd z c1, fun _ => ⟨fun z => absurd z (by decide), fun _ => better (if_pos c)⟩⟩
    have no : ¬ (lfN ρ P n 4 < lfN ρ R n 4 ∨ (lfN ρ R n 4 = lfN ρ P n 4 ∧ rankZ (kAt ρ κ R 0 n) < rankZ (kAt ρ κ P 0 n))) → nX3_judgeFairest_30 60 x (nI (lfN ρ R n 4)) Q 0 m := fun c => by
      unfold nX3_judgeFairest_30
      have eb2 : fairS ρ κ n (some P) R = some P := if_neg c
      rw [eb2] at h
      exact ⟨fun z => absurd z c1, fun _ => ⟨fun _ => h m ⟨h1, h2, h6⟩ ⟨fun _ _ _ _ => rfl, fun _ _ _ => rfl⟩, fun z => absurd rfl z⟩⟩
    rw [h2]
    rw [nI_ltI (by omega) (by omega), nI_eq (by omega) (by omega)]
    refine ⟨fun c => yes (Or.inl c), fun c => ⟨fun c2 => no (fun z => ?_), fun c2 => ⟨fun c3 => no (fun z => ?_), fun c3 => yes (Or.inr ⟨c2, ?_⟩)⟩⟩⟩
    · rcases z with z | z
      · exact c z
      · exact c2 z.1
    · have c4 := Int64.le_iff_toInt_le.mp ((lg_cmp_ge _ _).1 c3)
      rw [h1, hx] at c4
      rcases z with z | z
      · exact c z
      · omega
    · have c4 : ¬ (m.2 60 10).toInt ≤ x.toInt := fun z => c3 ((lg_cmp_ge _ _).2 (Int64.le_iff_toInt_le.mpr z))
      rw [h1, hx] at c4; omega
theorem c_addClosing {m : Mem} {n : Nat} {L : List (Nat → Option Nat)} {R : Nat → Option Nat} {Q : Mem → Prop} (hn : n ≤ 5) (hl : L.length ≤ 1000000) (hb : CloseC n m L) (hp : ∀ i : Nat, i < n → m.1 86 i = oI (R i)) (hrs : ∀ i s : Nat, i < n → R i = some s → s < 9) (h : ∀ m' : Mem, CloseC n m' (L ++ [R]) → FB3 m m' → Q m') : PX3_addClosing 60 (nI n) m Q := by
  intro S hS
  obtain ⟨h1, h2, h3⟩ := hb
  have days : ∀ m0 : Mem, m0.1 60 15 = nI (L.length + 1) → (∀ P : Nat → Option Nat, (L ++ [R]).head? = some P → ∀ i : Nat, i < n → m0.1 95 i = oI (P i)) → FB3 m m0 → ∀ i m', i ≤ n → (m'.1 60 16 = orR R i (bitsL n L) ∧ m'.1 60 15 = m0.1 60 15 ∧ (∀ j : Nat, m'.1 95 j = m0.1 95 j) ∧ FB3 m m') → S (nI i) m' := by
    intro m0 q1 q2 q3
    refine up_loop ?_ ?_
    · intro i m' hi ⟨a1, a2, a3, a4⟩ ih
      have er : m'.1 86 i = oI (R i) := (a4.1 86 i (by decide) (by simp)).trans (hp i hi)
      apply hS
      unfold nX3_addClosing_33 nX3_addClosing_66
      rw [nI_clamp (by omega)]
      have er' : m'.1 (60 + 26) i = oI (R i) := er
      rw [er', a1, nI_1]
      refine ⟨fun c => absurd c (nI_ge hi (by omega)), fun _ => ⟨vp_in_nI (by omega) (by omega), ?_⟩⟩
      cases e : R i with
      | none =>
        refine ⟨fun _ => ih m' ⟨?_, a2, a3, a4⟩, fun c => absurd rfl c⟩
        rw [a1]; show _ = (match R i with
          | none => orR R i (bitsL n L)
          | some s => orR R i (bitsL n L) ||| ((1 : Int32) <<< (nI s &&& 31)))
        rw [e]
      | some s =>
        have hs9 := hrs i s hi e
        refine ⟨fun c => absurd c (nI_ne4 (by omega)), fun _ => ⟨vp_in_nI (by omega) (by omega), fun m5 hm5 => ih m5 ⟨?_, ?_, fun j => ?_, ?_, ?_⟩⟩⟩
        · rw [hm5, ms_1, if_pos rfl, if_pos rfl]
          show _ = (match R i with
            | none => orR R i (bitsL n L)
            | some s => orR R i (bitsL n L) ||| ((1 : Int32) <<< (nI s &&& 31)))
          rw [e]; rfl
        · rw [hm5, ms_1, if_pos rfl, if_neg (by decide)]; exact a2
        · rw [hm5, ms_1, if_neg (by decide)]; exact a3 j
        · intro a j z0 z
          rw [hm5, ms_1]
          by_cases c : a = 60
          · have := z c
            rw [if_pos c, if_neg (by omega)]; exact a4.1 a j z0 z
          · rw [if_neg c]; exact a4.1 a j z0 z
        · intro a j
          rw [hm5, ms_2]; exact a4.2 a j
    · intro m' ⟨a1, a2, a3, a4⟩
      apply hS
      unfold nX3_addClosing_33
      refine ⟨fun _ => h m' ⟨?_, ?_, fun P hP i hi => ?_⟩ a4, fun c => absurd (nI_le (Nat.le_refl _) (by omega)) c⟩
      · rw [a2, q1, List.length_append]; rfl
      · rw [a1, bitsL_s]
      · rw [a3]; exact q2 P hP i hi
  have tail : ∀ m2 : Mem, m2.1 60 15 = nI L.length → m2.1 60 16 = bitsL n L → (∀ P : Nat → Option Nat, (L ++ [R]).head? = some P → ∀ i : Nat, i < n → m2.1 95 i = oI (P i)) → FB3 m m2 → nX3_addClosing_21 60 (nI n) Q S m2 := by
    intro m2 q1 q2 q3 q4
    unfold nX3_addClosing_21
    have f : FB3 m (ms m2 60 15 (m2.1 60 15 + (1 : Int32))) := ⟨fun a j z0 z => by
      rw [ms_1]
      by_cases c : a = 60
      · have := z c
        rw [if_pos c, if_neg (by omega)]; exact q4.1 a j z0 z
      · rw [if_neg c]; exact q4.1 a j z0 z, fun a j => q4.2 a j⟩
    refine days (ms m2 60 15 (m2.1 60 15 + (1 : Int32))) ?_ (fun P hP i hi => ?_) f 0 _ (Nat.zero_le _) ⟨?_, rfl, fun _ => rfl, f⟩
    · rw [ms_1, if_pos rfl, if_pos rfl, q1]; exact nI_1 _
    · rw [ms_1, if_neg (by decide)]; exact q3 P hP i hi
    · rw [ms_1, if_pos rfl, if_neg (by decide)]; exact q2
  rw [h1]
  refine ⟨fun c => ?_, fun c m2 hm2 => ?_⟩
  · refine tail m h1 h2 (fun P hP i hi => ?_) ⟨fun _ _ _ _ => rfl, fun _ _ => rfl⟩
    cases L with
    | nil => exact absurd rfl c
    | cons a L => exact h3 P hP i hi
  · have el : L.length = 0 := (nI_eq (b := 0) (by omega) (by omega)).1 c
    have : L = [] := List.eq_nil_of_length_eq_zero el
    refine tail m2 ?_ ?_ (fun P hP i hi => ?_) ⟨fun a j z0 z => ?_, fun a j => ?_⟩
    · rw [hm2, mr_1, if_neg (by decide)]; exact h1
    · rw [hm2, mr_1, if_neg (by decide)]; exact h2
    · rw [this] at hP
      have eP : R = P := Option.some.inj hP
      rw [hm2, mr_1, if_pos rfl, ← eP]
      have := sb_cpy0 (f := m.1 86) (g := m.1 95) (n := 5) (j := i) (by omega)
      exact Eq.trans this (hp i hi)
    · rw [hm2, mr_1, if_neg z0]
    · rw [hm2, mr_2]
theorem c_judgeSurest {m : Mem} {ρ : RA} {κ : KA} {n : Nat} {L : List (Nat → Option Nat)} {R : Nat → Option Nat} {Q : Mem → Prop} (hw : RW ρ) (hn : n ≤ 5) (hb : SureC ρ κ n m (sureL ρ κ n L)) (hp : ∀ i : Nat, i < n → m.1 86 i = oI (R i)) (h : ∀ m' : Mem, SureC ρ κ n m' (sureL ρ κ n (L ++ [R])) → FB4 m m' → Q m') : PX3_judgeSurest 60 (nI (brN ρ κ R n)) m Q := by
  rw [sureL_s] at h
  have p2 := p2_le (n := n) (by omega)
  have bR := br_le (κ := κ) (R := R) (n := n) (m := 2 ^ n) hw (by omega)
  have bR2 : brN ρ κ R n ≤ 128 * 16384 := Nat.le_trans bR (Nat.mul_le_mul_right _ p2)
  have better : sureS ρ κ n (sureL ρ κ n L) R = some R → ∀ m2 : Mem, m2 = mr (ms m 60 13 (nI (brN ρ κ R n))) (60 + 34) (va_cpy ((ms m 60 13 (nI (brN ρ κ R n))).1 (60 + 26)) ((ms m 60 13 (nI (brN ρ κ R n))).1 (60 + 34)) (0 : Int32).toNatClampNeg (0 : Int32).toNatClampNeg (5 : Int32).toNatClampNeg) → Q m2 := by
    intro eb m2 hm2
    rw [eb] at h
    refine h _ ⟨?_, fun i hi => ?_⟩ ⟨fun a j q0 q => ?_, fun a j => ?_⟩
    · rw [hm2, mr_1, if_neg (by decide), ms_1, if_pos rfl, if_pos rfl]
    · rw [hm2, mr_1, if_pos rfl]
      have := sb_cpy0 (f := (ms m 60 13 (nI (brN ρ κ R n))).1 86) (g := (ms m 60 13 (nI (brN ρ κ R n))).1 94) (n := 5) (j := i) (by omega)
      refine Eq.trans this ?_
      rw [ms_1, if_neg (by decide)]
      exact hp i hi
    · rw [hm2, mr_1, if_neg q0, ms_1]
      by_cases c : a = 60
      · rw [if_pos c, if_neg (q c)]
      · rw [if_neg c]
    · rw [hm2, mr_2, ms_2]
  unfold PX3_judgeSurest
  cases eb : sureL ρ κ n L with
  | none =>
    rw [eb] at hb better
    have hb' : m.1 60 13 = -1 := hb
    rw [hb']
    refine ⟨fun c => ?_, fun _ => better rfl⟩
    have := Int32.le_iff_toInt_le.mp c
    rw [nI_toInt (by omega), show (-1 : Int32).toInt = -1 from by decide] at this
    omega
  | some P =>
    have bP := br_le (κ := κ) (R := P) (n := n) (m := 2 ^ n) hw (by omega)
    have bP2 : brN ρ κ P n ≤ 128 * 16384 := Nat.le_trans bP (Nat.mul_le_mul_right _ p2)
    rw [eb] at hb better h
    obtain ⟨h1, h2⟩ := hb
    rw [h1, nI_leI (by omega) (by omega)]
    refine ⟨fun c => ?_, fun c => better (if_pos (by omega))⟩
    have eb2 : sureS ρ κ n (some P) R = some P := if_neg (by omega)
    rw [eb2] at h
    exact h m ⟨h1, h2⟩ ⟨fun _ _ _ _ => rfl, fun _ _ => rfl⟩
