theorem nI_m1 (d : Nat) : nI d - (1 : Int32) = dI d := by
  cases d with
  | zero => decide
  | succ d => exact nI_pred d
def AccT : Type := List (Nat → Option Nat) → Mem → Prop
def Astab (A : List (Nat → Option Nat) → Mem → Prop) : Prop := ∀ (L : List (Nat → Option Nat)) (m m' : Mem), A L m → (∀ a j : Nat, a ≠ 116 → a ≠ 117 → a ≠ 119 → (a = 100 → j ≠ 41) → (a = 114 → 240 ≤ j) → m'.1 a j = m.1 a j) → A L m'
def DRs (A : List (Nat → Option Nat) → Mem → Prop) (ρ : RA) (κ : KA) (d : Nat) (P : Nat → Option Nat) (L : List (Nat → Option Nat)) (m : Mem) : Prop := MR m ρ ∧ KM m 280 κ ∧ (∀ j : Nat, j ≤ d → KMx m (40 * j) (kAt ρ κ P 0 j)) ∧ (∀ j : Nat, j < d → m.1 119 j = oI (P j)) ∧ (∀ j s : Nat, P j = some s → s < ρ 0 4) ∧ A L m
def NLp (n : Nat) (Q : Int32 → Mem → Prop) (m : Mem) : Prop := ∀ S18 : Mem → Prop, (∀ μ : Mem, nX7_nextRow_18 100 (nI n) Q S18 μ → S18 μ) → S18 m
theorem DR_pk {A : List (Nat → Option Nat) → Mem → Prop} {ρ : RA} {κ : KA} {d : Nat} {P : Nat → Option Nat} {L : List (Nat → Option Nat)} {m m' : Mem} (hA : Astab A) (hd : d < 5) (h : DRs A ρ κ d P L m) (f : FPk d m m') : DRs A ρ κ d P L m' := by
  obtain ⟨h1, h2, h3, h4, h5, h6⟩ := h
  refine ⟨MR_pk h1 f, KM_of h2 (fun j hj => f 114 _ (by decide) (by decide) (by simp) (fun _ => by omega)), fun j hj => KMx_of (h3 j hj) (fun i hi => f 114 _ (by decide) (by decide) (by simp) (fun _ => by omega)), fun j hj => (f 119 j (by decide) (by decide) (fun _ => by omega) (by simp)).trans (h4 j hj), h5, hA L m m' h6 (fun a j q1 q2 q3 q4 q5 => f a j q1 q2 (fun z => absurd z q3) (fun z => by have := q5 z; omega))⟩
theorem DR_pick {A : List (Nat → Option Nat) → Mem → Prop} {ρ : RA} {κ : KA} {d : Nat} {P : Nat → Option Nat} {o : Option Nat} {L : List (Nat → Option Nat)} {m m' : Mem} (hA : Astab A) (hd : d < 5) (ho : ∀ s : Nat, o = some s → s < ρ 0 4) (h : DRs A ρ κ d P L m) (f : FPk d m m') (hp : m'.1 119 d = oI o) (hk : KMx m' (40 * (d + 1)) (stepK ρ (kAt ρ κ P 0 d) o 0)) : DRs A ρ κ (d + 1) (setP P d o) L m' := by
  obtain ⟨h1, h2, h3, h4, h5, h6⟩ := DR_pk hA hd h f
  refine ⟨h1, h2, fun j hj => ?_, fun j hj => ?_, fun j s e => ?_, h6⟩
  · by_cases c : j = d + 1
    · rw [c, kAt_set]; exact hk
    · rw [kAt_pre (P' := P) j (fun i hi => setP_ne (by omega))]
      exact h3 j (by omega)
  · by_cases c : j = d
    · rw [c, setP_eq]; exact hp
    · rw [setP_ne c]; exact h4 j (by omega)
  · by_cases c : j = d
    · rw [c, setP_eq] at e; exact ho s e
    · rw [setP_ne c] at e; exact h5 j s e
theorem DR_deep {A : List (Nat → Option Nat) → Mem → Prop} {ρ : RA} {κ : KA} {d : Nat} {P : Nat → Option Nat} {L : List (Nat → Option Nat)} {m : Mem} {v : Int32} (hA : Astab A) (h : DRs A ρ κ d P L m) : DRs A ρ κ d P L (ms m 100 41 v) := by
  obtain ⟨h1, h2, h3, h4, h5, h6⟩ := h
  have e : ∀ a j : Nat, (a = 100 → j ≠ 41) → (ms m 100 41 v).1 a j = m.1 a j := fun a j q => by
    rw [ms_1]
    by_cases c : a = 100
    · rw [if_pos c, if_neg (q c), c]
    · rw [if_neg c]
  exact ⟨MR_of h1 (fun a j q => e a j (fun z => by omega)), KM_of h2 (fun j hj => e _ _ (by simp)), fun j hj => KMx_of (h3 j hj) (fun i hi => e _ _ (by simp)), fun j hj => (e _ _ (by simp)).trans (h4 j hj), h5, hA L m _ h6 (fun a j _ _ _ q4 _ => e a j q4)⟩
theorem DR_mark {A : List (Nat → Option Nat) → Mem → Prop} {ρ : RA} {κ : KA} {d : Nat} {P : Nat → Option Nat} {L : List (Nat → Option Nat)} {m : Mem} {v : Int32} (hA : Astab A) (h : DRs A ρ κ d P L m) : DRs A ρ κ d P L (ms m 119 d v) := by
  obtain ⟨h1, h2, h3, h4, h5, h6⟩ := h
  have e : ∀ a j : Nat, (a = 119 → j ≠ d) → (ms m 119 d v).1 a j = m.1 a j := fun a j q => by
    rw [ms_1]
    by_cases c : a = 119
    · rw [if_pos c, if_neg (q c), c]
    · rw [if_neg c]
  exact ⟨MR_of h1 (fun a j q => e a j (fun z => by omega)), KM_of h2 (fun j hj => e _ _ (by simp)), fun j hj => KMx_of (h3 j hj) (fun i hi => e _ _ (by simp)), fun j hj => (e _ _ (fun _ => by omega)).trans (h4 j hj), h5, hA L m _ h6 (fun a j _ _ q3 _ _ => e a j (fun z => absurd z q3))⟩
theorem DR_up {A : List (Nat → Option Nat) → Mem → Prop} {ρ : RA} {κ : KA} {d : Nat} {P : Nat → Option Nat} {o : Option Nat} {L : List (Nat → Option Nat)} {m : Mem} (hs : ∀ j s : Nat, P j = some s → s < ρ 0 4) (h : DRs A ρ κ (d + 1) (setP P d o) L m) : DRs A ρ κ d P L m ∧ m.1 119 d = oI o := by
  obtain ⟨h1, h2, h3, h4, h5, h6⟩ := h
  refine ⟨⟨h1, h2, fun j hj => ?_, fun j hj => ?_, hs, h6⟩, ?_⟩
  · have := h3 j (by omega)
    rw [kAt_pre (P' := P) j (fun i hi => setP_ne (by omega))] at this
    exact this
  · have := h4 j (by omega)
    rw [setP_ne (by omega)] at this
    exact this
  · have := h4 d (by omega)
    rw [setP_eq] at this
    exact this
def ChildR (A : List (Nat → Option Nat) → Mem → Prop) (ρ : RA) (κ : KA) (n q d : Nat) (P : Nat → Option Nat) (Qf : List (Nat → Option Nat) → Int32 → Mem → Prop) : Prop := ∀ (o : Option Nat) (L : List (Nat → Option Nat)) (m1 : Mem), DRs A ρ κ (d + 1) (setP P d o) L m1 → m1.1 100 41 = nI (d + 1) → (q ≠ 0 → m1.1 119 (d + 1) = dI 0) → L.length + 9 ^ q ≤ 60000 → (∀ m' : Mem, DRs A ρ κ (d + 1) (setP P d o) (L ++ rowsF ρ κ q (d + 1) (setP P d o)) m' → m'.1 100 41 = nI d → NLp n (Qf (L ++ rowsF ρ κ q (d + 1) (setP P d o))) m') → NLp n (Qf L) m1
def LevelR (A : List (Nat → Option Nat) → Mem → Prop) (ρ : RA) (κ : KA) (n q d : Nat) (P : Nat → Option Nat) (Qf : List (Nat → Option Nat) → Int32 → Mem → Prop) : Prop := ∀ (L : List (Nat → Option Nat)) (m : Mem), DRs A ρ κ d P L m → m.1 119 d = dI 0 → m.1 100 41 = nI d → L.length + 9 ^ (q + 1) ≤ 60000 → (∀ m' : Mem, DRs A ρ κ d P (L ++ rowsF ρ κ (q + 1) d P) m' → m'.1 100 41 = dI d → NLp n (Qf (L ++ rowsF ρ κ (q + 1) d P)) m') → NLp n (Qf L) m
set_option maxHeartbeats 2000000 in
theorem r_level {A : List (Nat → Option Nat) → Mem → Prop} {n q d B D : Nat} {κ : KA} {ρ : RA} {P : Nat → Option Nat} {Qf : List (Nat → Option Nat) → Int32 → Mem → Prop} (hA : Astab A) (hw : RW ρ) (hk : KW κ B D) (hB : B ≤ 80000) (hD : D ≤ 90000) (hn : n ≤ 5) (hdn : d + (q + 1) = n) (child : ChildR A ρ κ n q d P Qf) : LevelR A ρ κ n q d P Qf := by
  have s9 := hw.2.1
  intro L m hdi hpl hdeep hlen hnx
  have hkd := kAt_KW (R := P) (g := 0) hw hk d
  have eP : 9 ^ (q + 1) = 9 ^ q * 9 := Nat.pow_succ 9 q
  have hps : ∀ j s : Nat, P j = some s → s < ρ 0 4 := hdi.2.2.2.2.1
  -- a call of picks at this depth
  have stepin : ∀ (L : List (Nat → Option Nat)) (m : Mem), m.1 100 41 = nI d → (∀ S : Mem → Prop, (∀ μ : Mem, nX7_nextRow_18 100 (nI n) (Qf L) S μ → S μ) → PX7_picks 100 (nI d) m (fun (r5 : Int32) (m4 : Mem) => (r5 = 0 → S (ms m4 100 41 ((m4.1 100 41) - ((1 : Int32))))) ∧ (¬ r5 = 0 → (nI n ≤ ((ms m4 100 41 ((m4.1 100 41) + ((1 : Int32)))).1 100 41) → S (ms m4 100 41 ((m4.1 100 41) + ((1 : Int32))))) ∧ (¬ nI n ≤ ((ms m4 100 41 ((m4.1 100 41) + ((1 : Int32)))).1 100 41) → vp_in ((ms m4 100 41 ((m4.1 100 41) + ((1 : Int32)))).1 100 41) 7 ∧ (∀ m8 : Mem, m8 = ms (ms m4 100 41 ((m4.1 100 41) + ((1 : Int32)))) (100 + 19) ((ms m4 100 41 ((m4.1 100 41) + ((1 : Int32)))).1 100 41).toNatClampNeg ((-1 : Int32)) → (S m8)))))) → NLp n (Qf L) m := by
    intro L m hdeep hp S hS
    apply hS
    unfold nX7_nextRow_18
    rw [hdeep]
    exact ⟨fun c => absurd c (nI_pos (by omega)), fun _ => ⟨fun c => absurd c (nI_ge (by omega) (by omega)), fun _ => hp S hS⟩⟩
  -- picks says no
  have no : ∀ (L : List (Nat → Option Nat)) (m m4 : Mem) (S : Mem → Prop), (∀ μ : Mem, nX7_nextRow_18 100 (nI n) (Qf L) S μ → S μ) → m.1 100 41 = nI d → DRs A ρ κ d P L m → FPk d m m4 → (∀ m' : Mem, DRs A ρ κ d P L m' → m'.1 100 41 = dI d → NLp n (Qf L) m') → S (ms m4 100 41 ((m4.1 100 41) - ((1 : Int32)))) := by
    intro L m m4 S hS hdeep hdi f hnx
    have e : m4.1 100 41 = nI d := (f 100 41 (by decide) (by decide) (by simp) (by simp)).trans hdeep
    rw [e, nI_m1]
    exact hnx _ (DR_deep hA (DR_pk hA (by omega) hdi f)) (by rw [ms_1, if_pos rfl, if_pos rfl]) S hS
  -- picks says yes
  have yes : ∀ (o : Option Nat) (L : List (Nat → Option Nat)) (m4 : Mem) (S : Mem → Prop), (∀ μ : Mem, nX7_nextRow_18 100 (nI n) (Qf L) S μ → S μ) → m4.1 100 41 = nI d → DRs A ρ κ (d + 1) (setP P d o) L m4 → L.length + 9 ^ q ≤ 60000 → (∀ m' : Mem, DRs A ρ κ (d + 1) (setP P d o) (L ++ rowsF ρ κ q (d + 1) (setP P d o)) m' → m'.1 100 41 = nI d → NLp n (Qf (L ++ rowsF ρ κ q (d + 1) (setP P d o))) m') → (nI n ≤ ((ms m4 100 41 ((m4.1 100 41) + ((1 : Int32)))).1 100 41) → S (ms m4 100 41 ((m4.1 100 41) + ((1 : Int32))))) ∧ (¬ nI n ≤ ((ms m4 100 41 ((m4.1 100 41) + ((1 : Int32)))).1 100 41) → vp_in ((ms m4 100 41 ((m4.1 100 41) + ((1 : Int32)))).1 100 41) 7 ∧ (∀ m8 : Mem, m8 = ms (ms m4 100 41 ((m4.1 100 41) + ((1 : Int32)))) (100 + 19) ((ms m4 100 41 ((m4.1 100 41) + ((1 : Int32)))).1 100 41).toNatClampNeg ((-1 : Int32)) → (S m8))) := by
    intro o L m4 S hS e hd4 hl hx
    have hd5 : DRs A ρ κ (d + 1) (setP P d o) L (ms m4 100 41 (nI (d + 1))) := DR_deep hA hd4
    have e1 : (ms m4 100 41 (nI (d + 1))).1 100 41 = nI (d + 1) := by rw [ms_1, if_pos rfl, if_pos rfl]
    rw [e, nI_1, e1, nI_clamp (by omega)]
    refine ⟨fun c => ?_, fun c => ⟨vp_in_nI (by omega) (by omega), fun m8 hm8 => ?_⟩⟩
    · have c2 := (nI_leI (by omega) (by omega)).1 c
      exact child o L _ hd5 e1 (fun z => by omega) hl hx S hS
    · have hm8' : m8 = ms (ms m4 100 41 (nI (d + 1))) 119 (d + 1) (-1) := hm8
      rw [hm8']
      exact child o L _ (DR_mark hA hd5) (by rw [ms_1, if_neg (by decide)]; exact e1) (fun _ => by rw [ms_1, if_pos rfl, if_pos rfl]; rfl) hl hx S hS
  by_cases hout : bitN (ρ 0 14) ((kAt ρ κ P 0 d).date % 7) = 1
  · have er : rowsF ρ κ (q + 1) d P = rowsF ρ κ q (d + 1) (setP P d none) := by
      conv => lhs; unfold rowsF
      rw [if_pos hout]
    rw [er] at hnx
    refine stepin L m hdeep (fun S hS => ?_)
    refine r_picks hdi.1 hw (by omega) (hdi.2.2.1 d (Nat.le_refl _)) hkd (by omega) (by omega) (fun _ _ m4 f4 p4 k4 => ⟨fun c => absurd c (by decide), fun _ => ?_⟩) (fun _ c => absurd hpl c) (fun c => absurd hout c)
    have e4 : m4.1 100 41 = nI d := (f4 100 41 (by decide) (by decide) (by simp) (by simp)).trans hdeep
    refine yes none L m4 S hS e4 (DR_pick hA (by omega) (fun s e => by cases e) hdi f4 p4 k4) (by omega) (fun m' hd' hdeep' => ?_)
    obtain ⟨hd2, hp2⟩ := DR_up hps hd'
    refine stepin _ m' hdeep' (fun S' hS' => ?_)
    refine r_picks hd2.1 hw (by omega) (hd2.2.2.1 d (Nat.le_refl _)) hkd (by omega) (by omega) (fun _ c => absurd (hp2.symm.trans c) (by decide)) (fun _ _ m5 f5 => ⟨fun _ => ?_, fun c => absurd rfl c⟩) (fun c => absurd hout c)
    refine no _ m' m5 S' hS' hdeep' hd2 f5 (fun m6 q1 q2 => ?_)
    exact hnx m6 q1 q2
  · have er : rowsF ρ κ (q + 1) d P = catN (fun s => if whyN ρ (kAt ρ κ P 0 d) s 0 = 0 then rowsF ρ κ q (d + 1) (setP P d (some s)) else []) (ρ 0 4) 0 := by
      conv => lhs; unfold rowsF
      rw [if_neg hout]
    rw [er] at hnx
    have loop : ∀ (c p : Nat) (L : List (Nat → Option Nat)) (m : Mem), p + c = ρ 0 4 → DRs A ρ κ d P L m → m.1 119 d = dI p → m.1 100 41 = nI d → L.length + c * 9 ^ q ≤ 60000 → (∀ m' : Mem, DRs A ρ κ d P (L ++ catN (fun s => if whyN ρ (kAt ρ κ P 0 d) s 0 = 0 then rowsF ρ κ q (d + 1) (setP P d (some s)) else []) c p) m' → m'.1 100 41 = dI d → NLp n (Qf (L ++ catN (fun s => if whyN ρ (kAt ρ κ P 0 d) s 0 = 0 then rowsF ρ κ q (d + 1) (setP P d (some s)) else []) c p)) m') → NLp n (Qf L) m := by
      intro c
      induction c using Nat.strongRecOn with
      | _ c ih =>
        intro p L m hpc hdi hpl hdeep hlen hnx
        refine stepin L m hdeep (fun S hS => ?_)
        refine r_picks hdi.1 hw (by omega) (hdi.2.2.1 d (Nat.le_refl _)) hkd (by omega) (by omega) (fun z => absurd z hout) (fun z => absurd z hout) (fun _ => ⟨p, by omega, hpl, fun s hs1 hs2 hno hyes m4 f4 p4 k4 => ⟨fun z => absurd z (by decide), fun _ => ?_⟩, fun hno m4 f4 => ⟨fun _ => ?_, fun z => absurd rfl z⟩⟩)
        · have hm : (ρ 0 4 - (s + 1) + 1) * 9 ^ q ≤ c * 9 ^ q := Nat.mul_le_mul_right _ (by omega)
          have hm3 : (ρ 0 4 - (s + 1) + 1) * 9 ^ q = (ρ 0 4 - (s + 1)) * 9 ^ q + 9 ^ q := Nat.succ_mul _ _
          have ec := catN_skip (f := fun s => if whyN ρ (kAt ρ κ P 0 d) s 0 = 0 then rowsF ρ κ q (d + 1) (setP P d (some s)) else []) (s := s) (c' := ρ 0 4 - (s + 1)) c p hs1 (by omega) (fun z z1 z2 => if_neg (hno z z1 z2))
          rw [if_pos hyes] at ec
          have hlr := rowsF_len (κ := κ) hw q (d + 1) (setP P d (some s))
          have e4 : m4.1 100 41 = nI d := (f4 100 41 (by decide) (by decide) (by simp) (by simp)).trans hdeep
          refine yes (some s) L m4 S hS e4 (DR_pick hA (by omega) (fun y e => by cases e; exact hs2) hdi f4 p4 k4) (by omega) (fun m' hd' hdeep' => ?_)
          obtain ⟨hd2, hp2⟩ := DR_up hps hd'
          refine ih (ρ 0 4 - (s + 1)) (by omega) (s + 1) _ m' (by omega) hd2 hp2 hdeep' (by rw [List.length_append]; omega) (fun m2 q1 q2 => ?_)
          rw [ec, ← List.append_assoc] at hnx
          exact hnx m2 q1 q2
        · have ec := catN_nil (f := fun s => if whyN ρ (kAt ρ κ P 0 d) s 0 = 0 then rowsF ρ κ q (d + 1) (setP P d (some s)) else []) c p (fun z z1 z2 => if_neg (hno z z1 (by omega)))
          refine no L m m4 S hS hdeep hdi f4 (fun m6 q1 q2 => ?_)
          rw [ec, List.append_nil] at hnx
          exact hnx m6 q1 q2
    have hm : ρ 0 4 * 9 ^ q ≤ 9 * 9 ^ q := Nat.mul_le_mul_right _ s9
    exact loop (ρ 0 4) 0 L m (by omega) hdi hpl hdeep (by omega) hnx
/-- what is done with a row that may be -/
def BodyR (A : List (Nat → Option Nat) → Mem → Prop) (ρ : RA) (κ : KA) (n : Nat) (Qf : List (Nat → Option Nat) → Int32 → Mem → Prop) : Prop := ∀ (P : Nat → Option Nat) (L : List (Nat → Option Nat)) (m : Mem), DRs A ρ κ n P L m → m.1 100 41 = nI n → L.length + 1 ≤ 60000 → (∀ m' : Mem, DRs A ρ κ n P (L ++ [P]) m' → m'.1 100 41 = nI n → PX7_nextRow 100 (nI n) m' (Qf (L ++ [P]))) → Qf L 1 m
theorem r_dfs {A : List (Nat → Option Nat) → Mem → Prop} {n B D : Nat} {κ : KA} {ρ : RA} {Qf : List (Nat → Option Nat) → Int32 → Mem → Prop} (hA : Astab A) (hw : RW ρ) (hk : KW κ B D) (hB : B ≤ 80000) (hD : D ≤ 90000) (hn : n ≤ 5) (hbody : BodyR A ρ κ n Qf) : ∀ (q d : Nat) (P : Nat → Option Nat), d + (q + 1) = n → LevelR A ρ κ n q d P Qf := by
  intro q
  induction q with
  | zero =>
    intro d P hdn
    refine r_level hA hw hk hB hD hn hdn (fun o L m1 a1 a2 _ a3 a4 => ?_)
    have e : d + 1 = n := by omega
    rw [e] at a1 a2 a4
    intro S hS
    apply hS
    unfold nX7_nextRow_18 nX7_nextRow_88
    rw [a2]
    have fin : Qf L 1 m1 := by
      refine hbody (setP P d o) L m1 a1 a2 a3 (fun m' b1 b2 => ?_)
      intro S' hS'
      refine ⟨fun c => absurd b2 c, fun _ => ?_⟩
      rw [b2, nI_m1, ← e]
      have b1' : DRs A ρ κ n (setP P d o) (L ++ rowsF ρ κ 0 n (setP P d o)) (ms m' 100 41 (nI d)) := DR_deep hA b1
      exact a4 _ b1' (by rw [ms_1, if_pos rfl, if_pos rfl]) S' hS'
    exact ⟨fun c => absurd c (nI_pos (by omega)), fun _ => ⟨fun _ => ⟨fun c => absurd rfl c, fun _ => fin⟩, fun c => absurd (nI_le (Nat.le_refl _) (by omega)) c⟩⟩
  | succ q ihq =>
    intro d P hdn
    refine r_level hA hw hk hB hD hn hdn (fun o L m1 a1 a2 a3 a4 a5 => ?_)
    exact ihq (d + 1) (setP P d o) (by omega) L m1 a1 (a3 (Nat.succ_ne_zero _)) a2 a4 a5
theorem r_rows {A : List (Nat → Option Nat) → Mem → Prop} {μ : Mem} {n B D : Nat} {κ : KA} {ρ : RA} {Qf : List (Nat → Option Nat) → Int32 → Mem → Prop} {T : Mem → Prop} (hT : ∀ m : Mem, PX7_nextRow 100 (nI n) m (Qf []) → T m) (hA : Astab A) (hR : MR μ ρ) (hw : RW ρ) (hK : KM μ 280 κ) (hk : KW κ B D) (hB : B ≤ 80000) (hD : D ≤ 90000) (hn0 : 1 ≤ n) (hn : n ≤ 5) (h0 : A [] μ) (hbody : BodyR A ρ κ n Qf) (hend : ∀ m : Mem, MR m ρ → KM m 280 κ → A (rowsN ρ κ n) m → Qf (rowsN ρ κ n) 0 m) : PX7_beginRows 100 μ T := by
  unfold PX7_beginRows
  rw [show (0 : Int32) = nI 0 from rfl]
  refine r_begins hK (by omega) (fun m1 hK1 f1 => ⟨vp_in_nI (by omega) (by omega), fun m3 hm3 => ?_⟩)
  rw [nI_clamp (by omega)] at hm3
  have hm3' : m3 = ms (ms m1 100 41 (nI 0)) 119 0 (-1) := hm3
  obtain ⟨q, rfl⟩ : ∃ q : Nat, n = q + 1 := ⟨n - 1, by omega⟩
  have hp := p9_le (q := q + 1) hn
  have hd1 : DRs A ρ κ 0 (fun _ => none) [] m1 := ⟨MR_fr hR f1, KM_fr hK f1 (by omega), fun j hj => by
    have : j = 0 := by omega
    subst this
    exact ⟨none, hK1⟩, fun j hj => absurd hj (Nat.not_lt_zero _), fun j s e => (by cases e), hA [] μ m1 h0 (fun a j q1 q2 _ _ q5 => f1.1 a j q1 q2 (fun z => by have := q5 z; omega))⟩
  have hd3 : DRs A ρ κ 0 (fun _ => none) [] m3 := by rw [hm3']; exact DR_mark hA (DR_deep hA hd1)
  have e41 : m3.1 100 41 = nI 0 := by rw [hm3', ms_1, if_neg (by decide), ms_1, if_pos rfl, if_pos rfl]
  have e119 : m3.1 119 0 = dI 0 := by rw [hm3', ms_1, if_pos rfl, if_pos rfl]; rfl
  refine hT m3 ?_
  intro S hS
  rw [e41]
  refine ⟨fun _ => ?_, fun c => ?_⟩
  · refine r_dfs hA hw hk hB hD hn hbody q 0 (fun _ => none) (by omega) [] m3 hd3 e119 e41 (by show 0 + _ ≤ _; omega) (fun m' b1 b2 => ?_) S hS
    intro S' hS'
    apply hS'
    unfold nX7_nextRow_18 nX7_nextRow_88
    rw [b2]
    have fin : Qf (rowsN ρ κ (q + 1)) 0 m' := hend m' b1.1 b1.2.1 b1.2.2.2.2.2
    have neq : ¬ dI 0 = nI (q + 1) := fun c => by
      have := congrArg Int32.toInt c
      rw [nI_toInt (by omega), show (dI 0).toInt = -1 from by decide] at this
      omega
    exact ⟨fun _ => ⟨fun _ => fin, fun c => absurd c neq⟩, fun c => absurd dI_neg c⟩
  · exact absurd ((nI_eq (by omega) (by omega)).1 c) (by omega)
