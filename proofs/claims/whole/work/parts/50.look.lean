theorem catN_nil {α : Type} {f : Nat → List α} : ∀ c p : Nat, (∀ z : Nat, p ≤ z → z < p + c → f z = []) → catN f c p = []
  | 0, _, _ => rfl
  | c + 1, p, h => by
    unfold catN
    rw [h p (by omega) (by omega), catN_nil c (p + 1) (fun z h1 h2 => h z (by omega) (by omega))]
    rfl
theorem catN_skip {α : Type} {f : Nat → List α} {s c' : Nat} : ∀ c p : Nat, p ≤ s → p + c = s + 1 + c' → (∀ z : Nat, p ≤ z → z < s → f z = []) → catN f c p = f s ++ catN f c' (s + 1)
  | 0, p, h1, h2, _ => by omega
  | c + 1, p, h1, h2, h => by
    by_cases e : p = s
    · subst e
      have : c = c' := by omega
      rw [this]; rfl
    · show f p ++ catN f c (p + 1) = _
      rw [h p (by omega) (by omega), List.nil_append]
      exact catN_skip (s := s) (c' := c') c (p + 1) (by omega) (by omega) (fun z h1 h2 => h z (by omega) h2)
theorem DI_set {μ : Mem} {ρ : RA} {κ : KA} {n w d : Nat} {P : Nat → Option Nat} {L : List (Nat → Option Nat)} {m : Mem} {v : Int32} (h : DI μ ρ κ n w d P L m) (hd : d < 5) : DI μ ρ κ n w d P L (ms m 86 d v) := by
  obtain ⟨h1, h2, h3, h4, h5⟩ := h
  refine ⟨fun a j q => ?_, fun j hj => KCx_eq (h2 j hj) (fun a i q1 q2 => ?_), fun j hj => ?_, h4, ACs_fr h5 (fun a j q => ?_) (fun j => rfl)⟩
  · rw [ms_1, if_neg (by omega)]; exact h1 a j q
  · rw [ms_1, if_neg (by omega)]
  · rw [ms_1, if_pos rfl, if_neg (by omega)]; exact h3 j hj
  · rw [ms_1, if_neg (by omega)]
set_option maxHeartbeats 1000000 in
theorem c_visit {μ m : Mem} {r n w d step B D : Nat} {κ : KA} {ρ : RA} {P : Nat → Option Nat} {o : Option Nat} {L : List (Nat → Option Nat)} {Q : Mem → Prop} {S : Int32 → Int32 → Mem → Prop} (hR : CR μ r ρ) (hr : r + 12 ≤ 40) (hw : RW ρ) (hk : KW κ B D) (hB : B ≤ 80000) (hD : D ≤ 90000) (hd : d < 5) (ho : ∀ s : Nat, o = some s → s < ρ 0 4) (hdi : DI μ ρ κ n w d P L m) (h : ∀ m1 : Mem, DI μ ρ κ n w (d + 1) (setP P d o) L m1 → bodyC r n w d step Q S m1) : vp_in (nI d) 5 ∧ PX3_takeDay 60 r (nI d) (oI o) (ms m (60 + 26) (nI d).toNatClampNeg (oI o)) (fun m11 => bodyC r n w d step Q S m11) := by
  have s9 := hw.2.1
  refine ⟨vp_in_nI (by omega) (by omega), ?_⟩
  rw [nI_clamp (by omega)]
  have hdi2 : DI μ ρ κ n w d P L (ms m 86 d (oI o)) := DI_set hdi hd
  obtain ⟨h1, h2, h3, h4, h5⟩ := hdi2
  have hRm := CR_of hR (m := ms m 86 d (oI o)) (fun a j _ _ => h1 a j (by omega))
  have hkd := kAt_KW (R := P) (g := 0) hw hk d
  refine c_takeDay hRm hr hw hd (h2 d (Nat.le_refl _)) hkd (by omega) (by omega) (fun s e => by have := ho s e; omega) (fun m' a1 f => ?_)
  refine h m' ⟨FJ_trans h1 (FJ_I f (by omega) (by omega)), fun j hj => ?_, fun j hj => ?_, fun j s e => ?_, ACs_fr h5 (fun a j q => f.1 a (by omega) j) (fun j => by rw [f.2])⟩
  · by_cases c : j = d + 1
    · rw [c, kAt_set]; exact a1
    · rw [kAt_pre (P' := P) j (fun i hi => setP_ne (by omega))]
      exact KCx_eq (h2 j (by omega)) (fun a i q1 q2 => f.1 a (by omega) i)
  · rw [f.1 86 (by omega) j]
    by_cases c : j = d
    · rw [c, setP_eq]
      show (ms m 86 d (oI o)).1 86 d = _
      rw [ms_1, if_pos rfl, if_pos rfl]
    · rw [setP_ne c]; exact h3 j (by omega)
  · by_cases c : j = d
    · rw [c, setP_eq] at e; exact ho s e
    · rw [setP_ne c] at e; exact h4 j s e
def ChildC (μ : Mem) (ρ : RA) (κ : KA) (r n w q d : Nat) (P : Nat → Option Nat) (Q : Mem → Prop) (S : Int32 → Int32 → Mem → Prop) : Prop := ∀ (o : Option Nat) (L : List (Nat → Option Nat)) (m1 : Mem) (step : Nat), DI μ ρ κ n w (d + 1) (setP P d o) L m1 → L.length + 9 ^ q ≤ 60000 → step + 1 + Tn q ≤ 1000000 → (∀ (m' : Mem) (step' : Nat), step' ≤ step + 1 + Tn q → DI μ ρ κ n w (d + 1) (setP P d o) (L ++ rowsF ρ κ q (d + 1) (setP P d o)) m' → S (nI d) (nI step') m') → bodyC r n w d step Q S m1
def LevelC (μ : Mem) (ρ : RA) (κ : KA) (n w q d : Nat) (P : Nat → Option Nat) (S : Int32 → Int32 → Mem → Prop) : Prop := ∀ (L : List (Nat → Option Nat)) (m : Mem) (step : Nat), DI μ ρ κ n w d P L m → m.1 86 d = dI 0 → L.length + 9 ^ (q + 1) ≤ 60000 → step + Tn (q + 1) ≤ 1000000 → (∀ (m' : Mem) (step' : Nat), step' ≤ step + Tn (q + 1) → DI μ ρ κ n w d P (L ++ rowsF ρ κ (q + 1) d P) m' → S (dI d) (nI step') m') → S (nI d) (nI step) m
set_option maxHeartbeats 2000000 in
theorem c_level {μ : Mem} {r n w q d B D : Nat} {κ : KA} {ρ : RA} {P : Nat → Option Nat} {Q : Mem → Prop} {S : Int32 → Int32 → Mem → Prop} (hR : CR μ r ρ) (hr : r + 12 ≤ 40) (hw : RW ρ) (hk : KW κ B D) (hB : B ≤ 80000) (hD : D ≤ 90000) (hn : n ≤ 5) (hdn : d + (q + 1) = n) (hS : ∀ (v5 : Int32) (v6 : Int32) (m : Mem), nX3_lookAtRows_27 60 r 40 (nI n) (nI w) Q S v5 v6 m → S v5 v6 m) (child : ChildC μ ρ κ r n w q d P Q S) : LevelC μ ρ κ n w q d P S := by
  have s9 := hw.2.1
  intro L m step hdi hpl hlen hstep hnx
  have hkd := kAt_KW (R := P) (g := 0) hw hk d
  have eT : Tn (q + 1) = 10 + 9 * Tn q := rfl
  have eP : 9 ^ (q + 1) = 9 ^ q * 9 := Nat.pow_succ 9 q
  have hps : ∀ j s : Nat, P j = some s → s < ρ 0 4 := hdi.2.2.2.1
  have stepin : ∀ (m : Mem) (step : Nat), FJ 60 96 μ m → step < 1000000 → PX3_following 60 r (nI d) m (fun (r9 : Int32) (m8 : Mem) => (¬ r9 = ((-2 : Int32)) → vp_in (nI d) 5 ∧ PX3_takeDay 60 r (nI d) r9 (ms m8 (60 + 26) (nI d).toNatClampNeg r9) (fun (m11 : Mem) => bodyC r n w d step Q S m11)) ∧ (r9 = ((-2 : Int32)) → S (dI d) (nI (step + 1)) m8)) → S (nI d) (nI step) m := by
    intro m step _ hst hf
    apply hS
    unfold nX3_lookAtRows_27
    refine ⟨fun c => absurd c (nI_ge (b := 1000000) hst (by omega)), fun _ => ⟨fun c => absurd c (nI_pos (by omega)), fun _ => ?_⟩⟩
    unfold bodyC at hf
    unfold nX3_lookAtRows_131 at hf ⊢
    rw [dI_s, nI_1 step] at *
    exact hf
  have ne2 : ∀ o : Option Nat, (∀ s : Nat, o = some s → s < ρ 0 4) → ¬ oI o = (-2 : Int32) := by
    intro o ho c
    cases o with
    | none => exact absurd c (by decide)
    | some s =>
      have := ho s rfl
      have c2 : (nI s).toInt = (-2 : Int32).toInt := congrArg Int32.toInt c
      rw [nI_toInt (by omega), show (-2 : Int32).toInt = -2 from by decide] at c2
      omega
  by_cases hout : bitN (ρ 0 14) ((kAt ρ κ P 0 d).date % 7) = 1
  · have er : rowsF ρ κ (q + 1) d P = rowsF ρ κ q (d + 1) (setP P d none) := by
      conv => lhs; unfold rowsF
      rw [if_pos hout]
    have hRm := CR_of hR (m := m) (fun a j _ _ => hdi.1 a j (by omega))
    refine stepin m step hdi.1 (by omega) ?_
    refine c_following hRm hw (by omega) (hdi.2.1 d (Nat.le_refl _)) hkd (by omega) (by omega) (fun _ _ => ⟨fun _ => ?_, fun c => absurd c (by decide)⟩) (fun _ c => absurd hpl c) (fun c => absurd hout c)
    refine c_visit hR hr hw hk hB hD (by omega) (fun s e => by cases e) hdi (fun m1 hd1 => ?_)
    refine child none L m1 step hd1 (by omega) (by omega) (fun m' step' hs' hd' => ?_)
    obtain ⟨hd2, hp2⟩ := DI_up hps hd'
    have hRm' := CR_of hR (m := m') (fun a j _ _ => hd2.1 a j (by omega))
    refine stepin m' step' hd2.1 (by omega) ?_
    refine c_following hRm' hw (by omega) (hd2.2.1 d (Nat.le_refl _)) hkd (by omega) (by omega) (fun _ c => absurd (hp2.symm.trans c) (by decide)) (fun _ _ => ⟨fun c => absurd rfl c, fun _ => ?_⟩) (fun c => absurd hout c)
    refine hnx m' (step' + 1) (by omega) ?_
    rw [er]; exact hd2
  · have er : rowsF ρ κ (q + 1) d P = catN (fun s => if whyN ρ (kAt ρ κ P 0 d) s 0 = 0 then rowsF ρ κ q (d + 1) (setP P d (some s)) else []) (ρ 0 4) 0 := by
      conv => lhs; unfold rowsF
      rw [if_neg hout]
    rw [er] at hnx
    have loop : ∀ (c p : Nat) (L : List (Nat → Option Nat)) (m : Mem) (step : Nat), p + c = ρ 0 4 → DI μ ρ κ n w d P L m → m.1 86 d = dI p → L.length + c * 9 ^ q ≤ 60000 → step + 1 + c * (1 + Tn q) ≤ 1000000 → (∀ (m' : Mem) (step' : Nat), step' ≤ step + 1 + c * (1 + Tn q) → DI μ ρ κ n w d P (L ++ catN (fun s => if whyN ρ (kAt ρ κ P 0 d) s 0 = 0 then rowsF ρ κ q (d + 1) (setP P d (some s)) else []) c p) m' → S (dI d) (nI step') m') → S (nI d) (nI step) m := by
      intro c
      induction c using Nat.strongRecOn with
      | _ c ih =>
        intro p L m step hpc hdi hpl hlen hstep hnx
        have hRm := CR_of hR (m := m) (fun a j _ _ => hdi.1 a j (by omega))
        refine stepin m step hdi.1 (by omega) ?_
        refine c_following hRm hw (by omega) (hdi.2.1 d (Nat.le_refl _)) hkd (by omega) (by omega) (fun z => absurd z hout) (fun z => absurd z hout) (fun _ => ⟨p, by omega, hpl, fun s hs1 hs2 hno hyes => ⟨fun _ => ?_, fun z => absurd z (ne2 (some s) (fun y e => by cases e; exact hs2))⟩, fun hno => ⟨fun z => absurd rfl z, fun _ => ?_⟩⟩)
        · have hm : (ρ 0 4 - (s + 1) + 1) * 9 ^ q ≤ c * 9 ^ q := Nat.mul_le_mul_right _ (by omega)
          have hm2 : (ρ 0 4 - (s + 1) + 1) * (1 + Tn q) ≤ c * (1 + Tn q) := Nat.mul_le_mul_right _ (by omega)
          have hm3 : (ρ 0 4 - (s + 1) + 1) * 9 ^ q = (ρ 0 4 - (s + 1)) * 9 ^ q + 9 ^ q := Nat.succ_mul _ _
          have hm4 : (ρ 0 4 - (s + 1) + 1) * (1 + Tn q) = (ρ 0 4 - (s + 1)) * (1 + Tn q) + (1 + Tn q) := Nat.succ_mul _ _
          have ec := catN_skip (f := fun s => if whyN ρ (kAt ρ κ P 0 d) s 0 = 0 then rowsF ρ κ q (d + 1) (setP P d (some s)) else []) (s := s) (c' := ρ 0 4 - (s + 1)) c p hs1 (by omega) (fun z z1 z2 => if_neg (hno z z1 z2))
          rw [if_pos hyes] at ec
          have hlr := rowsF_len (κ := κ) hw q (d + 1) (setP P d (some s))
          refine c_visit hR hr hw hk hB hD (by omega) (fun y e => by cases e; exact hs2) hdi (fun m1 hd1 => ?_)
          refine child (some s) L m1 step hd1 (by omega) (by omega) (fun m' step' hs' hd' => ?_)
          obtain ⟨hd2, hp2⟩ := DI_up hps hd'
          refine ih (ρ 0 4 - (s + 1)) (by omega) (s + 1) _ m' step' (by omega) hd2 hp2 (by rw [List.length_append]; omega) (by omega) (fun m2 step2 q1 q2 => ?_)
          refine hnx m2 step2 (by omega) ?_
          rw [ec, ← List.append_assoc]; exact q2
        · have ec := catN_nil (f := fun s => if whyN ρ (kAt ρ κ P 0 d) s 0 = 0 then rowsF ρ κ q (d + 1) (setP P d (some s)) else []) c p (fun z z1 z2 => if_neg (hno z z1 (by omega)))
          refine hnx m (step + 1) (by omega) ?_
          rw [ec, List.append_nil]; exact hdi
    have hm : ρ 0 4 * 9 ^ q ≤ 9 * 9 ^ q := Nat.mul_le_mul_right _ s9
    have hm2 : ρ 0 4 * (1 + Tn q) ≤ 9 * (1 + Tn q) := Nat.mul_le_mul_right _ s9
    refine loop (ρ 0 4) 0 L m step (by omega) hdi hpl (by omega) (by omega) (fun m' step' q1 q2 => hnx m' step' (by omega) q2)
theorem c_dfs {μ : Mem} {r n w B D : Nat} {κ : KA} {ρ : RA} {Q : Mem → Prop} {S : Int32 → Int32 → Mem → Prop} (hR : CR μ r ρ) (hr : r + 12 ≤ 40) (hw : RW ρ) (hK : KC μ 40 κ) (hk : KW κ B D) (hB : B ≤ 80000) (hD : D ≤ 90000) (hn : n ≤ 5) (hw1 : w ≤ 1) (hS : ∀ (v5 : Int32) (v6 : Int32) (m : Mem), nX3_lookAtRows_27 60 r 40 (nI n) (nI w) Q S v5 v6 m → S v5 v6 m) : ∀ (q d : Nat) (P : Nat → Option Nat), d + (q + 1) = n → LevelC μ ρ κ n w q d P S := by
  intro q
  induction q with
  | zero =>
    intro d P hdn
    refine c_level hR hr hw hk hB hD hn hdn hS (fun o L m1 step a1 a2 a3 a4 => ?_)
    have e : d + 1 = n := by omega
    rw [e] at a1 a4
    exact c_leaf hR hr hw hK hk hB hD hn hw1 e a1 a2 (fun m' b => a4 m' (step + 1) (by omega) b)
  | succ q ihq =>
    intro d P hdn
    refine c_level hR hr hw hk hB hD hn hdn hS (fun o L m1 step a1 a2 a3 a4 => ?_)
    unfold bodyC nX3_lookAtRows_131
    rw [nI_1, nI_1, nI_clamp (by omega)]
    refine ⟨fun c => absurd c (nI_ge (by omega) (by omega)), fun _ => ⟨vp_in_nI (by omega) (by omega), ?_⟩⟩
    refine ihq (d + 1) (setP P d o) (by omega) L _ (step + 1) (DI_set a1 (by omega)) ?_ a2 a3 (fun m' step' b1 b2 => a4 m' step' b1 b2)
    show (ms m1 86 (d + 1) (-1)).1 86 (d + 1) = dI 0
    rw [ms_1, if_pos rfl, if_pos rfl]; rfl
theorem Tn_le {q : Nat} (h : q ≤ 5) : Tn q ≤ 100000 := by
  have := (by decide : ∀ q : Nat, q < 6 → Tn q ≤ 100000)
  exact this q (by omega)
theorem p9_le {q : Nat} (h : q ≤ 5) : 9 ^ q ≤ 59049 := Nat.le_trans (Nat.pow_le_pow_right (by decide) h) (by decide)
/-- the rows of n days that may be, the first ahead -/
noncomputable def rowsN (ρ : RA) (κ : KA) (n : Nat) : List (Nat → Option Nat) := rowsF ρ κ n 0 (fun _ => none)
theorem c_look {μ : Mem} {r n w B D : Nat} {κ : KA} {ρ : RA} {Q : Mem → Prop} (hR : CR μ r ρ) (hr : r + 12 ≤ 40) (hw : RW ρ) (hK : KC μ 40 κ) (hk : KW κ B D) (hB : B ≤ 80000) (hD : D ≤ 90000) (hn0 : 1 ≤ n) (hn : n ≤ 5) (hw1 : w ≤ 1) (h : ∀ m : Mem, FJ 60 96 μ m → ACs ρ κ n w (rowsN ρ κ n) m → Q m) : PX3_lookAtRows 60 r 40 (nI n) (nI w) μ Q := by
  intro S hS
  intro m1 hm1 m2 hm2
  have f1 : ∀ a j : Nat, a ≠ 60 → m2.1 a j = μ.1 a j := fun a j q => by
    rw [hm2, ms_1, if_neg q, ms_1, if_neg q, hm1, ms_1, if_neg q, ms_1, if_neg q]
  have hK2 := KC_of hK (m := m2) (fun a j _ _ => f1 a j (by omega))
  refine ⟨vp_in_nI (n := 0) (by omega) (by omega), ?_⟩
  show PX0_beginRow 62 40 m2 _
  refine c_beginRow hK2 (by omega) (fun m4 hK4 f4 => ⟨vp_in_nI (n := 0) (by omega) (by omega), ?_⟩)
  show S (nI 0) (nI 0) (ms m4 86 0 (-1))
  obtain ⟨q, rfl⟩ : ∃ q : Nat, n = q + 1 := ⟨n - 1, by omega⟩
  have hT := Tn_le (q := q + 1) hn
  have hp := p9_le (q := q + 1) hn
  have r3 : m2.1 60 3 = nI 0 := by
    rw [hm2, ms_1, if_pos rfl, if_neg (by decide), ms_1, if_pos rfl, if_neg (by decide), hm1, ms_1, if_pos rfl, if_neg (by decide), ms_1, if_pos rfl, if_pos rfl]; rfl
  have r13 : m2.1 60 13 = -1 := by
    rw [hm2, ms_1, if_pos rfl, if_neg (by decide), ms_1, if_pos rfl, if_neg (by decide), hm1, ms_1, if_pos rfl, if_pos rfl]
  have r15 : m2.1 60 15 = nI 0 := by
    rw [hm2, ms_1, if_pos rfl, if_neg (by decide), ms_1, if_pos rfl, if_pos rfl]; rfl
  have r16 : m2.1 60 16 = 0 := by
    rw [hm2, ms_1, if_pos rfl, if_pos rfl]
  have e60 : ∀ j : Nat, (ms m4 86 0 (-1)).1 60 j = m2.1 60 j := fun j => by
    rw [ms_1, if_neg (by decide)]; exact f4.1 60 (by omega) j
  have cl0 : closL ρ κ (q + 1) [] = [] := List.eq_nil_of_length_eq_zero (Nat.le_zero.mp closL_len)
  refine c_dfs hR hr hw hK hk hB hD hn hw1 hS q 0 (fun _ => none) (by omega) [] (ms m4 86 0 (-1)) 0 ⟨fun a j z => ?_, fun j hj => ?_, fun j hj => absurd hj (Nat.not_lt_zero _), fun j s e => (by cases e), (e60 _).trans r3, trivial, trivial, ⟨?_, ?_, ?_⟩, fun _ => (e60 _).trans r13⟩ ?_ (by show 0 + _ ≤ _; omega) (by omega) (fun m' step' _ hd => ?_)
  · rw [ms_1, if_neg (by omega), f4.1 a (by omega), f1 a j (by omega)]
  · have : j = 0 := by omega
    subst this
    refine ⟨κ.tod, KC_of hK4 (fun a j q1 q2 => ?_)⟩
    rw [ms_1, if_neg (by omega)]
  · rw [cl0]; exact (e60 _).trans r15
  · rw [cl0]; exact (e60 _).trans r16
  · rw [cl0]; intro P hP; cases hP
  · rw [ms_1, if_pos rfl, if_pos rfl]; rfl
  · apply hS
    unfold nX3_lookAtRows_27
    have fin : Q m' := h m' hd.1 hd.2.2.2.2
    exact ⟨fun _ => fin, fun _ => ⟨fun _ => fin, fun c => absurd dI_neg c⟩⟩
