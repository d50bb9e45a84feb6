/-- where a thing is used first -/
def fuN : List (Nat × Nat) → Nat → Option Nat
  | [], _ => none
  | (t, p) :: U, x => if t = x then some p else fuN U x
def oU (U : List (Nat × Nat)) (t : Nat) : Int32 := match fuN U t with
  | none => -1
  | some p => nI p
/-- the class between two lines -/
def CS (tl : Nat) (tp : Nat → Nat) (m : Mem) (ρ : RA) (U : List (Nat × Nat)) (ag sh : Nat) : Prop := TC m tl tp ∧ CR m 27 ρ ∧ m.1 25 9 = nI ag ∧ m.1 25 10 = nI sh ∧ (∀ t : Nat, t < 6 → m.1 39 t = oU U t) ∧ m.1 25 3 = 0
/-- nothing but the reader's own changed -/
def FW (μ m : Mem) : Prop := ∀ a j : Nat, (a = 25 → j < 3 ∨ 10 < j) → (a < 27 ∨ 39 < a) → m.1 a j = μ.1 a j
theorem FW_trans {μ m n : Mem} (h : FW μ m) (h2 : FW m n) : FW μ n := fun a j z1 z2 => (h2 a j z1 z2).trans (h a j z1 z2)
theorem FW_FT {lo : Nat} {μ m : Mem} (h : FT lo μ m) (hl : 3 ≤ lo) : FW μ m := fun a j z1 _ => h a j (fun y => by have := z1 y; omega)
theorem FW_ms {a j : Nat} {v : Int32} {μ : Mem} (h : 27 ≤ a ∧ a ≤ 39) : FW μ (ms μ a j v) := fun b i _ z => by rw [ms_1, if_neg (by omega)]
theorem FW_refl {μ : Mem} : FW μ μ := fun _ _ _ _ => rfl
theorem TC_FW {tl : Nat} {tp : Nat → Nat} {μ m : Mem} (h : TC μ tl tp) (f : FW μ m) : TC m tl tp := ⟨(f 25 1 (fun _ => by omega) (by omega)).trans h.1, h.2.1, fun i hi => ⟨(h.2.2 i hi).1, (f 26 i (fun y => absurd y (by decide)) (by omega)).trans (h.2.2 i hi).2⟩⟩
theorem c_readThing {R : Type} {G : R → Prop} {E : Nat → Nat → R} {K : RA → Nat → R} {tl p ag sh : Nat} {tp : Nat → Nat} {ρ : RA} {U : List (Nat × Nat)} {μ : Mem} {Q : Int32 → Mem → Prop} (hS : CS tl tp μ ρ U ag sh) (h6 : ρ 0 0 ≤ 6) (hp : p ≤ tl) (hc : CT tl tp μ p) (hG : G (fThing tl tp ρ (tF tl tp p) (tE tl tp p) E K))
    (hE : ∀ c f : Nat, 1 ≤ c → c ≤ 6 → f ≤ tl → G (E c f) → ∀ m : Mem, m.1 25 3 = nI c → m.1 25 4 = nI f → FW μ m → Q 0 m)
    (hK : ∀ a b c e : Nat, 1 ≤ a → a ≤ 4 → 1 ≤ b → b ≤ 4 → c ≤ 60 → e ≤ tl → tE tl tp p < e → ρ 0 0 < 6 → G (K (rset (rset (rset (rset ρ 0 0 (ρ 0 0 + 1)) 1 (ρ 0 0) a) 2 (ρ 0 0) b) 3 (ρ 0 0) c) e) → ∀ m : Mem, CS tl tp m (rset (rset (rset (rset ρ 0 0 (ρ 0 0 + 1)) 1 (ρ 0 0) a) 2 (ρ 0 0) b) 3 (ρ 0 0) c) U ag sh → m.1 25 5 = nI e → FW μ m → Q 1 m) : PX1_readThing 25 μ Q := by
  obtain ⟨hT, ⟨r1, r2, r3, r4, r5, r6, r7, r8, r9⟩, hag, hsh, hu, h3⟩ := hS
  have hb : ∀ i : Nat, i < tl → tp i < 256 := fun i hi => (hT.2.2 i hi).1
  have htl := hT.2.1
  have he := tE_le (tp := tp) hp
  unfold fThing at hG
  unfold PX1_readThing
  have r1' : μ.1 (25 + 2) 0 = nI (ρ 0 0) := r1
  rw [r1', nI_1]
  by_cases c : ρ 0 0 < 6
  · rw [if_pos c] at hG
    refine ⟨fun _ => ?_, fun d => absurd (nI_lt (b := 6) (by omega) (by omega)) d⟩
    have w0 : FW μ (ms μ (25 + 2) 0 (nI (ρ 0 0 + 1))) := FW_ms (by omega)
    refine c_num (lo := 1) (hi := 4) (TC_FW hT w0) he.2 (by rw [ms_1, if_neg (by decide)]; exact hc.1) (by omega) (by omega) hG (fun c f c1 c2 f1 g m e3 e4 fr => ⟨fun d => absurd rfl d, fun _ => hE c f c1 c2 f1 g m e3 e4 (FW_trans w0 (FW_FT fr (by omega)))⟩) (fun a a1 a2 g1 m1 ct1 v1 fr1 => ⟨fun _ => ?_, fun d => absurd d np1⟩)
    have he1 := tE_le (tp := tp) he.2
    have w1 := FW_trans w0 (FW_FT fr1 (by omega))
    rw [v1, nI_clamp (n := ρ 0 0) (by omega)]
    refine ⟨vp_in_nI (by omega) (by omega), ?_⟩
    have w1' := FW_trans w1 (FW_ms (a := 25 + 2 + 1) (j := ρ 0 0) (v := nI a) (μ := m1) (by omega))
    refine c_num (lo := 1) (hi := 4) (TC_FW hT w1') he1.2 (by rw [ms_1, if_neg (by decide)]; exact ct1.1) (by omega) (by omega) g1 (fun c f c1 c2 f1 g m e3 e4 fr => ⟨fun d => absurd rfl d, fun _ => hE c f c1 c2 f1 g m e3 e4 (FW_trans w1' (FW_FT fr (by omega)))⟩) (fun b b1 b2 g2 m2 ct2 v2 fr2 => ⟨fun _ => ?_, fun d => absurd d np1⟩)
    have he2 := tE_le (tp := tp) he1.2
    have w2 := FW_trans w1' (FW_FT fr2 (by omega))
    rw [v2]
    refine ⟨vp_in_nI (by omega) (by omega), ?_⟩
    have w2' := FW_trans w2 (FW_ms (a := 25 + 2 + 2) (j := ρ 0 0) (v := nI b) (μ := m2) (by omega))
    refine c_num (lo := 0) (hi := 60) (TC_FW hT w2') he2.2 (by rw [ms_1, if_neg (by decide)]; exact ct2.1) (by omega) (by omega) g2 (fun c f c1 c2 f1 g m e3 e4 fr => ⟨fun d => absurd rfl d, fun _ => hE c f c1 c2 f1 g m e3 e4 (FW_trans w2' (FW_FT fr (by omega)))⟩) (fun c c1 c2 g3 m3 ct3 v3 fr3 => ⟨fun _ => ?_, fun d => absurd d np1⟩)
    have he3 := tE_le (tp := tp) he2.2
    have w3 := FW_trans w2' (FW_FT fr3 (by omega))
    rw [v3]
    refine ⟨vp_in_nI (by omega) (by omega), ?_⟩
    have w3' := FW_trans w3 (FW_ms (a := 25 + 2 + 3) (j := ρ 0 0) (v := nI c) (μ := m3) (by omega))
    refine c_point (TC_FW hT w3') he3.2 (by rw [ms_1, if_neg (by decide)]; exact ct3.1) g3 (fun c f c1 c2 f1 g m e3 e4 fr => ⟨nz0, hE c f c1 c2 f1 g m e3 e4 (FW_trans w3' (FW_FT fr (by omega)))⟩) (fun g4 s4 m4 ct4 fr4 => ⟨nz1, ?_⟩)
    have he4 := tE_le (tp := tp) he3.2
    have w4 := FW_trans w3' (FW_FT fr4 (by omega))
    have gt := tE_gt (tp := tp) he3.2 hb (by omega) (by omega)
    have hf4 := tF_le (tp := tp) he3.2
    have hf1 := tF_le (tp := tp) he.2
    have hf2 := tF_le (tp := tp) he1.2
    have hf3 := tF_le (tp := tp) he2.2
    -- what became of each place
    have y4 : ∀ a' j : Nat, a' ≠ 25 → m4.1 a' j = (ms m3 (25 + 2 + 3) (ρ 0 0) (nI c)).1 a' j := fun a' j z => fr4 a' j (fun y => absurd y z)
    have y3 : ∀ a' j : Nat, a' ≠ 25 → m3.1 a' j = (ms m2 (25 + 2 + 2) (ρ 0 0) (nI b)).1 a' j := fun a' j z => fr3 a' j (fun y => absurd y z)
    have y2 : ∀ a' j : Nat, a' ≠ 25 → m2.1 a' j = (ms m1 (25 + 2 + 1) (ρ 0 0) (nI a)).1 a' j := fun a' j z => fr2 a' j (fun y => absurd y z)
    have y1 : ∀ a' j : Nat, a' ≠ 25 → m1.1 a' j = (ms μ (25 + 2) 0 (nI (ρ 0 0 + 1))).1 a' j := fun a' j z => fr1 a' j (fun y => absurd y z)
    have q : ∀ a' j : Nat, a' ≠ 25 → m4.1 a' j = if a' = 30 then (if j = ρ 0 0 then nI c else μ.1 a' j) else if a' = 29 then (if j = ρ 0 0 then nI b else μ.1 a' j) else if a' = 28 then (if j = ρ 0 0 then nI a else μ.1 a' j) else if a' = 27 then (if j = 0 then nI (ρ 0 0 + 1) else μ.1 a' j) else μ.1 a' j := fun a' j z => by
      rw [y4 a' j z, ms_1, y3 a' j z, ms_1, y2 a' j z, ms_1, y1 a' j z, ms_1]
      by_cases z30 : a' = 30
      · subst z30; rfl
      · rw [if_neg z30, if_neg z30]
        by_cases z29 : a' = 29
        · subst z29; rfl
        · rw [if_neg z29, if_neg z29]
          by_cases z28 : a' = 28
          · subst z28; rfl
          · rw [if_neg z28, if_neg z28]
    have q25 : ∀ j : Nat, j < 5 ∨ 8 < j → m4.1 25 j = μ.1 25 j := fun j z => by
      rw [fr4 25 j (fun _ => z), ms_1, if_neg (by decide), fr3 25 j (fun _ => z), ms_1, if_neg (by decide), fr2 25 j (fun _ => z), ms_1, if_neg (by decide), fr1 25 j (fun _ => z), ms_1, if_neg (by decide)]
    have qo : ∀ a' j : Nat, a' ≠ 25 → (a' < 27 ∨ 30 < a') → m4.1 a' j = μ.1 a' j := fun a' j z1 z2 => by
      rw [q a' j z1, if_neg (by omega), if_neg (by omega), if_neg (by omega), if_neg (by omega)]
    have q27 : ∀ j : Nat, j ≠ 0 → m4.1 27 j = μ.1 27 j := fun j z => by
      rw [q 27 j (by decide), if_neg (by decide), if_neg (by decide), if_neg (by decide), if_pos rfl, if_neg z]
    refine hK a b c _ a1 a2 b1 b2 c2 he4.2 (by omega) ‹ρ 0 0 < 6› g4 m4 ⟨TC_FW hT w4, ⟨?_, ?_, ?_, ?_, ?_, fun t ht => ?_, fun s hs => ?_, fun i hi => ?_, fun w hw => ?_⟩, (q25 9 (by omega)).trans hag, (q25 10 (by omega)).trans hsh, fun t ht => (qo 39 t (by decide) (by omega)).trans (hu t ht), (q25 3 (by omega)).trans h3⟩ ct4.1 w4
    · rw [q 27 0 (by decide)]; rfl
    · exact (q27 4 (by decide)).trans r2
    · exact (q27 12 (by decide)).trans r3
    · exact (q27 13 (by decide)).trans r4
    · exact (q27 14 (by decide)).trans r5
    · have ht' : t < ρ 0 0 + 1 := ht
      have x1 : m4.1 28 t = if t = ρ 0 0 then nI a else μ.1 28 t := by rw [q 28 t (by decide)]; rfl
      have x2 : m4.1 29 t = if t = ρ 0 0 then nI b else μ.1 29 t := by rw [q 29 t (by decide)]; rfl
      have x3 : m4.1 30 t = if t = ρ 0 0 then nI c else μ.1 30 t := by rw [q 30 t (by decide)]; rfl
      show m4.1 28 t = _ ∧ m4.1 29 t = _ ∧ m4.1 30 t = _
      rw [x1, x2, x3]
      rw [rset_n _ 3 _ _ 1 t (by omega), rset_n _ 2 _ _ 1 t (by omega), rset_n _ 3 _ _ 2 t (by omega)]
      by_cases z : t = ρ 0 0
      · rw [if_pos z, if_pos z, if_pos z, z, rset_y, rset_y, rset_y]; exact ⟨rfl, rfl, rfl⟩
      · rw [if_neg z, if_neg z, if_neg z, rset_n _ 1 _ _ 1 t (Or.inr z), rset_n _ 2 _ _ 2 t (Or.inr z), rset_n _ 3 _ _ 3 t (Or.inr z), rset_n _ 1 _ _ 2 t (by omega), rset_n _ 2 _ _ 3 t (by omega), rset_n _ 1 _ _ 3 t (by omega), rset_n _ 0 _ _ 1 t (by omega), rset_n _ 0 _ _ 2 t (by omega), rset_n _ 0 _ _ 3 t (by omega)]
        exact r6 t (by omega)
    · rw [qo _ _ (by decide) (by omega), qo _ _ (by decide) (by omega), qo _ _ (by decide) (by omega), qo _ _ (by decide) (by omega), qo _ _ (by decide) (by omega)]
      exact r7 s hs
    · rw [qo _ _ (by decide) (by omega), qo _ _ (by decide) (by omega)]
      exact r8 i hi
    · rw [qo _ _ (by decide) (by omega)]
      exact r9 w hw
  · rw [if_neg c] at hG
    rw [hc.2.2.1]
    refine ⟨fun d => absurd d (fun y => absurd ((i_lt (k := 6) (by omega)).1 y) (by rw [nI_toInt (by omega)]; omega)), fun _ => ?_⟩
    exact c_refuse (c := 5) (f := 0) (fun m' k3 k4 k => ⟨nz0, hE 5 _ (by omega) (by omega) (tF_le hp).2 hG m' k3 k4 (FW_FT k (by omega))⟩)
