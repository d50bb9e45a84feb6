-- what a changed rule keeps
theorem rs_le {ρ : RA} {c i v f j B : Nat} (h : ρ f j ≤ B) (h2 : f = c → v ≤ B) : rset ρ c i v f j ≤ B := by
  unfold rset
  by_cases y : f = c ∧ j = i
  · rw [if_pos y]; exact h2 y.1
  · rw [if_neg y]; exact h
theorem rs_z {ρ : RA} {c i v f j : Nat} (h : ρ f j = 0) (h2 : f = c → j ≠ i) : rset ρ c i v f j = 0 := by
  unfold rset
  rw [if_neg (fun y => h2 y.1 y.2)]; exact h
theorem RW_set {ρ : RA} {c i v : Nat} (h : RW ρ) (h5 : 5 ≤ c) (h10 : c ≤ 10) (b1 : c = 5 ∨ c = 7 → v ≤ 9) (b2 : c = 6 → v ≤ 15) (b3 : c = 8 → v ≤ 63) (b4 : 9 ≤ c → v ≤ 3) (hi : c ≤ 8 → i < ρ 0 4) (hi2 : 9 ≤ c → i < 6 * ρ 0 4) : RW (rset ρ c i v) := by
  obtain ⟨r1, r2, r3, r4, r5, r6, r7, r8, r9, r10, r11⟩ := h
  have n0 : ∀ f j : Nat, f < 5 → rset ρ c i v f j = ρ f j := fun f j z => rset_n _ _ _ _ _ _ (Or.inl (by omega))
  refine ⟨by rw [n0 0 _ (by omega)]; exact r1, by rw [n0 0 _ (by omega)]; exact r2, by rw [n0 0 _ (by omega)]; exact r3, by rw [n0 0 _ (by omega)]; exact r4, by rw [n0 0 _ (by omega)]; exact r5, fun t ht => ?_, fun s => ?_, fun s hs => ?_, fun j => ?_, fun j hj => ?_, fun w hw => ?_⟩
  · rw [n0 0 _ (by omega)] at ht
    rw [n0 1 t (by omega), n0 2 t (by omega), n0 3 t (by omega)]; exact r6 t ht
  · obtain ⟨q1, q2, q3, q4, q5⟩ := r7 s
    exact ⟨by rw [n0 4 s (by omega)]; exact q1, rs_le q2 (fun y => b1 (Or.inl y.symm)), rs_le q3 (fun y => b2 y.symm), rs_le q4 (fun y => b1 (Or.inr y.symm)), rs_le q5 (fun y => b3 y.symm)⟩
  · rw [n0 0 _ (by omega)] at hs
    obtain ⟨q1, q2, q3, q4, q5⟩ := r8 s hs
    exact ⟨by rw [n0 4 s (by omega)]; exact q1, rs_z q2 (fun y => by have := hi (by omega); omega), rs_z q3 (fun y => by have := hi (by omega); omega), rs_z q4 (fun y => by have := hi (by omega); omega), rs_z q5 (fun y => by have := hi (by omega); omega)⟩
  · exact ⟨rs_le (r9 j).1 (fun y => b4 (by omega)), rs_le (r9 j).2 (fun y => b4 (by omega))⟩
  · rw [n0 0 _ (by omega)] at hj
    exact ⟨rs_z (r10 j hj).1 (fun y => by have := hi2 (by omega); omega), rs_z (r10 j hj).2 (fun y => by have := hi2 (by omega); omega)⟩
  · rw [rset_n _ _ _ _ 11 w (Or.inl (by omega))]; exact r11 w hw
theorem RZ_set {ρ : RA} {c i v : Nat} (h : RZ2 ρ) (h5 : 5 ≤ c) (z8 : c = 8 → ρ 4 i = 3) (z9 : c = 9 → ∀ s t : Nat, t < 6 → i = 6 * s + t → ρ 4 s ≠ 3) : RZ2 (rset ρ c i v) := by
  have n0 : ∀ j : Nat, rset ρ c i v 4 j = ρ 4 j := fun j => rset_n _ _ _ _ _ _ (Or.inl (by omega))
  refine ⟨fun s hs => ?_, fun s t ht hs => ?_⟩
  · rw [n0] at hs
    exact rs_z (h.1 s hs) (fun y x => hs (by rw [x]; exact z8 y.symm))
  · rw [n0] at hs
    exact rs_z (h.2 s t ht hs) (fun y x => z9 y.symm s t ht x.symm hs)
theorem LI_set {ρ : RA} {U U' : List (Nat × Nat)} {c i v p L p' L' : Nat} (h : LI ρ U p L) (hU : UW U' p' L') (h5 : 5 ≤ c) (h10 : c ≤ 10) (b1 : c = 5 ∨ c = 7 → v ≤ 9) (b2 : c = 6 → v ≤ 15) (b3 : c = 8 → v ≤ 63) (b4 : 9 ≤ c → v ≤ 3) (hi : c ≤ 8 → i < ρ 0 4) (hi2 : 9 ≤ c → i < 6 * ρ 0 4) (z8 : c = 8 → ρ 4 i = 3) (z9 : c = 9 → ∀ s t : Nat, t < 6 → i = 6 * s + t → ρ 4 s ≠ 3 ∧ ∃ q : Nat, (t, q) ∈ U') (hsub : ∀ x : Nat × Nat, x ∈ U → x ∈ U') : LI (rset ρ c i v) U' p' L' :=
  ⟨RW_set h.1 h5 h10 b1 b2 b3 b4 hi hi2, RZ_set h.2.1 h5 z8 (fun a s t b d => (z9 a s t b d).1), by rw [rset_n _ _ _ _ 0 4 (Or.inl (by omega))]; exact h.2.2.1, hU, fun s t ht hn => by
    by_cases y : c = 9 ∧ i = 6 * s + t
    · exact (z9 y.1 s t ht y.2).2
    · rw [rset_n _ _ _ _ 9 _ (by omega)] at hn
      obtain ⟨q, hq⟩ := h.2.2.2.2 s t ht hn
      exact ⟨q, hsub _ hq⟩⟩
theorem LI_mono {ρ : RA} {U : List (Nat × Nat)} {p L p' L' : Nat} (h : LI ρ U p L) (hp : p ≤ p') (hL : L ≤ L') : LI ρ U p' L' := ⟨h.1, h.2.1, h.2.2.1, UW_mono h.2.2.2.1 hp hL, h.2.2.2.2⟩
/-- a supper begun -/
def supR (ρ : RA) (k : Nat) : RA := rset (rset ρ 0 4 (ρ 0 4 + 1)) 4 (ρ 0 4) k
theorem supR_0 (ρ : RA) (k j : Nat) : supR ρ k 0 j = if j = 4 then ρ 0 4 + 1 else ρ 0 j := by
  unfold supR
  rw [rset_n _ _ _ _ 0 j (Or.inl (by omega))]
  by_cases c : j = 4
  · rw [if_pos c, c, rset_y]
  · rw [if_neg c, rset_n _ _ _ _ 0 j (Or.inr c)]
theorem supR_n (ρ : RA) (k f j : Nat) (h0 : f ≠ 0) (h4 : f ≠ 4 ∨ j ≠ ρ 0 4) : supR ρ k f j = ρ f j := by
  unfold supR
  rw [rset_n _ _ _ _ f j h4, rset_n _ _ _ _ f j (Or.inl h0)]
theorem supR_4 (ρ : RA) (k : Nat) : supR ρ k 4 (ρ 0 4) = k := rset_y _ _ _ _
theorem LI_sup {ρ : RA} {U : List (Nat × Nat)} {k p L : Nat} (h : LI ρ U p L) (h8 : ρ 0 4 < 8) (hk : k ≤ 3) : LI (supR ρ k) U p L := by
  obtain ⟨⟨r1, r2, r3, r4, r5, r6, r7, r8, r9, r10, r11⟩, ⟨z1, z2⟩, l8, hU, hV⟩ := h
  have e0 : ∀ j : Nat, j ≠ 4 → supR ρ k 0 j = ρ 0 j := fun j z => by rw [supR_0, if_neg z]
  have e04 : supR ρ k 0 4 = ρ 0 4 + 1 := by rw [supR_0, if_pos rfl]
  have n : ∀ f j : Nat, f ≠ 0 → f ≠ 4 → supR ρ k f j = ρ f j := fun f j z1 z2 => supR_n _ _ _ _ z1 (Or.inl z2)
  have e4 : ∀ s : Nat, supR ρ k 4 s = if s = ρ 0 4 then k else ρ 4 s := fun s => by
    by_cases c : s = ρ 0 4
    · rw [if_pos c, c, supR_4]
    · rw [if_neg c, supR_n _ _ _ _ (by omega) (Or.inr c)]
  refine ⟨⟨by rw [e0 0 (by omega)]; exact r1, by rw [e04]; omega, by rw [e0 12 (by omega)]; exact r3, by rw [e0 13 (by omega)]; exact r4, by rw [e0 14 (by omega)]; exact r5, fun t ht => ?_, fun s => ?_, fun s hs => ?_, fun j => ?_, fun j hj => ?_, fun w hw => ?_⟩, ⟨fun s hs => ?_, fun s t ht hs => ?_⟩, by rw [e04]; omega, hU, fun s t ht hn => hV s t ht (by rw [n 9 _ (by omega) (by omega)] at hn; exact hn)⟩
  · rw [e0 0 (by omega)] at ht
    rw [n 1 t (by omega) (by omega), n 2 t (by omega) (by omega), n 3 t (by omega) (by omega)]; exact r6 t ht
  · rw [e4, n 5 s (by omega) (by omega), n 6 s (by omega) (by omega), n 7 s (by omega) (by omega), n 8 s (by omega) (by omega)]
    obtain ⟨q1, q2⟩ := r7 s
    refine ⟨?_, q2⟩
    by_cases c : s = ρ 0 4
    · rw [if_pos c]; exact hk
    · rw [if_neg c]; exact q1
  · rw [e04] at hs
    rw [e4, if_neg (by omega), n 5 s (by omega) (by omega), n 6 s (by omega) (by omega), n 7 s (by omega) (by omega), n 8 s (by omega) (by omega)]
    exact r8 s (by omega)
  · rw [n 9 j (by omega) (by omega), n 10 j (by omega) (by omega)]; exact r9 j
  · rw [e04] at hj
    rw [n 9 j (by omega) (by omega), n 10 j (by omega) (by omega)]; exact r10 j (by omega)
  · rw [n 11 w (by omega) (by omega)]; exact r11 w hw
  · rw [n 8 s (by omega) (by omega)]
    by_cases c : s = ρ 0 4
    · exact (r8 s (by omega)).2.2.2.2
    · rw [e4, if_neg c] at hs; exact z1 s hs
  · rw [n 9 _ (by omega) (by omega)]
    by_cases c : s = ρ 0 4
    · exact (r10 _ (by omega)).1
    · rw [e4, if_neg c] at hs; exact z2 s t ht hs
/-- the other lines -/
theorem LI_thing {ρ : RA} {U : List (Nat × Nat)} {a b c p L p' : Nat} (h : LI ρ U p L) (hp : p ≤ p') (h6 : ρ 0 0 < 6) (a1 : 1 ≤ a) (a2 : a ≤ 4) (b1 : 1 ≤ b) (b2 : b ≤ 4) (c1 : c ≤ 60) : LI (rset (rset (rset (rset ρ 0 0 (ρ 0 0 + 1)) 1 (ρ 0 0) a) 2 (ρ 0 0) b) 3 (ρ 0 0) c) U p' L := by
  obtain ⟨⟨r1, r2, r3, r4, r5, r6, r7, r8, r9, r10, r11⟩, ⟨z1, z2⟩, l8, hU, hV⟩ := h
  have n : ∀ f j : Nat, 4 ≤ f → rset (rset (rset (rset ρ 0 0 (ρ 0 0 + 1)) 1 (ρ 0 0) a) 2 (ρ 0 0) b) 3 (ρ 0 0) c f j = ρ f j := fun f j z => by
    rw [rset_n _ _ _ _ f j (Or.inl (by omega)), rset_n _ _ _ _ f j (Or.inl (by omega)), rset_n _ _ _ _ f j (Or.inl (by omega)), rset_n _ _ _ _ f j (Or.inl (by omega))]
  have n0 : ∀ j : Nat, j ≠ 0 → rset (rset (rset (rset ρ 0 0 (ρ 0 0 + 1)) 1 (ρ 0 0) a) 2 (ρ 0 0) b) 3 (ρ 0 0) c 0 j = ρ 0 j := fun j z => by
    rw [rset_n _ _ _ _ 0 j (Or.inl (by omega)), rset_n _ _ _ _ 0 j (Or.inl (by omega)), rset_n _ _ _ _ 0 j (Or.inl (by omega)), rset_n _ _ _ _ 0 j (Or.inr z)]
  have n00 : rset (rset (rset (rset ρ 0 0 (ρ 0 0 + 1)) 1 (ρ 0 0) a) 2 (ρ 0 0) b) 3 (ρ 0 0) c 0 0 = ρ 0 0 + 1 := by
    rw [rset_n _ _ _ _ 0 0 (Or.inl (by omega)), rset_n _ _ _ _ 0 0 (Or.inl (by omega)), rset_n _ _ _ _ 0 0 (Or.inl (by omega)), rset_y]
  refine ⟨⟨by rw [n00]; omega, by rw [n0 4 (by omega)]; exact r2, by rw [n0 12 (by omega)]; exact r3, by rw [n0 13 (by omega)]; exact r4, by rw [n0 14 (by omega)]; exact r5, fun t ht => ?_, fun s => ?_, fun s hs => ?_, fun j => ?_, fun j hj => ?_, fun w hw => ?_⟩, ⟨fun s hs => ?_, fun s t ht hs => ?_⟩, by rw [n0 4 (by omega)]; exact l8, UW_mono hU hp (Nat.le_refl _), fun s t ht hn => hV s t ht (by rw [n 9 _ (by omega)] at hn; exact hn)⟩
  · rw [n00] at ht
    rw [rset_n _ 3 _ _ 1 t (by omega), rset_n _ 2 _ _ 1 t (by omega), rset_n _ 3 _ _ 2 t (by omega)]
    by_cases z : t = ρ 0 0
    · rw [z, rset_y, rset_y, rset_y]; omega
    · rw [rset_n _ 1 _ _ 1 t (Or.inr z), rset_n _ 2 _ _ 2 t (Or.inr z), rset_n _ 3 _ _ 3 t (Or.inr z), rset_n _ 1 _ _ 2 t (by omega), rset_n _ 2 _ _ 3 t (by omega), rset_n _ 1 _ _ 3 t (by omega), rset_n _ 0 _ _ 1 t (by omega), rset_n _ 0 _ _ 2 t (by omega), rset_n _ 0 _ _ 3 t (by omega)]
      exact r6 t (by omega)
  · rw [n 4 s (by omega), n 5 s (by omega), n 6 s (by omega), n 7 s (by omega), n 8 s (by omega)]; exact r7 s
  · rw [n0 4 (by omega)] at hs
    rw [n 4 s (by omega), n 5 s (by omega), n 6 s (by omega), n 7 s (by omega), n 8 s (by omega)]; exact r8 s hs
  · rw [n 9 j (by omega), n 10 j (by omega)]; exact r9 j
  · rw [n0 4 (by omega)] at hj
    rw [n 9 j (by omega), n 10 j (by omega)]; exact r10 j hj
  · rw [n 11 w (by omega)]; exact r11 w hw
  · rw [n 4 s (by omega)] at hs; rw [n 8 s (by omega)]; exact z1 s hs
  · rw [n 4 s (by omega)] at hs; rw [n 9 _ (by omega)]; exact z2 s t ht hs
theorem LI_0 {ρ : RA} {U : List (Nat × Nat)} {j v p L p' : Nat} (h : LI ρ U p L) (hp : p ≤ p') (hj : (j = 12 ∧ v ≤ 7) ∨ ((j = 13 ∨ j = 14) ∧ v ≤ 127)) : LI (rset ρ 0 j v) U p' L := by
  obtain ⟨⟨r1, r2, r3, r4, r5, r6, r7, r8, r9, r10, r11⟩, ⟨z1, z2⟩, l8, hU, hV⟩ := h
  have n : ∀ f i : Nat, f ≠ 0 → rset ρ 0 j v f i = ρ f i := fun f i z => rset_n _ _ _ _ f i (Or.inl z)
  have n0 : ∀ i : Nat, i ≠ j → rset ρ 0 j v 0 i = ρ 0 i := fun i z => rset_n _ _ _ _ 0 i (Or.inr z)
  have nb : ∀ i B : Nat, ρ 0 i ≤ B → (i = j → v ≤ B) → rset ρ 0 j v 0 i ≤ B := fun i B h1 h2 => by
    by_cases z : i = j
    · rw [z, rset_y]; exact h2 z
    · rw [n0 i z]; exact h1
  refine ⟨⟨by rw [n0 0 (by omega)]; exact r1, by rw [n0 4 (by omega)]; exact r2, nb _ _ r3 (by omega), nb _ _ r4 (by omega), nb _ _ r5 (by omega), fun t ht => ?_, fun s => ?_, fun s hs => ?_, fun i => ?_, fun i hi => ?_, fun w hw => ?_⟩, ⟨fun s hs => ?_, fun s t ht hs => ?_⟩, by rw [n0 4 (by omega)]; exact l8, UW_mono hU hp (Nat.le_refl _), fun s t ht hn => hV s t ht (by rw [n 9 _ (by omega)] at hn; exact hn)⟩
  · rw [n0 0 (by omega)] at ht
    rw [n 1 t (by omega), n 2 t (by omega), n 3 t (by omega)]; exact r6 t ht
  · rw [n 4 s (by omega), n 5 s (by omega), n 6 s (by omega), n 7 s (by omega), n 8 s (by omega)]; exact r7 s
  · rw [n0 4 (by omega)] at hs
    rw [n 4 s (by omega), n 5 s (by omega), n 6 s (by omega), n 7 s (by omega), n 8 s (by omega)]; exact r8 s hs
  · rw [n 9 i (by omega), n 10 i (by omega)]; exact r9 i
  · rw [n0 4 (by omega)] at hi
    rw [n 9 i (by omega), n 10 i (by omega)]; exact r10 i hi
  · rw [n 11 w (by omega)]; exact r11 w hw
  · rw [n 4 s (by omega)] at hs; rw [n 8 s (by omega)]; exact z1 s hs
  · rw [n 4 s (by omega)] at hs; rw [n 9 _ (by omega)]; exact z2 s t ht hs
theorem LI_11 {ρ : RA} {U : List (Nat × Nat)} {j v p L p' : Nat} (h : LI ρ U p L) (hp : p ≤ p') (hv : v ≤ 4) : LI (rset ρ 11 j v) U p' L := by
  obtain ⟨⟨r1, r2, r3, r4, r5, r6, r7, r8, r9, r10, r11⟩, ⟨z1, z2⟩, l8, hU, hV⟩ := h
  have n : ∀ f i : Nat, f ≠ 11 → rset ρ 11 j v f i = ρ f i := fun f i z => rset_n _ _ _ _ f i (Or.inl z)
  refine ⟨⟨by rw [n 0 0 (by omega)]; exact r1, by rw [n 0 4 (by omega)]; exact r2, by rw [n 0 12 (by omega)]; exact r3, by rw [n 0 13 (by omega)]; exact r4, by rw [n 0 14 (by omega)]; exact r5, fun t ht => ?_, fun s => ?_, fun s hs => ?_, fun i => ?_, fun i hi => ?_, fun w hw => rs_le (r11 w hw) (fun _ => hv)⟩, ⟨fun s hs => ?_, fun s t ht hs => ?_⟩, by rw [n 0 4 (by omega)]; exact l8, UW_mono hU hp (Nat.le_refl _), fun s t ht hn => hV s t ht (by rw [n 9 _ (by omega)] at hn; exact hn)⟩
  · rw [n 0 0 (by omega)] at ht
    rw [n 1 t (by omega), n 2 t (by omega), n 3 t (by omega)]; exact r6 t ht
  · rw [n 4 s (by omega), n 5 s (by omega), n 6 s (by omega), n 7 s (by omega), n 8 s (by omega)]; exact r7 s
  · rw [n 0 4 (by omega)] at hs
    rw [n 4 s (by omega), n 5 s (by omega), n 6 s (by omega), n 7 s (by omega), n 8 s (by omega)]; exact r8 s hs
  · rw [n 9 i (by omega), n 10 i (by omega)]; exact r9 i
  · rw [n 0 4 (by omega)] at hi
    rw [n 9 i (by omega), n 10 i (by omega)]; exact r10 i hi
  · rw [n 4 s (by omega)] at hs; rw [n 8 s (by omega)]; exact z1 s hs
  · rw [n 4 s (by omega)] at hs; rw [n 9 _ (by omega)]; exact z2 s t ht hs
