theorem CR_set0 {m : Mem} {ρ : RA} {j v : Nat} (h : CR m 27 ρ) (hj : j = 4 ∨ j = 12 ∨ j = 13 ∨ j = 14) : CR (ms m 27 j (nI v)) 27 (rset ρ 0 j v) := by
  obtain ⟨r1, r2, r3, r4, r5, r6, r7, r8, r9⟩ := h
  have o : ∀ a i : Nat, a ≠ 27 → (ms m 27 j (nI v)).1 a i = m.1 a i := fun a i z => by rw [ms_1, if_neg z]
  have p : ∀ i : Nat, m.1 27 i = nI (ρ 0 i) → (ms m 27 j (nI v)).1 27 i = nI (rset ρ 0 j v 0 i) := fun i hi => by
    rw [ms_1, if_pos rfl]
    by_cases z : i = j
    · rw [if_pos z, z, rset_y]
    · rw [if_neg z, rset_n _ _ _ _ _ _ (Or.inr z)]; exact hi
  have n : ∀ f i : Nat, f ≠ 0 → rset ρ 0 j v f i = ρ f i := fun f i z => rset_n _ _ _ _ _ _ (Or.inl z)
  have n0 : rset ρ 0 j v 0 0 = ρ 0 0 := rset_n _ _ _ _ _ _ (Or.inr (by omega))
  refine ⟨p 0 r1, p 4 r2, p 12 r3, p 13 r4, p 14 r5, fun t ht => ?_, fun s hs => ?_, fun i hi => ?_, fun w hw => ?_⟩
  · rw [n0] at ht
    rw [o _ _ (by decide), o _ _ (by decide), o _ _ (by decide), n 1 t (by decide), n 2 t (by decide), n 3 t (by decide)]; exact r6 t ht
  · rw [o _ _ (by decide), o _ _ (by decide), o _ _ (by decide), o _ _ (by decide), o _ _ (by decide), n 4 s (by decide), n 5 s (by decide), n 6 s (by decide), n 7 s (by decide), n 8 s (by decide)]; exact r7 s hs
  · rw [o _ _ (by decide), o _ _ (by decide), n 9 i (by decide), n 10 i (by decide)]; exact r8 i hi
  · rw [o _ _ (by decide), n 11 w (by decide)]; exact r9 w hw
theorem CR_set {m : Mem} {ρ : RA} {c i v : Nat} (h : CR m 27 ρ) (hc : 4 ≤ c) (hc2 : c ≤ 11) : CR (ms m (27 + c) i (nI v)) 27 (rset ρ c i v) := by
  obtain ⟨r1, r2, r3, r4, r5, r6, r7, r8, r9⟩ := h
  have n : ∀ f x : Nat, f ≠ c → rset ρ c i v f x = ρ f x := fun f x z => rset_n _ _ _ _ _ _ (Or.inl z)
  have p : ∀ f x : Nat, m.1 (27 + f) x = nI (ρ f x) → (ms m (27 + c) i (nI v)).1 (27 + f) x = nI (rset ρ c i v f x) := fun f x hx => by
    rw [ms_1]
    by_cases y : f = c
    · rw [if_pos (by omega)]
      by_cases z : x = i
      · rw [if_pos z, z, y, rset_y]
      · rw [if_neg z, rset_n _ _ _ _ _ _ (Or.inr z)]; exact hx
    · rw [if_neg (by omega), n f x y]; exact hx
  have o : ∀ a x : Nat, a < 31 → (ms m (27 + c) i (nI v)).1 a x = m.1 a x := fun a x z => by rw [ms_1, if_neg (by omega)]
  have n0 : ∀ x : Nat, rset ρ c i v 0 x = ρ 0 x := fun x => n 0 x (by omega)
  refine ⟨?_, ?_, ?_, ?_, ?_, fun t ht => ?_, fun s hs => ?_, fun i' hi => ?_, fun w hw => ?_⟩
  · rw [o _ _ (by decide), n0]; exact r1
  · rw [o _ _ (by decide), n0]; exact r2
  · rw [o _ _ (by decide), n0]; exact r3
  · rw [o _ _ (by decide), n0]; exact r4
  · rw [o _ _ (by decide), n0]; exact r5
  · rw [n0] at ht
    rw [o _ _ (by decide), o _ _ (by decide), o _ _ (by decide), n 1 t (by omega), n 2 t (by omega), n 3 t (by omega)]; exact r6 t ht
  · obtain ⟨q1, q2, q3, q4, q5⟩ := r7 s hs
    exact ⟨p 4 s q1, p 5 s q2, p 6 s q3, p 7 s q4, p 8 s q5⟩
  · obtain ⟨q1, q2⟩ := r8 i' hi
    exact ⟨p 9 i' q1, p 10 i' q2⟩
  · exact p 11 w (r9 w hw)
/-- reading a token leaves all else -/
theorem CS_FT {tl ag sh : Nat} {tp : Nat → Nat} {ρ : RA} {U : List (Nat × Nat)} {μ m : Mem} (h : CS tl tp μ ρ U ag sh) (f : FT 5 μ m) : CS tl tp m ρ U ag sh :=
  ⟨TC_FT h.1 f (by omega), CR_of h.2.1 (fun a j z1 z2 => f a j (fun y => by omega)), (f 25 9 (fun _ => by omega)).trans h.2.2.1, (f 25 10 (fun _ => by omega)).trans h.2.2.2.1, fun t ht => (f 39 t (fun y => absurd y (by decide))).trans (h.2.2.2.2.1 t ht), (f 25 3 (fun _ => by omega)).trans h.2.2.2.2.2⟩
/-- a rule written -/
theorem CS_ms {tl ag sh : Nat} {tp : Nat → Nat} {ρ ρ' : RA} {U : List (Nat × Nat)} {m : Mem} {a j : Nat} {v : Int32} (h : CS tl tp m ρ U ag sh) (ha : 27 ≤ a) (ha2 : a ≤ 38) (hr : CR (ms m a j v) 27 ρ') : CS tl tp (ms m a j v) ρ' U ag sh := by
  have o : ∀ b i : Nat, b ≠ a → (ms m a j v).1 b i = m.1 b i := fun b i z => by rw [ms_1, if_neg z]
  exact ⟨⟨(o 25 1 (by omega)).trans h.1.1, h.1.2.1, fun i hi => ⟨(h.1.2.2 i hi).1, (o 26 i (by omega)).trans (h.1.2.2 i hi).2⟩⟩, hr, (o 25 9 (by omega)).trans h.2.2.1, (o 25 10 (by omega)).trans h.2.2.2.1, fun t ht => (o 39 t (by omega)).trans (h.2.2.2.2.1 t ht), (o 25 3 (by omega)).trans h.2.2.2.2.2⟩
