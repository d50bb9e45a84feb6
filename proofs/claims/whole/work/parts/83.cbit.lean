/-- bit t set -/
def obN (a t : Nat) : Nat := a ||| 2 ^ t
theorem obN_lt {a t k : Nat} (ha : a < 2 ^ k) (ht : t < k) : obN a t < 2 ^ k := Nat.or_lt_two_pow ha (Nat.pow_lt_pow_right (by decide) ht)
theorem sh1 : ∀ t : Nat, t < 31 → (1 : Int32) <<< (nI t &&& 31) = nI (2 ^ t) := by decide +kernel
theorem or_bit {a t : Nat} (ht : t < 31) : nI a ||| ((1 : Int32) <<< (nI t &&& 31)) = nI (obN a t) := by
  rw [sh1 t ht]
  apply Int32.toBitVec_inj.1
  show BitVec.ofNat 32 a ||| BitVec.ofNat 32 (2 ^ t) = BitVec.ofNat 32 (a ||| 2 ^ t)
  apply BitVec.eq_of_getLsbD_eq
  intro i hi
  rw [BitVec.getLsbD_or, BitVec.getLsbD_ofNat, BitVec.getLsbD_ofNat, BitVec.getLsbD_ofNat, Nat.testBit_or]
  simp [hi]
theorem bitN_tb (a x : Nat) : bitN a x = 1 ↔ a.testBit x = true := by
  unfold bitN
  rw [Nat.testBit_eq_decide_div_mod_eq]
  exact ⟨fun h => decide_eq_true h, fun h => of_decide_eq_true h⟩
theorem obN_bit (a t x : Nat) : bitN (obN a t) x = 1 ↔ bitN a x = 1 ∨ x = t := by
  rw [bitN_tb, bitN_tb]
  unfold obN
  rw [Nat.testBit_or, Nat.testBit_two_pow, Bool.or_eq_true]
  constructor
  · intro h
    rcases h with h | h
    · exact Or.inl h
    · exact Or.inr (of_decide_eq_true h).symm
  · intro h
    rcases h with h | h
    · exact Or.inl h
    · exact Or.inr (decide_eq_true h.symm)
