theorem jl_0 : (0 : Int32) = nI 0 := rfl
theorem jl_1 : (1 : Int32) = nI 1 := rfl
theorem jl_2 : (2 : Int32) = nI 2 := rfl
theorem jl_3 : (3 : Int32) = nI 3 := rfl
theorem jl_4 : (4 : Int32) = nI 4 := rfl
theorem jl_5 : (5 : Int32) = nI 5 := rfl
theorem jl_6 : (6 : Int32) = nI 6 := rfl
theorem jl_7 : (7 : Int32) = nI 7 := rfl
theorem jl_8 : (8 : Int32) = nI 8 := rfl
theorem jl_9 : (9 : Int32) = nI 9 := rfl
theorem jl_10 : (10 : Int32) = nI 10 := rfl
theorem jl_11 : (11 : Int32) = nI 11 := rfl
theorem jl_12 : (12 : Int32) = nI 12 := rfl
theorem jl_13 : (13 : Int32) = nI 13 := rfl
theorem jl_14 : (14 : Int32) = nI 14 := rfl
theorem jl_15 : (15 : Int32) = nI 15 := rfl
theorem jl_16 : (16 : Int32) = nI 16 := rfl
theorem jl_17 : (17 : Int32) = nI 17 := rfl
theorem jl_18 : (18 : Int32) = nI 18 := rfl
theorem jl_19 : (19 : Int32) = nI 19 := rfl
theorem jl_20 : (20 : Int32) = nI 20 := rfl
theorem jl_21 : (21 : Int32) = nI 21 := rfl
theorem jl_22 : (22 : Int32) = nI 22 := rfl
theorem jl_23 : (23 : Int32) = nI 23 := rfl
theorem jl_24 : (24 : Int32) = nI 24 := rfl
theorem jl_25 : (25 : Int32) = nI 25 := rfl
theorem jl_26 : (26 : Int32) = nI 26 := rfl
theorem jl_27 : (27 : Int32) = nI 27 := rfl
theorem jl_28 : (28 : Int32) = nI 28 := rfl
theorem jl_29 : (29 : Int32) = nI 29 := rfl
theorem jl_30 : (30 : Int32) = nI 30 := rfl
theorem jl_31 : (31 : Int32) = nI 31 := rfl
theorem jl_32 : (32 : Int32) = nI 32 := rfl
theorem jl_33 : (33 : Int32) = nI 33 := rfl
theorem jl_34 : (34 : Int32) = nI 34 := rfl
theorem jl_35 : (35 : Int32) = nI 35 := rfl
theorem jl_36 : (36 : Int32) = nI 36 := rfl
theorem jl_37 : (37 : Int32) = nI 37 := rfl
theorem jl_38 : (38 : Int32) = nI 38 := rfl
theorem jl_39 : (39 : Int32) = nI 39 := rfl
theorem jl_40 : (40 : Int32) = nI 40 := rfl
theorem jl_41 : (41 : Int32) = nI 41 := rfl
theorem jl_42 : (42 : Int32) = nI 42 := rfl
theorem jl_43 : (43 : Int32) = nI 43 := rfl
theorem jl_44 : (44 : Int32) = nI 44 := rfl
theorem jl_45 : (45 : Int32) = nI 45 := rfl
theorem jl_46 : (46 : Int32) = nI 46 := rfl
theorem jl_47 : (47 : Int32) = nI 47 := rfl
theorem jl_48 : (48 : Int32) = nI 48 := rfl
theorem jl_49 : (49 : Int32) = nI 49 := rfl
theorem jl_50 : (50 : Int32) = nI 50 := rfl
theorem jl_51 : (51 : Int32) = nI 51 := rfl
theorem jl_52 : (52 : Int32) = nI 52 := rfl
theorem jl_53 : (53 : Int32) = nI 53 := rfl
theorem jl_54 : (54 : Int32) = nI 54 := rfl
theorem jl_55 : (55 : Int32) = nI 55 := rfl
theorem jl_56 : (56 : Int32) = nI 56 := rfl
theorem jl_57 : (57 : Int32) = nI 57 := rfl
theorem jl_58 : (58 : Int32) = nI 58 := rfl
theorem jl_59 : (59 : Int32) = nI 59 := rfl
theorem jl_60 : (60 : Int32) = nI 60 := rfl
theorem jl_61 : (61 : Int32) = nI 61 := rfl
theorem jl_62 : (62 : Int32) = nI 62 := rfl
theorem jl_63 : (63 : Int32) = nI 63 := rfl
theorem jl_64 : (64 : Int32) = nI 64 := rfl
theorem jl_97 : (97 : Int32) = nI 97 := rfl
theorem jl_99 : (99 : Int32) = nI 99 := rfl
theorem jl_100 : (100 : Int32) = nI 100 := rfl
theorem jl_112 : (112 : Int32) = nI 112 := rfl
theorem jl_122 : (122 : Int32) = nI 122 := rfl
theorem jl_127 : (127 : Int32) = nI 127 := rfl
theorem jl_240 : (240 : Int32) = nI 240 := rfl
theorem jl_273 : (273 : Int32) = nI 273 := rfl
theorem jl_274 : (274 : Int32) = nI 274 := rfl
theorem jl_275 : (275 : Int32) = nI 275 := rfl
theorem jl_280 : (280 : Int32) = nI 280 := rfl
theorem jl_316 : (316 : Int32) = nI 316 := rfl
theorem jl_317 : (317 : Int32) = nI 317 := rfl
theorem jl_320 : (320 : Int32) = nI 320 := rfl
theorem jl_400 : (400 : Int32) = nI 400 := rfl
/-- one below: -1 behind 0 -/
def dI : Nat → Int32
  | 0 => -1
  | n + 1 => nI n
theorem jl_m1 : (-nI 1 : Int32) = dI 0 := rfl
theorem jl_m4 : (-nI 4 : Int32) = oI none := rfl
theorem vn_in {n N : Nat} (hN : N < 2 ^ 31) (hn : n < 2 ^ 31) : vp_in (nI n) N ↔ n < N := by
  rw [vp_in_iff, nI_toInt hn]; omega
/-- a bit of a number -/
def bitN (a t : Nat) : Nat := a / 2 ^ t % 2
theorem bitN_le (a t : Nat) : bitN a t < 2 := Nat.mod_lt _ (by decide)
theorem jb {a t : Nat} (ha : a < 2 ^ 31) (ht : t < 32) : (nI a >>> (nI t &&& nI 31)) &&& nI 1 = nI (bitN a t) := by
  rw [pk_shrN ha _ t (by have := (by decide +kernel : ∀ n, n < 32 → ((nI n &&& nI 31).toBitVec.smod 32).toNat = n); exact this t ht)]
  have : a / 2 ^ t < 2 ^ 32 := Nat.lt_of_le_of_lt (Nat.div_le_self _ _) (by omega)
  rw [pk_andN this 1 (by decide)]
  rfl
theorem jb_0 {a t : Nat} (ha : a < 2 ^ 31) (ht : t < 32) : ((nI a >>> (nI t &&& nI 31)) &&& nI 1 = nI 0) ↔ ¬ bitN a t = 1 := by
  have := bitN_le a t
  rw [jb ha ht, nI_eq (by omega) (by omega)]; omega
theorem jb_1 {a t : Nat} (ha : a < 2 ^ 31) (ht : t < 32) : ((nI a >>> (nI t &&& nI 31)) &&& nI 1 = nI 1) ↔ bitN a t = 1 := by
  have := bitN_le a t
  rw [jb ha ht, nI_eq (by omega) (by omega)]
theorem oI_ne {d : Nat} (h : d < 2 ^ 31) : oI (some d) ≠ oI none := by
  intro c
  have : (nI d).toInt = (-4 : Int32).toInt := congrArg Int32.toInt c
  rw [nI_toInt h] at this
  have e : (-4 : Int32).toInt = -4 := by decide
  omega
theorem nI_ne4 {d : Nat} (h : d < 2 ^ 31) : nI d ≠ oI none := oI_ne h
theorem jl_n40 {d : Nat} (h : d < 2 ^ 31) : (nI d = oI none) ↔ False := ⟨fun c => nI_ne4 h c, False.elim⟩
theorem jl_n40' {d : Nat} (h : d < 2 ^ 31) : (oI none = nI d) ↔ False := ⟨fun c => nI_ne4 h c.symm, False.elim⟩
theorem oI_eq {o : Option Nat} (h : ∀ d, o = some d → d < 2 ^ 31) : oI o = oI none ↔ o = none := by
  cases o with
  | none => simp
  | some d => simp [oI_ne (h d rfl)]
theorem oI_inj {o o' : Option Nat} (h : ∀ d, o = some d → d < 2 ^ 31) (h' : ∀ d, o' = some d → d < 2 ^ 31) : oI o = oI o' ↔ o = o' := by
  cases o with
  | none =>
    cases o' with
    | none => simp
    | some e => simp only [reduceCtorEq, iff_false]; exact fun c => oI_ne (h' e rfl) c.symm
  | some d =>
    cases o' with
    | none => simp only [reduceCtorEq, iff_false]; exact fun c => oI_ne (h d rfl) c
    | some e =>
      have := nI_eq (h d rfl) (h' e rfl)
      simp only [oI, this, Option.some.injEq]
theorem jl_z1 : ((1 : Int32) = 0) ↔ False := by decide
theorem n_sub_lt {a b : Nat} (ha : a < 2 ^ 30) (hb : b < 2 ^ 30) : (nI a - nI b).toInt = (a : Int) - b := pk_sub_toInt ha hb
theorem mx {a b : Nat} (ha : a < 2 ^ 30) (hb : b < 2 ^ 30) : (if nI 0 < nI a - nI b then nI a - nI b else nI 0) = nI (a - b) := by
  have h := pk_sub_toInt ha hb
  by_cases c : b ≤ a
  · rw [pk_sub c]
    by_cases c2 : 0 < a - b
    · rw [if_pos ((nI_ltI (by omega) (by omega)).2 c2)]
    · have : a - b = 0 := by omega
      rw [this]; simp
  · have h2 : ¬ nI 0 < nI a - nI b := by
      intro q
      have := Int32.lt_iff_toInt_lt.mp q
      rw [h, nI_toInt (by omega)] at this; omega
    rw [if_neg h2, show a - b = 0 by omega]
theorem mx0 {a b : Nat} (ha : a < 2 ^ 30) (hb : b < 2 ^ 30) : (if (0 : Int32) < nI a - nI b then nI a - nI b else (0 : Int32)) = nI (a - b) := mx ha hb
theorem mx2 {a b : Nat} {Q : Int32 → Mem → Prop} {μ : Mem} (ha : a < 2 ^ 30) (hb : b < 2 ^ 30) (h : Q (nI (a - b)) μ) : (nI 0 ≤ nI a - nI b → Q (nI a - nI b) μ) ∧ (¬ nI 0 ≤ nI a - nI b → Q (nI 0) μ) := by
  have e := pk_sub_toInt ha hb
  by_cases c : b ≤ a
  · rw [pk_sub c]
    exact ⟨fun _ => h, fun q => absurd (nI_le (Nat.zero_le _) (by omega)) q⟩
  · rw [show a - b = 0 by omega] at h
    refine ⟨fun q => ?_, fun _ => h⟩
    have := Int32.le_iff_toInt_le.mp q
    rw [e, nI_toInt (by omega)] at this; omega
theorem mn {a b : Nat} (ha : a < 2 ^ 31) (hb : b < 2 ^ 31) : (if nI a < nI b then nI a else nI b) = nI (min a b) := by
  by_cases c : a < b
  · rw [if_pos ((nI_ltI ha hb).2 c), Nat.min_eq_left (by omega)]
  · rw [if_neg (fun q => c ((nI_ltI ha hb).1 q)), Nat.min_eq_right (by omega)]
theorem dI_s (n : Nat) : nI n + (-1) = dI n := by
  cases n with
  | zero => decide
  | succ n => exact pk_m1 n
theorem dI_s2 (n : Nat) : nI n + dI 0 = dI n := dI_s n
theorem dI_neg : dI 0 < 0 := by decide
theorem dI_pos {n : Nat} (h : n < 2 ^ 31) : ¬ dI (n + 1) < 0 := nI_pos h
def sumN (f : Nat → Nat) : Nat → Nat
  | 0 => 0
  | k + 1 => sumN f k + f k
theorem sumN_le {f : Nat → Nat} {B : Nat} : ∀ {n : Nat}, (∀ i, i < n → f i ≤ B) → sumN f n ≤ n * B
  | 0, _ => by simp [sumN]
  | n + 1, h => by
    have := sumN_le (n := n) (fun i hi => h i (by omega))
    have h2 := h n (by omega)
    rw [sumN, Nat.succ_mul]; omega
theorem sumN_congr {f g : Nat → Nat} : ∀ {n : Nat}, (∀ i, i < n → f i = g i) → sumN f n = sumN g n
  | 0, _ => rfl
  | n + 1, h => by rw [sumN, sumN, sumN_congr (n := n) (fun i hi => h i (by omega)), h n (by omega)]
/-- a loop that counts up -/
theorem up_loop {T : Nat → Mem → Prop} {J : Nat → Mem → Prop} {n : Nat} (step : ∀ i μ, i < n → J i μ → (∀ μ', J (i + 1) μ' → T (i + 1) μ') → T i μ) (last : ∀ μ, J n μ → T n μ) : ∀ i μ, i ≤ n → J i μ → T i μ := by
  have key : ∀ d i μ, i + d = n → J i μ → T i μ := by
    intro d
    induction d with
    | zero => intro i μ hi hj; have : i = n := by omega
              subst this; exact last μ hj
    | succ d ih => intro i μ hi hj; exact step i μ (by omega) hj (fun μ' h' => ih (i + 1) μ' (by omega) h')
  intro i μ hi hj
  exact key (n - i) i μ (by omega) hj
theorem up_pure {T : Nat → Prop} {n : Nat} (step : ∀ i, i < n → T (i + 1) → T i) (last : T n) : ∀ i, i ≤ n → T i := by
  have key : ∀ d i, i + d = n → T i := by
    intro d
    induction d with
    | zero => intro i hi; have : i = n := by omega
              subst this; exact last
    | succ d ih => intro i hi; exact step i (by omega) (ih (i + 1) (by omega))
  intro i hi
  exact key (n - i) i (by omega)
