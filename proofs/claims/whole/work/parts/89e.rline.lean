-- the reference's short lines
theorem MD_of {μ m : Mem} {ρ : RA} (h : MD μ ρ) (f : ∀ a j : Nat, ((a = 100 ∧ 10 ≤ j ∧ j ≤ 18) ∨ (106 ≤ a ∧ a ≤ 110)) → m.1 a j = μ.1 a j) : MD m ρ := by
  obtain ⟨d1, d2, d3, d4, d5, d6, d7, d8, d9⟩ := h
  refine ⟨(f _ _ (by omega)).trans d1, (f _ _ (by omega)).trans d2, (f _ _ (by omega)).trans d3, (f _ _ (by omega)).trans d4, (f _ _ (by omega)).trans d5, fun t ht => ?_, fun s hs => ?_, fun i hi => ?_, fun w hw => (f _ _ (by omega)).trans (d9 w hw)⟩
  · rw [f _ _ (by omega), f _ _ (by omega), f _ _ (by omega)]; exact d6 t ht
  · rw [f _ _ (by omega), f _ _ (by omega), f _ _ (by omega), f _ _ (by omega), f _ _ (by omega)]; exact d7 s hs
  · rw [f _ _ (by omega), f _ _ (by omega)]; exact d8 i hi
/-- the reference between two lines -/
def RS (tl : Nat) (tp : Nat → Nat) (m : Mem) (ρ : RA) (U : List (Nat × Nat)) (ag sh : Nat) : Prop := TR m tl tp ∧ MD m ρ ∧ RU m U ∧ m.1 100 20 = nI ag ∧ m.1 100 21 = nI sh
theorem RS_FN {tl ag sh : Nat} {tp : Nat → Nat} {ρ : RA} {U : List (Nat × Nat)} {μ m : Mem} (h : RS tl tp μ ρ U ag sh) (f : FN μ m) : RS tl tp m ρ U ag sh :=
  ⟨TR_FD h.1 (FD_FN f), MD_of h.2.1 (fun a j q => f a j (by omega)), RU_of h.2.2.1 (f _ _ (by omega)) (fun i => ⟨f _ _ (by omega), f _ _ (by omega)⟩), (f _ _ (by omega)).trans h.2.2.2.1, (f _ _ (by omega)).trans h.2.2.2.2⟩
/-- a number of the draft changed -/
theorem MD_set0 {m : Mem} {ρ : RA} {j v : Nat} (h : MD m ρ) (hj : j = 12 ∨ j = 13 ∨ j = 14) : MD (ms m 100 (j + 4) (nI v)) (rset ρ 0 j v) := by
  obtain ⟨d1, d2, d3, d4, d5, d6, d7, d8, d9⟩ := h
  have o : ∀ a i : Nat, a ≠ 100 ∨ i ≠ j + 4 → (ms m 100 (j + 4) (nI v)).1 a i = m.1 a i := fun a i z => by
    rw [ms_1]
    by_cases y : a = 100
    · rw [if_pos y, if_neg (by omega)]
    · rw [if_neg y]
  have n : ∀ f i : Nat, f ≠ 0 ∨ i ≠ j → rset ρ 0 j v f i = ρ f i := fun f i z => rset_n _ _ _ _ f i z
  have p : ∀ i : Nat, 12 ≤ i → m.1 100 (i + 4) = nI (ρ 0 i) → (ms m 100 (j + 4) (nI v)).1 100 (i + 4) = nI (rset ρ 0 j v 0 i) := fun i hi hx => by
    by_cases z : i = j
    · rw [z, rset_y, ms_1, if_pos rfl, if_pos rfl]
    · rw [o _ _ (by omega), n _ _ (by omega)]; exact hx
  refine ⟨?_, ?_, p 12 (by omega) d3, p 13 (by omega) d4, p 14 (by omega) d5, fun t ht => ?_, fun s hs => ?_, fun i hi => ?_, fun w hw => ?_⟩
  · rw [o _ _ (by omega), n _ _ (by omega)]; exact d1
  · rw [o _ _ (by omega), n _ _ (by omega)]; exact d2
  · rw [n 0 0 (by omega)] at ht
    rw [o _ _ (by omega), o _ _ (by omega), o _ _ (by omega), n 1 t (by omega), n 2 t (by omega), n 3 t (by omega)]; exact d6 t ht
  · rw [n 0 4 (by omega)] at hs
    rw [o _ _ (by omega), o _ _ (by omega), o _ _ (by omega), o _ _ (by omega), o _ _ (by omega), n 4 s (by omega), n 5 s (by omega), n 6 s (by omega), n 7 s (by omega)]
    have e : thgM (rset ρ 0 j v) s = thgM ρ s := by
      have b : ∀ k : Nat, bitsW (rset ρ 0 j v) s k = bitsW ρ s k := fun k => by
        induction k with
        | zero => rfl
        | succ k ih => unfold bitsW; rw [ih, n 9 _ (by omega)]
      unfold thgM
      rw [n 4 s (by omega), n 8 s (by omega), b]
    rw [e]; exact d7 s hs
  · rw [n 0 4 (by omega)] at hi
    rw [o _ _ (by omega), o _ _ (by omega), n 9 i (by omega), n 10 i (by omega)]; exact d8 i hi
  · rw [o _ _ (by omega), n 11 w (by omega)]; exact d9 w hw
theorem RS_set0 {tl ag sh j v : Nat} {tp : Nat → Nat} {ρ : RA} {U : List (Nat × Nat)} {m : Mem} (h : RS tl tp m ρ U ag sh) (hj : j = 12 ∨ j = 13 ∨ j = 14) : RS tl tp (ms m 100 (j + 4) (nI v)) (rset ρ 0 j v) U ag sh := by
  have o : ∀ a i : Nat, a ≠ 100 ∨ i ≠ j + 4 → (ms m 100 (j + 4) (nI v)).1 a i = m.1 a i := fun a i z => by
    rw [ms_1]
    by_cases y : a = 100
    · rw [if_pos y, if_neg (by omega)]
    · rw [if_neg y]
  exact ⟨TR_FD h.1 (fun a i z1 z2 => o a i (by omega)), MD_set0 h.2.1 hj, RU_of h.2.2.1 (o _ _ (by omega)) (fun i => ⟨o _ _ (by omega), o _ _ (by omega)⟩), (o _ _ (by omega)).trans h.2.2.2.1, (o _ _ (by omega)).trans h.2.2.2.2⟩
theorem FD_ms100 {m : Mem} {j : Nat} {v : Int32} (hj : 10 ≤ j ∧ j ≤ 25) : FD m (ms m 100 j v) := fun a i z1 z2 => by
  rw [ms_1]
  by_cases y : a = 100
  · have := z1 y
    rw [if_pos y, if_neg (by omega)]
  · rw [if_neg y]
theorem RT_ms100 {tl p j : Nat} {tp : Nat → Nat} {m : Mem} {v : Int32} (h : RT tl tp m p) (hj : j ≤ 25) : RT tl tp (ms m 100 j v) p := RT_of h (fun i z1 z2 => by rw [ms_1, if_pos rfl, if_neg (by omega)])
theorem RF_ms100 {m : Mem} {c f j : Nat} {v : Int32} (h : RF m c f) (hj : j ≤ 25) : RF (ms m 100 j v) c f := RF_of h (by rw [ms_1, if_pos rfl, if_neg (by omega)]) (by rw [ms_1, if_pos rfl, if_neg (by omega)])
theorem r_readThing {R : Type} {G : R → Prop} {E : Nat → Nat → R} {K : RA → Nat → R} {tl p L ag sh : Nat} {tp : Nat → Nat} {ρ : RA} {U : List (Nat × Nat)} {μ : Mem} {Q : Mem → Prop} (hS : RS tl tp μ ρ U ag sh) (hI : LI ρ U p L) (h6 : ρ 0 0 < 6) (hp : p ≤ tl) (hR : RT tl tp μ p)
    (hG : G (fNum tl tp p 1 4 E (fun a e1 => fNum tl tp e1 1 4 E (fun b e2 => fNum tl tp e2 0 60 E (fun c e3 => fPoint tl tp e3 E (fun e4 => K (rset (rset (rset (rset ρ 0 0 (ρ 0 0 + 1)) 1 (ρ 0 0) a) 2 (ρ 0 0) b) 3 (ρ 0 0) c) e4))))))
    (hE : ∀ c f : Nat, 1 ≤ c → c ≤ 6 → f ≤ tl → G (E c f) → ∀ m : Mem, RF m c f → FD μ m → Q m)
    (hK : ∀ (ρ' : RA) (p' : Nat), LI ρ' U p' L → ρ' 0 4 = ρ 0 4 → p ≤ p' → p' ≤ tl → G (fStop tl tp p' E (fun e => K ρ' e)) → ∀ m : Mem, RS tl tp m ρ' U ag sh → RT tl tp m p' → FD μ m → Q m) : PX7_readThing 100 μ Q := by
  have he0 := tE_le (tp := tp) hp
  have e10 : μ.1 100 10 = nI (ρ 0 0) := hS.2.1.1
  have e3 : (3 : Int32) * μ.1 100 10 = nI (3 * ρ 0 0) := by rw [e10]; exact pk_mul 3 (ρ 0 0)
  unfold PX7_readThing
  refine r_num (lo := 1) (hi := 4) hS.1 hp hR (by omega) (by omega) hG (fun a _ _ s => fNum_4 s) (fun c f c1 c2 f1 g x m rf fn => r_num_f rf (fun x2 => r_num_f rf (fun x3 => ⟨fun _ => hE c f c1 c2 f1 g m rf (FD_FN fn), fun d => absurd d (RF_nz rf)⟩))) (fun a a1 a2 s1 g1 m1 rt1 fn1 => ?_)
  have z1 := RS_FN hS fn1
  have he1 := tE_le (tp := tp) he0.2
  have mo0 := tE_mono (tp := tp) hp
  have mo1 := tE_mono (tp := tp) he0.2
  refine r_num (lo := 1) (hi := 4) z1.1 he0.2 rt1 (by omega) (by omega) g1 (fun a _ _ s => fNum_4 s) (fun c f c1 c2 f1 g x m rf fn => r_num_f rf (fun x3 => ⟨fun _ => hE c f c1 c2 f1 g m rf (FD_FN (FN_trans fn1 fn)), fun d => absurd d (RF_nz rf)⟩)) (fun b b1 b2 s2 g2 m2 rt2 fn2 => ?_)
  have z2 := RS_FN z1 fn2
  have he2 := tE_le (tp := tp) he1.2
  have mo2 := tE_mono (tp := tp) he1.2
  refine r_num (lo := 0) (hi := 60) z2.1 he1.2 rt2 (by omega) (by omega) g2 (fun a _ _ s => fPoint_4 s) (fun c f c1 c2 f1 g x m rf fn => ⟨fun _ => hE c f c1 c2 f1 g m rf (FD_FN (FN_trans (FN_trans fn1 fn2) fn)), fun d => absurd d (RF_nz rf)⟩) (fun c c1 c2 s3 g3 m3 rt3 fn3 => ?_)
  have z3 := RS_FN z2 fn3
  have fd3 := FD_FN (FN_trans (FN_trans fn1 fn2) fn3)
  rw [fPoint_n rt3.2.2.2.2.1] at g3
  have e2 : nI (3 * ρ 0 0) + (2 : Int32) = nI (3 * ρ 0 0 + 2) := nI_add _ 2
  rw [e3, nI_1, e2, nI_clamp (n := 3 * ρ 0 0) (by omega), nI_clamp (n := 3 * ρ 0 0 + 1) (by omega), nI_clamp (n := 3 * ρ 0 0 + 2) (by omega)]
  refine ⟨fun d => absurd rt3.2.2.2.2.2 d, fun _ => ⟨vp_in_nI (by omega) (by omega), vp_in_nI (by omega) (by omega), fun m8 hm8 => ⟨vp_in_nI (by omega) (by omega), fun m9 hm9 => ?_⟩⟩⟩
  have e10' : (ms m8 (100 + 6) (3 * ρ 0 0 + 2) (nI c)).1 100 10 = nI (ρ 0 0) := by
    rw [ms_1, if_neg (by decide), hm8, ms_1, if_neg (by decide), ms_1, if_neg (by decide)]
    exact z3.2.1.1
  rw [e10', nI_1] at hm9
  have o : ∀ a' j : Nat, a' ≠ 106 → (a' = 100 → j ≠ 10) → m9.1 a' j = m3.1 a' j := fun a' j y1 y2 => by
    rw [hm9, ms_1]
    by_cases y : a' = 100
    · rw [if_pos y, if_neg (y2 y), ms_1, if_neg (by omega), hm8, ms_1, if_neg (by omega), ms_1, if_neg (by omega)]
    · rw [if_neg y, ms_1, if_neg (by omega), hm8, ms_1, if_neg (by omega), ms_1, if_neg (by omega)]
  have o6 : ∀ j : Nat, m9.1 106 j = if j = 3 * ρ 0 0 + 2 then nI c else if j = 3 * ρ 0 0 + 1 then nI b else if j = 3 * ρ 0 0 then nI a else m3.1 106 j := fun j => by
    rw [hm9, ms_1, if_neg (by decide), ms_1, if_pos rfl, hm8, ms_1, if_pos rfl, ms_1, if_pos rfl]
  have q0 : m9.1 100 10 = nI (ρ 0 0 + 1) := by rw [hm9, ms_1, if_pos rfl, if_pos rfl]
  have n : ∀ f j : Nat, 4 ≤ f → rset (rset (rset (rset ρ 0 0 (ρ 0 0 + 1)) 1 (ρ 0 0) a) 2 (ρ 0 0) b) 3 (ρ 0 0) c f j = ρ f j := fun f j z => by
    rw [rset_n _ _ _ _ f j (Or.inl (by omega)), rset_n _ _ _ _ f j (Or.inl (by omega)), rset_n _ _ _ _ f j (Or.inl (by omega)), rset_n _ _ _ _ f j (Or.inl (by omega))]
  have n0 : ∀ j : Nat, j ≠ 0 → rset (rset (rset (rset ρ 0 0 (ρ 0 0 + 1)) 1 (ρ 0 0) a) 2 (ρ 0 0) b) 3 (ρ 0 0) c 0 j = ρ 0 j := fun j z => by
    rw [rset_n _ _ _ _ 0 j (Or.inl (by omega)), rset_n _ _ _ _ 0 j (Or.inl (by omega)), rset_n _ _ _ _ 0 j (Or.inl (by omega)), rset_n _ _ _ _ 0 j (Or.inr z)]
  have n00 : rset (rset (rset (rset ρ 0 0 (ρ 0 0 + 1)) 1 (ρ 0 0) a) 2 (ρ 0 0) b) 3 (ρ 0 0) c 0 0 = ρ 0 0 + 1 := by
    rw [rset_n _ _ _ _ 0 0 (Or.inl (by omega)), rset_n _ _ _ _ 0 0 (Or.inl (by omega)), rset_n _ _ _ _ 0 0 (Or.inl (by omega)), rset_y]
  have bw : ∀ s k : Nat, bitsW (rset (rset (rset (rset ρ 0 0 (ρ 0 0 + 1)) 1 (ρ 0 0) a) 2 (ρ 0 0) b) 3 (ρ 0 0) c) s k = bitsW ρ s k := fun s k => by
    induction k with
    | zero => rfl
    | succ k ih => unfold bitsW; rw [ih, n 9 _ (by omega)]
  have fd9 : FD μ m9 := FD_trans fd3 (fun a' j y1 y2 => o a' j (by omega) (fun y => by have := y1 y; omega))
  obtain ⟨d1, d2, d3, d4, d5, d6, d7, d8, d9⟩ := z3.2.1
  refine hK _ _ (LI_thing hI (by omega) h6 a1 a2 b1 b2 c2) (n0 4 (by omega)) (by omega) he2.2 g3 m9 ⟨TR_FD hS.1 fd9, ⟨?_, ?_, ?_, ?_, ?_, fun t ht => ?_, fun s hs => ?_, fun i hi => ?_, fun w hw => ?_⟩, RU_of z3.2.2.1 (o _ _ (by omega) (by omega)) (fun i => ⟨o _ _ (by omega) (by omega), o _ _ (by omega) (by omega)⟩), (o _ _ (by omega) (by omega)).trans z3.2.2.2.1, (o _ _ (by omega) (by omega)).trans z3.2.2.2.2⟩ (RT_of rt3 (fun j y1 y2 => o _ _ (by omega) (by omega))) fd9
  · rw [n00]; exact q0
  · rw [n0 4 (by omega)]; exact (o _ _ (by omega) (by omega)).trans d2
  · rw [n0 12 (by omega)]; exact (o _ _ (by omega) (by omega)).trans d3
  · rw [n0 13 (by omega)]; exact (o _ _ (by omega) (by omega)).trans d4
  · rw [n0 14 (by omega)]; exact (o _ _ (by omega) (by omega)).trans d5
  · rw [n00] at ht
    rw [o6, o6, o6, rset_n _ 3 _ _ 1 t (by omega), rset_n _ 2 _ _ 1 t (by omega), rset_n _ 3 _ _ 2 t (by omega)]
    by_cases z : t = ρ 0 0
    · rw [z, rset_y, rset_y, rset_y, if_neg (by omega), if_neg (by omega), if_pos rfl, if_neg (by omega), if_pos rfl, if_pos rfl]
      exact ⟨rfl, rfl, rfl⟩
    · rw [rset_n _ 1 _ _ 1 t (Or.inr z), rset_n _ 2 _ _ 2 t (Or.inr z), rset_n _ 3 _ _ 3 t (Or.inr z), rset_n _ 1 _ _ 2 t (by omega), rset_n _ 2 _ _ 3 t (by omega), rset_n _ 1 _ _ 3 t (by omega), rset_n _ 0 _ _ 1 t (by omega), rset_n _ 0 _ _ 2 t (by omega), rset_n _ 0 _ _ 3 t (by omega), if_neg (by omega), if_neg (by omega), if_neg (by omega), if_neg (by omega), if_neg (by omega), if_neg (by omega), if_neg (by omega), if_neg (by omega), if_neg (by omega)]
      exact d6 t (by omega)
  · rw [n0 4 (by omega)] at hs
    have e : thgM (rset (rset (rset (rset ρ 0 0 (ρ 0 0 + 1)) 1 (ρ 0 0) a) 2 (ρ 0 0) b) 3 (ρ 0 0) c) s = thgM ρ s := by
      unfold thgM
      rw [n 4 s (by omega), n 8 s (by omega), bw]
    rw [e, o _ _ (by omega) (by omega), o _ _ (by omega) (by omega), o _ _ (by omega) (by omega), o _ _ (by omega) (by omega), o _ _ (by omega) (by omega), n 4 s (by omega), n 5 s (by omega), n 6 s (by omega), n 7 s (by omega)]
    exact d7 s hs
  · rw [n0 4 (by omega)] at hi
    rw [o _ _ (by omega) (by omega), o _ _ (by omega) (by omega), n 9 i (by omega), n 10 i (by omega)]; exact d8 i hi
  · rw [o _ _ (by omega) (by omega), n 11 w (by omega)]; exact d9 w hw
theorem r_readShops {R : Type} {G : R → Prop} {E : Nat → Nat → R} {K : RA → Nat → R} {tl p L ag sh : Nat} {tp : Nat → Nat} {ρ : RA} {U : List (Nat × Nat)} {μ : Mem} {Q : Mem → Prop} (hS : RS tl tp μ ρ U ag sh) (hI : LI ρ U p L) (hp : p ≤ tl) (hR : RT tl tp μ p) (hG : G (fShops tl tp E (fun x e' => K (rset ρ 0 13 x) e') 8 0 0 p))
    (hE : ∀ c f : Nat, 1 ≤ c → c ≤ 6 → f ≤ tl → G (E c f) → ∀ m : Mem, RF m c f → FD μ m → Q m)
    (hK : ∀ (ρ' : RA) (p' : Nat), LI ρ' U p' L → ρ' 0 4 = ρ 0 4 → p ≤ p' → p' ≤ tl → G (fStop tl tp p' E (fun e => K ρ' e)) → ∀ m : Mem, RS tl tp m ρ' U ag sh → RT tl tp m p' → FD μ m → Q m) : PX7_readShops 100 μ Q := by
  intro S4 h4
  have lp : ∀ n x lo q : Nat, ∀ m : Mem, 8 ≤ n + lo → n ≤ 8 → lo ≤ 7 → x < 128 → q ≤ tl → p ≤ q → G (fShops tl tp E (fun x e' => K (rset ρ 0 13 x) e') n x lo q) → RS tl tp m ρ U ag sh → RT tl tp m q → FD μ m → S4 (nI x) (nI lo) m := by
    intro n
    induction n with
    | zero => intro x lo q m h1 h2 h3; omega
    | succ n ih =>
      intro x lo q m h1 h2 h3 hx hq hpq g s rt fd
      have hq2 := tE_le (tp := tp) hq
      have mo := tE_mono (tp := tp) hq
      apply h4
      unfold nX7_readShops_4 nX7_readShops_40
      have e29 : m.1 100 29 = (2 : Int32) ↔ tS tl tp q = 2 := RT_eq (x := 2) rt (by omega)
      rw [e29]
      refine ⟨fun d => absurd rt.2.2.2.2.2 d, fun _ => ⟨fun s2 => ?_, fun s2 => ?_⟩⟩
      · have g' : G (fStop tl tp q E (fun e => K (rset ρ 0 13 x) e)) := by
          unfold fShops at g
          rw [if_neg rt.2.2.2.2.1, if_neg s2] at g
          exact g
        exact hK _ q (LI_0 hI hpq (Or.inr ⟨Or.inl rfl, by omega⟩)) (rset_n _ _ _ _ 0 4 (Or.inr (by omega))) hpq hq g' _ (RS_set0 (j := 13) s (by omega)) (RT_ms100 rt (by omega)) (FD_trans fd (FD_ms100 (by omega)))
      · have g' : G (fNum tl tp q lo 6 E (fun v e => fShops tl tp E (fun x e' => K (rset ρ 0 13 x) e') n (obN x v) (v + 1) e)) := by
          unfold fShops at g
          unfold fNum
          rw [if_neg rt.2.2.2.2.1, if_pos s2] at g
          rw [if_neg rt.2.2.2.2.1, if_neg (by omega)]
          exact g
        refine r_num (lo := lo) (hi := 6) s.1 hq rt (by omega) (by omega) g' (fun v v1 v2 s4 => ?_) (fun c f c1 c2 f1 g y m1 rf fn => ?_) (fun v v1 v2 _ g2 m1 rt1 fn => ?_)
        · cases n with
          | zero => omega
          | succ n => exact if_pos s4
        · apply h4
          unfold nX7_readShops_4 nX7_readShops_40
          exact ⟨fun _ => hE c f c1 c2 f1 g _ (RF_ms100 rf (by omega)) (FD_trans fd (FD_trans (FD_FN fn) (FD_ms100 (by omega)))), fun d => absurd d (RF_nz rf)⟩
        · rw [or_bit (by omega), nI_1]
          exact ih (obN x v) (v + 1) _ m1 (by omega) (by omega) (by omega) (obN_lt (k := 7) hx (by omega)) hq2.2 (by omega) g2 (RS_FN s fn) rt1 (FD_trans fd (FD_FN fn))
  exact lp 8 0 0 p μ (by omega) (by omega) (by omega) (by omega) hp (Nat.le_refl _) hG hS hR FD_refl
theorem r_week {R : Type} {G : R → Prop} {E : Nat → Nat → R} {K : Nat → Nat → R} {tl p had : Nat} {tp : Nat → Nat} {μ : Mem} {Q : Int32 → Mem → Prop} (hT : TR μ tl tp) (hp : p ≤ tl) (hR : RT tl tp μ p) (hh : had < 128) (hG : G (fNum tl tp p 0 6 E K)) (hb : ∀ v : Nat, v ≤ 6 → bitN had v = 1 → K v (tE tl tp p) = E 4 (tF tl tp p)) (hB : ∀ v : Nat, v ≤ 6 → ¬ bitN had v = 1 → tS tl tp (tE tl tp p) = 4 → K v (tE tl tp p) = E 1 (tF tl tp (tE tl tp p)))
    (hE : ∀ c f : Nat, 1 ≤ c → c ≤ 6 → f ≤ tl → G (E c f) → ∀ (x : Int32) (m : Mem), RF m c f → FN μ m → Q x m)
    (hK : ∀ v : Nat, v ≤ 6 → ¬ bitN had v = 1 → G (K v (tE tl tp p)) → ∀ m : Mem, RT tl tp m (tE tl tp p) → FN μ m → Q (nI v) m) : PX7_readWeekDay 100 (nI had) μ Q := by
  have hfl := (tF_le (tp := tp) hp).2
  unfold PX7_readWeekDay nX7_readWeekDay_37 nX7_readWeekDay_33 nX7_readWeekDay_37
  refine r_isNum (lo := 0) (hi := 6) hT hp hR (by omega) (by omega) hG (fun c f c1 c2 f1 g m rf fn => ⟨fun _ => r_nf rf (hE c f c1 c2 f1 g _ m rf fn), fun d => absurd d (RF_nz rf)⟩) (fun v _ v6 _ g e30 => ?_)
  rw [e30]
  refine ⟨fun d => absurd hR.2.2.2.2.2 d, fun _ => ⟨fun d => ?_, fun d => ?_⟩⟩
  · have d4 : bitN had v = 1 := by
      by_cases y : bitN had v = 1
      · exact y
      · exact absurd ((jb_0 (a := had) (t := v) (by omega) (by omega)).2 y) d
    rw [hb v v6 d4] at g
    exact r_need (c := 4) hR (by omega) (by omega) (fun m rf fn => r_nf rf (hE 4 _ (by omega) (by omega) hfl g _ m rf fn))
  · have d4 : ¬ bitN had v = 1 := (jb_0 (a := had) (t := v) (by omega) (by omega)).1 d
    exact r_needs_y np1 (r_nx hT (tE_le hp).2 hR.1 hR.2.2.2.2.2 g (hB v v6 d4) (fun c f c1 c2 f1 g2 m rf fn => hE c f c1 c2 f1 g2 _ m rf fn) (fun g2 m rt fn => hK v v6 d4 g2 m rt fn))
theorem r_readOut {R : Type} {G : R → Prop} {E : Nat → Nat → R} {K : RA → Nat → R} {tl p L ag sh : Nat} {tp : Nat → Nat} {ρ : RA} {U : List (Nat × Nat)} {μ : Mem} {Q : Mem → Prop} (hS : RS tl tp μ ρ U ag sh) (hI : LI ρ U p L) (hp : p ≤ tl) (hR : RT tl tp μ p) (hG : G (fOut tl tp ρ p E K))
    (hE : ∀ c f : Nat, 1 ≤ c → c ≤ 6 → f ≤ tl → G (E c f) → ∀ m : Mem, RF m c f → FD μ m → Q m)
    (hK : ∀ (ρ' : RA) (p' : Nat), LI ρ' U p' L → ρ' 0 4 = ρ 0 4 → p ≤ p' → p' ≤ tl → G (fStop tl tp p' E (fun e => K ρ' e)) → ∀ m : Mem, RS tl tp m ρ' U ag sh → RT tl tp m p' → FD μ m → Q m) : PX7_readOut 100 μ Q := by
  have o14 : ρ 0 14 < 2 ^ 7 := by have := hI.1.2.2.2.2.1; omega
  have mo := tE_mono (tp := tp) hp
  have e18 : μ.1 100 18 = nI (ρ 0 14) := hS.2.1.2.2.2.2.1
  unfold fOut at hG
  unfold PX7_readOut
  rw [e18]
  refine r_week hS.1 hp hR (by omega) hG (fun v _ d => if_pos d) (fun v _ d s => (if_neg d).trans (fPoint_4 s)) (fun c f c1 c2 f1 g x m rf fn => ⟨fun _ => hE c f c1 c2 f1 g m rf (FD_FN fn), fun d => absurd d (RF_nz rf)⟩) (fun v v6 d g m rt fn => ⟨fun d => absurd rt.2.2.2.2.2 d, fun _ => ?_⟩)
  have s1 := RS_FN hS fn
  have e18' : m.1 100 18 = nI (ρ 0 14) := s1.2.1.2.2.2.2.1
  rw [e18', or_bit (by omega)]
  rw [if_neg d, fPoint_n rt.2.2.2.2.1] at g
  have := obN_lt (t := v) o14 (by omega)
  exact hK _ _ (LI_0 hI mo (Or.inr ⟨Or.inr rfl, by omega⟩)) (rset_n _ _ _ _ 0 4 (Or.inr (by omega))) mo (tE_le hp).2 g _ (RS_set0 (j := 14) s1 (by omega)) (RT_ms100 rt (by omega)) (FD_trans (FD_FN fn) (FD_ms100 (by omega)))
theorem MD_set11 {m : Mem} {ρ : RA} {i v : Nat} (h : MD m ρ) : MD (ms m 110 i (nI v)) (rset ρ 11 i v) := by
  obtain ⟨d1, d2, d3, d4, d5, d6, d7, d8, d9⟩ := h
  have o : ∀ a x : Nat, a ≠ 110 → (ms m 110 i (nI v)).1 a x = m.1 a x := fun a x z => by rw [ms_1, if_neg z]
  have n : ∀ f x : Nat, f ≠ 11 → rset ρ 11 i v f x = ρ f x := fun f x z => rset_n _ _ _ _ f x (Or.inl z)
  refine ⟨?_, ?_, ?_, ?_, ?_, fun t ht => ?_, fun s hs => ?_, fun x hx => ?_, fun w hw => ?_⟩
  · rw [o _ _ (by omega), n _ _ (by omega)]; exact d1
  · rw [o _ _ (by omega), n _ _ (by omega)]; exact d2
  · rw [o _ _ (by omega), n _ _ (by omega)]; exact d3
  · rw [o _ _ (by omega), n _ _ (by omega)]; exact d4
  · rw [o _ _ (by omega), n _ _ (by omega)]; exact d5
  · rw [n 0 0 (by omega)] at ht
    rw [o _ _ (by omega), o _ _ (by omega), o _ _ (by omega), n 1 t (by omega), n 2 t (by omega), n 3 t (by omega)]; exact d6 t ht
  · rw [n 0 4 (by omega)] at hs
    rw [o _ _ (by omega), o _ _ (by omega), o _ _ (by omega), o _ _ (by omega), o _ _ (by omega), n 4 s (by omega), n 5 s (by omega), n 6 s (by omega), n 7 s (by omega)]
    have e : thgM (rset ρ 11 i v) s = thgM ρ s := by
      have b : ∀ k : Nat, bitsW (rset ρ 11 i v) s k = bitsW ρ s k := fun k => by
        induction k with
        | zero => rfl
        | succ k ih => unfold bitsW; rw [ih, n 9 _ (by omega)]
      unfold thgM
      rw [n 4 s (by omega), n 8 s (by omega), b]
    rw [e]; exact d7 s hs
  · rw [n 0 4 (by omega)] at hx
    rw [o _ _ (by omega), o _ _ (by omega), n 9 x (by omega), n 10 x (by omega)]; exact d8 x hx
  · rw [ms_1, if_pos rfl]
    by_cases z : w = i
    · rw [if_pos z, z, rset_y]
    · rw [if_neg z, rset_n _ _ _ _ 11 w (Or.inr z)]; exact d9 w hw
theorem r_readGuest {R : Type} {G : R → Prop} {E : Nat → Nat → R} {K : RA → Nat → R} {tl p L ag sh : Nat} {tp : Nat → Nat} {ρ : RA} {U : List (Nat × Nat)} {μ : Mem} {Q : Mem → Prop} (hS : RS tl tp μ ρ U ag sh) (hI : LI ρ U p L) (hp : p ≤ tl) (hR : RT tl tp μ p) (hG : G (fGuest tl tp ρ p E K))
    (hE : ∀ c f : Nat, 1 ≤ c → c ≤ 6 → f ≤ tl → G (E c f) → ∀ m : Mem, RF m c f → FD μ m → Q m)
    (hK : ∀ (ρ' : RA) (p' : Nat), LI ρ' U p' L → ρ' 0 4 = ρ 0 4 → p ≤ p' → p' ≤ tl → G (fStop tl tp p' E (fun e => K ρ' e)) → ∀ m : Mem, RS tl tp m ρ' U ag sh → RT tl tp m p' → FD μ m → Q m) : PX7_readGuest 100 μ Q := by
  have he := tE_le (tp := tp) hp
  have he1 := tE_le (tp := tp) he.2
  have mo := tE_mono (tp := tp) hp
  have mo1 := tE_mono (tp := tp) he.2
  unfold fGuest at hG
  intro S4 h4
  have lp : ∀ k w b : Nat, w + k = 7 → b < 2 ^ 7 → (∀ x : Nat, x < 7 → (bitN b x = 1 ↔ x < w ∧ ρ 11 x ≠ 0)) → S4 (nI b) (nI w) μ := by
    intro k
    induction k with
    | zero =>
      intro w b hw hb hx
      apply h4
      unfold nX7_readGuest_4
      refine ⟨fun _ => ?_, fun d => absurd (nI_le (a := 7) (by omega) (by omega)) d⟩
      refine r_week hS.1 hp hR (by omega) hG (fun v v6 d => if_neg ((hx v (by omega)).1 d).2) (fun v v6 d s => ?_) (fun c f c1 c2 f1 g x m rf fn => r_num_f rf (fun x2 => ⟨fun _ => hE c f c1 c2 f1 g m rf (FD_FN fn), fun d => absurd d (RF_nz rf)⟩)) (fun v v6 d g m rt fn => ?_)
      · have z : ρ 11 v = 0 := by
          by_cases z : ρ 11 v = 0
          · exact z
          · exact absurd ((hx v (by omega)).2 ⟨by omega, z⟩) d
        exact (if_pos z).trans (fNum_4 s)
      · have z : ρ 11 v = 0 := by
          by_cases z : ρ 11 v = 0
          · exact z
          · exact absurd ((hx v (by omega)).2 ⟨by omega, z⟩) d
        rw [if_pos z] at g
        have s1 := RS_FN hS fn
        refine r_num (lo := 1) (hi := 4) s1.1 he.2 rt (by omega) (by omega) g (fun a _ _ s => fPoint_4 s) (fun c f c1 c2 f1 g x m rf fn2 => ⟨fun _ => hE c f c1 c2 f1 g m rf (FD_FN (FN_trans fn fn2)), fun d => absurd d (RF_nz rf)⟩) (fun u u1 u4 _ g2 m2 rt2 fn2 => ?_)
        rw [fPoint_n rt2.2.2.2.2.1] at g2
        have s2 := RS_FN s1 fn2
        refine ⟨fun d => absurd rt2.2.2.2.2.2 d, fun _ => ⟨vp_in_nI (by omega) (by omega), ?_⟩⟩
        rw [nI_clamp (n := v) (by omega)]
        have o : ∀ a x : Nat, a ≠ 110 → (ms m2 (100 + 10) v (nI u)).1 a x = m2.1 a x := fun a x z => by rw [ms_1, if_neg (by omega)]
        have fd : FD m2 (ms m2 (100 + 10) v (nI u)) := fun a x z1 z2 => o a x (by omega)
        exact hK _ _ (LI_11 hI (by omega) u4) (rset_n _ _ _ _ 0 4 (Or.inl (by omega))) (by omega) he1.2 g2 _ ⟨TR_FD s2.1 fd, MD_set11 s2.2.1, RU_of s2.2.2.1 (o _ _ (by omega)) (fun i => ⟨o _ _ (by omega), o _ _ (by omega)⟩), (o _ _ (by omega)).trans s2.2.2.2.1, (o _ _ (by omega)).trans s2.2.2.2.2⟩ (RT_of rt2 (fun j y1 y2 => o _ _ (by omega))) (FD_trans (FD_FN (FN_trans fn fn2)) fd)
    | succ k ih =>
      intro w b hw hb hx
      apply h4
      unfold nX7_readGuest_4 nX7_readGuest_27
      have e11 : μ.1 (100 + 10) w = nI (ρ 11 w) := hS.2.1.2.2.2.2.2.2.2.2 w (by omega)
      have b11 := hI.1.2.2.2.2.2.2.2.2.2.2 w (by omega)
      rw [nI_clamp (n := w) (by omega), e11, nI_1]
      refine ⟨fun d => absurd d (nI_ge (b := 7) (by omega) (by omega)), fun _ => ⟨vp_in_nI (by omega) (by omega), fun d => ?_, fun d => ?_⟩⟩
      · have z : ρ 11 w = 0 := by
          have := (nI_leI (b := 0) (by omega) (by omega)).1 d
          omega
        rw [Int32.or_zero]
        refine ih (w + 1) b (by omega) hb (fun x h7 => (hx x h7).trans ⟨fun y => ⟨by omega, y.2⟩, fun y => ⟨?_, y.2⟩⟩)
        by_cases q : x = w
        · rw [q] at y; exact absurd z y.2
        · omega
      · have z : ρ 11 w ≠ 0 := fun y => d (by rw [y]; exact nI_le (a := 0) (b := 0) (by omega) (by omega))
        rw [or_bit (by omega)]
        refine ih (w + 1) (obN b w) (by omega) (obN_lt hb (by omega)) (fun x h7 => ?_)
        rw [obN_bit, hx x h7]
        constructor
        · intro y
          rcases y with y | y
          · exact ⟨by omega, y.2⟩
          · rw [y]; exact ⟨by omega, z⟩
        · intro y
          by_cases q : x = w
          · exact Or.inr q
          · exact Or.inl ⟨by omega, y.2⟩
  refine lp 7 0 0 (by omega) (by omega) (fun x _ => ?_)
  have : bitN 0 x = 0 := by unfold bitN; simp
  rw [this]
  exact ⟨fun y => absurd y (by omega), fun y => absurd y.1 (by omega)⟩
