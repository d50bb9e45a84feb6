-- the reference: it stands at a token, or at a fault
def RT (tl : Nat) (tp : Nat → Nat) (m : Mem) (p : Nat) : Prop := m.1 100 27 = nI (tE tl tp p) ∧ m.1 100 28 = nI (tF tl tp p) ∧ m.1 100 29 = nI (tS tl tp p) ∧ (tS tl tp p = 2 → m.1 100 30 = nI (tV tl tp p)) ∧ tS tl tp p ≠ 4 ∧ m.1 100 31 = 0
def RF (m : Mem) (c f : Nat) : Prop := m.1 100 31 = nI c ∧ m.1 100 32 = nI f ∧ 1 ≤ c ∧ c ≤ 6
def FN (μ m : Mem) : Prop := ∀ a j : Nat, (a = 100 → j < 27 ∨ 32 < j) → m.1 a j = μ.1 a j
def FD (μ m : Mem) : Prop := ∀ a j : Nat, (a = 100 → j < 10 ∨ j = 26 ∨ 32 < j) → (a < 106 ∨ 112 < a) → m.1 a j = μ.1 a j
theorem FN_refl {μ : Mem} : FN μ μ := fun _ _ _ => rfl
theorem FD_refl {μ : Mem} : FD μ μ := fun _ _ _ _ => rfl
theorem FN_trans {μ m n : Mem} (h : FN μ m) (h2 : FN m n) : FN μ n := fun a j z => (h2 a j z).trans (h a j z)
theorem FD_trans {μ m n : Mem} (h : FD μ m) (h2 : FD m n) : FD μ n := fun a j z1 z2 => (h2 a j z1 z2).trans (h a j z1 z2)
theorem FD_FN {μ m : Mem} (h : FN μ m) : FD μ m := fun a j z1 _ => h a j (fun y => by have := z1 y; omega)
theorem TR_FD {tl : Nat} {tp : Nat → Nat} {μ m : Mem} (h : TR μ tl tp) (f : FD μ m) : TR m tl tp := ⟨(f 100 26 (fun _ => by omega) (by omega)).trans h.1, h.2.1, fun i hi => ⟨(h.2.2 i hi).1, (f 113 i (fun y => absurd y (by decide)) (by omega)).trans (h.2.2 i hi).2⟩⟩
theorem RF_nz {m : Mem} {c f : Nat} (h : RF m c f) : ¬ m.1 100 31 = 0 := by
  rw [h.1]
  have := h.2.2
  exact nI_ne0 (by omega) (by omega)
theorem RF_of {m m' : Mem} {c f : Nat} (h : RF m c f) (h1 : m'.1 100 31 = m.1 100 31) (h2 : m'.1 100 32 = m.1 100 32) : RF m' c f := ⟨h1.trans h.1, h2.trans h.2.1, h.2.2⟩
theorem RT_eq {tl p : Nat} {tp : Nat → Nat} {m : Mem} (h : RT tl tp m p) {x : Nat} (hx : x < 5) : m.1 100 29 = nI x ↔ tS tl tp p = x := by
  have s4 := tS_le (tl := tl) (tp := tp) (p := p)
  rw [h.2.2.1, nI_eq (by omega) (by omega)]
theorem RT_of {tl p : Nat} {tp : Nat → Nat} {m m' : Mem} (h : RT tl tp m p) (f : ∀ j : Nat, 27 ≤ j → j ≤ 31 → m'.1 100 j = m.1 100 j) : RT tl tp m' p := ⟨(f 27 (by omega) (by omega)).trans h.1, (f 28 (by omega) (by omega)).trans h.2.1, (f 29 (by omega) (by omega)).trans h.2.2.1, fun z => (f 30 (by omega) (by omega)).trans (h.2.2.2.1 z), h.2.2.2.2.1, (f 31 (by omega) (by omega)).trans h.2.2.2.2.2⟩
theorem r_nf {μ : Mem} {c f : Nat} {Q : Mem → Prop} (h : RF μ c f) (k : Q μ) : PX7_next 100 μ Q := r_next_f h.1 h.2.2.1 (by have := h.2.2.2; omega) k
theorem r_needs_f {μ : Mem} {c f : Nat} {v x : Int32} {Q : Mem → Prop} (h : RF μ c f) (k : Q μ) : PX7_needs 100 v x μ Q := ⟨fun _ => k, fun _ => ⟨fun _ => k, fun d => absurd d (RF_nz h)⟩⟩
theorem r_need {tl p c : Nat} {tp : Nat → Nat} {μ : Mem} {Q : Mem → Prop} (hR : RT tl tp μ p) (h1 : 1 ≤ c) (h6 : c ≤ 6) (h : ∀ m : Mem, RF m c (tF tl tp p) → FN μ m → Q m) : PX7_needs 100 0 (nI c) μ Q :=
  r_needs_n hR.2.2.2.2.2 hR.2.1 (fun m e1 e2 fr => h m ⟨e1, e2, h1, h6⟩ (fun a j z => fr a j (fun y => by have := z y; omega)))
theorem r_nx {R : Type} {G : R → Prop} {E : Nat → Nat → R} {Y : R} {tl e : Nat} {tp : Nat → Nat} {μ : Mem} {Q : Mem → Prop} (hT : TR μ tl tp) (he : e ≤ tl) (h27 : μ.1 100 27 = nI e) (h31 : μ.1 100 31 = 0) (hG : G Y) (hB : tS tl tp e = 4 → Y = E 1 (tF tl tp e))
    (hE : ∀ c f : Nat, 1 ≤ c → c ≤ 6 → f ≤ tl → G (E c f) → ∀ m : Mem, RF m c f → FN μ m → Q m)
    (hK : G Y → ∀ m : Mem, RT tl tp m e → FN μ m → Q m) : PX7_next 100 μ Q := by
  refine r_next hT he h27 h31 (fun s m e1 e2 fr => ?_) (fun s m e7 e8 e9 ev fr => ?_)
  · exact hE 1 _ (by omega) (by omega) (tF_le he).2 (by rw [← hB s]; exact hG) m ⟨e1, e2, by omega, by omega⟩ fr
  · exact hK hG m ⟨e7, e8, e9, ev, s, (fr 100 31 (by omega)).trans h31⟩ (fun a j z => fr a j (fun y => by have := z y; omega))
theorem r_isNum {R : Type} {G : R → Prop} {E : Nat → Nat → R} {K : Nat → Nat → R} {tl p lo hi : Nat} {tp : Nat → Nat} {μ : Mem} {Q : Mem → Prop} (hT : TR μ tl tp) (hp : p ≤ tl) (hR : RT tl tp μ p) (hlo : lo < 1000) (hhi : hi < 1000) (hG : G (fNum tl tp p lo hi E K))
    (hE : ∀ c f : Nat, 1 ≤ c → c ≤ 6 → f ≤ tl → G (E c f) → ∀ m : Mem, RF m c f → FN μ m → Q m)
    (hK : ∀ v : Nat, lo ≤ v → v ≤ hi → tS tl tp p = 2 → G (K v (tE tl tp p)) → μ.1 100 30 = nI v → Q μ) : PX7_isNumber 100 (nI lo) (nI hi) μ Q := by
  have hb : ∀ i : Nat, i < tl → tp i < 256 := fun i hi => (hT.2.2 i hi).1
  have hfl := (tF_le (tp := tp) hp).2
  unfold fNum at hG
  rw [if_neg hR.2.2.2.2.1] at hG
  unfold PX7_isNumber nX7_isNumber_21 nX7_isNumber_25
  have e29 : μ.1 100 29 = (2 : Int32) ↔ tS tl tp p = 2 := RT_eq (x := 2) hR (by omega)
  rw [e29]
  refine ⟨fun d => absurd hR.2.2.2.2.2 d, fun _ => ⟨fun s2 => ?_, fun s2 => ?_⟩⟩
  · rw [if_pos s2] at hG
    exact r_need (c := 2) hR (by omega) (by omega) (fun m rf fn => ⟨fun _ => hE 2 _ (by omega) (by omega) hfl hG m rf fn, fun d => absurd d (RF_nz rf)⟩)
  · rw [if_neg (by omega)] at hG
    obtain ⟨v3, _⟩ := tS_2 hp hb s2
    refine r_needs_y np1 ⟨fun d => absurd hR.2.2.2.2.2 d, fun _ => ?_⟩
    rw [hR.2.2.2.1 s2]
    refine r_in (fun z1 z2 => ?_) (fun z => ?_)
    · rw [Int32.toInt_toInt64, nI_toInt (by omega), nI_toInt (by omega)] at z1 z2
      rw [if_neg (by omega)] at hG
      exact r_needs_y np1 (hK _ (by omega) (by omega) s2 hG (hR.2.2.2.1 s2))
    · rw [Int32.toInt_toInt64, Int32.toInt_toInt64, nI_toInt (by omega), nI_toInt (by omega), nI_toInt (by omega)] at z
      rw [if_pos (by omega)] at hG
      exact r_need (c := 3) hR (by omega) (by omega) (fun m rf fn => hE 3 _ (by omega) (by omega) hfl hG m rf fn)
theorem r_isNum_f {μ : Mem} {c f : Nat} {a b : Int32} {Q : Mem → Prop} (h : RF μ c f) (k : Q μ) : PX7_isNumber 100 a b μ Q := by
  unfold PX7_isNumber nX7_isNumber_25
  exact ⟨fun _ => ⟨fun _ => k, fun d => absurd d (RF_nz h)⟩, fun d => absurd d (RF_nz h)⟩
theorem r_num_f {μ : Mem} {c f : Nat} {a b : Int32} {Q : Int32 → Mem → Prop} (h : RF μ c f) (k : ∀ x : Int32, Q x μ) : PX7_readNumber 100 a b μ Q := r_isNum_f h (r_nf h (k _))
theorem r_num {R : Type} {G : R → Prop} {E : Nat → Nat → R} {K : Nat → Nat → R} {tl p lo hi : Nat} {tp : Nat → Nat} {μ : Mem} {Q : Int32 → Mem → Prop} (hT : TR μ tl tp) (hp : p ≤ tl) (hR : RT tl tp μ p) (hlo : lo < 1000) (hhi : hi < 1000) (hG : G (fNum tl tp p lo hi E K)) (hB : ∀ v : Nat, lo ≤ v → v ≤ hi → tS tl tp (tE tl tp p) = 4 → K v (tE tl tp p) = E 1 (tF tl tp (tE tl tp p)))
    (hE : ∀ c f : Nat, 1 ≤ c → c ≤ 6 → f ≤ tl → G (E c f) → ∀ (x : Int32) (m : Mem), RF m c f → FN μ m → Q x m)
    (hK : ∀ v : Nat, lo ≤ v → v ≤ hi → tS tl tp p = 2 → G (K v (tE tl tp p)) → ∀ m : Mem, RT tl tp m (tE tl tp p) → FN μ m → Q (nI v) m) : PX7_readNumber 100 (nI lo) (nI hi) μ Q := by
  unfold PX7_readNumber
  refine r_isNum hT hp hR hlo hhi hG (fun c f c1 c2 f1 g m rf fn => r_nf rf (hE c f c1 c2 f1 g _ m rf fn)) (fun v l1 l2 s2 g e30 => ?_)
  rw [e30]
  exact r_nx hT (tE_le hp).2 hR.1 hR.2.2.2.2.2 g (hB v l1 l2) (fun c f c1 c2 f1 g2 m rf fn => hE c f c1 c2 f1 g2 _ m rf fn) (fun g2 m rt fn => hK v l1 l2 s2 g2 m rt fn)
/-- what begins with a token, at a token that is none -/
theorem fNum_4 {R : Type} {E : Nat → Nat → R} {K : Nat → Nat → R} {tl p lo hi : Nat} {tp : Nat → Nat} (h : tS tl tp p = 4) : fNum tl tp p lo hi E K = E 1 (tF tl tp p) := if_pos h
theorem fPoint_4 {R : Type} {E : Nat → Nat → R} {K : Nat → R} {tl p : Nat} {tp : Nat → Nat} (h : tS tl tp p = 4) : fPoint tl tp p E K = E 1 (tF tl tp p) := if_pos h
theorem fTok_4 {R : Type} {E : Nat → Nat → R} {K : R} {tl p : Nat} {tp : Nat → Nat} (h : tS tl tp p = 4) : fTok tl tp p E K = E 1 (tF tl tp p) := if_pos h
theorem fName_4 {R : Type} {E : Nat → Nat → R} {K : R} {tl p : Nat} {tp : Nat → Nat} (h : tS tl tp p = 4) : fName tl tp p E K = E 1 (tF tl tp p) := if_pos h
theorem fPoint_n {R : Type} {E : Nat → Nat → R} {K : Nat → R} {tl p : Nat} {tp : Nat → Nat} (h : tS tl tp p ≠ 4) : fPoint tl tp p E K = fStop tl tp p E K := if_neg h
theorem fTok_n {R : Type} {E : Nat → Nat → R} {K : R} {tl p : Nat} {tp : Nat → Nat} (h : tS tl tp p ≠ 4) : fTok tl tp p E K = K := if_neg h
theorem r_letters {tl c many f e : Nat} {tp : Nat → Nat} {μ : Mem} {Q : Int32 → Mem → Prop} (hT : TR μ tl tp) (h27 : μ.1 100 27 = nI e) (h28 : μ.1 100 28 = nI f) (hfe : f ≤ e) (hel : e ≤ tl) (hc : c < 200) (hm : many ≤ 6) (hN : letN tp c many (e - f) f 0 = none → Q (-4) μ) (hS : ∀ b : Nat, b < 2 ^ many → letN tp c many (e - f) f 0 = some b → Q (nI b) μ) : PX7_letters 100 (nI c) (nI many) μ Q := by
  have htl := hT.2.1
  intro S8 h8
  have lp : ∀ k i b : Nat, i + k = e → f ≤ i → b < 2 ^ many → letN tp c many k i b = letN tp c many (e - f) f 0 → S8 (nI b) (nI i) μ := by
    intro k
    induction k with
    | zero =>
      intro i b hi hf hb he
      apply h8
      unfold nX7_letters_8
      rw [h27]
      exact ⟨fun _ => hS b hb he.symm, fun d => absurd (nI_le (by omega) (by omega)) d⟩
    | succ k ih =>
      intro i b hi hf hb he
      have b64 := b64_le hb hm
      apply h8
      unfold nX7_letters_8
      rw [letN_s] at he
      rw [h27]
      refine ⟨fun d => absurd d (nI_ge (by omega) (by omega)), fun _ => r_look hT (by omega) (fun _ t1 => ?_) (fun z => absurd z (by omega))⟩
      rw [nI_m1]
      have xt : (nI (tp i) - nI c).toInt = (tp i : Int) - c := pk_sub_toInt (by omega) (by omega)
      refine r_in (fun z1 z2 => ⟨fun d => absurd d np1, fun _ => ?_⟩) (fun z => ⟨fun _ => ?_, fun d => absurd rfl d⟩)
      · rw [xt, show (0 : Int64).toInt = 0 by decide] at z1
        rw [xt, Int32.toInt_toInt64, dI_toInt (by omega)] at z2
        rw [pk_sub (by omega)]
        refine ⟨fun d3 => ?_, fun d3 => ?_⟩
        · have d4 : ¬ bitN b (tp i - c) = 1 := fun x => d3 ((jb_1 (a := b) (t := tp i - c) (by omega) (by omega)).2 x)
          rw [if_pos ⟨by omega, by omega, d4⟩] at he
          rw [or_bit (by omega), nI_1]
          exact ih (i + 1) (obN b (tp i - c)) (by omega) (by omega) (obN_lt hb (by omega)) he
        · have d4 := (jb_1 (a := b) (t := tp i - c) (by omega) (by omega)).1 d3
          rw [if_neg (fun x => x.2.2 d4)] at he
          exact hN he.symm
      · rw [xt, Int32.toInt_toInt64, dI_toInt (by omega), show (0 : Int64).toInt = 0 by decide] at z
        rw [if_neg (by omega)] at he
        exact hN he.symm
  rw [← show nI f = μ.1 100 28 from h28.symm]
  exact lp (e - f) f 0 (by omega) (by omega) (Nat.two_pow_pos many) rfl
theorem r_readLetters_f {μ : Mem} {c f : Nat} {a b : Int32} {Q : Int32 → Mem → Prop} (h : RF μ c f) (k : Q 0 μ) : PX7_readLetters 100 a b μ Q := by
  unfold PX7_readLetters nX7_readLetters_25 nX7_readLetters_42
  exact ⟨fun _ => ⟨fun _ => ⟨fun _ => k, fun d => absurd d (RF_nz h)⟩, fun d => absurd d (RF_nz h)⟩, fun d => absurd d (RF_nz h)⟩
theorem r_readLetters {R : Type} {G : R → Prop} {E : Nat → Nat → R} {Y : Nat → R} {tl p c many : Nat} {tp : Nat → Nat} {μ : Mem} {Q : Int32 → Mem → Prop} (hT : TR μ tl tp) (hp : p ≤ tl) (hR : RT tl tp μ p) (hc : c < 200) (hm : many ≤ 6) (hG : G (fName tl tp p E (optR (letN tp c many (tE tl tp p - tF tl tp p) (tF tl tp p) 0) (E 3 (tF tl tp p)) Y)))
    (hE : ∀ c f : Nat, 1 ≤ c → c ≤ 6 → f ≤ tl → G (E c f) → ∀ (x : Int32) (m : Mem), RF m c f → FN μ m → Q x m)
    (hK : ∀ b : Nat, b < 2 ^ many → tS tl tp p = 1 → G (Y b) → Q (nI b) μ) : PX7_readLetters 100 (nI c) (nI many) μ Q := by
  have hfl := (tF_le (tp := tp) hp).2
  unfold fName at hG
  rw [if_neg hR.2.2.2.2.1] at hG
  unfold PX7_readLetters nX7_readLetters_21 nX7_readLetters_25 nX7_readLetters_42 nX7_readLetters_62
  have e29 : μ.1 100 29 = (1 : Int32) ↔ tS tl tp p = 1 := RT_eq (x := 1) hR (by omega)
  rw [e29]
  refine ⟨fun d => absurd hR.2.2.2.2.2 d, fun _ => ⟨fun s1 => ?_, fun s1 => ?_⟩⟩
  · rw [if_pos s1] at hG
    exact r_need (c := 2) hR (by omega) (by omega) (fun m rf fn => ⟨fun _ => ⟨fun _ => hE 2 _ (by omega) (by omega) hfl hG _ m rf fn, fun d => absurd d (RF_nz rf)⟩, fun d => absurd d (RF_nz rf)⟩)
  · rw [if_neg (by omega)] at hG
    refine r_needs_y np1 ⟨fun d => absurd hR.2.2.2.2.2 d, fun _ => ?_⟩
    refine r_letters hT hR.1 hR.2.1 (tE_le hp).1 (tE_le hp).2 hc hm (fun hN => ⟨fun d => absurd hR.2.2.2.2.2 d, fun _ => ⟨fun _ => ?_, fun d => absurd rfl d⟩⟩) (fun b b6 hB => ⟨fun d => absurd hR.2.2.2.2.2 d, fun _ => ⟨fun d => absurd d (nI_ne4 (by have := b64_le b6 hm; omega)), fun _ => ?_⟩⟩)
    · rw [hN] at hG
      exact r_need (c := 3) hR (by omega) (by omega) (fun m rf fn => hE 3 _ (by omega) (by omega) hfl hG _ m rf fn)
    · rw [hB] at hG
      exact r_needs_y np1 (hK b b6 s1 hG)
-- the uses
def RU (m : Mem) (U : List (Nat × Nat)) : Prop := m.1 100 22 = nI U.length ∧ ∀ (i : Nat) (x : Nat × Nat), U[i]? = some x → m.1 111 i = nI x.1 ∧ m.1 112 i = nI x.2
theorem RU_of {m m' : Mem} {U : List (Nat × Nat)} (h : RU m U) (h1 : m'.1 100 22 = m.1 100 22) (h2 : ∀ i : Nat, m'.1 111 i = m.1 111 i ∧ m'.1 112 i = m.1 112 i) : RU m' U := ⟨h1.trans h.1, fun i x hx => ⟨(h2 i).1.trans (h.2 i x hx).1, (h2 i).2.trans (h.2 i x hx).2⟩⟩
/-- nothing but the uses changed -/
def FU (μ m : Mem) : Prop := ∀ a j : Nat, (a = 100 → j ≠ 22) → a ≠ 111 → a ≠ 112 → m.1 a j = μ.1 a j
theorem r_uses {t f : Nat} {U : List (Nat × Nat)} {μ : Mem} {Q : Mem → Prop} (h31 : μ.1 100 31 = 0) (hU : RU μ U) (hl : U.length < 400) (h : ∀ m : Mem, RU m (U ++ [(t, f)]) → FU μ m → Q m) : PX7_uses 100 (nI t) (nI f) μ Q := by
  unfold PX7_uses
  rw [hU.1, nI_clamp (n := U.length) (by omega)]
  refine ⟨fun d => absurd h31 d, fun _ => ⟨vp_in_nI (by omega) (by omega), ?_⟩⟩
  have e22 : (ms μ (100 + 11) U.length (nI t)).1 100 22 = nI U.length := by rw [ms_1, if_neg (by decide)]; exact hU.1
  rw [e22, nI_clamp (n := U.length) (by omega)]
  refine ⟨vp_in_nI (by omega) (by omega), fun m2 hm2 => ?_⟩
  have e22' : m2.1 100 22 = nI U.length := by rw [hm2, ms_1, if_neg (by decide)]; exact e22
  rw [e22', nI_1]
  have x1 : ∀ i : Nat, (ms m2 100 22 (nI (U.length + 1))).1 111 i = if i = U.length then nI t else μ.1 111 i := fun i => by
    rw [ms_1, if_neg (by decide), hm2, ms_1, if_neg (by decide), ms_1, if_pos rfl]
  have x2 : ∀ i : Nat, (ms m2 100 22 (nI (U.length + 1))).1 112 i = if i = U.length then nI f else μ.1 112 i := fun i => by
    rw [ms_1, if_neg (by decide), hm2, ms_1, if_pos rfl, ms_1, if_neg (show ¬ (112 : Nat) = 100 + 11 by decide)]
  refine h _ ⟨?_, fun i x hx => ?_⟩ (fun a j z1 z2 z3 => ?_)
  · rw [ms_1, if_pos rfl, if_pos rfl, List.length_append]; rfl
  · rw [x1, x2]
    rw [List.getElem?_append] at hx
    by_cases c : i < U.length
    · rw [if_pos c] at hx
      rw [if_neg (by omega), if_neg (by omega)]
      exact hU.2 i x hx
    · rw [if_neg c] at hx
      by_cases y : i = U.length
      · rw [if_pos y, if_pos y]
        rw [y, Nat.sub_self] at hx
        have : (t, f) = x := Option.some.inj hx
        rw [← this]; exact ⟨rfl, rfl⟩
      · rw [List.getElem?_eq_none (by simp; omega)] at hx
        exact absurd hx (by simp)
  · rw [ms_1]
    by_cases y : a = 100
    · rw [if_pos y, if_neg (z1 y), hm2, ms_1, if_neg (by omega), ms_1, if_neg (by omega)]
    · rw [if_neg y, hm2, ms_1, if_neg (by omega), ms_1, if_neg (by omega)]
theorem r_uses_f {μ : Mem} {c f : Nat} {a b : Int32} {Q : Mem → Prop} (h : RF μ c f) (k : Q μ) : PX7_uses 100 a b μ Q := ⟨fun _ => k, fun d => absurd d (RF_nz h)⟩
