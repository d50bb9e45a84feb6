-- the parser once, as a function that goes on by E (a fault: its number, its place) or K
def fNum {R : Type} (tl : Nat) (tp : Nat → Nat) (p lo hi : Nat) (E : Nat → Nat → R) (K : Nat → Nat → R) : R := if tS tl tp p = 4 then E 1 (tF tl tp p) else if tS tl tp p ≠ 2 then E 2 (tF tl tp p) else if tV tl tp p < lo ∨ hi < tV tl tp p then E 3 (tF tl tp p) else K (tV tl tp p) (tE tl tp p)
def fPoint {R : Type} (tl : Nat) (tp : Nat → Nat) (p : Nat) (E : Nat → Nat → R) (K : Nat → R) : R := if tS tl tp p = 4 then E 1 (tF tl tp p) else if tS tl tp p ≠ 3 then E 2 (tF tl tp p) else K (tE tl tp p)
def fTok {R : Type} (tl : Nat) (tp : Nat → Nat) (p : Nat) (E : Nat → Nat → R) (K : R) : R := if tS tl tp p = 4 then E 1 (tF tl tp p) else K
def fName {R : Type} (tl : Nat) (tp : Nat → Nat) (p : Nat) (E : Nat → Nat → R) (K : R) : R := if tS tl tp p = 4 then E 1 (tF tl tp p) else if tS tl tp p ≠ 1 then E 2 (tF tl tp p) else K
theorem tS_le {tl p : Nat} {tp : Nat → Nat} : tS tl tp p ≤ 4 := by
  unfold tS
  split
  · omega
  · split
    · omega
    · split
      · omega
      · split <;> omega
/-- what a number is made of -/
theorem tS_2 {tl p : Nat} {tp : Nat → Nat} (hp : p ≤ tl) (hb : ∀ i : Nat, i < tl → tp i < 256) (h : tS tl tp p = 2) : tV tl tp p < 3000 ∧ tF tl tp p < tE tl tp p := by
  have hf := tF_le (tp := tp) hp
  have he := tE_le (tp := tp) hp
  have c : ¬ tl ≤ tF tl tp p := fun z => by unfold tS at h; rw [if_pos z] at h; omega
  have c1 : ¬ ltB (tp (tF tl tp p)) = true := fun z => by unfold tS at h; rw [if_neg c, if_pos z] at h; omega
  have c2 : ¬ tp (tF tl tp p) = 59 := fun z => by unfold tS at h; rw [if_neg c, if_neg c1, if_pos z] at h; omega
  have e : tE tl tp p = figE tl tp (tF tl tp p) := by unfold tE; rw [if_neg c, if_neg c1, if_neg c2]
  have hh : figE tl tp (tF tl tp p) - tF tl tp p = 1 ∨ figE tl tp (tF tl tp p) - tF tl tp p = 2 := by
    unfold tS at h
    rw [if_neg c, if_neg c1, if_neg c2] at h
    by_cases z : figE tl tp (tF tl tp p) - tF tl tp p = 1 ∨ figE tl tp (tF tl tp p) - tF tl tp p = 2
    · exact z
    · rw [if_neg z] at h; omega
  have b1 := hb (tF tl tp p) (by omega)
  refine ⟨?_, by omega⟩
  unfold tV
  by_cases z : figE tl tp (tF tl tp p) - tF tl tp p = 1
  · rw [if_pos z]; omega
  · rw [if_neg z]
    have b2 := hb (tF tl tp p + 1) (by omega)
    omega
theorem tE_gt {tl p : Nat} {tp : Nat → Nat} (hp : p ≤ tl) (hb : ∀ i : Nat, i < tl → tp i < 256) (h4 : tS tl tp p ≠ 4) (h0 : tS tl tp p ≠ 0) : tF tl tp p < tE tl tp p := by
  have hf := tF_le (tp := tp) hp
  have c : ¬ tl ≤ tF tl tp p := fun z => h0 (by unfold tS; rw [if_pos z])
  by_cases c1 : ltB (tp (tF tl tp p)) = true
  · unfold tE
    rw [if_neg c, if_pos c1, show tl - tF tl tp p = (tl - tF tl tp p - 1) + 1 by omega]
    unfold scanN
    rw [if_pos c1]
    have := scan_ge ltB tp (tl - tF tl tp p - 1) (tF tl tp p + 1)
    omega
  · by_cases c2 : tp (tF tl tp p) = 59
    · unfold tE; rw [if_neg c, if_neg c1, if_pos c2]; omega
    · refine (tS_2 hp hb ?_).2
      unfold tS at h4 ⊢
      rw [if_neg c, if_neg c1, if_neg c2] at h4 ⊢
      by_cases z : figE tl tp (tF tl tp p) - tF tl tp p = 1 ∨ figE tl tp (tF tl tp p) - tF tl tp p = 2
      · rw [if_pos z]
      · rw [if_neg z] at h4; omega
/-- the class stands at the token read from p -/
def CT (tl : Nat) (tp : Nat → Nat) (m : Mem) (p : Nat) : Prop := m.1 25 5 = nI (tE tl tp p) ∧ m.1 25 6 = nI (tS tl tp p) ∧ m.1 25 7 = nI (tF tl tp p) ∧ (tS tl tp p = 2 → m.1 25 8 = nI (tV tl tp p)) ∧ tS tl tp p ≠ 4
/-- nothing but the token's fields (from lo) changed -/
def FT (lo : Nat) (μ m : Mem) : Prop := ∀ a j : Nat, (a = 25 → j < lo ∨ 8 < j) → m.1 a j = μ.1 a j
theorem FT_trans {lo : Nat} {μ m n : Mem} (h : FT lo μ m) (h2 : FT lo m n) : FT lo μ n := fun a j z => (h2 a j z).trans (h a j z)
theorem FT_mono {lo lo' : Nat} {μ m : Mem} (h : FT lo μ m) (h1 : lo' ≤ lo) : FT lo' μ m := fun a j z => h a j (fun y => by have := z y; omega)
theorem TC_FT {lo tl : Nat} {tp : Nat → Nat} {μ m : Mem} (h : TC μ tl tp) (f : FT lo μ m) (hl : 1 < lo) : TC m tl tp := ⟨(f 25 1 (fun _ => by omega)).trans h.1, h.2.1, fun i hi => ⟨(h.2.2 i hi).1, (f 26 i (fun y => absurd y (by decide))).trans (h.2.2 i hi).2⟩⟩
theorem c_refuse {c f : Nat} {p2 : Int32} {μ : Mem} {Q : Int32 → Mem → Prop} (h : ∀ m : Mem, m.1 25 3 = nI c → m.1 25 4 = p2 → FT 3 μ m → Q 0 m) : PX1_refuse 25 (nI c) p2 μ Q := by
  intro m1 hm1
  refine h m1 ?_ ?_ (fun a j z => ?_)
  · rw [hm1, ms_1, if_pos rfl, if_neg (by decide), ms_1, if_pos rfl, if_pos rfl]
  · rw [hm1, ms_1, if_pos rfl, if_pos rfl]
  · rw [hm1, ms_1]
    by_cases y : a = 25
    · have := z y
      rw [if_pos y, if_neg (by omega), ms_1, if_pos y, if_neg (by omega)]
    · rw [if_neg y, ms_1, if_neg y]
/-- a token is read -/
theorem c_tok {R : Type} {G : R → Prop} {E : Nat → Nat → R} {K : R} {tl p : Nat} {tp : Nat → Nat} {μ : Mem} {Q : Int32 → Mem → Prop} (hT : TC μ tl tp) (hp : p ≤ tl) (h5 : μ.1 25 5 = nI p) (hG : G (fTok tl tp p E K))
    (hE : ∀ c f : Nat, 1 ≤ c → c ≤ 6 → f ≤ tl → G (E c f) → ∀ m : Mem, m.1 25 3 = nI c → m.1 25 4 = nI f → FT 3 μ m → Q 0 m)
    (hK : G K → ∀ m : Mem, CT tl tp m p → FT 5 μ m → Q 1 m) : PX1_readToken 25 μ Q := by
  unfold fTok at hG
  refine c_token hT hp h5 (fun s m e3 e4 f => ?_) (fun s m e5 e6 e7 e8 f => ?_)
  · rw [if_pos s] at hG
    exact hE 1 _ (by omega) (by omega) (tF_le hp).2 hG m e3 e4 f
  · rw [if_neg s] at hG
    exact hK hG m ⟨e5, e6, e7, e8, s⟩ f
theorem c_num {R : Type} {G : R → Prop} {E : Nat → Nat → R} {K : Nat → Nat → R} {tl p lo hi : Nat} {tp : Nat → Nat} {μ : Mem} {Q : Int32 → Mem → Prop} (hT : TC μ tl tp) (hp : p ≤ tl) (h5 : μ.1 25 5 = nI p) (hlo : lo < 1000) (hhi : hi < 1000) (hG : G (fNum tl tp p lo hi E K))
    (hE : ∀ c f : Nat, 1 ≤ c → c ≤ 6 → f ≤ tl → G (E c f) → ∀ m : Mem, m.1 25 3 = nI c → m.1 25 4 = nI f → FT 3 μ m → Q 0 m)
    (hK : ∀ v : Nat, lo ≤ v → v ≤ hi → G (K v (tE tl tp p)) → ∀ m : Mem, CT tl tp m p → m.1 25 8 = nI v → FT 5 μ m → Q 1 m) : PX1_readNumber 25 (nI lo) (nI hi) μ Q := by
  unfold fNum at hG
  unfold PX1_readNumber nX1_readNumber_43 nX1_readNumber_55
  have hfl := (tF_le (tp := tp) hp).2
  refine c_token hT hp h5 (fun s m e3 e4 f => ⟨fun d => absurd rfl d, fun _ => ?_⟩) (fun s m e5 e6 e7 e8 f => ⟨fun _ => ?_, fun d => absurd d np1⟩)
  · rw [if_pos s] at hG
    exact hE 1 _ (by omega) (by omega) hfl hG m e3 e4 f
  · rw [if_neg s] at hG
    have s4 := tS_le (tl := tl) (tp := tp) (p := p)
    rw [e6, e7, show (2 : Int32) = nI 2 from rfl, nI_eq (by omega) (by omega)]
    refine ⟨fun s2 => ?_, fun s2 => c_refuse (f := 0) (fun m' k3 k4 k => ⟨nz0, ?_⟩)⟩
    · rw [if_neg (by omega)] at hG
      obtain ⟨v1, _⟩ := tS_2 hp (fun i hi => (hT.2.2 i hi).1) s2
      have e8' := e8 s2
      rw [e8']
      by_cases c : tV tl tp p < lo ∨ hi < tV tl tp p
      · rw [if_pos c] at hG
        have rf : PX1_refuse 25 ((3 : Int32)) (nI (tF tl tp p)) m (fun (r10 : Int32) (m9 : Mem) => (r10 = 0 → Q ((0 : Int32)) m9) ∧ (¬ r10 = 0 → Q 1 m9)) := c_refuse (c := 3) (f := 0) (fun m' k3 k4 k => ⟨fun _ => hE 3 _ (by omega) (by omega) hfl hG m' k3 k4 (FT_trans (FT_mono f (by omega)) k), fun d => absurd rfl d⟩)
        exact ⟨fun _ => rf, fun d => ⟨fun e => absurd e (fun y => by
          have y' := (i_le (by omega)).1 y
          have d' : ¬ _ := fun x => d ((i_lt (by omega)).2 x)
          rw [nI_toInt (by omega)] at y' d'
          omega), fun _ => rf⟩⟩
      · rw [if_neg c] at hG
        refine ⟨fun d => absurd d (nI_nlt (by omega) (by omega)), fun _ => ⟨fun _ => hK _ (by omega) (by omega) hG m ⟨e5, e6, e7, e8, s⟩ e8' f, fun d => absurd (nI_le (by omega) (by omega)) d⟩⟩
    · rw [if_pos s2] at hG
      exact hE 2 _ (by omega) (by omega) hfl hG m' k3 k4 (FT_trans (FT_mono f (by omega)) k)
