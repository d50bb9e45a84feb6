def fStop {R : Type} (tl : Nat) (tp : Nat → Nat) (p : Nat) (E : Nat → Nat → R) (K : Nat → R) : R := if tS tl tp p ≠ 3 then E 2 (tF tl tp p) else K (tE tl tp p)
theorem CT_eq {tl p : Nat} {tp : Nat → Nat} {m : Mem} (h : CT tl tp m p) {x : Nat} (hx : x < 5) : m.1 25 6 = nI x ↔ tS tl tp p = x := by
  have s4 := tS_le (tl := tl) (tp := tp) (p := p)
  rw [h.2.1, nI_eq (by omega) (by omega)]
theorem c_isPoint {R : Type} {G : R → Prop} {E : Nat → Nat → R} {K : Nat → R} {tl p : Nat} {tp : Nat → Nat} {μ : Mem} {Q : Int32 → Mem → Prop} (hp : p ≤ tl) (hc : CT tl tp μ p) (hG : G (fStop tl tp p E K))
    (hE : ∀ c f : Nat, 1 ≤ c → c ≤ 6 → f ≤ tl → G (E c f) → ∀ m : Mem, m.1 25 3 = nI c → m.1 25 4 = nI f → FT 3 μ m → Q 0 m)
    (hK : G (K (tE tl tp p)) → tS tl tp p = 3 → Q 1 μ) : PX1_isPoint 25 μ Q := by
  unfold fStop at hG
  unfold PX1_isPoint nX1_isPoint_20
  have hfl := (tF_le (tp := tp) hp).2
  rw [show (3 : Int32) = nI 3 from rfl, CT_eq hc (by omega)]
  refine ⟨fun z => ?_, fun z => c_refuse (c := 2) (f := 0) (fun m' k3 k4 k => ⟨fun _ => ?_, fun d => absurd rfl d⟩)⟩
  · rw [if_neg (by omega)] at hG; exact hK hG z
  · rw [if_pos z] at hG
    exact hE 2 _ (by omega) (by omega) hfl hG m' k3 (k4.trans hc.2.2.1) k
theorem c_point {R : Type} {G : R → Prop} {E : Nat → Nat → R} {K : Nat → R} {tl p : Nat} {tp : Nat → Nat} {μ : Mem} {Q : Int32 → Mem → Prop} (hT : TC μ tl tp) (hp : p ≤ tl) (h5 : μ.1 25 5 = nI p) (hG : G (fPoint tl tp p E K))
    (hE : ∀ c f : Nat, 1 ≤ c → c ≤ 6 → f ≤ tl → G (E c f) → ∀ m : Mem, m.1 25 3 = nI c → m.1 25 4 = nI f → FT 3 μ m → Q 0 m)
    (hK : G (K (tE tl tp p)) → tS tl tp p = 3 → ∀ m : Mem, CT tl tp m p → FT 5 μ m → Q 1 m) : PX1_readPoint 25 μ Q := by
  unfold PX1_readPoint nX1_readPoint_18
  refine c_tok (K := fStop tl tp p E K) (G := G) (E := E) hT hp h5 hG (fun c f c1 c2 f1 g m e3 e4 fr => ⟨fun _ => hE c f c1 c2 f1 g m e3 e4 fr, fun d => absurd rfl d⟩) (fun g m ct fr => ⟨fun d => absurd d np1, fun _ => ?_⟩)
  refine c_isPoint hp ct g (fun c f c1 c2 f1 g2 m' e3 e4 fr2 => ⟨fun _ => hE c f c1 c2 f1 g2 m' e3 e4 (FT_trans (FT_mono fr (by omega)) fr2), fun d => absurd rfl d⟩) (fun g2 s3 => ⟨fun d => absurd d np1, fun _ => hK g2 s3 m ct fr⟩)
theorem c_name {R : Type} {G : R → Prop} {E : Nat → Nat → R} {K : R} {tl p : Nat} {tp : Nat → Nat} {μ : Mem} {Q : Int32 → Mem → Prop} (hT : TC μ tl tp) (hp : p ≤ tl) (h5 : μ.1 25 5 = nI p) (hG : G (fName tl tp p E K))
    (hE : ∀ c f : Nat, 1 ≤ c → c ≤ 6 → f ≤ tl → G (E c f) → ∀ m : Mem, m.1 25 3 = nI c → m.1 25 4 = nI f → FT 3 μ m → Q 0 m)
    (hK : G K → tS tl tp p = 1 → ∀ m : Mem, CT tl tp m p → FT 5 μ m → Q 1 m) : PX1_readName 25 μ Q := by
  unfold PX1_readName nX1_readName_27 nX1_readName_31
  have hfl := (tF_le (tp := tp) hp).2
  refine c_tok (K := if tS tl tp p ≠ 1 then E 2 (tF tl tp p) else K) (G := G) (E := E) hT hp h5 hG (fun c f c1 c2 f1 g m e3 e4 fr => ⟨fun _ => hE c f c1 c2 f1 g m e3 e4 fr, fun d => absurd rfl d⟩) (fun g m ct fr => ⟨fun d => absurd d np1, fun _ => ?_⟩)
  rw [show (1 : Int32) = nI 1 from rfl, CT_eq ct (by omega)]
  refine ⟨fun z => ?_, fun z => c_refuse (c := 2) (f := 0) (fun m' k3 k4 k => ⟨fun _ => ?_, fun d => absurd rfl d⟩)⟩
  · rw [if_neg (by omega)] at g; exact hK g z m ct fr
  · rw [if_pos z] at g
    exact hE 2 _ (by omega) (by omega) hfl g m' k3 (k4.trans ct.2.2.1) (FT_trans (FT_mono fr (by omega)) k)
/-- one place of the rules changed -/
def rset (ρ : RA) (f i v : Nat) : RA := fun f' i' => if f' = f ∧ i' = i then v else ρ f' i'
theorem rset_y (ρ : RA) (f i v : Nat) : rset ρ f i v f i = v := if_pos ⟨rfl, rfl⟩
theorem rset_n (ρ : RA) (f i v f' i' : Nat) (h : f' ≠ f ∨ i' ≠ i) : rset ρ f i v f' i' = ρ f' i' := if_neg (fun z => by rcases h with h | h <;> omega)
/-- a thing's line behind its name (from f to e) -/
def fThing {R : Type} (tl : Nat) (tp : Nat → Nat) (ρ : RA) (f e : Nat) (E : Nat → Nat → R) (K : RA → Nat → R) : R :=
  if ρ 0 0 < 6 then fNum tl tp e 1 4 E (fun a e1 => fNum tl tp e1 1 4 E (fun b e2 => fNum tl tp e2 0 60 E (fun c e3 => fPoint tl tp e3 E (fun e4 => K (rset (rset (rset (rset ρ 0 0 (ρ 0 0 + 1)) 1 (ρ 0 0) a) 2 (ρ 0 0) b) 3 (ρ 0 0) c) e4)))) else E 5 f
