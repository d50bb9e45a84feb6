theorem rset_rset (ρ : RA) (f i v w : Nat) : rset (rset ρ f i v) f i w = rset ρ f i w := by
  funext f' i'
  by_cases c : f' = f ∧ i' = i
  · obtain ⟨c1, c2⟩ := c
    rw [c1, c2, rset_y, rset_y]
  · show (if f' = f ∧ i' = i then w else rset ρ f i v f' i') = if f' = f ∧ i' = i then w else ρ f' i'
    rw [if_neg c, if_neg c]
    show (if f' = f ∧ i' = i then v else ρ f' i') = ρ f' i'
    rw [if_neg c]
def fShops {R : Type} (tl : Nat) (tp : Nat → Nat) (E : Nat → Nat → R) (K : Nat → Nat → R) : Nat → Nat → Nat → Nat → R
  | 0, x, _, p => K x p
  | n + 1, x, lo, p => if tS tl tp p = 4 then E 1 (tF tl tp p) else if tS tl tp p = 2 then (if tV tl tp p < lo ∨ 6 < tV tl tp p then E 3 (tF tl tp p) else fShops tl tp E K n (obN x (tV tl tp p)) (tV tl tp p + 1) (tE tl tp p)) else fStop tl tp p E (fun e => K x e)
def fShop {R : Type} (tl : Nat) (tp : Nat → Nat) (ρ : RA) (sh f e : Nat) (E : Nat → Nat → R) (K : RA → Nat → R) : R :=
  if sh = 0 then fShops tl tp E (fun x e' => K (rset ρ 0 13 x) e') 8 0 0 e else E 4 f
theorem c_readShop {R : Type} {G : R → Prop} {E : Nat → Nat → R} {K : RA → Nat → R} {tl p ag sh : Nat} {tp : Nat → Nat} {ρ : RA} {U : List (Nat × Nat)} {μ : Mem} {Q : Int32 → Mem → Prop} (hS : CS tl tp μ ρ U ag sh) (hsh : sh ≤ 1) (hp : p ≤ tl) (hc : CT tl tp μ p) (hG : G (fShop tl tp ρ sh (tF tl tp p) (tE tl tp p) E K))
    (hE : ∀ c f : Nat, 1 ≤ c → c ≤ 6 → f ≤ tl → G (E c f) → ∀ m : Mem, m.1 25 3 = nI c → m.1 25 4 = nI f → FW μ m → Q 0 m)
    (hK : ∀ x e : Nat, x < 128 → e ≤ tl → tE tl tp p < e → sh = 0 → G (K (rset ρ 0 13 x) e) → ∀ m : Mem, CS tl tp m (rset ρ 0 13 x) U ag 1 → m.1 25 5 = nI e → FW μ m → Q 1 m) : PX1_readShop 25 μ Q := by
  have hb : ∀ i : Nat, i < tl → tp i < 256 := fun i hi => (hS.1.2.2 i hi).1
  have he := tE_le (tp := tp) hp
  unfold fShop at hG
  intro S34 h34
  rw [hS.2.2.2.1]
  refine ⟨fun z m2 hm2 => ?_, fun z => ?_⟩
  · have z' : nI sh = nI 0 := z
    rw [nI_eq (by omega) (by omega)] at z'
    rw [if_pos z'] at hG
    have lp : ∀ n x lo q : Nat, ∀ m : Mem, 8 ≤ n + lo → n ≤ 8 → lo ≤ 7 → x < 128 → q ≤ tl → tE tl tp p ≤ q → G (fShops tl tp E (fun x e' => K (rset ρ 0 13 x) e') n x lo q) → CS tl tp m (rset ρ 0 13 x) U ag 1 → m.1 25 5 = nI q → FW μ m → S34 (nI lo) (nI (8 - n)) m := by
      intro n
      induction n with
      | zero => intro x lo q m h1 h2 h3; omega
      | succ n ih =>
        intro x lo q m h1 h2 h3 hx hq hpq g s e5 w
        have hq2 := tE_le (tp := tp) hq
        have hq1 := tF_le (tp := tp) hq
        apply h34
        unfold nX1_readShop_34 nX1_readShop_79
        unfold fShops at g
        refine ⟨fun d => absurd d (nI_nlt (a := 7) (by omega) (by omega)), fun _ => ?_⟩
        refine c_tok (G := G) (E := E) (K := if tS tl tp q = 2 then (if tV tl tp q < lo ∨ 6 < tV tl tp q then E 3 (tF tl tp q) else fShops tl tp E (fun x e' => K (rset ρ 0 13 x) e') n (obN x (tV tl tp q)) (tV tl tp q + 1) (tE tl tp q)) else fStop tl tp q E (fun e => K (rset ρ 0 13 x) e)) s.1 hq e5 g (fun c f c1 c2 f1 g m' e3 e4 fr => ⟨fun d => absurd rfl d, fun _ => hE c f c1 c2 f1 g m' e3 e4 (FW_trans w (FW_FT fr (by omega)))⟩) (fun g m1 ct1 fr1 => ⟨fun _ => ?_, fun d => absurd d np1⟩)
        have s1 := CS_FT s fr1
        have w1 := FW_trans w (FW_FT fr1 (by omega))
        rw [show (2 : Int32) = nI 2 from rfl, CT_eq ct1 (by omega)]
        refine ⟨fun s2 => ?_, fun s2 => ?_⟩
        · rw [if_pos s2] at g
          obtain ⟨v1, v2⟩ := tS_2 hq hb s2
          have e8 := ct1.2.2.2.1 s2
          rw [e8, ct1.2.2.1]
          have rf : tV tl tp q < lo ∨ 6 < tV tl tp q → PX1_refuse 25 ((3 : Int32)) (nI (tF tl tp q)) m1 (fun (r16 : Int32) (m15 : Mem) => nz r16 ∧ Q r16 m15) := fun y => by
            rw [if_pos y] at g
            exact c_refuse (c := 3) (f := 0) (fun m' k3 k4 k => ⟨nz0, hE 3 _ (by omega) (by omega) hq1.2 g m' k3 k4 (FW_trans w1 (FW_FT k (by omega)))⟩)
          by_cases c : tV tl tp q < lo ∨ 6 < tV tl tp q
          · refine ⟨fun _ => rf c, fun d => ⟨fun d2 => absurd d2 (fun y => ?_), fun _ => rf c⟩⟩
            have y' := (i_lt (k := 7) (by omega)).1 y
            have d' : ¬ _ := fun x => d ((i_lt (by omega)).2 x)
            rw [nI_toInt (by omega)] at y' d'
            omega
          · rw [if_neg c] at g
            refine ⟨fun d => absurd d (nI_nlt (by omega) (by omega)), fun _ => ⟨fun _ x12 hx12 => ?_, fun d => absurd (nI_lt (b := 7) (by omega) (by omega)) d⟩⟩
            have e13 : m1.1 (25 + 2) 13 = nI x := by
              have := s1.2.1.2.2.2.1
              rw [rset_y] at this
              exact this
            have e8' : ∀ v : Int32, (ms m1 (25 + 2) 13 v).1 25 8 = nI (tV tl tp q) := fun v => by rw [ms_1, if_neg (by decide)]; exact e8
            rw [e8', nI_1] at hx12
            rw [hx12, e13, or_bit (by omega), nI_1, show 8 - (n + 1) + 1 = 8 - n by omega]
            have s3 := CS_ms (a := 25 + 2) (j := 13) (v := nI (obN x (tV tl tp q))) s1 (by omega) (by omega) (CR_set0 s1.2.1 (by omega))
            rw [rset_rset] at s3
            refine ih _ _ _ _ (by omega) (by omega) (by omega) (obN_lt (k := 7) hx (by omega)) hq2.2 (by omega) g s3 (by rw [ms_1, if_neg (by decide)]; exact ct1.1) (FW_trans w1 (FW_ms (by omega)))
        · rw [if_neg s2] at g
          refine c_isPoint hq ct1 g (fun c f c1 c2 f1 g2 m' e3 e4 fr2 => ⟨nz0, hE c f c1 c2 f1 g2 m' e3 e4 (FW_trans w1 (FW_FT fr2 (by omega)))⟩) (fun g2 s3 => ⟨nz1, ?_⟩)
          have gt := tE_gt (tp := tp) hq hb (by omega) (by omega)
          exact hK x _ hx hq2.2 (by omega) z' g2 m1 s1 ct1.1 w1
    have o : ∀ a j : Nat, (a = 25 → j ≠ 10) → (a = 27 → j ≠ 13) → m2.1 a j = μ.1 a j := fun a j y1 y2 => by
      rw [hm2, ms_1]
      by_cases w : a = 25 + 2
      · rw [if_pos w, if_neg (y2 w), ms_1, if_neg (by omega)]
      · rw [if_neg w, ms_1]
        by_cases w2 : a = 25
        · rw [if_pos w2, if_neg (y1 w2)]
        · rw [if_neg w2]
    have w0 : FW μ m2 := fun a j z1 z2 => o a j (fun y => by have := z1 y; omega) (fun y => by omega)
    have hcr : CR (ms (ms μ 25 10 1) 27 13 (nI 0)) 27 (rset ρ 0 13 0) := CR_set0 (CR_of hS.2.1 (fun a j z1 z2 => by rw [ms_1, if_neg (by omega)])) (by omega)
    have hm2' : m2 = ms (ms μ 25 10 1) 27 13 (nI 0) := hm2
    refine lp 8 0 0 _ m2 (by omega) (by omega) (by omega) (by omega) he.2 (Nat.le_refl _) hG ⟨TC_FW hS.1 w0, by rw [hm2']; exact hcr, (o 25 9 (by omega) (by omega)).trans hS.2.2.1, ?_, fun t ht => (o 39 t (by omega) (by omega)).trans (hS.2.2.2.2.1 t ht), (o 25 3 (by omega) (by omega)).trans hS.2.2.2.2.2⟩ ((o 25 5 (by omega) (by omega)).trans hc.1) w0
    rw [hm2', ms_1, if_neg (by decide), ms_1, if_pos rfl, if_pos rfl]; rfl
  · rw [if_neg (fun y => z (by rw [y]; rfl))] at hG
    rw [hc.2.2.1]
    exact c_refuse (c := 4) (f := 0) (fun m' k3 k4 k => ⟨nz0, hE 4 _ (by omega) (by omega) (tF_le hp).2 hG m' k3 k4 (FW_FT k (by omega))⟩)
