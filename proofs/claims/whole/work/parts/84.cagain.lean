def fAgain {R : Type} (tl : Nat) (tp : Nat → Nat) (ρ : RA) (ag f e : Nat) (E : Nat → Nat → R) (K : RA → Nat → R) : R :=
  if ag = 0 then fNum tl tp e 0 7 E (fun v e1 => fPoint tl tp e1 E (fun e2 => K (rset ρ 0 12 v) e2)) else E 4 f
theorem tE_mono {tl p : Nat} {tp : Nat → Nat} (hp : p ≤ tl) : p ≤ tE tl tp p := Nat.le_trans (tF_le hp).1 (tE_le hp).1
theorem c_readAgain {R : Type} {G : R → Prop} {E : Nat → Nat → R} {K : RA → Nat → R} {tl p ag sh : Nat} {tp : Nat → Nat} {ρ : RA} {U : List (Nat × Nat)} {μ : Mem} {Q : Int32 → Mem → Prop} (hS : CS tl tp μ ρ U ag sh) (hag : ag ≤ 1) (hp : p ≤ tl) (hc : CT tl tp μ p) (hG : G (fAgain tl tp ρ ag (tF tl tp p) (tE tl tp p) E K))
    (hE : ∀ c f : Nat, 1 ≤ c → c ≤ 6 → f ≤ tl → G (E c f) → ∀ m : Mem, m.1 25 3 = nI c → m.1 25 4 = nI f → FW μ m → Q 0 m)
    (hK : ∀ v e : Nat, v ≤ 7 → e ≤ tl → tE tl tp p < e → ag = 0 → G (K (rset ρ 0 12 v) e) → ∀ m : Mem, CS tl tp m (rset ρ 0 12 v) U 1 sh → m.1 25 5 = nI e → FW μ m → Q 1 m) : PX1_readAgain 25 μ Q := by
  have hb : ∀ i : Nat, i < tl → tp i < 256 := fun i hi => (hS.1.2.2 i hi).1
  have he := tE_le (tp := tp) hp
  unfold fAgain at hG
  unfold PX1_readAgain
  rw [hS.2.2.1]
  refine ⟨fun z => ?_, fun z => ?_⟩
  · have z' : nI ag = nI 0 := z
    rw [nI_eq (by omega) (by omega)] at z'
    rw [if_pos z'] at hG
    have o : ∀ a j : Nat, (a = 25 → j ≠ 9) → (ms μ 25 9 1).1 a j = μ.1 a j := fun a j y => by
      rw [ms_1]
      by_cases w : a = 25
      · rw [if_pos w, if_neg (y w)]
      · rw [if_neg w]
    have f0 : FW μ (ms μ 25 9 1) := fun a j z1 _ => o a j (fun y => by have := z1 y; omega)
    have s0 : CS tl tp (ms μ 25 9 1) ρ U 1 sh := ⟨TC_FW hS.1 f0, CR_of hS.2.1 (fun a j _ _ => o a j (by omega)), by rw [ms_1, if_pos rfl, if_pos rfl]; rfl, (o 25 10 (by omega)).trans hS.2.2.2.1, fun t ht => (o 39 t (by omega)).trans (hS.2.2.2.2.1 t ht), (o 25 3 (by omega)).trans hS.2.2.2.2.2⟩
    refine c_num (lo := 0) (hi := 7) s0.1 he.2 ((o 25 5 (by omega)).trans hc.1) (by omega) (by omega) hG (fun c f c1 c2 f1 g m e3 e4 fr => ⟨fun d => absurd rfl d, fun _ => hE c f c1 c2 f1 g m e3 e4 (FW_trans f0 (FW_FT fr (by omega)))⟩) (fun v v0 v7 g1 m1 ct1 v1 fr1 => ⟨fun _ => ?_, fun d => absurd d np1⟩)
    have he1 := tE_le (tp := tp) he.2
    have s1 := CS_FT s0 fr1
    rw [v1]
    have s2 := CS_ms (a := 25 + 2) (j := 12) (v := nI v) s1 (by omega) (by omega) (CR_set0 s1.2.1 (by omega))
    have w2 := FW_trans f0 (FW_trans (FW_FT fr1 (by omega)) (FW_ms (a := 25 + 2) (j := 12) (v := nI v) (by omega)))
    refine c_point s2.1 he1.2 (by rw [ms_1, if_neg (by decide)]; exact ct1.1) g1 (fun c f c1 c2 f1 g m e3 e4 fr => ⟨nz0, hE c f c1 c2 f1 g m e3 e4 (FW_trans w2 (FW_FT fr (by omega)))⟩) (fun g4 s4 m4 ct4 fr4 => ⟨nz1, ?_⟩)
    have he4 := tE_le (tp := tp) he1.2
    have gt := tE_gt (tp := tp) he1.2 hb (by omega) (by omega)
    have mo := tE_mono (tp := tp) he.2
    have mo2 := tF_le (tp := tp) he1.2
    exact hK v _ v7 he4.2 (by omega) z' g4 m4 (CS_FT s2 fr4) ct4.1 (FW_trans w2 (FW_FT fr4 (by omega)))
  · rw [if_neg (fun y => z (by rw [y]; rfl))] at hG
    rw [hc.2.2.1]
    exact c_refuse (c := 4) (f := 0) (fun m' k3 k4 k => ⟨nz0, hE 4 _ (by omega) (by omega) (tF_le hp).2 hG m' k3 k4 (FW_FT k (by omega))⟩)
