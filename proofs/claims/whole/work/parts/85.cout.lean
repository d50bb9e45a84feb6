def fOut {R : Type} (tl : Nat) (tp : Nat → Nat) (ρ : RA) (e : Nat) (E : Nat → Nat → R) (K : RA → Nat → R) : R :=
  fNum tl tp e 0 6 E (fun v e1 => if bitN (ρ 0 14) v = 1 then E 4 (tF tl tp e) else fPoint tl tp e1 E (fun e2 => K (rset ρ 0 14 (obN (ρ 0 14) v)) e2))
def fGuest {R : Type} (tl : Nat) (tp : Nat → Nat) (ρ : RA) (e : Nat) (E : Nat → Nat → R) (K : RA → Nat → R) : R :=
  fNum tl tp e 0 6 E (fun w e1 => if ρ 11 w = 0 then fNum tl tp e1 1 4 E (fun v e2 => fPoint tl tp e2 E (fun e3 => K (rset ρ 11 w v) e3)) else E 4 (tF tl tp e))
theorem c_readOut {R : Type} {G : R → Prop} {E : Nat → Nat → R} {K : RA → Nat → R} {tl p ag sh : Nat} {tp : Nat → Nat} {ρ : RA} {U : List (Nat × Nat)} {μ : Mem} {Q : Int32 → Mem → Prop} (hS : CS tl tp μ ρ U ag sh) (hw : RW ρ) (hp : p ≤ tl) (hc : CT tl tp μ p) (hG : G (fOut tl tp ρ (tE tl tp p) E K))
    (hE : ∀ c f : Nat, 1 ≤ c → c ≤ 6 → f ≤ tl → G (E c f) → ∀ m : Mem, m.1 25 3 = nI c → m.1 25 4 = nI f → FW μ m → Q 0 m)
    (hK : ∀ v e : Nat, v ≤ 6 → e ≤ tl → tE tl tp p < e → G (K (rset ρ 0 14 (obN (ρ 0 14) v)) e) → ∀ m : Mem, CS tl tp m (rset ρ 0 14 (obN (ρ 0 14) v)) U ag sh → m.1 25 5 = nI e → FW μ m → Q 1 m) : PX1_readOut 25 μ Q := by
  have hb : ∀ i : Nat, i < tl → tp i < 256 := fun i hi => (hS.1.2.2 i hi).1
  have he := tE_le (tp := tp) hp
  unfold fOut at hG
  unfold PX1_readOut
  refine c_num (lo := 0) (hi := 6) hS.1 he.2 hc.1 (by omega) (by omega) hG (fun c f c1 c2 f1 g m e3 e4 fr => ⟨fun d => absurd rfl d, fun _ => hE c f c1 c2 f1 g m e3 e4 (FW_FT fr (by omega))⟩) (fun v v0 v7 g1 m1 ct1 v1 fr1 => ⟨fun _ => ?_, fun d => absurd d np1⟩)
  have he1 := tE_le (tp := tp) he.2
  have s1 := CS_FT hS fr1
  rw [v1]
  have vm : v % 7 = v := Nat.mod_eq_of_lt (by omega)
  refine c_isOut (r := 25 + 2) s1.2.1 hw (by omega) (fun z => ⟨fun _ => ?_, fun d => absurd rfl d⟩) (fun z => ⟨fun d => absurd d (by decide), fun _ => ?_⟩)
  · unfold outN at z
    rw [vm] at z
    rw [if_neg z] at g1
    have e14 : m1.1 (25 + 2) 14 = nI (ρ 0 14) := s1.2.1.2.2.2.2.1
    rw [e14, v1, or_bit (by omega)]
    have s2 := CS_ms (a := 25 + 2) (j := 14) (v := nI (obN (ρ 0 14) v)) s1 (by omega) (by omega) (CR_set0 s1.2.1 (by omega))
    have w2 := FW_trans (FW_FT fr1 (by omega)) (FW_ms (a := 25 + 2) (j := 14) (v := nI (obN (ρ 0 14) v)) (μ := m1) (by omega))
    refine c_point s2.1 he1.2 (by rw [ms_1, if_neg (by decide)]; exact ct1.1) g1 (fun c f c1 c2 f1 g m e3 e4 fr => ⟨nz0, hE c f c1 c2 f1 g m e3 e4 (FW_trans w2 (FW_FT fr (by omega)))⟩) (fun g4 s4 m4 ct4 fr4 => ⟨nz1, ?_⟩)
    have he4 := tE_le (tp := tp) he1.2
    have gt := tE_gt (tp := tp) he1.2 hb (by omega) (by omega)
    have mo := tE_mono (tp := tp) he.2
    have mo2 := tF_le (tp := tp) he1.2
    exact hK v _ v7 he4.2 (by omega) g4 m4 (CS_FT s2 fr4) ct4.1 (FW_trans w2 (FW_FT fr4 (by omega)))
  · unfold outN at z
    rw [vm] at z
    rw [if_pos z] at g1
    rw [ct1.2.2.1]
    exact c_refuse (c := 4) (f := 0) (fun m' k3 k4 k => ⟨nz0, hE 4 _ (by omega) (by omega) (tF_le he.2).2 g1 m' k3 k4 (FW_trans (FW_FT fr1 (by omega)) (FW_FT k (by omega)))⟩)
theorem c_readGuest {R : Type} {G : R → Prop} {E : Nat → Nat → R} {K : RA → Nat → R} {tl p ag sh : Nat} {tp : Nat → Nat} {ρ : RA} {U : List (Nat × Nat)} {μ : Mem} {Q : Int32 → Mem → Prop} (hS : CS tl tp μ ρ U ag sh) (hw : RW ρ) (hp : p ≤ tl) (hc : CT tl tp μ p) (hG : G (fGuest tl tp ρ (tE tl tp p) E K))
    (hE : ∀ c f : Nat, 1 ≤ c → c ≤ 6 → f ≤ tl → G (E c f) → ∀ m : Mem, m.1 25 3 = nI c → m.1 25 4 = nI f → FW μ m → Q 0 m)
    (hK : ∀ w v e : Nat, w ≤ 6 → 1 ≤ v → v ≤ 4 → e ≤ tl → tE tl tp p < e → G (K (rset ρ 11 w v) e) → ∀ m : Mem, CS tl tp m (rset ρ 11 w v) U ag sh → m.1 25 5 = nI e → FW μ m → Q 1 m) : PX1_readGuest 25 μ Q := by
  have hb : ∀ i : Nat, i < tl → tp i < 256 := fun i hi => (hS.1.2.2 i hi).1
  have he := tE_le (tp := tp) hp
  unfold fGuest at hG
  unfold PX1_readGuest
  refine c_num (lo := 0) (hi := 6) hS.1 he.2 hc.1 (by omega) (by omega) hG (fun c f c1 c2 f1 g m e3 e4 fr => ⟨fun d => absurd rfl d, fun _ => hE c f c1 c2 f1 g m e3 e4 (FW_FT fr (by omega))⟩) (fun w v0 w6 g1 m1 ct1 v1 fr1 => ⟨fun _ => ?_, fun d => absurd d np1⟩)
  have he1 := tE_le (tp := tp) he.2
  have s1 := CS_FT hS fr1
  have e11 : m1.1 (25 + 2 + 11) w = nI (ρ 11 w) := s1.2.1.2.2.2.2.2.2.2.2 w (by omega)
  have b11 := hw.2.2.2.2.2.2.2.2.2.2 w (by omega)
  rw [v1, nI_clamp (n := w) (by omega), e11]
  refine ⟨vp_in_nI (by omega) (by omega), fun z => ?_, fun z => ?_⟩
  · have z' : nI (ρ 11 w) = nI 0 := z
    rw [nI_eq (by omega) (by omega)] at z'
    rw [if_pos z'] at g1
    refine c_num (lo := 1) (hi := 4) s1.1 he1.2 ct1.1 (by omega) (by omega) g1 (fun c f c1 c2 f1 g m e3 e4 fr => ⟨fun d => absurd rfl d, fun _ => hE c f c1 c2 f1 g m e3 e4 (FW_trans (FW_FT fr1 (by omega)) (FW_FT fr (by omega)))⟩) (fun v a1 a4 g2 m2 ct2 v2 fr2 => ⟨fun _ => ⟨vp_in_nI (by omega) (by omega), ?_⟩, fun d => absurd d np1⟩)
    have he2 := tE_le (tp := tp) he1.2
    have s2 := CS_FT s1 fr2
    rw [v2]
    have s3 := CS_ms (a := 25 + 2 + 11) (j := w) (v := nI v) s2 (by omega) (by omega) (CR_set (c := 11) s2.2.1 (by omega) (by omega))
    have w3 := FW_trans (FW_trans (FW_FT fr1 (by omega)) (FW_FT fr2 (by omega))) (FW_ms (a := 25 + 2 + 11) (j := w) (v := nI v) (μ := m2) (by omega))
    refine c_point s3.1 he2.2 (by rw [ms_1, if_neg (by decide)]; exact ct2.1) g2 (fun c f c1 c2 f1 g m e3 e4 fr => ⟨nz0, hE c f c1 c2 f1 g m e3 e4 (FW_trans w3 (FW_FT fr (by omega)))⟩) (fun g4 s4 m4 ct4 fr4 => ⟨nz1, ?_⟩)
    have he4 := tE_le (tp := tp) he2.2
    have gt := tE_gt (tp := tp) he2.2 hb (by omega) (by omega)
    have mo := tE_mono (tp := tp) he.2
    have mo1 := tE_mono (tp := tp) he1.2
    have mo2 := tF_le (tp := tp) he2.2
    exact hK w v _ w6 a1 a4 he4.2 (by omega) g4 m4 (CS_FT s3 fr4) ct4.1 (FW_trans w3 (FW_FT fr4 (by omega)))
  · rw [if_neg (fun y => z (by rw [y]; rfl))] at g1
    rw [ct1.2.2.1]
    exact c_refuse (c := 4) (f := 0) (fun m' k3 k4 k => ⟨nz0, hE 4 _ (by omega) (by omega) (tF_le he.2).2 g1 m' k3 k4 (FW_trans (FW_FT fr1 (by omega)) (FW_FT k (by omega)))⟩)
