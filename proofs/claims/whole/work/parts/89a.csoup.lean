-- soups, likes, wonts
def useN (b f : Nat) : Nat → List (Nat × Nat)
  | 0 => []
  | t + 1 => useN b f t ++ (if bitN b t = 1 then [(t, f)] else [])
theorem useN_y {b f t : Nat} {U : List (Nat × Nat)} (h : bitN b t = 1) : U ++ useN b f (t + 1) = U ++ useN b f t ++ [(t, f)] := by
  show U ++ (useN b f t ++ (if bitN b t = 1 then [(t, f)] else [])) = _
  rw [if_pos h, List.append_assoc]
theorem useN_n {b f t : Nat} {U : List (Nat × Nat)} (h : ¬ bitN b t = 1) : U ++ useN b f (t + 1) = U ++ useN b f t := by
  show U ++ (useN b f t ++ (if bitN b t = 1 then [(t, f)] else [])) = _
  rw [if_neg h, List.append_nil]
theorem UW_use {U : List (Nat × Nat)} {b f p L : Nat} (h : UW U p L) (hf : p ≤ f) : ∀ t : Nat, t ≤ 6 → UW (U ++ useN b f t) f (L + t) := fun t => by
  induction t with
  | zero =>
    intro _
    show UW (U ++ []) f L
    rw [List.append_nil]
    exact UW_mono h hf (Nat.le_refl _)
  | succ t ih =>
    intro ht
    have := ih (by omega)
    by_cases c : bitN b t = 1
    · rw [useN_y c]; exact UW_app this (by omega) (Nat.le_refl _) (Nat.le_refl _)
    · rw [useN_n c]; exact UW_mono this (Nat.le_refl _) (by omega)
def optR {R : Type} (o : Option Nat) (x : R) (y : Nat → R) : R := match o with
  | none => x
  | some b => y b
def fSoup {R : Type} (tl : Nat) (tp : Nat → Nat) (s : Nat) (E : Nat → Nat → R) (K : RA → List (Nat × Nat) → Nat → R) (ρ : RA) (U : List (Nat × Nat)) (p : Nat) : R :=
  fNum tl tp p 1 9 E (fun v e1 => fName tl tp e1 E (optR (letN tp 97 6 (tE tl tp e1 - tF tl tp e1) (tF tl tp e1) 0) (E 3 (tF tl tp e1)) (fun b => fTok tl tp (tE tl tp e1) E (K (rset (rset ρ 7 s v) 8 s b) (U ++ useN b (tF tl tp e1) 6) (tE tl tp e1)))))
def fLike {R : Type} (tl : Nat) (tp : Nat → Nat) (s : Nat) (E : Nat → Nat → R) (K : RA → Nat → R) (ρ : RA) (p : Nat) : R :=
  fNum tl tp p 0 9 E (fun v e1 => fTok tl tp e1 E (K (rset ρ 5 s v) e1))
def fWont {R : Type} (tl : Nat) (tp : Nat → Nat) (s : Nat) (E : Nat → Nat → R) (K : RA → Nat → R) (ρ : RA) (p : Nat) : R :=
  fName tl tp p E (optR (letN tp 112 4 (tE tl tp p - tF tl tp p) (tF tl tp p) 0) (E 3 (tF tl tp p)) (fun b => fTok tl tp (tE tl tp p) E (K (rset ρ 6 s b) (tE tl tp p))))
theorem c_readSp {R : Type} {G : R → Prop} {E : Nat → Nat → R} {K : RA → List (Nat × Nat) → Nat → R} {tl p s L ag sh : Nat} {tp : Nat → Nat} {ρ : RA} {U : List (Nat × Nat)} {μ : Mem} {Q : Int32 → Mem → Prop} (hS : CS tl tp μ ρ U ag sh) (hI : LI ρ U p L) (hs : s < ρ 0 4) (h3 : ρ 4 s = 3) (hp : p ≤ tl) (h5 : μ.1 25 5 = nI p) (hG : G (fSoup tl tp s E K ρ U p))
    (hE : ∀ c f : Nat, 1 ≤ c → c ≤ 6 → f ≤ tl → G (E c f) → ∀ m : Mem, m.1 25 3 = nI c → m.1 25 4 = nI f → FW μ m → Q 0 m)
    (hK : ∀ (ρ' : RA) (U' : List (Nat × Nat)) (p' : Nat), LI ρ' U' p' (L + 7) → (∀ f i : Nat, f ≠ 7 → f ≠ 8 → ρ' f i = ρ f i) → p ≤ p' → p' ≤ tl → G (K ρ' U' p') → ∀ m : Mem, CS tl tp m ρ' U' ag sh → CT tl tp m p' → FW μ m → Q 1 m) : PX1_readSoup 25 (nI s) μ Q := by
  have htl := hS.1.2.1
  have s8 := hI.2.2.1
  have hq := tE_le (tp := tp) hp
  unfold fSoup at hG
  intro S75 hS75
  refine c_num (lo := 1) (hi := 9) hS.1 hp h5 (by omega) (by omega) hG (fun c f c1 c2 f1 g m' e3 e4 fr => ⟨fun d => absurd rfl d, fun _ => hE c f c1 c2 f1 g m' e3 e4 (FW_FT fr (by omega))⟩) (fun v v1 v9 g1 m1 ct1 ev fr1 => ⟨fun _ => ⟨vp_in_nI (by omega) (by omega), ?_⟩, fun d => absurd d np1⟩)
  have s1 := CS_FT hS fr1
  rw [ev, nI_clamp (n := s) (by omega)]
  have s2 := CS_ms (a := 25 + 2 + 7) (j := s) (v := nI v) s1 (by omega) (by omega) (CR_set (c := 7) s1.2.1 (by omega) (by omega))
  have w2 := FW_trans (FW_FT fr1 (by omega)) (FW_ms (a := 25 + 2 + 7) (j := s) (v := nI v) (μ := m1) (by omega))
  refine c_name s2.1 hq.2 (by rw [ms_1, if_neg (by decide)]; exact ct1.1) g1 (fun c f c1 c2 f1 g m' e3 e4 fr => ⟨fun d => absurd rfl d, fun _ => hE c f c1 c2 f1 g m' e3 e4 (FW_trans w2 (FW_FT fr (by omega)))⟩) (fun g2 z1 m2 ct2 fr2 => ⟨fun _ => ?_, fun d => absurd d np1⟩)
  have s3 := CS_FT s2 fr2
  have w3 := FW_trans w2 (FW_FT fr2 (by omega))
  have hq1 := tE_le (tp := tp) hq.2
  have hf1 := tF_le (tp := tp) hq.2
  have hf0 := tF_le (tp := tp) hp
  obtain ⟨t1, t2, t3⟩ := tS_1 z1
  have rd : ∀ x : Int32, (ms m2 (25 + 2 + 8) s x).1 (25 + 2 + 8) s = x := fun x => by rw [ms_1, if_pos rfl, if_pos rfl]
  refine c_letters (c := 97) (many := 6) s3.1 ct2.1 ct2.2.2.1 hq1.1 hq1.2 (by omega) (by omega) t3 (fun hN => ?_) (fun b b64 hB => ?_)
  · rw [hN] at g2
    rw [rd]
    refine ⟨vp_in_nI (by omega) (by omega), vp_in_nI (by omega) (by omega), fun d => absurd rfl d, fun _ => c_refuse (c := 3) (f := 0) (fun m' k3 k4 k => ⟨nz0, hE 3 _ (by omega) (by omega) hf1.2 g2 m' k3 (k4.trans ?_) (FW_trans w3 (FW_trans (FW_ms (by omega)) (FW_FT k (by omega))))⟩)⟩
    rw [ms_1, if_neg (by decide)]; exact ct2.2.2.1
  · rw [hB] at g2
    have b0 := letN_pos _ _ _ _ hB (Or.inl (by omega))
    have b64' : b < 64 := b64
    rw [rd]
    refine ⟨vp_in_nI (by omega) (by omega), vp_in_nI (by omega) (by omega), fun _ => ?_, fun d => absurd d (nI_ne0 b0 (by omega))⟩
    have s4 := CS_ms (a := 25 + 2 + 8) (j := s) (v := nI b) s3 (by omega) (by omega) (CR_set (c := 8) s3.2.1 (by omega) (by omega))
    have w4 := FW_trans w3 (FW_ms (a := 25 + 2 + 8) (j := s) (v := nI b) (μ := m2) (by omega))
    have l1 : LI (rset ρ 7 s v) U p L := LI_set hI hI.2.2.2.1 (by omega) (by omega) (by omega) (by omega) (by omega) (by omega) (fun _ => hs) (by omega) (by omega) (fun y => absurd y (by decide)) (fun _ hx => hx)
    have l2 : LI (rset (rset ρ 7 s v) 8 s b) U p L := LI_set l1 l1.2.2.2.1 (by omega) (by omega) (by omega) (by omega) (by omega) (by omega) (fun _ => by rw [rset_n _ _ _ _ 0 4 (by omega)]; exact hs) (by omega) (fun _ => by rw [rset_n _ _ _ _ 4 s (by omega)]; exact h3) (fun y => absurd y (by decide)) (fun _ hx => hx)
    have uw := UW_use (b := b) (f := tF tl tp (tE tl tp p)) hI.2.2.2.1 (by omega)
    have lp : ∀ t m, t ≤ 6 → (CS tl tp m (rset (rset ρ 7 s v) 8 s b) (U ++ useN b (tF tl tp (tE tl tp p)) t) ag sh ∧ CT tl tp m (tE tl tp p) ∧ FW μ m) → S75 (nI t) m := by
      refine up_loop ?_ ?_
      · intro t m ht ⟨cs, ct, fw⟩ ih
        apply hS75
        unfold nX1_readSoup_75 nX1_readSoup_98
        rw [nI_1]
        refine ⟨fun d => absurd d (nI_ge (b := 6) ht (by omega)), fun _ => c_isInSoup (r := 25 + 2) cs.2.1 l2.1 (by omega) ht (fun n => ⟨fun _ => ?_, fun d => absurd rfl d⟩) (fun y => ⟨fun d => absurd d np1, fun _ => ?_⟩)⟩
        · rw [rset_y] at n
          refine ih m ⟨?_, ct, fw⟩
          rw [useN_n n]; exact cs
        · rw [rset_y] at y
          refine c_noteUse ht cs.2.2.2.2.1 (fun x q hq => Nat.le_trans (fu_le (uw t (by omega)) hq) (by omega)) ct.2.2.1 (fun m' u o => ih m' ⟨?_, ⟨(o 25 5 (by decide)).trans ct.1, (o 25 6 (by decide)).trans ct.2.1, (o 25 7 (by decide)).trans ct.2.2.1, fun z => (o 25 8 (by decide)).trans (ct.2.2.2.1 z), ct.2.2.2.2⟩, FW_trans fw (FW_use o)⟩)
          rw [useN_y y]; exact CS_use cs u o
      · intro m ⟨cs, ct, fw⟩
        apply hS75
        unfold nX1_readSoup_75
        refine ⟨fun _ => ?_, fun d => absurd (nI_le (a := 6) (b := 6) (by omega) (by omega)) d⟩
        refine c_tok cs.1 hq1.2 ct.1 g2 (fun c f c1 c2 f1 g m' e3 e4 fr => ⟨nz0, hE c f c1 c2 f1 g m' e3 e4 (FW_trans fw (FW_FT fr (by omega)))⟩) (fun g3 m5 ct5 fr5 => ⟨nz1, ?_⟩)
        refine hK _ _ _ ⟨l2.1, l2.2.1, l2.2.2.1, UW_mono (uw 6 (by omega)) (by omega) (by omega), fun s t ht hn => (l2.2.2.2.2 s t ht hn).imp (fun _ hx => List.mem_append_left _ hx)⟩ (fun f i z7 z8 => ?_) (by omega) hq1.2 g3 m5 (CS_FT cs fr5) ct5 (FW_trans fw (FW_FT fr5 (by omega)))
        rw [rset_n _ _ _ _ f i (Or.inl z8), rset_n _ _ _ _ f i (Or.inl z7)]
    refine lp 0 _ (by omega) ⟨?_, ⟨?_, ?_, ?_, fun z => ?_, ct2.2.2.2.2⟩, w4⟩
    · show CS tl tp _ _ (U ++ []) ag sh
      rw [List.append_nil]; exact s4
    · rw [ms_1, if_neg (by decide)]; exact ct2.1
    · rw [ms_1, if_neg (by decide)]; exact ct2.2.1
    · rw [ms_1, if_neg (by decide)]; exact ct2.2.2.1
    · rw [ms_1, if_neg (by decide)]; exact ct2.2.2.2.1 z
theorem c_like {R : Type} {G : R → Prop} {E : Nat → Nat → R} {K : RA → Nat → R} {tl p s L ag sh : Nat} {tp : Nat → Nat} {ρ : RA} {U : List (Nat × Nat)} {μ : Mem} {Q : Int32 → Mem → Prop} (hS : CS tl tp μ ρ U ag sh) (hI : LI ρ U p L) (hs : s < ρ 0 4) (hp : p ≤ tl) (h5 : μ.1 25 5 = nI p) (hG : G (fLike tl tp s E K ρ p))
    (hE : ∀ c f : Nat, 1 ≤ c → c ≤ 6 → f ≤ tl → G (E c f) → ∀ m : Mem, m.1 25 3 = nI c → m.1 25 4 = nI f → FW μ m → Q 0 m)
    (hK : ∀ (ρ' : RA) (p' : Nat), LI ρ' U p' L → (∀ f i : Nat, f ≠ 5 → ρ' f i = ρ f i) → p ≤ p' → p' ≤ tl → G (K ρ' p') → ∀ m : Mem, CS tl tp m ρ' U ag sh → CT tl tp m p' → FW μ m → Q 1 m) : PX1_readLike 25 (nI s) μ Q := by
  have htl := hS.1.2.1
  have s8 := hI.2.2.1
  have hq := tE_le (tp := tp) hp
  have hf0 := tF_le (tp := tp) hp
  unfold fLike at hG
  unfold PX1_readLike
  refine c_num (lo := 0) (hi := 9) hS.1 hp h5 (by omega) (by omega) hG (fun c f c1 c2 f1 g m' e3 e4 fr => ⟨fun d => absurd rfl d, fun _ => hE c f c1 c2 f1 g m' e3 e4 (FW_FT fr (by omega))⟩) (fun v v1 v9 g1 m1 ct1 ev fr1 => ⟨fun _ => ⟨vp_in_nI (by omega) (by omega), ?_⟩, fun d => absurd d np1⟩)
  have s1 := CS_FT hS fr1
  rw [ev, nI_clamp (n := s) (by omega)]
  have s2 := CS_ms (a := 25 + 2 + 5) (j := s) (v := nI v) s1 (by omega) (by omega) (CR_set (c := 5) s1.2.1 (by omega) (by omega))
  have w2 := FW_trans (FW_FT fr1 (by omega)) (FW_ms (a := 25 + 2 + 5) (j := s) (v := nI v) (μ := m1) (by omega))
  refine c_tok s2.1 hq.2 (by rw [ms_1, if_neg (by decide)]; exact ct1.1) g1 (fun c f c1 c2 f1 g m' e3 e4 fr => ⟨nz0, hE c f c1 c2 f1 g m' e3 e4 (FW_trans w2 (FW_FT fr (by omega)))⟩) (fun g3 m5 ct5 fr5 => ⟨nz1, ?_⟩)
  exact hK _ _ (LI_set hI (UW_mono hI.2.2.2.1 (by omega) (Nat.le_refl _)) (by omega) (by omega) (by omega) (by omega) (by omega) (by omega) (fun _ => hs) (by omega) (by omega) (fun y => absurd y (by decide)) (fun _ hx => hx)) (fun f i z => rset_n _ _ _ _ f i (Or.inl z)) (by omega) hq.2 g3 m5 (CS_FT s2 fr5) ct5 (FW_trans w2 (FW_FT fr5 (by omega)))
theorem c_wont {R : Type} {G : R → Prop} {E : Nat → Nat → R} {K : RA → Nat → R} {tl p s L ag sh : Nat} {tp : Nat → Nat} {ρ : RA} {U : List (Nat × Nat)} {μ : Mem} {Q : Int32 → Mem → Prop} (hS : CS tl tp μ ρ U ag sh) (hI : LI ρ U p L) (hs : s < ρ 0 4) (hp : p ≤ tl) (h5 : μ.1 25 5 = nI p) (hG : G (fWont tl tp s E K ρ p))
    (hE : ∀ c f : Nat, 1 ≤ c → c ≤ 6 → f ≤ tl → G (E c f) → ∀ m : Mem, m.1 25 3 = nI c → m.1 25 4 = nI f → FW μ m → Q 0 m)
    (hK : ∀ (ρ' : RA) (p' : Nat), LI ρ' U p' L → (∀ f i : Nat, f ≠ 6 → ρ' f i = ρ f i) → p ≤ p' → p' ≤ tl → G (K ρ' p') → ∀ m : Mem, CS tl tp m ρ' U ag sh → CT tl tp m p' → FW μ m → Q 1 m) : PX1_readWont 25 (nI s) μ Q := by
  have htl := hS.1.2.1
  have s8 := hI.2.2.1
  have hq := tE_le (tp := tp) hp
  have hf0 := tF_le (tp := tp) hp
  unfold fWont at hG
  unfold PX1_readWont
  refine c_name hS.1 hp h5 hG (fun c f c1 c2 f1 g m' e3 e4 fr => ⟨fun d => absurd rfl d, fun _ => hE c f c1 c2 f1 g m' e3 e4 (FW_FT fr (by omega))⟩) (fun g2 z1 m2 ct2 fr2 => ⟨fun _ => ?_, fun d => absurd d np1⟩)
  have s3 := CS_FT hS fr2
  have w3 : FW μ m2 := FW_FT fr2 (by omega)
  obtain ⟨t1, t2, t3⟩ := tS_1 z1
  rw [nI_clamp (n := s) (by omega)]
  have rd : ∀ x : Int32, (ms m2 (25 + 2 + 6) s x).1 (25 + 2 + 6) s = x := fun x => by rw [ms_1, if_pos rfl, if_pos rfl]
  refine c_letters (c := 112) (many := 4) s3.1 ct2.1 ct2.2.2.1 hq.1 hq.2 (by omega) (by omega) t3 (fun hN => ?_) (fun b b64 hB => ?_)
  · rw [hN] at g2
    rw [rd]
    refine ⟨vp_in_nI (by omega) (by omega), vp_in_nI (by omega) (by omega), fun d => absurd rfl d, fun _ => c_refuse (c := 3) (f := 0) (fun m' k3 k4 k => ⟨nz0, hE 3 _ (by omega) (by omega) hf0.2 g2 m' k3 (k4.trans ?_) (FW_trans w3 (FW_trans (FW_ms (by omega)) (FW_FT k (by omega))))⟩)⟩
    rw [ms_1, if_neg (by decide)]; exact ct2.2.2.1
  · rw [hB] at g2
    have b0 := letN_pos _ _ _ _ hB (Or.inl (by omega))
    have b64' : b < 16 := b64
    rw [rd]
    refine ⟨vp_in_nI (by omega) (by omega), vp_in_nI (by omega) (by omega), fun _ => ?_, fun d => absurd d (nI_ne0 b0 (by omega))⟩
    have s4 := CS_ms (a := 25 + 2 + 6) (j := s) (v := nI b) s3 (by omega) (by omega) (CR_set (c := 6) s3.2.1 (by omega) (by omega))
    have w4 := FW_trans w3 (FW_ms (a := 25 + 2 + 6) (j := s) (v := nI b) (μ := m2) (by omega))
    refine c_tok s4.1 hq.2 (by rw [ms_1, if_neg (by decide)]; exact ct2.1) g2 (fun c f c1 c2 f1 g m' e3 e4 fr => ⟨nz0, hE c f c1 c2 f1 g m' e3 e4 (FW_trans w4 (FW_FT fr (by omega)))⟩) (fun g3 m5 ct5 fr5 => ⟨nz1, ?_⟩)
    exact hK _ _ (LI_set hI (UW_mono hI.2.2.2.1 (by omega) (Nat.le_refl _)) (by omega) (by omega) (by omega) (by omega) (by omega) (by omega) (fun _ => hs) (by omega) (by omega) (fun y => absurd y (by decide)) (fun _ hx => hx)) (fun f i z => rset_n _ _ _ _ f i (Or.inl z)) (by omega) hq.2 g3 m5 (CS_FT s4 fr5) ct5 (FW_trans w4 (FW_FT fr5 (by omega)))
