-- suppers, lines
noncomputable def fSup3 {R : Type} (tl : Nat) (tp : Nat → Nat) (s : Nat) (E : Nat → Nat → R) (K : RA → Nat → R) (ρ : RA) (p : Nat) : R := by classical exact if tS tl tp p = 1 ∧ isWd tp 11 (tF tl tp p) (tE tl tp p) then fWont tl tp s E (fun ρ' p' => fStop tl tp p' E (fun e => K ρ' e)) ρ (tE tl tp p) else fStop tl tp p E (fun e => K ρ e)
noncomputable def fSup2 {R : Type} (tl : Nat) (tp : Nat → Nat) (s : Nat) (E : Nat → Nat → R) (K : RA → Nat → R) (ρ : RA) (p : Nat) : R := by classical exact if tS tl tp p = 1 ∧ isWd tp 10 (tF tl tp p) (tE tl tp p) then fLike tl tp s E (fun ρ' p' => fSup3 tl tp s E K ρ' p') ρ (tE tl tp p) else fSup3 tl tp s E K ρ p
noncomputable def fSup1 {R : Type} (tl : Nat) (tp : Nat → Nat) (s : Nat) (E : Nat → Nat → R) (K : RA → List (Nat × Nat) → Nat → R) (ρ : RA) (U : List (Nat × Nat)) (p : Nat) : R := by classical exact if tS tl tp p = 1 ∧ isWd tp 9 (tF tl tp p) (tE tl tp p) then fPor tl tp 10 0 s E (fun ρ' U' p' => fSup2 tl tp s E (fun ρ2 e => K ρ2 U' e) ρ' p') 7 ρ U (tE tl tp p) else fSup2 tl tp s E (fun ρ2 e => K ρ2 U e) ρ p
noncomputable def fSup {R : Type} (tl : Nat) (tp : Nat → Nat) (k : Nat) (E : Nat → Nat → R) (K : RA → List (Nat × Nat) → Nat → R) (ρ : RA) (U : List (Nat × Nat)) (f e : Nat) : R :=
  if ρ 0 4 < 8 then (if k = 3 then fSoup tl tp (ρ 0 4) E (fun ρ' U' p' => fSup1 tl tp (ρ 0 4) E K ρ' U' p') (supR ρ k) U e else fPor tl tp 9 1 (ρ 0 4) E (fun ρ' U' p' => fSup1 tl tp (ρ 0 4) E K ρ' U' p') 7 (supR ρ k) U e) else E 5 f
theorem c_s4 {R : Type} {G : R → Prop} {E : Nat → Nat → R} {K : Nat → R} {tl p ag sh : Nat} {tp : Nat → Nat} {ρ : RA} {U : List (Nat × Nat)} {μ : Mem} {p1 : Int32} {Q : Int32 → Mem → Prop} (hS : CS tl tp μ ρ U ag sh) (hp : p ≤ tl) (hc : CT tl tp μ p) (hG : G (fStop tl tp p E K))
    (hE : ∀ c f : Nat, 1 ≤ c → c ≤ 6 → f ≤ tl → G (E c f) → ∀ m : Mem, m.1 25 3 = nI c → m.1 25 4 = nI f → FW μ m → Q 0 m)
    (hK : ∀ e : Nat, p < e → e ≤ tl → G (K e) → ∀ m : Mem, CS tl tp m ρ U ag sh → m.1 25 5 = nI e → FW μ m → Q 1 m) : nX1_readSupper_143 25 p1 Q μ := by
  have hb : ∀ i : Nat, i < tl → tp i < 256 := fun i hi => (hS.1.2.2 i hi).1
  unfold nX1_readSupper_143
  refine c_isPoint hp hc hG (fun c f c1 c2 f1 g2 m' e3 e4 fr2 => ⟨nz0, hE c f c1 c2 f1 g2 m' e3 e4 (FW_FT fr2 (by omega))⟩) (fun g2 s3 => ⟨nz1, ?_⟩)
  have gt := tE_gt (tp := tp) hp hb (by omega) (by omega)
  have := tF_le (tp := tp) hp
  exact hK _ (by omega) (tE_le hp).2 g2 μ hS hc.1 FW_refl
theorem c_s3 {R : Type} {G : R → Prop} {E : Nat → Nat → R} {K : RA → Nat → R} {tl p s L ag sh : Nat} {tp : Nat → Nat} {ρ : RA} {U : List (Nat × Nat)} {μ : Mem} {p1 : Int32} {Q : Int32 → Mem → Prop} (hS : CS tl tp μ ρ U ag sh) (hI : LI ρ U p L) (hs : s < ρ 0 4) (hp : p ≤ tl) (hc : CT tl tp μ p) (hG : G (fSup3 tl tp s E K ρ p))
    (hE : ∀ c f : Nat, 1 ≤ c → c ≤ 6 → f ≤ tl → G (E c f) → ∀ m : Mem, m.1 25 3 = nI c → m.1 25 4 = nI f → FW μ m → Q 0 m)
    (hK : ∀ (ρ' : RA) (e : Nat), LI ρ' U e L → (∀ i : Nat, ρ' 0 i = ρ 0 i) → p < e → e ≤ tl → G (K ρ' e) → ∀ m : Mem, CS tl tp m ρ' U ag sh → m.1 25 5 = nI e → FW μ m → Q 1 m) : nX1_readSupper_124 25 p1 Q (nI s) μ := by
  unfold fSup3 at hG
  unfold nX1_readSupper_124
  have mo := tE_mono (tp := tp) hp
  have hq := tE_le (tp := tp) hp
  refine c_nm hS.1 hp hc (by omega) (fun z1 y => ⟨fun d => absurd d np1, fun _ => ?_⟩) (fun n => ⟨fun _ => ?_, fun d => absurd rfl d⟩)
  · rw [if_pos ⟨z1, y⟩] at hG
    refine c_wont hS (LI_mono hI mo (Nat.le_refl _)) hs hq.2 hc.1 hG (fun c f c1 c2 f1 g2 m' e3 e4 fr2 => ⟨fun d => absurd rfl d, fun _ => hE c f c1 c2 f1 g2 m' e3 e4 fr2⟩) (fun ρ' p' li sm pp pl g m cs ct fw => ⟨fun _ => ?_, fun d => absurd d np1⟩)
    exact c_s4 cs pl ct g (fun c f c1 c2 f1 g2 m' e3 e4 fr2 => hE c f c1 c2 f1 g2 m' e3 e4 (FW_trans fw fr2)) (fun e pe el g m' cs' e5 fw' => hK ρ' e (LI_mono li (by omega) (Nat.le_refl _)) (fun i => sm 0 i (by omega)) (by omega) el g m' cs' e5 (FW_trans fw fw'))
  · rw [if_neg n] at hG
    exact c_s4 hS hp hc hG hE (fun e pe el g m' cs' e5 fw' => hK ρ e (LI_mono hI (by omega) (Nat.le_refl _)) (fun i => rfl) (by omega) el g m' cs' e5 fw')
theorem c_s2 {R : Type} {G : R → Prop} {E : Nat → Nat → R} {K : RA → Nat → R} {tl p s L ag sh : Nat} {tp : Nat → Nat} {ρ : RA} {U : List (Nat × Nat)} {μ : Mem} {p1 : Int32} {Q : Int32 → Mem → Prop} (hS : CS tl tp μ ρ U ag sh) (hI : LI ρ U p L) (hs : s < ρ 0 4) (hp : p ≤ tl) (hc : CT tl tp μ p) (hG : G (fSup2 tl tp s E K ρ p))
    (hE : ∀ c f : Nat, 1 ≤ c → c ≤ 6 → f ≤ tl → G (E c f) → ∀ m : Mem, m.1 25 3 = nI c → m.1 25 4 = nI f → FW μ m → Q 0 m)
    (hK : ∀ (ρ' : RA) (e : Nat), LI ρ' U e L → (∀ i : Nat, ρ' 0 i = ρ 0 i) → p < e → e ≤ tl → G (K ρ' e) → ∀ m : Mem, CS tl tp m ρ' U ag sh → m.1 25 5 = nI e → FW μ m → Q 1 m) : nX1_readSupper_105 25 p1 Q (nI s) μ := by
  unfold fSup2 at hG
  unfold nX1_readSupper_105
  have mo := tE_mono (tp := tp) hp
  have hq := tE_le (tp := tp) hp
  refine c_nm hS.1 hp hc (by omega) (fun z1 y => ⟨fun d => absurd d np1, fun _ => ?_⟩) (fun n => ⟨fun _ => ?_, fun d => absurd rfl d⟩)
  · rw [if_pos ⟨z1, y⟩] at hG
    refine c_like hS (LI_mono hI mo (Nat.le_refl _)) hs hq.2 hc.1 hG (fun c f c1 c2 f1 g2 m' e3 e4 fr2 => ⟨fun d => absurd rfl d, fun _ => hE c f c1 c2 f1 g2 m' e3 e4 fr2⟩) (fun ρ' p' li sm pp pl g m cs ct fw => ⟨fun _ => ?_, fun d => absurd d np1⟩)
    exact c_s3 cs li (by rw [sm 0 4 (by omega)]; exact hs) pl ct g (fun c f c1 c2 f1 g2 m' e3 e4 fr2 => hE c f c1 c2 f1 g2 m' e3 e4 (FW_trans fw fr2)) (fun ρ2 e li2 sm2 pe el g m' cs' e5 fw' => hK ρ2 e li2 (fun i => (sm2 i).trans (sm 0 i (by omega))) (by omega) el g m' cs' e5 (FW_trans fw fw'))
  · rw [if_neg n] at hG
    exact c_s3 hS hI hs hp hc hG hE hK
theorem c_s1 {R : Type} {G : R → Prop} {E : Nat → Nat → R} {K : RA → List (Nat × Nat) → Nat → R} {tl p s L ag sh : Nat} {tp : Nat → Nat} {ρ : RA} {U : List (Nat × Nat)} {μ : Mem} {p1 : Int32} {Q : Int32 → Mem → Prop} (hS : CS tl tp μ ρ U ag sh) (hI : LI ρ U p L) (hs : s < ρ 0 4) (hc0 : cntN ρ 10 s = 0) (hp : p ≤ tl) (hc : CT tl tp μ p) (hG : G (fSup1 tl tp s E K ρ U p))
    (hE : ∀ c f : Nat, 1 ≤ c → c ≤ 6 → f ≤ tl → G (E c f) → ∀ m : Mem, m.1 25 3 = nI c → m.1 25 4 = nI f → FW μ m → Q 0 m)
    (hK : ∀ (ρ' : RA) (U' : List (Nat × Nat)) (e : Nat), LI ρ' U' e (L + 7) → (∀ i : Nat, ρ' 0 i = ρ 0 i) → p < e → e ≤ tl → G (K ρ' U' e) → ∀ m : Mem, CS tl tp m ρ' U' ag sh → m.1 25 5 = nI e → FW μ m → Q 1 m) : nX1_readSupper_78 25 p1 Q (nI s) μ := by
  unfold fSup1 at hG
  unfold nX1_readSupper_78
  have mo := tE_mono (tp := tp) hp
  have hq := tE_le (tp := tp) hp
  refine c_nm hS.1 hp hc (by omega) (fun z1 y => ⟨fun d => absurd d np1, fun _ => ?_⟩) (fun n => ⟨fun _ => ?_, fun d => absurd rfl d⟩)
  · rw [if_pos ⟨z1, y⟩] at hG
    refine c_por (w := 10) (lv := 0) hS (LI_mono hI mo (Nat.le_refl _)) (Or.inr rfl) (by omega) hs (fun y => absurd y (by decide)) hc0 hq.2 hc.1 hG (fun c f c1 c2 f1 g2 m' e3 e4 fr2 => ⟨fun d => absurd rfl d, fun _ => hE c f c1 c2 f1 g2 m' e3 e4 fr2⟩) (fun ρ' U' p' li sm pp pl g m cs ct fw => ⟨fun _ => ?_, fun d => absurd d np1⟩)
    exact c_s2 cs li (by rw [sm 0 4 (by omega)]; exact hs) pl ct g (fun c f c1 c2 f1 g2 m' e3 e4 fr2 => hE c f c1 c2 f1 g2 m' e3 e4 (FW_trans fw fr2)) (fun ρ2 e li2 sm2 pe el g m' cs' e5 fw' => hK ρ2 U' e li2 (fun i => (sm2 i).trans (sm 0 i (by omega))) (by omega) el g m' cs' e5 (FW_trans fw fw'))
  · rw [if_neg n] at hG
    exact c_s2 hS hI hs hp hc hG hE (fun ρ' e li => hK ρ' U e (LI_mono li (Nat.le_refl _) (by omega)))
theorem cnt_0 {ρ : RA} {w s : Nat} (h : ∀ t : Nat, t < 6 → ρ w (6 * s + t) = 0) : cntN ρ w s = 0 := by
  have : cntN ρ w s = sumN (fun _ => 0) 6 := sumN_congr (fun i hi => by
    show (if ρ w (6 * s + i) = 0 then 0 else 1) = 0
    rw [if_pos (h i hi)])
  rw [this]; rfl
theorem c_readSupper {R : Type} {G : R → Prop} {E : Nat → Nat → R} {K : RA → List (Nat × Nat) → Nat → R} {tl p k L ag sh : Nat} {tp : Nat → Nat} {ρ : RA} {U : List (Nat × Nat)} {μ : Mem} {Q : Int32 → Mem → Prop} (hS : CS tl tp μ ρ U ag sh) (hI : LI ρ U p L) (hk : k ≤ 3) (hp : p ≤ tl) (hc : CT tl tp μ p) (hG : G (fSup tl tp k E K ρ U (tF tl tp p) (tE tl tp p)))
    (hE : ∀ c f : Nat, 1 ≤ c → c ≤ 6 → f ≤ tl → G (E c f) → ∀ m : Mem, m.1 25 3 = nI c → m.1 25 4 = nI f → FW μ m → Q 0 m)
    (hK : ∀ (ρ' : RA) (U' : List (Nat × Nat)) (e : Nat), LI ρ' U' e (L + 14) → ρ' 0 4 = ρ 0 4 + 1 → p < e → e ≤ tl → G (K ρ' U' e) → ∀ m : Mem, CS tl tp m ρ' U' ag sh → m.1 25 5 = nI e → FW μ m → Q 1 m) : PX1_readSupper 25 (nI k) μ Q := by
  have s8 := hI.2.2.1
  have mo := tE_mono (tp := tp) hp
  have hq := tE_le (tp := tp) hp
  have e04 : μ.1 (25 + 2) 4 = nI (ρ 0 4) := hS.2.1.2.1
  unfold fSup at hG
  unfold PX1_readSupper
  rw [e04, nI_1, hc.2.2.1]
  by_cases c8 : ρ 0 4 < 8
  · rw [if_pos c8] at hG
    refine ⟨fun _ => ⟨vp_in_nI (by omega) (by omega), fun m2 hm2 => ?_⟩, fun d => absurd (nI_lt (b := 8) c8 (by omega)) d⟩
    rw [nI_clamp (n := ρ 0 4) (by omega)] at hm2
    have li := LI_sup hI c8 hk
    have s1 := CS_ms (a := 25 + 2) (j := 4) (v := nI (ρ 0 4 + 1)) hS (by omega) (by omega) (CR_set0 hS.2.1 (by omega))
    have s2 : CS tl tp m2 (supR ρ k) U ag sh := by
      rw [hm2]
      exact CS_ms (a := 25 + 2 + 4) (j := ρ 0 4) (v := nI k) s1 (by omega) (by omega) (CR_set (c := 4) s1.2.1 (by omega) (by omega))
    have fw : FW μ m2 := by rw [hm2]; exact FW_trans (FW_ms (by omega)) (FW_ms (by omega))
    have h5 : m2.1 25 5 = nI (tE tl tp p) := by rw [hm2, ms_1, if_neg (by decide), ms_1, if_neg (by decide)]; exact hc.1
    have sup4 : supR ρ k 0 4 = ρ 0 4 + 1 := by rw [supR_0, if_pos rfl]
    have z : ∀ w t : Nat, w = 9 ∨ w = 10 → t < 6 → supR ρ k w (6 * ρ 0 4 + t) = 0 := fun w t hw ht => by
      rw [supR_n _ _ _ _ (by omega) (by omega)]
      have := hI.1.2.2.2.2.2.2.2.2.2.1 (6 * ρ 0 4 + t) (by omega)
      rcases hw with x | x
      · rw [x]; exact this.1
      · rw [x]; exact this.2
    have c3 : nI k = (3 : Int32) ↔ k = 3 := nI_eq (b := 3) (by omega) (by omega)
    rw [c3]
    refine ⟨fun k3 => ?_, fun k3 => ?_⟩
    · rw [if_neg k3] at hG
      refine c_por (w := 9) (lv := 1) s2 (LI_mono li mo (Nat.le_refl _)) (Or.inl rfl) (by omega) (by rw [sup4]; omega) (fun _ => by rw [supR_4]; exact k3) (cnt_0 (fun t ht => z 9 t (Or.inl rfl) ht)) hq.2 h5 hG (fun c f c1 c2 f1 g2 m' e3 e4 fr2 => ⟨fun d => absurd rfl d, fun _ => hE c f c1 c2 f1 g2 m' e3 e4 (FW_trans fw fr2)⟩) (fun ρ' U' p' li' sm pp pl g m cs ct fw2 => ⟨fun _ => ?_, fun d => absurd d np1⟩)
      have x4 : ρ' 0 4 = ρ 0 4 + 1 := (sm 0 4 (by omega)).trans sup4
      exact c_s1 cs li' (by omega) (cnt_0 (fun t ht => by rw [sm 10 _ (by omega)]; exact z 10 t (Or.inr rfl) ht)) pl ct g (fun c f c1 c2 f1 g2 m' e3 e4 fr2 => hE c f c1 c2 f1 g2 m' e3 e4 (FW_trans fw (FW_trans fw2 fr2))) (fun ρ2 U2 e li2 sm2 pe el g m' cs' e5 fw' => hK ρ2 U2 e (LI_mono li2 (Nat.le_refl _) (by omega)) ((sm2 4).trans x4) (by omega) el g m' cs' e5 (FW_trans fw (FW_trans fw2 fw')))
    · rw [if_pos k3] at hG
      refine c_readSp s2 (LI_mono li mo (Nat.le_refl _)) (by rw [sup4]; omega) (by rw [supR_4]; exact k3) hq.2 h5 hG (fun c f c1 c2 f1 g2 m' e3 e4 fr2 => ⟨fun _ => hE c f c1 c2 f1 g2 m' e3 e4 (FW_trans fw fr2), fun d => absurd rfl d⟩) (fun ρ' U' p' li' sm pp pl g m cs ct fw2 => ⟨fun d => absurd d np1, fun _ => ?_⟩)
      have x4 : ρ' 0 4 = ρ 0 4 + 1 := (sm 0 4 (by omega) (by omega)).trans sup4
      exact c_s1 cs li' (by omega) (cnt_0 (fun t ht => by rw [sm 10 _ (by omega) (by omega)]; exact z 10 t (Or.inr rfl) ht)) pl ct g (fun c f c1 c2 f1 g2 m' e3 e4 fr2 => hE c f c1 c2 f1 g2 m' e3 e4 (FW_trans fw (FW_trans fw2 fr2))) (fun ρ2 U2 e li2 sm2 pe el g m' cs' e5 fw' => hK ρ2 U2 e (LI_mono li2 (Nat.le_refl _) (by omega)) ((sm2 4).trans x4) (by omega) el g m' cs' e5 (FW_trans fw (FW_trans fw2 fw')))
  · rw [if_neg c8] at hG
    refine ⟨fun d => absurd d (nI_nlt (b := 8) (by omega) (by omega)), fun _ => ?_⟩
    exact c_refuse (c := 5) (f := 0) (fun m' k3 k4 k => ⟨nz0, hE 5 _ (by omega) (by omega) (tF_le hp).2 hG m' k3 k4 (FW_FT k (by omega))⟩)
