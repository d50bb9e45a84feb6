-- the reference's suppers
theorem thgM_set {ρ : RA} {c i v s : Nat} (h4 : c ≠ 4) (h8 : c ≠ 8) (h9 : c ≠ 9) : thgM (rset ρ c i v) s = thgM ρ s := by
  have b : ∀ k : Nat, bitsW (rset ρ c i v) s k = bitsW ρ s k := fun k => by
    induction k with
    | zero => rfl
    | succ k ih => unfold bitsW; rw [ih, rset_n _ _ _ _ 9 _ (Or.inl (by omega))]
  unfold thgM
  rw [rset_n _ _ _ _ 4 s (Or.inl (by omega)), rset_n _ _ _ _ 8 s (Or.inl (by omega)), b]
theorem thgM_cg {ρ ρ' : RA} {s : Nat} (h4 : ρ' 4 s = ρ 4 s) (h8 : ρ' 8 s = ρ 8 s) (h9 : ∀ t : Nat, t < 6 → ρ' 9 (6 * s + t) = ρ 9 (6 * s + t)) : thgM ρ' s = thgM ρ s := by
  have b : ∀ k : Nat, k ≤ 6 → bitsW ρ' s k = bitsW ρ s k := fun k => by
    induction k with
    | zero => intro _; rfl
    | succ k ih =>
      intro hk
      unfold bitsW
      rw [ih (by omega), h9 k (by omega)]
  unfold thgM
  rw [h4, h8, b 6 (Nat.le_refl _)]
theorem r_isnm {tl p s : Nat} {tp : Nat → Nat} {X : Int32} {μ : Mem} {A B : Mem → Prop} (hT : TR μ tl tp) (hp : p ≤ tl) (hR : RT tl tp μ p) (hs : s < 12) (hX : X = nI (wdR s)) (hA : ¬ (tS tl tp p = 1 ∧ isWd tp s (tF tl tp p) (tE tl tp p)) → A μ) (hB : tS tl tp p = 1 → isWd tp s (tF tl tp p) (tE tl tp p) → B μ) : (¬ (μ.1 100 31) = 0 → A μ) ∧ ((μ.1 100 31) = 0 → (¬ (μ.1 100 29) = (1 : Int32) → A μ) ∧ ((μ.1 100 29) = (1 : Int32) → PX7_nameNow 100 μ (fun (r : Int32) (m : Mem) => (¬ r = X → A m) ∧ (r = X → B m)))) := by
  have hq := tE_le (tp := tp) hp
  have e29 : μ.1 100 29 = (1 : Int32) ↔ tS tl tp p = 1 := RT_eq (x := 1) hR (by omega)
  rw [e29, hX]
  refine ⟨fun d => absurd hR.2.2.2.2.2 d, fun _ => ⟨fun z => hA (fun y => z y.1), fun z => ?_⟩⟩
  obtain ⟨w17, _, _, wi⟩ := wdR_tab s hs
  refine r_nameNow hT hR.1 hR.2.1 hq.1 hq.2 (fun a ha y => ?_) (fun no => ⟨fun _ => hA (fun y => no s hs y.2), fun d => absurd d.symm (nI_ne4 (by omega))⟩)
  obtain ⟨a17, _, _, ai⟩ := wdR_tab a ha
  rw [nI_eq (by omega) (by omega)]
  refine ⟨fun d => hA (fun y2 => d ?_), fun d => hB z ?_⟩
  · rw [wd_uniq ha hs y y2.2]
  · rw [← ai s hs d]; exact y
theorem r_s4_f {μ : Mem} {c f : Nat} {Q : Mem → Prop} {S9 : Int32 → Int32 → Mem → Prop} {S82 : Int32 → Int32 → Int32 → Int32 → Mem → Prop} {p1 v2 v3 v4 v5 v6 : Int32} (h : RF μ c f) (k : Q μ) : nX7_readSupper_255 100 p1 Q S9 S82 v2 v3 v4 v5 v6 μ := ⟨fun _ => k, fun d => absurd d (RF_nz h)⟩
theorem r_s3_f {μ : Mem} {c f : Nat} {Q : Mem → Prop} {S9 : Int32 → Int32 → Mem → Prop} {S82 : Int32 → Int32 → Int32 → Int32 → Mem → Prop} {p1 v2 v3 v4 v5 v6 : Int32} (h : RF μ c f) (k : Q μ) : nX7_readSupper_214 100 p1 Q S9 S82 v2 v3 v4 v5 v6 μ := ⟨fun _ => r_s4_f h k, fun d => absurd d (RF_nz h)⟩
theorem r_s2_f {μ : Mem} {c f : Nat} {Q : Mem → Prop} {S9 : Int32 → Int32 → Mem → Prop} {S82 : Int32 → Int32 → Int32 → Int32 → Mem → Prop} {p1 v2 v3 v4 v5 v6 : Int32} (h : RF μ c f) (k : Q μ) : nX7_readSupper_177 100 p1 Q S9 S82 v2 v3 v4 v5 v6 μ := ⟨fun _ => r_s3_f h k, fun d => absurd d (RF_nz h)⟩
theorem r_s1_f {μ : Mem} {c f : Nat} {Q : Mem → Prop} {S9 : Int32 → Int32 → Mem → Prop} {S82 : Int32 → Int32 → Int32 → Int32 → Mem → Prop} {p1 v2 v3 v4 : Int32} (h : RF μ c f) (k : Q μ) : nX7_readSupper_137 100 p1 Q S9 S82 v2 v3 v4 μ := ⟨fun _ => r_s2_f h k, fun d => absurd d (RF_nz h)⟩
/-- the supper written down -/
theorem r_s4 {tl p s k ag sh : Nat} {tp : Nat → Nat} {ρ0 ρ : RA} {U : List (Nat × Nat)} {μ : Mem} {Q : Mem → Prop} {S9 : Int32 → Int32 → Mem → Prop} {S82 : Int32 → Int32 → Int32 → Int32 → Mem → Prop} {p1 v2 v3 v4 v5 v6 : Int32} (hS : RS tl tp μ ρ0 U ag sh) (hr : DRow μ ρ s) (hs0 : ρ0 0 4 = s) (h8 : s < 8) (hM : SM ρ0 ρ s) (h04 : ρ 0 4 = s + 1) (e1 : p1 = nI k) (hk : ρ 4 s = k) (e2 : v2 = nI (5 * s)) (e3 : v3 = nI (ρ 7 s)) (e4 : v4 = nI (thgM ρ s)) (e5 : v5 = nI (ρ 5 s)) (e6 : v6 = nI (ρ 6 s)) (hR : RT tl tp μ p)
    (hK : ∀ m : Mem, RS tl tp m ρ U ag sh → RT tl tp m p → FD μ m → Q m) : nX7_readSupper_255 100 p1 Q S9 S82 v2 v3 v4 v5 v6 μ := by
  unfold nX7_readSupper_255
  have x2 : nI (5 * s) + (2 : Int32) = nI (5 * s + 2) := nI_add _ 2
  have x3 : nI (5 * s) + (3 : Int32) = nI (5 * s + 3) := nI_add _ 3
  have x4 : nI (5 * s) + (4 : Int32) = nI (5 * s + 4) := nI_add _ 4
  rw [e1, e2, e3, e4, e5, e6, nI_1, x2, x3, x4, nI_clamp (n := 5 * s) (by omega), nI_clamp (n := 5 * s + 1) (by omega), nI_clamp (n := 5 * s + 2) (by omega), nI_clamp (n := 5 * s + 3) (by omega), nI_clamp (n := 5 * s + 4) (by omega)]
  refine ⟨fun d => absurd hR.2.2.2.2.2 d, fun _ => ⟨vp_in_nI (by omega) (by omega), vp_in_nI (by omega) (by omega), fun m7 hm7 => ⟨vp_in_nI (by omega) (by omega), vp_in_nI (by omega) (by omega), fun m8 hm8 => ⟨vp_in_nI (by omega) (by omega), fun m9 hm9 => ?_⟩⟩⟩⟩
  have o7 : ∀ a j : Nat, a ≠ 107 → m8.1 a j = μ.1 a j := fun a j z => by
    rw [hm8, ms_1, if_neg (by omega), ms_1, if_neg (by omega), hm7, ms_1, if_neg (by omega), ms_1, if_neg (by omega)]
  have e12 : (ms m8 (100 + 7) (5 * s + 4) (nI (thgM ρ s))).1 100 12 = nI s := by
    rw [ms_1, if_neg (by decide), o7 _ _ (by omega), hS.2.1.2.1, hs0]
  rw [e12, nI_1] at hm9
  have o : ∀ a j : Nat, a ≠ 107 → (a = 100 → j ≠ 12) → m9.1 a j = μ.1 a j := fun a j z z2 => by
    rw [hm9, ms_1]
    by_cases y : a = 100
    · rw [if_pos y, if_neg (z2 y), ms_1, if_neg (by omega)]; exact o7 a j z
    · rw [if_neg y, ms_1, if_neg (by omega)]; exact o7 a j z
  have v12 : m9.1 100 12 = nI (s + 1) := by rw [hm9, ms_1, if_pos rfl, if_pos rfl]
  have q : ∀ j : Nat, m9.1 107 j = if j = 5 * s + 4 then nI (thgM ρ s) else if j = 5 * s + 3 then nI (ρ 7 s) else if j = 5 * s + 2 then nI (ρ 6 s) else if j = 5 * s + 1 then nI (ρ 5 s) else if j = 5 * s then nI k else μ.1 107 j := fun j => by
    rw [hm9, ms_1, if_neg (by decide), ms_1, if_pos rfl, hm8, ms_1, if_pos rfl, ms_1, if_pos rfl, hm7, ms_1, if_pos rfl, ms_1, if_pos rfl]
  have fd : FD μ m9 := fun a j z1 z2 => o a j (by omega) (fun y => by have := z1 y; omega)
  obtain ⟨d1, d2, d3, d4, d5, d6, d7, d8, d9⟩ := hS.2.1
  have n : ∀ f i : Nat, f ≤ 3 ∨ f = 11 → (f = 0 → i ≠ 4) → ρ f i = ρ0 f i := fun f i z1 z2 => hM f i z2 (by omega) (by omega)
  refine hK m9 ⟨TR_FD hS.1 fd, ⟨?_, ?_, ?_, ?_, ?_, fun t ht => ?_, fun s' hs => ?_, fun i hi => ?_, fun w hw => ?_⟩, RU_of hS.2.2.1 (o _ _ (by omega) (by omega)) (fun i => ⟨o _ _ (by omega) (by omega), o _ _ (by omega) (by omega)⟩), (o _ _ (by omega) (by omega)).trans hS.2.2.2.1, (o _ _ (by omega) (by omega)).trans hS.2.2.2.2⟩ (RT_of hR (fun j y1 y2 => o _ _ (by omega) (by omega))) fd
  · rw [o _ _ (by omega) (by omega), n 0 0 (by omega) (by omega)]; exact d1
  · rw [h04]; exact v12
  · rw [o _ _ (by omega) (by omega), n 0 12 (by omega) (by omega)]; exact d3
  · rw [o _ _ (by omega) (by omega), n 0 13 (by omega) (by omega)]; exact d4
  · rw [o _ _ (by omega) (by omega), n 0 14 (by omega) (by omega)]; exact d5
  · rw [n 0 0 (by omega) (by omega)] at ht
    rw [o _ _ (by omega) (by omega), o _ _ (by omega) (by omega), o _ _ (by omega) (by omega), n 1 t (by omega) (by omega), n 2 t (by omega) (by omega), n 3 t (by omega) (by omega)]; exact d6 t ht
  · rw [h04] at hs
    by_cases z : s' = s
    · rw [z, q, q, q, q, q]
      rw [if_neg (by omega), if_neg (by omega), if_neg (by omega), if_neg (by omega), if_pos rfl]
      rw [if_neg (by omega), if_neg (by omega), if_neg (by omega), if_pos rfl]
      rw [if_neg (by omega), if_neg (by omega), if_pos rfl]
      rw [if_neg (by omega), if_pos rfl]
      rw [if_pos rfl, hk]
      exact ⟨rfl, rfl, rfl, rfl, rfl⟩
    · have x : ∀ u : Nat, u ≤ 4 → m9.1 107 (5 * s' + u) = μ.1 107 (5 * s' + u) := fun u hu => by
        rw [q, if_neg (by omega), if_neg (by omega), if_neg (by omega), if_neg (by omega), if_neg (by omega)]
      have g : ∀ f : Nat, 4 ≤ f → f ≤ 8 → ρ f s' = ρ0 f s' := fun f z1 z2 => hM f s' (by omega) (fun _ _ => z) (by omega)
      have et : thgM ρ s' = thgM ρ0 s' := thgM_cg (g 4 (by omega) (by omega)) (g 8 (by omega) (by omega)) (fun t ht => hM 9 _ (by omega) (by omega) (fun _ _ => by omega))
      have := d7 s' (by omega)
      rw [x 1 (by omega), x 2 (by omega), x 3 (by omega), x 4 (by omega), show m9.1 107 (5 * s') = μ.1 107 (5 * s') from x 0 (by omega), et, g 4 (by omega) (by omega), g 5 (by omega) (by omega), g 6 (by omega) (by omega), g 7 (by omega) (by omega)]
      exact this
  · rw [h04] at hi
    rw [o _ _ (by omega) (by omega), o _ _ (by omega) (by omega)]
    by_cases z : i < 6 * s
    · rw [hM 9 i (by omega) (by omega) (fun _ _ => z), hM 10 i (by omega) (by omega) (fun _ _ => z)]
      exact d8 i (by omega)
    · have := hr (i - 6 * s) (by omega)
      rw [show 6 * s + (i - 6 * s) = i by omega] at this
      exact this
  · rw [o _ _ (by omega) (by omega), n 11 w (by omega) (by omega)]; exact d9 w hw
theorem r_s3 {R : Type} {G : R → Prop} {E : Nat → Nat → R} {K : RA → Nat → R} {tl p s k L ag sh : Nat} {tp : Nat → Nat} {ρ0 ρ : RA} {U : List (Nat × Nat)} {μ : Mem} {Q : Mem → Prop} {S9 : Int32 → Int32 → Mem → Prop} {S82 : Int32 → Int32 → Int32 → Int32 → Mem → Prop} {p1 v2 v3 v4 v5 v6 : Int32} (hS : RS tl tp μ ρ0 U ag sh) (hr : DRow μ ρ s) (hs0 : ρ0 0 4 = s) (hI : LI ρ U p L) (hM : SM ρ0 ρ s) (h04 : ρ 0 4 = s + 1) (e1 : p1 = nI k) (hk : ρ 4 s = k) (e2 : v2 = nI (5 * s)) (e3 : v3 = nI (ρ 7 s)) (e4 : v4 = nI (thgM ρ s)) (e5 : v5 = nI (ρ 5 s)) (e6 : v6 = nI (ρ 6 s)) (hp : p ≤ tl) (hR : RT tl tp μ p) (hG : G (fSup3 tl tp s E K ρ p))
    (hE : ∀ c f : Nat, 1 ≤ c → c ≤ 6 → f ≤ tl → G (E c f) → ∀ m : Mem, RF m c f → FD μ m → Q m)
    (hK : ∀ (ρ' : RA) (p' : Nat), LI ρ' U p' L → ρ' 0 4 = s + 1 → p ≤ p' → p' ≤ tl → G (fStop tl tp p' E (fun e => K ρ' e)) → ∀ m : Mem, RS tl tp m ρ' U ag sh → RT tl tp m p' → FD μ m → Q m) : nX7_readSupper_214 100 p1 Q S9 S82 v2 v3 v4 v5 v6 μ := by
  have l8 := hI.2.2.1
  have hq := tE_le (tp := tp) hp
  have mo := tE_mono (tp := tp) hp
  have mo1 := tE_mono (tp := tp) hq.2
  have hq1 := tE_le (tp := tp) hq.2
  unfold fSup3 at hG
  unfold nX7_readSupper_214
  refine r_isnm (s := 11) hS.1 hp hR (by omega) rfl (fun n => ?_) (fun z y => ?_)
  · rw [if_neg n] at hG
    exact r_s4 hS hr hs0 (by omega) hM h04 e1 hk e2 e3 e4 e5 e6 hR (fun m rs rt fd => hK ρ p hI h04 (Nat.le_refl _) hp hG m rs rt fd)
  · rw [if_pos ⟨z, y⟩] at hG
    unfold fWont at hG
    refine r_nx hS.1 hq.2 hR.1 hR.2.2.2.2.2 hG (fun z => fName_4 z) (fun c f c1 c2 f1 ge m rf fn => r_readLetters_f rf (r_nf rf (r_s4_f rf (hE c f c1 c2 f1 ge m rf (FD_FN fn))))) (fun g m1 rt1 fn1 => ?_)
    have s1 := RS_FN hS fn1
    refine r_readLetters (c := 112) (many := 4) s1.1 hq.2 rt1 (by omega) (by omega) g (fun c f c1 c2 f1 ge x m rf fn => r_nf rf (r_s4_f rf (hE c f c1 c2 f1 ge m rf (FD_FN (FN_trans fn1 fn))))) (fun b b16 z1 g2 => ?_)
    have b16' : b < 16 := b16
    refine r_nx s1.1 hq1.2 rt1.1 rt1.2.2.2.2.2 g2 (fun z => fTok_4 z) (fun c f c1 c2 f1 ge m rf fn => r_s4_f rf (hE c f c1 c2 f1 ge m rf (FD_FN (FN_trans fn1 fn)))) (fun g3 m3 rt3 fn3 => ?_)
    rw [fTok_n rt3.2.2.2.2.1] at g3
    have s3 := RS_FN s1 fn3
    have li : LI (rset ρ 6 s b) U (tE tl tp (tE tl tp p)) L := LI_set hI (UW_mono hI.2.2.2.1 (by omega) (Nat.le_refl _)) (by omega) (by omega) (by omega) (by omega) (by omega) (by omega) (by omega) (by omega) (by omega) (fun y => absurd y (by decide)) (fun _ hx => hx)
    have x04 : rset ρ 6 s b 0 4 = s + 1 := by rw [rset_n _ _ _ _ 0 4 (by omega)]; exact h04
    have row3 : DRow m3 (rset ρ 6 s b) s := fun t ht => by
      rw [rset_n _ _ _ _ 9 _ (by omega), rset_n _ _ _ _ 10 _ (by omega)]
      exact DRow_FN (DRow_FN hr fn1) fn3 t ht
    exact r_s4 (ρ := rset ρ 6 s b) s3 row3 hs0 (by omega) (SM_set hM (by omega)) x04 e1 (by rw [rset_n _ _ _ _ 4 s (by omega)]; exact hk) e2 (by rw [rset_n _ _ _ _ 7 s (by omega)]; exact e3) (by rw [thgM_set (by omega) (by omega) (by omega)]; exact e4) (by rw [rset_n _ _ _ _ 5 s (by omega)]; exact e5) (by rw [rset_y]) rt3 (fun m rs rt fd => hK _ _ li x04 (by omega) hq1.2 g3 m rs rt (FD_trans (FD_FN (FN_trans fn1 fn3)) fd))
theorem r_s2 {R : Type} {G : R → Prop} {E : Nat → Nat → R} {K : RA → Nat → R} {tl p s k L ag sh : Nat} {tp : Nat → Nat} {ρ0 ρ : RA} {U : List (Nat × Nat)} {μ : Mem} {Q : Mem → Prop} {S9 : Int32 → Int32 → Mem → Prop} {S82 : Int32 → Int32 → Int32 → Int32 → Mem → Prop} {p1 v2 v3 v4 v5 v6 : Int32} (hS : RS tl tp μ ρ0 U ag sh) (hr : DRow μ ρ s) (hs0 : ρ0 0 4 = s) (hI : LI ρ U p L) (hM : SM ρ0 ρ s) (h04 : ρ 0 4 = s + 1) (e1 : p1 = nI k) (hk : ρ 4 s = k) (e2 : v2 = nI (5 * s)) (e3 : v3 = nI (ρ 7 s)) (e4 : v4 = nI (thgM ρ s)) (e5 : v5 = nI (ρ 5 s)) (e6 : v6 = nI (ρ 6 s)) (hp : p ≤ tl) (hR : RT tl tp μ p) (hG : G (fSup2 tl tp s E K ρ p))
    (hE : ∀ c f : Nat, 1 ≤ c → c ≤ 6 → f ≤ tl → G (E c f) → ∀ m : Mem, RF m c f → FD μ m → Q m)
    (hK : ∀ (ρ' : RA) (p' : Nat), LI ρ' U p' L → ρ' 0 4 = s + 1 → p ≤ p' → p' ≤ tl → G (fStop tl tp p' E (fun e => K ρ' e)) → ∀ m : Mem, RS tl tp m ρ' U ag sh → RT tl tp m p' → FD μ m → Q m) : nX7_readSupper_177 100 p1 Q S9 S82 v2 v3 v4 v5 v6 μ := by
  have l8 := hI.2.2.1
  have hq := tE_le (tp := tp) hp
  have mo := tE_mono (tp := tp) hp
  have mo1 := tE_mono (tp := tp) hq.2
  have hq1 := tE_le (tp := tp) hq.2
  unfold fSup2 at hG
  unfold nX7_readSupper_177
  refine r_isnm (s := 10) hS.1 hp hR (by omega) rfl (fun n => ?_) (fun z y => ?_)
  · rw [if_neg n] at hG
    exact r_s3 hS hr hs0 hI hM h04 e1 hk e2 e3 e4 e5 e6 hp hR hG hE hK
  · rw [if_pos ⟨z, y⟩] at hG
    unfold fLike at hG
    refine r_nx hS.1 hq.2 hR.1 hR.2.2.2.2.2 hG (fun z => fNum_4 z) (fun c f c1 c2 f1 ge m rf fn => r_num_f rf (fun x => r_s3_f rf (hE c f c1 c2 f1 ge m rf (FD_FN fn)))) (fun g m1 rt1 fn1 => ?_)
    have s1 := RS_FN hS fn1
    refine r_num (lo := 0) (hi := 9) s1.1 hq.2 rt1 (by omega) (by omega) g (fun _ _ _ z => fTok_4 z) (fun c f c1 c2 f1 ge x m rf fn => r_s3_f rf (hE c f c1 c2 f1 ge m rf (FD_FN (FN_trans fn1 fn)))) (fun v v0 v9 _ g3 m3 rt3 fn3 => ?_)
    rw [fTok_n rt3.2.2.2.2.1] at g3
    have s3 := RS_FN s1 fn3
    have li : LI (rset ρ 5 s v) U (tE tl tp (tE tl tp p)) L := LI_set hI (UW_mono hI.2.2.2.1 (by omega) (Nat.le_refl _)) (by omega) (by omega) (by omega) (by omega) (by omega) (by omega) (by omega) (by omega) (by omega) (fun y => absurd y (by decide)) (fun _ hx => hx)
    have x04 : rset ρ 5 s v 0 4 = s + 1 := by rw [rset_n _ _ _ _ 0 4 (by omega)]; exact h04
    have row3 : DRow m3 (rset ρ 5 s v) s := fun t ht => by
      rw [rset_n _ _ _ _ 9 _ (by omega), rset_n _ _ _ _ 10 _ (by omega)]
      exact DRow_FN (DRow_FN hr fn1) fn3 t ht
    exact r_s3 (ρ := rset ρ 5 s v) s3 row3 hs0 li (SM_set hM (by omega)) x04 e1 (by rw [rset_n _ _ _ _ 4 s (by omega)]; exact hk) e2 (by rw [rset_n _ _ _ _ 7 s (by omega)]; exact e3) (by rw [thgM_set (by omega) (by omega) (by omega)]; exact e4) (by rw [rset_y]) (by rw [rset_n _ _ _ _ 6 s (by omega)]; exact e6) hq1.2 rt3 g3 (fun c f c1 c2 f1 ge m rf fd => hE c f c1 c2 f1 ge m rf (FD_trans (FD_FN (FN_trans fn1 fn3)) fd)) (fun ρ' p' li' x4 pp pl g m rs rt fd => hK ρ' p' li' x4 (by omega) pl g m rs rt (FD_trans (FD_FN (FN_trans fn1 fn3)) fd))
theorem r_s1 {R : Type} {G : R → Prop} {E : Nat → Nat → R} {K : RA → List (Nat × Nat) → Nat → R} {tl p s k L ag sh : Nat} {tp : Nat → Nat} {ρ0 ρ : RA} {U : List (Nat × Nat)} {μ : Mem} {Q : Mem → Prop} {S9 : Int32 → Int32 → Mem → Prop} {S82 : Int32 → Int32 → Int32 → Int32 → Mem → Prop} {p1 v2 v3 v4 : Int32} (hS : RS tl tp μ ρ0 U ag sh) (hr : DRow μ ρ s) (hs0 : ρ0 0 4 = s) (hI : LI ρ U p L) (hL : L + 7 < 400) (hM : SM ρ0 ρ s) (h04 : ρ 0 4 = s + 1) (e1 : p1 = nI k) (hk : ρ 4 s = k) (e2 : v2 = nI (5 * s)) (e3 : v3 = nI (ρ 7 s)) (e4 : v4 = nI (thgM ρ s)) (e5 : ρ 5 s = 0) (e6 : ρ 6 s = 0) (e10 : ∀ t : Nat, t < 6 → ρ 10 (6 * s + t) = 0) (hp : p ≤ tl) (hR : RT tl tp μ p) (hG : G (fSup1 tl tp s E K ρ U p))
    (hE : ∀ c f : Nat, 1 ≤ c → c ≤ 6 → f ≤ tl → G (E c f) → ∀ m : Mem, RF m c f → FD μ m → Q m)
    (hK : ∀ (ρ' : RA) (U' : List (Nat × Nat)) (p' : Nat), LI ρ' U' p' (L + 7) → ρ' 0 4 = s + 1 → p ≤ p' → p' ≤ tl → G (fStop tl tp p' E (fun e => K ρ' U' e)) → ∀ m : Mem, RS tl tp m ρ' U' ag sh → RT tl tp m p' → FD μ m → Q m) : nX7_readSupper_137 100 p1 Q S9 S82 v2 v3 v4 μ := by
  have l8 := hI.2.2.1
  have hq := tE_le (tp := tp) hp
  have mo := tE_mono (tp := tp) hp
  unfold fSup1 at hG
  unfold nX7_readSupper_137
  refine r_isnm (s := 9) hS.1 hp hR (by omega) rfl (fun n => ?_) (fun z y => ?_)
  · rw [if_neg n] at hG
    exact r_s2 hS hr hs0 hI hM h04 e1 hk e2 e3 e4 (by rw [e5]; rfl) (by rw [e6]; rfl) hp hR hG hE (fun ρ' p' li => hK ρ' U p' (LI_mono li (Nat.le_refl _) (by omega)))
  · rw [if_pos ⟨z, y⟩] at hG
    refine r_nx hS.1 hq.2 hR.1 hR.2.2.2.2.2 hG (fun z => fTok_4 z) (fun c f c1 c2 f1 ge m rf fn => r_wants_f rf (r_s2_f rf (hE c f c1 c2 f1 ge m rf (FD_FN fn)))) (fun g m1 rt1 fn1 => ?_)
    have s1 := RS_FN hS fn1
    refine r_wants (w := 10) (lv := 0) s1 (DRow_FN hr fn1) hs0 (LI_mono hI mo (Nat.le_refl _)) hL (Or.inr ⟨rfl, rfl⟩) (by omega) (fun y => absurd y (by decide)) e10 hq.2 rt1 g (fun c f c1 c2 f1 ge x m rf fd => r_s2_f rf (hE c f c1 c2 f1 ge m rf (FD_trans (FD_FN fn1) fd))) (fun ρ' U' p' b li sm b6 bi pp pl g2 m2 rs2 row2 rt2 fd2 => ?_)
    have x04 : ρ' 0 4 = s + 1 := (sm 0 4 (by omega)).trans h04
    exact r_s2 rs2 row2 hs0 li (SM_por hM (Or.inr rfl) sm) x04 e1 ((sm 4 s (by omega)).trans hk) e2 (by rw [sm 7 s (by omega)]; exact e3) (by rw [thgM_cg (sm 4 s (by omega)) (sm 8 s (by omega)) (fun t ht => sm 9 _ (by omega))]; exact e4) (by rw [sm 5 s (by omega), e5]; rfl) (by rw [sm 6 s (by omega), e6]; rfl) pl rt2 g2 (fun c f c1 c2 f1 ge m rf fd => hE c f c1 c2 f1 ge m rf (FD_trans (FD_trans (FD_FN fn1) fd2) fd)) (fun ρ2 p2 li2 x4 pp2 pl2 g3 m rs rt fd => hK ρ2 U' p2 li2 x4 (by omega) pl2 g3 m rs rt (FD_trans (FD_trans (FD_FN fn1) fd2) fd))
theorem r_s82_f {μ : Mem} {c f : Nat} {Q : Mem → Prop} {S9 : Int32 → Int32 → Mem → Prop} {S82 : Int32 → Int32 → Int32 → Int32 → Mem → Prop} {p1 v2 v3 v4 : Int32} (h82 : ∀ (v2 : Int32) (v3 : Int32) (v4 : Int32) (v5 : Int32) (μ : Mem), nX7_readSupper_82 100 p1 Q S9 S82 v2 v3 v4 v5 μ → S82 v2 v3 v4 v5 μ) (h : RF μ c f) (k : Q μ) : S82 v2 v3 v4 0 μ := by
  have lp : ∀ n t : Nat, t + n = 6 → S82 v2 v3 v4 (nI t) μ := by
    intro n
    induction n with
    | zero =>
      intro t ht
      apply h82
      unfold nX7_readSupper_82
      exact ⟨fun _ => r_nf h (r_s1_f h k), fun d => absurd (nI_le (a := 6) (by omega) (by omega)) d⟩
    | succ n ih =>
      intro t ht
      apply h82
      unfold nX7_readSupper_82 nX7_readSupper_117
      rw [nI_1]
      exact ⟨fun d => absurd d (nI_ge (b := 6) (by omega) (by omega)), fun _ => ⟨fun _ => ih (t + 1) (by omega), fun d => absurd d (RF_nz h)⟩⟩
  exact lp 6 0 (by omega)
theorem r_readSupper {R : Type} {G : R → Prop} {E : Nat → Nat → R} {K : RA → List (Nat × Nat) → Nat → R} {tl p k L ag sh : Nat} {tp : Nat → Nat} {ρ : RA} {U : List (Nat × Nat)} {μ : Mem} {Q : Mem → Prop} (hS : RS tl tp μ ρ U ag sh) (hI : LI ρ U p L) (hL : L + 14 < 400) (hk : k ≤ 3) (h8 : ρ 0 4 < 8) (hp : p ≤ tl) (hR : RT tl tp μ p) (hG : G (if k = 3 then fSoup tl tp (ρ 0 4) E (fun ρ' U' p' => fSup1 tl tp (ρ 0 4) E K ρ' U' p') (supR ρ k) U p else fPor tl tp 9 1 (ρ 0 4) E (fun ρ' U' p' => fSup1 tl tp (ρ 0 4) E K ρ' U' p') 7 (supR ρ k) U p))
    (hE : ∀ c f : Nat, 1 ≤ c → c ≤ 6 → f ≤ tl → G (E c f) → ∀ m : Mem, RF m c f → FD μ m → Q m)
    (hK : ∀ (ρ' : RA) (U' : List (Nat × Nat)) (p' : Nat), LI ρ' U' p' (L + 14) → ρ' 0 4 = ρ 0 4 + 1 → p ≤ p' → p' ≤ tl → G (fStop tl tp p' E (fun e => K ρ' U' e)) → ∀ m : Mem, RS tl tp m ρ' U' ag sh → RT tl tp m p' → FD μ m → Q m) : PX7_readSupper 100 (nI k) μ Q := by
  have htl := hS.1.2.1
  have hq := tE_le (tp := tp) hp
  have mo := tE_mono (tp := tp) hp
  intro S9 S82 hS9 hS82
  have e12 : μ.1 100 12 = nI (ρ 0 4) := hS.2.1.2.1
  have e5 : (5 : Int32) * nI (ρ 0 4) = nI (5 * ρ 0 4) := pk_mul 5 _
  rw [e12, e5]
  have li := LI_sup hI h8 hk
  have sup4 : supR ρ k 0 4 = ρ 0 4 + 1 := by rw [supR_0, if_pos rfl]
  have z : ∀ w t : Nat, w = 9 ∨ w = 10 → t < 6 → supR ρ k w (6 * ρ 0 4 + t) = 0 := fun w t hw ht => by
    rw [supR_n _ _ _ _ (by omega) (by omega)]
    have := hI.1.2.2.2.2.2.2.2.2.2.1 (6 * ρ 0 4 + t) (by omega)
    rcases hw with x | x
    · rw [x]; exact this.1
    · rw [x]; exact this.2
  have zr := hI.1.2.2.2.2.2.2.2.1 (ρ 0 4) (Nat.le_refl _)
  have zs : ∀ f : Nat, f = 5 ∨ f = 6 ∨ f = 7 ∨ f = 8 → supR ρ k f (ρ 0 4) = 0 := fun f hf => by
    rw [supR_n _ _ _ _ (by omega) (by omega)]
    rcases hf with x | x | x | x <;> rw [x]
    · exact zr.2.1
    · exact zr.2.2.1
    · exact zr.2.2.2.1
    · exact zr.2.2.2.2
  have lp : ∀ t m, t ≤ 6 → ((∀ a j : Nat, (a = 108 ∨ a = 109 → j < 6 * ρ 0 4) → m.1 a j = μ.1 a j) ∧ (∀ u : Nat, u < t → m.1 108 (6 * ρ 0 4 + u) = 0 ∧ m.1 109 (6 * ρ 0 4 + u) = 0)) → S9 (nI (5 * ρ 0 4)) (nI t) m := by
    refine up_loop ?_ ?_
    · intro t m ht ⟨b1, b2⟩ ih
      apply hS9
      unfold nX7_readSupper_9
      have x12 : m.1 100 12 = nI (ρ 0 4) := (b1 _ _ (by omega)).trans e12
      have e6 : (6 : Int32) * nI (ρ 0 4) + nI t = nI (6 * ρ 0 4 + t) := by
        rw [show (6 : Int32) = nI 6 from rfl, pk_mul, nI_add]
      rw [x12, e6, nI_clamp (n := 6 * ρ 0 4 + t) (by omega), nI_1]
      have x12' : (ms m (100 + 8) (6 * ρ 0 4 + t) 0).1 100 12 = nI (ρ 0 4) := by rw [ms_1, if_neg (by decide)]; exact x12
      rw [x12', e6, nI_clamp (n := 6 * ρ 0 4 + t) (by omega)]
      refine ⟨fun d => absurd d (nI_ge (b := 6) ht (by omega)), fun _ => ⟨vp_in_nI (by omega) (by omega), vp_in_nI (by omega) (by omega), fun m9 hm9 => ih m9 ⟨fun a j y => ?_, fun u hu => ?_⟩⟩⟩
      · rw [hm9, ms_1]
        by_cases y9 : a = 100 + 9
        · rw [if_pos y9, if_neg (by omega), ms_1, if_neg (by omega)]; exact b1 a j y
        · rw [if_neg y9, ms_1]
          by_cases y8 : a = 100 + 8
          · rw [if_pos y8, if_neg (by omega)]; exact b1 a j y
          · rw [if_neg y8]; exact b1 a j y
      · have w8 : m9.1 108 (6 * ρ 0 4 + u) = if 6 * ρ 0 4 + u = 6 * ρ 0 4 + t then 0 else m.1 108 (6 * ρ 0 4 + u) := by
          rw [hm9, ms_1, if_neg (show ¬ (108 : Nat) = 100 + 9 by decide), ms_1, if_pos rfl]
        have w9 : m9.1 109 (6 * ρ 0 4 + u) = if 6 * ρ 0 4 + u = 6 * ρ 0 4 + t then 0 else m.1 109 (6 * ρ 0 4 + u) := by
          rw [hm9, ms_1, if_pos rfl, ms_1, if_neg (show ¬ (109 : Nat) = 100 + 8 by decide)]
        rw [w8, w9]
        by_cases y : u = t
        · rw [if_pos (by omega), if_pos (by omega)]; exact ⟨rfl, rfl⟩
        · rw [if_neg (by omega), if_neg (by omega)]; exact b2 u (by omega)
    · intro m ⟨b1, b2⟩
      apply hS9
      unfold nX7_readSupper_9
      have fd0 : FD μ m := fun a j z1 z2 => b1 a j (by omega)
      have rs0 : RS tl tp m ρ U ag sh := by
        obtain ⟨d1, d2, d3, d4, d5, d6, d7, d8, d9⟩ := hS.2.1
        refine ⟨TR_FD hS.1 fd0, ⟨(b1 _ _ (by omega)).trans d1, (b1 _ _ (by omega)).trans d2, (b1 _ _ (by omega)).trans d3, (b1 _ _ (by omega)).trans d4, (b1 _ _ (by omega)).trans d5, fun t ht => ?_, fun s' hs' => ?_, fun i hi => ?_, fun x hx => (b1 _ _ (by omega)).trans (d9 x hx)⟩, RU_of hS.2.2.1 (b1 _ _ (by omega)) (fun i => ⟨b1 _ _ (by omega), b1 _ _ (by omega)⟩), (b1 _ _ (by omega)).trans hS.2.2.2.1, (b1 _ _ (by omega)).trans hS.2.2.2.2⟩
        · rw [b1 _ _ (by omega), b1 _ _ (by omega), b1 _ _ (by omega)]; exact d6 t ht
        · rw [b1 _ _ (by omega), b1 _ _ (by omega), b1 _ _ (by omega), b1 _ _ (by omega), b1 _ _ (by omega)]; exact d7 s' hs'
        · rw [b1 _ _ (by omega), b1 _ _ (by omega)]; exact d8 i hi
      have row0 : DRow m (supR ρ k) (ρ 0 4) := fun t ht => by
        rw [z 9 t (by omega) ht, z 10 t (by omega) ht]; exact b2 t ht
      have rt0 : RT tl tp m p := RT_of hR (fun j y1 y2 => b1 _ _ (by omega))
      refine ⟨fun _ => ?_, fun d => absurd (nI_le (a := 6) (b := 6) (by omega) (by omega)) d⟩
      have c3 : nI k = (3 : Int32) ↔ k = 3 := nI_eq (b := 3) (by omega) (by omega)
      rw [c3]
      refine ⟨fun k3 => ?_, fun k3 => ?_⟩
      · rw [if_neg k3] at hG
        refine r_wants (w := 9) (lv := 1) rs0 row0 rfl li (by omega) (Or.inl ⟨rfl, rfl⟩) (by rw [sup4]; omega) (fun _ => by rw [supR_4]; exact k3) (fun t ht => z 9 t (Or.inl rfl) ht) hp rt0 hG (fun c f c1 c2 f1 ge x m' rf fd => r_s1_f rf (hE c f c1 c2 f1 ge m' rf (FD_trans fd0 fd))) (fun ρ' U' p' b li' sm b6 bi pp pl g2 m2 rs2 row2 rt2 fd2 => ?_)
        have x04 : ρ' 0 4 = ρ 0 4 + 1 := (sm 0 4 (by omega)).trans sup4
        have k4 : ρ' 4 (ρ 0 4) = k := (sm 4 _ (by omega)).trans (supR_4 _ _)
        have eb : nI b = nI (thgM ρ' (ρ 0 4)) := by
          unfold thgM
          rw [k4, if_neg k3, bits_eq 6 b b6 bi]
        exact r_s1 rs2 row2 rfl li' (by omega) (SM_por (SM_sup ρ k) (Or.inl rfl) sm) x04 rfl k4 rfl (by rw [sm 7 _ (by omega), zs 7 (by omega)]; rfl) eb (by rw [sm 5 _ (by omega), zs 5 (by omega)]) (by rw [sm 6 _ (by omega), zs 6 (by omega)]) (fun t ht => by rw [sm 10 _ (by omega)]; exact z 10 t (Or.inr rfl) ht) pl rt2 g2 (fun c f c1 c2 f1 ge m' rf fd => hE c f c1 c2 f1 ge m' rf (FD_trans (FD_trans fd0 fd2) fd)) (fun ρ2 U2 p2 li2 x4 pp2 pl2 g3 m' rs rt fd => hK ρ2 U2 p2 (LI_mono li2 (Nat.le_refl _) (by omega)) x4 (by omega) pl2 g3 m' rs rt (FD_trans (FD_trans fd0 fd2) fd))
      · rw [if_pos k3] at hG
        unfold fSoup at hG
        have mo1 := tE_mono (tp := tp) hq.2
        have hq1 := tE_le (tp := tp) hq.2
        have hf1 := tF_le (tp := tp) hq.2
        refine r_num (lo := 1) (hi := 9) rs0.1 hp rt0 (by omega) (by omega) hG (fun _ _ _ z => fName_4 z) (fun c f c1 c2 f1 ge x m' rf fn => r_readLetters_f rf (r_s82_f hS82 rf (hE c f c1 c2 f1 ge m' rf (FD_trans fd0 (FD_FN fn))))) (fun v v1 v9 _ g1 m1 rt1 fn1 => ?_)
        have rs1 := RS_FN rs0 fn1
        have row1 := DRow_FN row0 fn1
        have fd1 := FD_trans fd0 (FD_FN fn1)
        refine r_readLetters (c := 97) (many := 6) rs1.1 hq.2 rt1 (by omega) (by omega) g1 (fun c f c1 c2 f1 ge x m' rf fn => r_s82_f hS82 rf (hE c f c1 c2 f1 ge m' rf (FD_trans fd1 (FD_FN fn)))) (fun b b6 z1 g2 => ?_)
        have b64 : b < 64 := b6
        have l1 : LI (rset (supR ρ k) 7 (ρ 0 4) v) U p L := LI_set li li.2.2.2.1 (by omega) (by omega) (by omega) (by omega) (by omega) (by omega) (fun _ => by rw [sup4]; omega) (by omega) (by omega) (fun y => absurd y (by decide)) (fun _ hx => hx)
        have l2 : LI (rset (rset (supR ρ k) 7 (ρ 0 4) v) 8 (ρ 0 4) b) U p L := LI_set l1 l1.2.2.2.1 (by omega) (by omega) (by omega) (by omega) (by omega) (by omega) (fun _ => by rw [rset_n _ _ _ _ 0 4 (by omega), sup4]; omega) (by omega) (fun _ => by rw [rset_n _ _ _ _ 4 _ (by omega), supR_4]; exact k3) (fun y => absurd y (by decide)) (fun _ hx => hx)
        have uw := UW_use (b := b) (f := tF tl tp (tE tl tp p)) hI.2.2.2.1 (by omega)
        have lp2 : ∀ t m', t ≤ 6 → (RS tl tp m' ρ (U ++ useN b (tF tl tp (tE tl tp p)) t) ag sh ∧ DRow m' (supR ρ k) (ρ 0 4) ∧ RT tl tp m' (tE tl tp p) ∧ FD μ m') → S82 (nI (5 * ρ 0 4)) (nI v) (nI b) (nI t) m' := by
          refine up_loop ?_ ?_
          · intro t m' ht ⟨rs, row, rt, fd⟩ ih
            apply hS82
            unfold nX7_readSupper_82 nX7_readSupper_117
            rw [nI_1]
            refine ⟨fun d => absurd d (nI_ge (b := 6) ht (by omega)), fun _ => ⟨fun d => absurd rt.2.2.2.2.2 d, fun _ => ⟨fun d => ?_, fun d => ?_⟩⟩⟩
            · have d4 : ¬ bitN b t = 1 := fun x => d ((jb_1 (a := b) (t := t) (by omega) (by omega)).2 x)
              refine ih m' ⟨?_, row, rt, fd⟩
              rw [useN_n d4]; exact rs
            · have d4 := (jb_1 (a := b) (t := t) (by omega) (by omega)).1 d
              rw [rt.2.1]
              refine r_uses rt.2.2.2.2.2 rs.2.2.1 (by have := (uw t (by omega)).2.2; omega) (fun m2 ru fu => ih m2 ⟨?_, DRow_FU row fu, RT_FU rt fu, FD_trans fd (FD_FU fu)⟩)
              rw [useN_y d4]; exact RS_FU rs fu ru
          · intro m' ⟨rs, row, rt, fd⟩
            apply hS82
            unfold nX7_readSupper_82
            refine ⟨fun _ => ?_, fun d => absurd (nI_le (a := 6) (b := 6) (by omega) (by omega)) d⟩
            refine r_nx rs.1 hq1.2 rt.1 rt.2.2.2.2.2 g2 (fun z => fTok_4 z) (fun c f c1 c2 f1 ge m2 rf fn => r_s1_f rf (hE c f c1 c2 f1 ge m2 rf (FD_trans fd (FD_FN fn)))) (fun g3 m3 rt3 fn3 => ?_)
            rw [fTok_n rt3.2.2.2.2.1] at g3
            have rs3 := RS_FN rs fn3
            have fd3 := FD_trans fd (FD_FN fn3)
            have x04 : rset (rset (supR ρ k) 7 (ρ 0 4) v) 8 (ρ 0 4) b 0 4 = ρ 0 4 + 1 := by rw [rset_n _ _ _ _ 0 4 (by omega), rset_n _ _ _ _ 0 4 (by omega)]; exact sup4
            have nn : ∀ f i : Nat, f ≠ 7 → f ≠ 8 → rset (rset (supR ρ k) 7 (ρ 0 4) v) 8 (ρ 0 4) b f i = supR ρ k f i := fun f i z7 z8 => by rw [rset_n _ _ _ _ f i (Or.inl z8), rset_n _ _ _ _ f i (Or.inl z7)]
            have row3 : DRow m3 (rset (rset (supR ρ k) 7 (ρ 0 4) v) 8 (ρ 0 4) b) (ρ 0 4) := fun t ht => by
              rw [nn 9 _ (by omega) (by omega), nn 10 _ (by omega) (by omega)]
              exact DRow_FN row fn3 t ht
            have k4 : rset (rset (supR ρ k) 7 (ρ 0 4) v) 8 (ρ 0 4) b 4 (ρ 0 4) = k := by rw [nn 4 _ (by omega) (by omega)]; exact supR_4 _ _
            have eb : nI b = nI (thgM (rset (rset (supR ρ k) 7 (ρ 0 4) v) 8 (ρ 0 4) b) (ρ 0 4)) := by
              unfold thgM
              rw [k4, if_pos k3, rset_y]
            have li3 : LI (rset (rset (supR ρ k) 7 (ρ 0 4) v) 8 (ρ 0 4) b) (U ++ useN b (tF tl tp (tE tl tp p)) 6) (tE tl tp (tE tl tp p)) (L + 7) := ⟨l2.1, l2.2.1, l2.2.2.1, UW_mono (uw 6 (by omega)) (by omega) (by omega), fun s t ht hn => (l2.2.2.2.2 s t ht hn).imp (fun _ hx => List.mem_append_left _ hx)⟩
            exact r_s1 rs3 row3 rfl li3 (by omega) (SM_set (SM_set (SM_sup ρ k) (by omega)) (by omega)) x04 rfl k4 rfl (by rw [rset_n _ _ _ _ 7 _ (by omega), rset_y]) eb (by rw [nn 5 _ (by omega) (by omega), zs 5 (by omega)]) (by rw [nn 6 _ (by omega) (by omega), zs 6 (by omega)]) (fun t ht => by rw [nn 10 _ (by omega) (by omega)]; exact z 10 t (Or.inr rfl) ht) hq1.2 rt3 g3 (fun c f c1 c2 f1 ge m2 rf fd => hE c f c1 c2 f1 ge m2 rf (FD_trans fd3 fd)) (fun ρ2 U2 p2 li2 x4 pp2 pl2 g4 m2 rs rt fd => hK ρ2 U2 p2 (LI_mono li2 (Nat.le_refl _) (by omega)) x4 (by omega) pl2 g4 m2 rs rt (FD_trans fd3 fd))
        refine lp2 0 m1 (by omega) ⟨?_, row1, rt1, fd1⟩
        show RS tl tp m1 ρ (U ++ []) ag sh
        rw [List.append_nil]; exact rs1
  exact lp 0 μ (by omega) ⟨fun _ _ _ => rfl, fun u hu => absurd hu (Nat.not_lt_zero _)⟩
