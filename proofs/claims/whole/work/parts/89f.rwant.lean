-- the reference's suppers: what is wanted, what is left
theorem wd_tab : ∀ s : Nat, s < 12 → ∀ s' : Nat, s' < 12 → wdN s = wdN s' → (∀ i : Nat, i < wdN s → wdC s i = wdC s' i) → s = s' := by decide +kernel
theorem wd_uniq {tp : Nat → Nat} {s s' f e : Nat} (hs : s < 12) (hs' : s' < 12) (h : isWd tp s f e) (h' : isWd tp s' f e) : s = s' :=
  wd_tab s hs s' hs' (h.1.symm.trans h'.1) (fun i hi => (h.2 i hi).symm.trans (h'.2 i (by have := h.1; have := h'.1; omega)))
theorem wdR_tab : ∀ s : Nat, s < 12 → wdR s ≤ 17 ∧ (15 ≤ wdR s ↔ 9 ≤ s) ∧ (wdR s = 15 ↔ s = 9) ∧ ∀ s' : Nat, s' < 12 → wdR s = wdR s' → s = s' := by decide +kernel
theorem bits_eq {ρ : RA} {s : Nat} : ∀ n b : Nat, b < 2 ^ n → (∀ t : Nat, t < n → (bitN b t = 1 ↔ 0 < ρ 9 (6 * s + t))) → b = bitsW ρ s n := fun n => by
  induction n with
  | zero => intro b hb _; have : b < 1 := hb; unfold bitsW; omega
  | succ n ih =>
    intro b hb h
    have e := Nat.div_add_mod b (2 ^ n)
    have hm : b % 2 ^ n < 2 ^ n := Nat.mod_lt _ (Nat.two_pow_pos n)
    have hd : b / 2 ^ n < 2 := Nat.div_lt_of_lt_mul (by rw [Nat.pow_succ] at hb; exact hb)
    have i1 := ih (b % 2 ^ n) hm (fun t ht => by
      rw [bitN_tb, Nat.testBit_mod_two_pow, decide_eq_true ht, Bool.true_and, ← bitN_tb]
      exact h t (by omega))
    have hn := h n (by omega)
    have eb : bitN b n = b / 2 ^ n := Nat.mod_eq_of_lt hd
    rw [eb] at hn
    show b = bitsW ρ s n + (if 0 < ρ 9 (6 * s + n) then 2 ^ n else 0)
    rw [← i1]
    by_cases c : 0 < ρ 9 (6 * s + n)
    · rw [if_pos c]
      rw [hn.2 c, Nat.mul_one] at e
      omega
    · rw [if_neg c]
      have : b / 2 ^ n = 0 := by
        by_cases y : b / 2 ^ n = 1
        · exact absurd (hn.1 y) c
        · omega
      rw [this, Nat.mul_zero] at e
      omega
/-- the row of the supper that is being told -/
def DRow (m : Mem) (ρ : RA) (s : Nat) : Prop := ∀ t : Nat, t < 6 → m.1 108 (6 * s + t) = nI (ρ 9 (6 * s + t)) ∧ m.1 109 (6 * s + t) = nI (ρ 10 (6 * s + t))
theorem DRow_of {m m' : Mem} {ρ : RA} {s : Nat} (h : DRow m ρ s) (f : ∀ i : Nat, m'.1 108 i = m.1 108 i ∧ m'.1 109 i = m.1 109 i) : DRow m' ρ s := fun t ht => ⟨(f _).1.trans (h t ht).1, (f _).2.trans (h t ht).2⟩
theorem DRow_FN {m m' : Mem} {ρ : RA} {s : Nat} (h : DRow m ρ s) (f : FN m m') : DRow m' ρ s := DRow_of h (fun i => ⟨f _ _ (by omega), f _ _ (by omega)⟩)
/-- the rules but for the supper s -/
def SM (ρ0 ρ : RA) (s : Nat) : Prop := ∀ f i : Nat, (f = 0 → i ≠ 4) → (4 ≤ f → f ≤ 8 → i ≠ s) → (9 ≤ f → f ≤ 10 → i < 6 * s) → ρ f i = ρ0 f i
theorem SM_set {ρ0 ρ : RA} {s c i v : Nat} (h : SM ρ0 ρ s) (hc : (4 ≤ c ∧ c ≤ 8 ∧ i = s) ∨ (9 ≤ c ∧ c ≤ 10 ∧ 6 * s ≤ i)) : SM ρ0 (rset ρ c i v) s := fun f j z1 z2 z3 => by
  rw [rset_n _ _ _ _ f j (by omega)]; exact h f j z1 z2 z3
theorem SM_sup (ρ : RA) (k : Nat) : SM ρ (supR ρ k) (ρ 0 4) := fun f j z1 z2 z3 => by
  by_cases c : f = 0
  · rw [c, supR_0, if_neg (z1 c)]
  · exact supR_n _ _ _ _ c (by omega)
theorem SM_por {ρ0 ρ ρ' : RA} {s w : Nat} (h : SM ρ0 ρ s) (hw : w = 9 ∨ w = 10) (f : ∀ f i : Nat, f ≠ w ∨ i < 6 * s → ρ' f i = ρ f i) : SM ρ0 ρ' s := fun g j z1 z2 z3 => (f g j (by omega)).trans (h g j z1 z2 z3)
theorem RS_FU {tl ag sh : Nat} {tp : Nat → Nat} {ρ : RA} {U U' : List (Nat × Nat)} {μ m : Mem} (h : RS tl tp μ ρ U ag sh) (f : FU μ m) (hu : RU m U') : RS tl tp m ρ U' ag sh :=
  ⟨⟨(f _ _ (by omega) (by omega) (by omega)).trans h.1.1, h.1.2.1, fun i hi => ⟨(h.1.2.2 i hi).1, (f _ _ (by omega) (by omega) (by omega)).trans (h.1.2.2 i hi).2⟩⟩, MD_of h.2.1 (fun a j q => f a j (by omega) (by omega) (by omega)), hu, (f _ _ (by omega) (by omega) (by omega)).trans h.2.2.2.1, (f _ _ (by omega) (by omega) (by omega)).trans h.2.2.2.2⟩
theorem FD_FU {μ m : Mem} (h : FU μ m) : FD μ m := fun a j z1 z2 => h a j (fun y => by have := z1 y; omega) (by omega) (by omega)
theorem RT_FU {tl p : Nat} {tp : Nat → Nat} {μ m : Mem} (h : RT tl tp μ p) (f : FU μ m) : RT tl tp m p := RT_of h (fun j z1 z2 => f _ _ (by omega) (by omega) (by omega))
theorem DRow_FU {m m' : Mem} {ρ : RA} {s : Nat} (h : DRow m ρ s) (f : FU m m') : DRow m' ρ s := DRow_of h (fun i => ⟨f _ _ (by omega) (by omega) (by omega), f _ _ (by omega) (by omega) (by omega)⟩)
theorem r_wants_f {μ : Mem} {c f : Nat} {a : Int32} {Q : Int32 → Mem → Prop} (h : RF μ c f) (k : Q 0 μ) : PX7_readWants 100 a μ Q := by
  intro S2 h2
  apply h2
  unfold nX7_readWants_2
  exact ⟨fun _ => k, fun d => absurd d (RF_nz h)⟩
theorem r_wants {R : Type} {G : R → Prop} {E : Nat → Nat → R} {K : RA → List (Nat × Nat) → Nat → R} {tl p w lv s L ag sh : Nat} {tp : Nat → Nat} {ρ0 ρ : RA} {U : List (Nat × Nat)} {μ : Mem} {Q : Int32 → Mem → Prop} (hS : RS tl tp μ ρ0 U ag sh) (hr : DRow μ ρ s) (hs0 : ρ0 0 4 = s) (hI : LI ρ U p L) (hL : L + 7 < 400) (hwl : (w = 9 ∧ lv = 1) ∨ (w = 10 ∧ lv = 0)) (hs : s < ρ 0 4) (h3 : w = 9 → ρ 4 s ≠ 3) (hc0 : ∀ t : Nat, t < 6 → ρ w (6 * s + t) = 0) (hp : p ≤ tl) (hR : RT tl tp μ p) (hG : G (fPor tl tp w lv s E K 7 ρ U p))
    (hE : ∀ c f : Nat, 1 ≤ c → c ≤ 6 → f ≤ tl → G (E c f) → ∀ (x : Int32) (m : Mem), RF m c f → FD μ m → Q x m)
    (hK : ∀ (ρ' : RA) (U' : List (Nat × Nat)) (p' b : Nat), LI ρ' U' p' (L + 7) → (∀ f i : Nat, f ≠ w ∨ i < 6 * s → ρ' f i = ρ f i) → b < 2 ^ 6 → (∀ t : Nat, t < 6 → (bitN b t = 1 ↔ 0 < ρ' w (6 * s + t))) → p ≤ p' → p' ≤ tl → G (K ρ' U' p') → ∀ m : Mem, RS tl tp m ρ0 U' ag sh → DRow m ρ' s → RT tl tp m p' → FD μ m → Q (nI b) m) : PX7_readWants 100 (nI (1 - lv)) μ Q := by
  have htl := hS.1.2.1
  intro S2 hS2
  have lp : ∀ (n : Nat) (ρ' : RA) (U' : List (Nat × Nat)) (p' b : Nat) (m : Mem), n ≤ 7 → 7 ≤ n + cntN ρ' w s → LI ρ' U' p' (L + (7 - n)) → (∀ f i : Nat, f ≠ w ∨ i < 6 * s → ρ' f i = ρ f i) → b < 2 ^ 6 → (∀ t : Nat, t < 6 → (bitN b t = 1 ↔ 0 < ρ' w (6 * s + t))) → p ≤ p' → p' ≤ tl → G (fPor tl tp w lv s E K n ρ' U' p') → RS tl tp m ρ0 U' ag sh → DRow m ρ' s → RT tl tp m p' → FD μ m → S2 (nI b) m := by
    intro n
    induction n with
    | zero =>
      intro ρ' U' p' b m h1 h2
      have := cnt_le (ρ := ρ') (w := w) (s := s)
      omega
    | succ n ih =>
      intro ρ' U' p' b m h1 h2 li sm hb bi hpp hpl g rs row rt fd
      have hq := tF_le (tp := tp) hpl
      have hq2 := tE_le (tp := tp) hpl
      have s04 : ρ' 0 4 = ρ 0 4 := sm 0 4 (Or.inl (by omega))
      have s8 := li.2.2.1
      apply hS2
      unfold nX7_readWants_2
      unfold fPor at g
      rw [fTok_n rt.2.2.2.2.1] at g
      have li7 : LI ρ' U' p' (L + 7) := LI_mono li (Nat.le_refl _) (by omega)
      have yes : (tS tl tp p' ≠ 1 ∨ isWd tp 10 (tF tl tp p') (tE tl tp p') ∨ isWd tp 11 (tF tl tp p') (tE tl tp p') ∨ (lv = 1 ∧ isWd tp 9 (tF tl tp p') (tE tl tp p'))) → Q (nI b) m := fun y => by
        rw [if_pos y] at g
        exact hK ρ' U' p' b li7 sm hb bi hpp hpl g m rs row rt fd
      have e29 : m.1 100 29 = (1 : Int32) ↔ tS tl tp p' = 1 := RT_eq (x := 1) rt (by omega)
      rw [e29]
      refine ⟨fun d => absurd rt.2.2.2.2.2 d, fun _ => ⟨fun z => yes (Or.inl z), fun z1 => ?_⟩⟩
      have go : ¬ isWd tp 10 (tF tl tp p') (tE tl tp p') → ¬ isWd tp 11 (tF tl tp p') (tE tl tp p') → ¬ (lv = 1 ∧ isWd tp 9 (tF tl tp p') (tE tl tp p')) → nX7_readWants_47 100 (nI (1 - lv)) Q S2 (nI b) m := fun n10 n11 n9 => by
        rw [if_neg (fun y => by
          rcases y with y | y | y | y
          · exact y z1
          · exact n10 y
          · exact n11 y
          · exact n9 y)] at g
        obtain ⟨t1, t2, t3⟩ := tS_1 z1
        obtain ⟨l1, l2⟩ := t3 _ (Nat.le_refl _) t1
        have e97 : nI (tp (tF tl tp p')) - (97 : Int32) = nI (tp (tF tl tp p') - 97) := pk_sub (a := tp (tF tl tp p')) (b := 97) l1
        have f119 : ∀ (c f : Nat) (v3 : Int32) (m' : Mem), 1 ≤ c → c ≤ 6 → f ≤ tl → G (E c f) → RF m' c f → FD μ m' → nX7_readWants_119 100 (nI (1 - lv)) Q S2 (nI b) v3 m' := fun c f v3 m' c1 c2 f1 ge rf fd' => by
          unfold nX7_readWants_119 nX7_readWants_192
          refine r_uses_f rf (r_nf rf (r_num_f rf (fun x => ⟨fun _ => ?_, fun d => absurd d (RF_nz rf)⟩)))
          apply hS2
          unfold nX7_readWants_2
          exact ⟨fun _ => hE c f c1 c2 f1 ge _ m' rf fd', fun d => absurd d (RF_nz rf)⟩
        unfold nX7_readWants_47
        rw [rt.2.1]
        refine r_look rs.1 (by omega) (fun _ _ => ?_) (fun z => absurd z (by omega))
        rw [rt.1, rt.2.1, pk_sub (Nat.le_of_lt t1), e97]
        have q1 : nI (tE tl tp p' - tF tl tp p') = (1 : Int32) ↔ tE tl tp p' - tF tl tp p' = 1 := nI_eq (b := 1) (by omega) (by omega)
        rw [q1]
        have bad : ¬ (tE tl tp p' - tF tl tp p' = 1 ∧ tp (tF tl tp p') < 103) → nX7_readWants_90 100 (nI (1 - lv)) Q S2 (nI b) (nI (tp (tF tl tp p') - 97)) (0 : Int32) m := fun y => by
          rw [if_neg y] at g
          unfold nX7_readWants_90
          exact r_need (c := 3) rt (by omega) (by omega) (fun m' rf fn => ⟨fun _ => f119 3 _ _ m' (by omega) (by omega) hq.2 g rf (FD_trans fd (FD_FN fn)), fun d => absurd d (RF_nz rf)⟩)
        refine ⟨fun d => bad (fun y => d y.1), fun d => ?_⟩
        refine r_in (fun z3 z4 => ⟨fun d => absurd d np1, fun _ => ?_⟩) (fun z3 => ⟨fun _ => bad (fun y => ?_), fun d => absurd rfl d⟩)
        · rw [nI_toInt (by omega), show (5 : Int64).toInt = 5 by decide] at z4
          rw [if_pos ⟨d, by omega⟩] at g
          have t6 : tp (tF tl tp p') - 97 < 6 := by omega
          have b64 : b < 64 := hb
          have bt := bi (tp (tF tl tp p') - 97) t6
          unfold nX7_readWants_90 nX7_readWants_115
          refine r_needs_y np1 ⟨fun d => absurd rt.2.2.2.2.2 d, fun _ => ⟨fun d2 => ?_, fun d2 => ?_⟩⟩
          · have d4 : bitN b (tp (tF tl tp p') - 97) = 1 := by
              by_cases y : bitN b (tp (tF tl tp p') - 97) = 1
              · exact y
              · exact absurd ((jb_0 (a := b) (t := tp (tF tl tp p') - 97) (by omega) (by omega)).2 y) d2
            rw [if_neg (by have := bt.1 d4; omega)] at g
            exact r_need (c := 4) rt (by omega) (by omega) (fun m' rf fn => f119 4 _ _ m' (by omega) (by omega) hq.2 g rf (FD_trans fd (FD_FN fn)))
          · have d4 : ¬ bitN b (tp (tF tl tp p') - 97) = 1 := (jb_0 (a := b) (t := tp (tF tl tp p') - 97) (by omega) (by omega)).1 d2
            have y0 : ρ' w (6 * s + (tp (tF tl tp p') - 97)) = 0 := by
              by_cases y : ρ' w (6 * s + (tp (tF tl tp p') - 97)) = 0
              · exact y
              · exact absurd (bt.2 (by omega)) d4
            rw [if_pos y0] at g
            refine r_needs_y np1 ?_
            unfold nX7_readWants_119 nX7_readWants_192
            rw [rt.2.1]
            refine r_uses rt.2.2.2.2.2 rs.2.2.1 (by have := li.2.2.2.1.2.2; omega) (fun m2 ru fu => ?_)
            have rs2 := RS_FU rs fu ru
            have rt2 := RT_FU rt fu
            have row2 := DRow_FU row fu
            have fd2 := FD_trans fd (FD_FU fu)
            refine r_nx rs2.1 hq2.2 rt2.1 rt2.2.2.2.2.2 g (fun z => fNum_4 z) (fun c f c1 c2 f1 ge m' rf fn => r_num_f rf (fun x => ⟨fun _ => ?_, fun d => absurd d (RF_nz rf)⟩)) (fun g m3 rt3 fn3 => ?_)
            · apply hS2
              unfold nX7_readWants_2
              exact ⟨fun _ => hE c f c1 c2 f1 ge _ m' rf (FD_trans fd2 (FD_FN fn)), fun d => absurd d (RF_nz rf)⟩
            · have rs3 := RS_FN rs2 fn3
              have row3 := DRow_FN row2 fn3
              have fd3 := FD_trans fd2 (FD_FN fn3)
              have he3 := tE_le (tp := tp) hq2.2
              have mo := tE_mono (tp := tp) hq2.2
              refine r_num (lo := 1) (hi := 3) rs3.1 hq2.2 rt3 (by omega) (by omega) g (fun v v1 v3 s4 => ?_) (fun c f c1 c2 f1 ge x m' rf fn => ⟨fun _ => ?_, fun d => absurd d (RF_nz rf)⟩) (fun v v1 v3 _ g m4 rt4 fn4 => ⟨fun d => absurd rt4.2.2.2.2.2 d, fun _ => ?_⟩)
              · cases n with
                | zero =>
                  have := cnt_set (ρ := ρ') (w := w) (s := s) t6 y0 v1
                  have := cnt_le (ρ := rset ρ' w (6 * s + (tp (tF tl tp p') - 97)) v) (w := w) (s := s)
                  omega
                | succ n => exact fTok_4 s4
              · apply hS2
                unfold nX7_readWants_2
                exact ⟨fun _ => hE c f c1 c2 f1 ge _ m' rf (FD_trans fd3 (FD_FN fn)), fun d => absurd d (RF_nz rf)⟩
              · have rs4 := RS_FN rs3 fn4
                have row4 := DRow_FN row3 fn4
                have fd4 := FD_trans fd3 (FD_FN fn4)
                have e12 : m4.1 100 12 = nI s := by rw [rs4.2.1.2.1, hs0]
                have e6 : (6 : Int32) * nI s + nI (tp (tF tl tp p') - 97) = nI (6 * s + (tp (tF tl tp p') - 97)) := by
                  rw [show (6 : Int32) = nI 6 from rfl, pk_mul, nI_add]
                rw [e12, e6, nI_clamp (n := 6 * s + (tp (tF tl tp p') - 97)) (by omega), or_bit (by omega)]
                have nx : ∀ m5 : Mem, m5 = ms m4 (99 + w) (6 * s + (tp (tF tl tp p') - 97)) (nI v) → S2 (nI (obN b (tp (tF tl tp p') - 97))) m5 := fun m5 hm5 => by
                  have o : ∀ a j : Nat, a ≠ 99 + w → m5.1 a j = m4.1 a j := fun a j z => by rw [hm5, ms_1, if_neg z]
                  have oi : ∀ a j : Nat, j < 6 * s → m5.1 a j = m4.1 a j := fun a j z => by
                    rw [hm5, ms_1]
                    by_cases y : a = 99 + w
                    · rw [if_pos y, if_neg (by omega)]
                    · rw [if_neg y]
                  have fd5 : FD m4 m5 := fun a j z1 z2 => o a j (by omega)
                  have md5 : MD m5 ρ0 := by
                    obtain ⟨d1, d2, d3, d4, d5, d6, d7, d8, d9⟩ := rs4.2.1
                    refine ⟨(o _ _ (by omega)).trans d1, (o _ _ (by omega)).trans d2, (o _ _ (by omega)).trans d3, (o _ _ (by omega)).trans d4, (o _ _ (by omega)).trans d5, fun t ht => ?_, fun s' hs' => ?_, fun i hi => ?_, fun x hx => (o _ _ (by omega)).trans (d9 x hx)⟩
                    · rw [o _ _ (by omega), o _ _ (by omega), o _ _ (by omega)]; exact d6 t ht
                    · rw [o _ _ (by omega), o _ _ (by omega), o _ _ (by omega), o _ _ (by omega), o _ _ (by omega)]; exact d7 s' hs'
                    · rw [oi _ _ (by omega), oi _ _ (by omega)]; exact d8 i hi
                  have row5 : DRow m5 (rset ρ' w (6 * s + (tp (tF tl tp p') - 97)) v) s := fun t ht => by
                    have := row4 t ht
                    have key : ∀ f : Nat, (f = 9 ∨ f = 10) → m4.1 (99 + f) (6 * s + t) = nI (ρ' f (6 * s + t)) → m5.1 (99 + f) (6 * s + t) = nI (rset ρ' w (6 * s + (tp (tF tl tp p') - 97)) v f (6 * s + t)) := fun f hf hx => by
                      by_cases y : f = w ∧ t = tp (tF tl tp p') - 97
                      · rw [y.1, y.2, rset_y, hm5, ms_1, if_pos rfl, if_pos rfl]
                      · rw [rset_n _ _ _ _ f _ (by omega), ← hx, hm5, ms_1]
                        by_cases y2 : f = w
                        · rw [if_pos (by omega), if_neg (by omega)]
                        · rw [if_neg (by omega)]
                    exact ⟨key 9 (by omega) this.1, key 10 (by omega) this.2⟩
                  refine ih _ _ _ _ m5 (by omega) ?_ (LI_set li (p' := tE tl tp (tE tl tp p')) (L' := L + (7 - n)) ?_ (by omega) (by omega) (by omega) (by omega) (by omega) (by omega) (by omega) (by omega) (by omega) (fun y s' t' ht' y2 => ?_) (fun x hx => List.mem_append_left _ hx)) (fun f i z => ?_) (obN_lt hb (by omega)) (fun t ht => ?_) (by omega) he3.2 g ⟨TR_FD rs4.1 fd5, md5, RU_of rs4.2.2.1 (o _ _ (by omega)) (fun i => ⟨o _ _ (by omega), o _ _ (by omega)⟩), (o _ _ (by omega)).trans rs4.2.2.2.1, (o _ _ (by omega)).trans rs4.2.2.2.2⟩ row5 (RT_of rt4 (fun j z1 z2 => o _ _ (by omega))) (FD_trans fd4 fd5)
                  · rw [cnt_set t6 y0 v1]; omega
                  · have := UW_app (t := tp (tF tl tp p') - 97) (f := tF tl tp p') (p' := tE tl tp (tE tl tp p')) li.2.2.2.1 t6 hq.1 (by omega)
                    exact UW_mono this (Nat.le_refl _) (by omega)
                  · refine ⟨?_, tF tl tp p', ?_⟩
                    · rw [show s' = s by omega, sm 4 s (Or.inl (by omega))]
                      exact h3 y
                    · rw [show t' = tp (tF tl tp p') - 97 by omega]
                      exact List.mem_append_right _ (List.mem_singleton.2 rfl)
                  · rw [rset_n _ _ _ _ f i (by omega)]; exact sm f i z
                  · rw [obN_bit, bi t ht]
                    by_cases y : t = tp (tF tl tp p') - 97
                    · rw [y, rset_y]; omega
                    · rw [rset_n _ _ _ _ w _ (Or.inr (by omega))]; omega
                rcases hwl with ⟨w9, l1'⟩ | ⟨w10, l0⟩
                · rw [l1']
                  refine ⟨fun _ => ⟨vp_in_nI (by omega) (by omega), nx _ (by rw [w9])⟩, fun d => absurd rfl d⟩
                · rw [l0]
                  exact ⟨fun d => absurd d np1, fun _ => ⟨vp_in_nI (by omega) (by omega), nx _ (by rw [w10])⟩⟩
        · rw [nI_toInt (by omega), show (5 : Int64).toInt = 5 by decide, show (0 : Int64).toInt = 0 by decide] at z3
          omega
      have tfE := hq2
      refine r_nameNow rs.1 rt.1 rt.2.1 hq2.1 hq2.2 (fun a ha y => ?_) (fun no => ?_)
      · obtain ⟨w17, w15, w9, wi⟩ := wdR_tab a ha
        refine r_in (fun z3 z4 => ⟨fun d => absurd d np1, fun _ => ?_⟩) (fun z3 => ⟨fun _ => ?_, fun d => absurd rfl d⟩)
        · rw [nI_toInt (by omega), show (15 : Int64).toInt = 15 by decide] at z3
          have a9 : 9 ≤ a := w15.1 (by omega)
          have end1 : a = 10 ∨ a = 11 ∨ lv = 1 → Q (nI b) m := fun h => by
            rcases h with h | h | h
            · rw [h] at y; exact yes (Or.inr (Or.inl y))
            · rw [h] at y; exact yes (Or.inr (Or.inr (Or.inl y)))
            · rcases (show a = 9 ∨ a = 10 ∨ a = 11 by omega) with x | x | x
              · rw [x] at y; exact yes (Or.inr (Or.inr (Or.inr ⟨h, y⟩)))
              · rw [x] at y; exact yes (Or.inr (Or.inl y))
              · rw [x] at y; exact yes (Or.inr (Or.inr (Or.inl y)))
          refine ⟨fun d => ?_, fun d => ?_⟩
          · have : 1 - lv = 0 := by
              rcases hwl with h | h
              · omega
              · rw [h.2] at d; exact absurd d np1
            exact end1 (by omega)
          · have l0 : lv = 0 := by
              rcases hwl with h | h
              · rw [h.2] at d; exact absurd rfl d
              · exact h.2
            refine r_nameNow rs.1 rt.1 rt.2.1 hq2.1 hq2.2 (fun a' ha' y' => ?_) (fun no => absurd y (no a ha))
            have ea := wd_uniq ha' ha y' y
            rw [ea]
            have q15 : nI (wdR a) = (15 : Int32) ↔ wdR a = 15 := nI_eq (b := 15) (by omega) (by omega)
            rw [q15]
            refine ⟨fun d2 => end1 (by have : ¬ a = 9 := fun x => d2 (w9.2 x); omega), fun d2 => go (fun x => ?_) (fun x => ?_) (fun x => by omega)⟩
            · have := wd_uniq ha (by omega) y x
              have := w9.1 d2
              omega
            · have := wd_uniq ha (by omega) y x
              have := w9.1 d2
              omega
        · rw [nI_toInt (by omega), show (15 : Int64).toInt = 15 by decide, show (17 : Int64).toInt = 17 by decide] at z3
          have a9 : ¬ 9 ≤ a := fun x => by have := w15.2 x; omega
          refine go (fun x => ?_) (fun x => ?_) (fun x => ?_)
          · have := wd_uniq ha (by omega) y x; omega
          · have := wd_uniq ha (by omega) y x; omega
          · have := wd_uniq ha (by omega) y x.2; omega
      · refine r_in (fun z3 z4 => ?_) (fun z3 => ⟨fun _ => go (no 10 (by omega)) (no 11 (by omega)) (fun x => no 9 (by omega) x.2), fun d => absurd rfl d⟩)
        rw [show (15 : Int64).toInt = 15 by decide, show (-4 : Int32).toInt = -4 by decide] at z3
        omega
  refine lp 7 ρ U p 0 μ (Nat.le_refl _) (by omega) hI (fun _ _ _ => rfl) (by omega) (fun t ht => ?_) (Nat.le_refl _) hp hG hS hr hR FD_refl
  have : bitN 0 t = 0 := by unfold bitN; simp
  rw [this, hc0 t ht]
  omega
