-- what a supper wants or leaves: things and units
theorem sumN_one {f g : Nat → Nat} {t : Nat} : ∀ n : Nat, t < n → (∀ i : Nat, i ≠ t → f i = g i) → g t = f t + 1 → sumN g n = sumN f n + 1 := fun n => by
  induction n with
  | zero => intro h; omega
  | succ n ih =>
    intro h h1 h2
    show sumN g n + g n = sumN f n + f n + 1
    by_cases c : t = n
    · have : sumN f n = sumN g n := sumN_congr (fun i hi => h1 i (by omega))
      rw [← c]
      rw [← c] at this
      omega
    · have := ih (by omega) h1 h2
      have := h1 n (by omega)
      omega
/-- how many things are set -/
def cntN (ρ : RA) (w s : Nat) : Nat := sumN (fun t => if ρ w (6 * s + t) = 0 then 0 else 1) 6
theorem cnt_le {ρ : RA} {w s : Nat} : cntN ρ w s ≤ 6 := by
  have : cntN ρ w s ≤ 6 * 1 := sumN_le (fun i _ => by
    show (if ρ w (6 * s + i) = 0 then 0 else 1) ≤ 1
    split <;> omega)
  omega
theorem cnt_set {ρ : RA} {w s t v : Nat} (ht : t < 6) (h0 : ρ w (6 * s + t) = 0) (hv : 1 ≤ v) : cntN (rset ρ w (6 * s + t) v) w s = cntN ρ w s + 1 := by
  refine sumN_one (t := t) 6 ht (fun i hi => ?_) ?_
  · show (if ρ w (6 * s + i) = 0 then 0 else 1) = if rset ρ w (6 * s + t) v w (6 * s + i) = 0 then 0 else 1
    rw [rset_n _ _ _ _ _ _ (Or.inr (by omega))]
  · show (if rset ρ w (6 * s + t) v w (6 * s + t) = 0 then 0 else 1) = (if ρ w (6 * s + t) = 0 then 0 else 1) + 1
    rw [rset_y, if_neg (by omega), if_pos h0]
noncomputable def fPor {R : Type} (tl : Nat) (tp : Nat → Nat) (w lv s : Nat) (E : Nat → Nat → R) (K : RA → List (Nat × Nat) → Nat → R) : Nat → RA → List (Nat × Nat) → Nat → R
  | 0, ρ, U, p => K ρ U p
  | n + 1, ρ, U, p => fTok tl tp p E (by classical exact if tS tl tp p ≠ 1 ∨ isWd tp 10 (tF tl tp p) (tE tl tp p) ∨ isWd tp 11 (tF tl tp p) (tE tl tp p) ∨ (lv = 1 ∧ isWd tp 9 (tF tl tp p) (tE tl tp p)) then K ρ U p else if tE tl tp p - tF tl tp p = 1 ∧ tp (tF tl tp p) < 103 then (if ρ w (6 * s + (tp (tF tl tp p) - 97)) = 0 then fNum tl tp (tE tl tp p) 1 3 E (fun v e => fPor tl tp w lv s E K n (rset ρ w (6 * s + (tp (tF tl tp p) - 97)) v) (U ++ [(tp (tF tl tp p) - 97, tF tl tp p)]) e) else E 4 (tF tl tp p)) else E 3 (tF tl tp p))
theorem c_por {R : Type} {G : R → Prop} {E : Nat → Nat → R} {K : RA → List (Nat × Nat) → Nat → R} {tl p w lv s L ag sh : Nat} {tp : Nat → Nat} {ρ : RA} {U : List (Nat × Nat)} {μ : Mem} {Q : Int32 → Mem → Prop} (hS : CS tl tp μ ρ U ag sh) (hI : LI ρ U p L) (hw : w = 9 ∨ w = 10) (hlv : lv ≤ 1) (hs : s < ρ 0 4) (h3 : w = 9 → ρ 4 s ≠ 3) (hc0 : cntN ρ w s = 0) (hp : p ≤ tl) (h5 : μ.1 25 5 = nI p) (hG : G (fPor tl tp w lv s E K 7 ρ U p))
    (hE : ∀ c f : Nat, 1 ≤ c → c ≤ 6 → f ≤ tl → G (E c f) → ∀ m : Mem, m.1 25 3 = nI c → m.1 25 4 = nI f → FW μ m → Q 0 m)
    (hK : ∀ (ρ' : RA) (U' : List (Nat × Nat)) (p' : Nat), LI ρ' U' p' (L + 7) → (∀ f i : Nat, f ≠ w ∨ i < 6 * s → ρ' f i = ρ f i) → p ≤ p' → p' ≤ tl → G (K ρ' U' p') → ∀ m : Mem, CS tl tp m ρ' U' ag sh → CT tl tp m p' → FW μ m → Q 1 m) : PX1_readPortions 25 (27 + w) 54 (nI s) (nI lv) μ Q := by
  have hb : ∀ i : Nat, i < tl → tp i < 256 := fun i hi => (hS.1.2.2 i hi).1
  have htl := hS.1.2.1
  intro S3 hS3
  have lp : ∀ (n : Nat) (ρ' : RA) (U' : List (Nat × Nat)) (p' : Nat) (m : Mem), n ≤ 7 → 7 ≤ n + cntN ρ' w s → LI ρ' U' p' (L + (7 - n)) → (∀ f i : Nat, f ≠ w ∨ i < 6 * s → ρ' f i = ρ f i) → p ≤ p' → p' ≤ tl → G (fPor tl tp w lv s E K n ρ' U' p') → CS tl tp m ρ' U' ag sh → m.1 25 5 = nI p' → FW μ m → S3 (nI (7 - n)) m := by
    intro n
    induction n with
    | zero =>
      intro ρ' U' p' m h1 h2
      have := cnt_le (ρ := ρ') (w := w) (s := s)
      omega
    | succ n ih =>
      intro ρ' U' p' m h1 h2 li sm hpp hpl g cs e5 fw
      have hq := tF_le (tp := tp) hpl
      have hq2 := tE_le (tp := tp) hpl
      have s04 : ρ' 0 4 = ρ 0 4 := sm 0 4 (Or.inl (by omega))
      apply hS3
      unfold nX1_readPortions_3
      unfold fPor at g
      refine ⟨fun d => absurd d (nI_nlt (a := 6) (by omega) (by omega)), fun _ => ?_⟩
      refine c_tok cs.1 hpl e5 g (fun c f c1 c2 f1 g m' e3 e4 fr => ⟨fun d => absurd rfl d, fun _ => hE c f c1 c2 f1 g m' e3 e4 (FW_trans fw (FW_FT fr (by omega)))⟩) (fun g m1 ct1 fr1 => ⟨fun _ => ?_, fun d => absurd d np1⟩)
      have s1 := CS_FT cs fr1
      have w1 := FW_trans fw (FW_FT fr1 (by omega))
      have li7 : LI ρ' U' p' (L + 7) := LI_mono li (Nat.le_refl _) (by omega)
      have yes : (tS tl tp p' ≠ 1 ∨ isWd tp 10 (tF tl tp p') (tE tl tp p') ∨ isWd tp 11 (tF tl tp p') (tE tl tp p') ∨ (lv = 1 ∧ isWd tp 9 (tF tl tp p') (tE tl tp p'))) → Q 1 m1 := fun y => by
        rw [if_pos y] at g
        exact hK ρ' U' p' li7 sm hpp hpl g m1 s1 ct1 w1
      have e1 : m1.1 25 6 = (1 : Int32) ↔ tS tl tp p' = 1 := CT_eq (x := 1) ct1 (by omega)
      rw [e1]
      refine ⟨fun z => yes (Or.inl z), fun z1 => ?_⟩
      refine c_nm s1.1 hpl ct1 (by omega) (fun _ y => ⟨fun _ => yes (Or.inr (Or.inl y)), fun d => absurd d np1⟩) (fun n10 => ⟨fun d => absurd rfl d, fun _ => ?_⟩)
      refine c_nm s1.1 hpl ct1 (by omega) (fun _ y => ⟨fun _ => yes (Or.inr (Or.inr (Or.inl y))), fun d => absurd d np1⟩) (fun n11 => ⟨fun d => absurd rfl d, fun _ => ?_⟩)
      have go : ¬ (lv = 1 ∧ isWd tp 9 (tF tl tp p') (tE tl tp p')) → nX1_readPortions_60 25 (27 + w) 54 (nI s) (nI lv) Q S3 (nI (7 - (n + 1))) m1 := fun n9 => by
        rw [if_neg (fun y => by
          rcases y with y | y | y | y
          · exact y z1
          · exact n10 ⟨z1, y⟩
          · exact n11 ⟨z1, y⟩
          · exact n9 y)] at g
        obtain ⟨t1, t2, t3⟩ := tS_1 z1
        obtain ⟨l1, l2⟩ := t3 _ (Nat.le_refl _) t1
        have e26 : m1.1 (25 + 1) (tF tl tp p') = nI (tp (tF tl tp p')) := (s1.1.2.2 _ t2).2.trans ((sg_eq (s1.1.2.2 _ t2).1 (by omega)).2 rfl)
        have e97 : nI (tp (tF tl tp p')) - (97 : Int32) = nI (tp (tF tl tp p') - 97) := pk_sub (a := tp (tF tl tp p')) (b := 97) l1
        have bad : ¬ (tE tl tp p' - tF tl tp p' = 1 ∧ tp (tF tl tp p') < 103) → PX1_refuse 25 (3 : Int32) (nI (tF tl tp p')) m1 (fun (r29 : Int32) (m28 : Mem) => nz r29 ∧ Q r29 m28) := fun y => by
          rw [if_neg y] at g
          exact c_refuse (c := 3) (f := 0) (fun m' k3 k4 k => ⟨nz0, hE 3 _ (by omega) (by omega) hq.2 g m' k3 k4 (FW_trans w1 (FW_FT k (by omega)))⟩)
        unfold nX1_readPortions_60 nX1_readPortions_99
        rw [ct1.1, ct1.2.2.1, pk_sub (Nat.le_of_lt t1), nI_clamp (n := tF tl tp p') (by omega), e26, e97]
        have q1 : nI (tE tl tp p' - tF tl tp p') = (1 : Int32) ↔ tE tl tp p' - tF tl tp p' = 1 := nI_eq (b := 1) (by omega) (by omega)
        rw [q1]
        refine ⟨vp_in_nI (by omega) (by omega), fun d => bad (fun y => d y.1), fun d => ⟨fun d2 => absurd d2 (nI_pos (by omega)), fun _ => ⟨fun d2 => ?_, fun d2 => bad (fun y => d2 (nI_lt (b := 6) (by omega) (by omega)))⟩⟩⟩
        have t6 : tp (tF tl tp p') - 97 < 6 := (nI_ltI (b := 6) (by omega) (by omega)).1 d2
        rw [if_pos ⟨d, by omega⟩] at g
        have e6 : nI s * (6 : Int32) + nI (tp (tF tl tp p') - 97) = nI (6 * s + (tp (tF tl tp p') - 97)) := by
          rw [show (6 : Int32) = nI 6 from rfl, pk_mul, nI_add, Nat.mul_comm]
        have s8 := li.2.2.1
        have eW : m1.1 (27 + w) (6 * s + (tp (tF tl tp p') - 97)) = nI (ρ' w (6 * s + (tp (tF tl tp p') - 97))) := by
          have := s1.2.1.2.2.2.2.2.2.2.1 (6 * s + (tp (tF tl tp p') - 97)) (by omega)
          rcases hw with x | x
          · rw [x]; exact this.1
          · rw [x]; exact this.2
        have b3 : ρ' w (6 * s + (tp (tF tl tp p') - 97)) ≤ 3 := by
          have := li.1.2.2.2.2.2.2.2.2.1 (6 * s + (tp (tF tl tp p') - 97))
          rcases hw with x | x
          · rw [x]; exact this.1
          · rw [x]; exact this.2
        rw [e6, nI_clamp (n := 6 * s + (tp (tF tl tp p') - 97)) (by omega), eW]
        have q0 : nI (ρ' w (6 * s + (tp (tF tl tp p') - 97))) = (0 : Int32) ↔ ρ' w (6 * s + (tp (tF tl tp p') - 97)) = 0 := nI_eq (b := 0) (by omega) (by omega)
        rw [q0]
        refine ⟨vp_in_nI (by omega) (by omega), fun y0 => ?_, fun y0 => ?_⟩
        · rw [if_pos y0] at g
          refine c_noteUse t6 s1.2.2.2.2.1 (fun x q hq => Nat.le_trans (fu_le li.2.2.2.1 hq) (by omega)) ct1.2.2.1 (fun m2 u2 o2 => ?_)
          have s2 := CS_use s1 u2 o2
          have w2 := FW_trans w1 (FW_use o2)
          refine c_num (lo := 1) (hi := 3) s2.1 hq2.2 ((o2 25 5 (by decide)).trans ct1.1) (by omega) (by omega) g (fun c f c1 c2 f1 g m' e3 e4 fr => ⟨fun d => absurd rfl d, fun _ => hE c f c1 c2 f1 g m' e3 e4 (FW_trans w2 (FW_FT fr (by omega)))⟩) (fun v v1 v3 g m3 ct3 ev fr3 => ⟨fun _ => ⟨vp_in_nI (by omega) (by omega), fun m4 hm4 => ?_⟩, fun d => absurd d np1⟩)
          have s3 := CS_FT s2 fr3
          have w3 := FW_trans w2 (FW_FT fr3 (by omega))
          have mo := tE_mono (tp := tp) hq2.2
          have he3 := tE_le (tp := tp) hq2.2
          rw [ev] at hm4
          rw [hm4, nI_1, show 7 - (n + 1) + 1 = 7 - n by omega]
          have s4 := CS_ms (a := 27 + w) (j := 6 * s + (tp (tF tl tp p') - 97)) (v := nI v) s3 (by omega) (by omega) (CR_set (c := w) s3.2.1 (by omega) (by omega))
          refine ih _ _ _ _ (by omega) ?_ (LI_set li (p' := tE tl tp (tE tl tp p')) (L' := L + (7 - n)) ?_ (by omega) (by omega) (by omega) (by omega) (by omega) (by omega) (by omega) (by omega) (by omega) (fun y s' t' ht' y2 => ?_) (fun x hx => List.mem_append_left _ hx)) (fun f i z => ?_) (by omega) he3.2 g s4 (by rw [ms_1, if_neg (by omega)]; exact ct3.1) (FW_trans w3 (FW_ms (by omega)))
          · rw [cnt_set t6 y0 v1]; omega
          · have := UW_app (t := tp (tF tl tp p') - 97) (f := tF tl tp p') (p' := tE tl tp (tE tl tp p')) li.2.2.2.1 t6 hq.1 (by omega)
            exact UW_mono this (Nat.le_refl _) (by omega)
          · refine ⟨?_, tF tl tp p', ?_⟩
            · rw [show s' = s by omega, sm 4 s (Or.inl (by omega))]
              exact h3 y
            · rw [show t' = tp (tF tl tp p') - 97 by omega]
              exact List.mem_append_right _ (List.mem_singleton.2 rfl)
          · rw [rset_n _ _ _ _ f i (by omega)]; exact sm f i z
        · rw [if_neg y0] at g
          exact c_refuse (c := 4) (f := 0) (fun m' k3 k4 k => ⟨nz0, hE 4 _ (by omega) (by omega) hq.2 g m' k3 k4 (FW_trans w1 (FW_FT k (by omega)))⟩)
      rcases (show lv = 0 ∨ lv = 1 by omega) with l0 | l0
      · refine ⟨fun _ => go (fun y => by omega), fun d => absurd (by rw [l0]; rfl) d⟩
      · refine ⟨fun d => absurd (show (1 : Int32) = 0 by rw [l0] at d; exact d) np1, fun _ => ?_⟩
        exact c_nm s1.1 hpl ct1 (by omega) (fun _ y => ⟨fun d => absurd d np1, fun _ => yes (Or.inr (Or.inr (Or.inr ⟨l0, y⟩)))⟩) (fun n9 => ⟨fun _ => go (fun y => n9 ⟨z1, y.2⟩), fun d => absurd rfl d⟩)
  exact lp 7 ρ U p μ (Nat.le_refl _) (by omega) hI (fun _ _ _ => rfl) (Nat.le_refl _) hp hG hS h5 FW_refl
