/-- w taken of thing t out of its n youngest ages, the oldest of them first -/
def tkU (t : Nat) : Nat → Nat → (Nat → Nat) → Nat → Nat
  | 0, _, u => u
  | n + 1, w, u => tkU t n (w - u (4 * t + n)) (fun i => if i = 4 * t + n then u i - w else u i)
theorem tkU_0 (t : Nat) : ∀ (n : Nat) (u : Nat → Nat) (i : Nat), tkU t n 0 u i = u i
  | 0, _, _ => rfl
  | n + 1, u, i => by
    rw [tkU, Nat.zero_sub, tkU_0 t n]
    simp
theorem tkU_4 {t w : Nat} {u : Nat → Nat} {i : Nat} : tkU t 4 w u i = if i = 4 * t + 3 then u i - w else if i = 4 * t + 2 then u i - (w - u (4 * t + 3)) else if i = 4 * t + 1 then u i - (w - u (4 * t + 3) - u (4 * t + 2)) else if i = 4 * t then u i - (w - u (4 * t + 3) - u (4 * t + 2) - u (4 * t + 1)) else u i := by
  simp only [tkU, Nat.add_zero]
  grind
theorem c_takeOldest {b t B : Nat} {Q : Mem → Prop} (ht : t < 6) (hB : B ≤ 1000000) {w : Nat} {κ : KA} {μ : Mem} (hw : w < 2 ^ 30) (hK : KC μ b κ) (hk : ∀ i : Nat, κ.u i ≤ B) (h : ∀ m : Mem, KC m b (tkU t 4 w κ.u, κ.2) → FI (b + 1) (b + 2) μ m → Q m) : PX0_takeOldest b (nI t) (nI w) μ Q := by
  intro S hS
  have key : ∀ n : Nat, n ≤ 4 → ∀ (w : Nat) (κ : KA) (μ : Mem), w < 2 ^ 30 → KC μ b κ → (∀ i : Nat, κ.u i ≤ B) → (∀ m : Mem, KC m b (tkU t n w κ.u, κ.2) → FI (b + 1) (b + 2) μ m → Q m) → S (nI w) (dI n) μ := by
    intro n
    induction n with
    | zero =>
      intro _ w κ μ hw hK hk h
      apply hS
      unfold nX0_takeOldest_5
      exact ⟨fun _ => h μ hK FI_refl, fun c => absurd dI_neg c⟩
    | succ n ih =>
      intro hn w κ μ hw hK hk h
      have e1 := hK.1 (t * 4 + n) (by omega)
      have b1 := hk (t * 4 + n)
      apply hS
      unfold nX0_takeOldest_5
      refine ⟨fun c => absurd c (dI_pos (by omega)), fun _ => ?_⟩
      show (nI w ≤ 0 → Q μ) ∧ _
      refine ⟨fun c => ?_, fun c => ?_⟩
      · have : w = 0 := by
          have := (nI_leI (b := 0) (by omega) (by omega)).1 c
          omega
        subst this
        exact h μ (KC_ext hK (fun i _ => (tkU_0 t (n + 1) κ.u i).symm)) FI_refl
      · have ei : nI t * (4 : Int32) + dI (n + 1) = nI (t * 4 + n) := by
          rw [show (4 : Int32) = nI 4 from rfl, show dI (n + 1) = nI n from rfl, pk_mul, nI_add]
        rw [ei, nI_clamp (by omega), e1]
        refine ⟨vp_in_nI (by omega) (by omega), fun x hx => ⟨vp_in_nI (by omega) (by omega), vp_in_nI (by omega) (by omega), fun m hm => ?_⟩⟩
        rw [mn (by omega) (by omega)] at hx
        rw [hx, pk_sub (by omega)] at hm
        rw [hx, pk_sub (by omega), show dI (n + 1) = nI n from rfl, dI_s]
        rw [show w - min (κ.u (t * 4 + n)) w = w - κ.u (4 * t + n) by rw [Nat.mul_comm t 4]; omega]
        have hK2 := KC_u (v := κ.u (t * 4 + n) - min (κ.u (t * 4 + n)) w) hK (show t * 4 + n < 24 by omega)
        rw [← hm] at hK2
        have hK3 := KC_ext (f := fun i => if i = 4 * t + n then κ.u i - w else κ.u i) hK2 (fun i hi => by
          show (if i = t * 4 + n then _ else _) = (if i = 4 * t + n then _ else _)
          rw [Nat.mul_comm t 4]
          by_cases q : i = 4 * t + n
          · rw [if_pos q, if_pos q, q]; omega
          · rw [if_neg q, if_neg q])
        refine ih (by omega) _ (_, κ.2) m (by omega) hK3 (fun i => ?_) (fun m2 hm2 hf2 => ?_)
        · show (if i = 4 * t + n then κ.u i - w else κ.u i) ≤ B
          have := hk i
          split <;> omega
        · exact h m2 hm2 (FI_trans (by rw [hm]; exact FI_ms (by omega) (by omega)) hf2)
  exact key 4 (Nat.le_refl _) w κ μ hw hK hk h
noncomputable def restN (ρ : RA) (κ : KA) (s g t : Nat) : Nat := if packN ρ κ s g t = 0 then 0 else packN ρ κ s g t * ρ 2 t - lackN ρ κ s g t
noncomputable def costN (ρ : RA) (κ : KA) (s g n : Nat) : Nat := sumN (fun t => packN ρ κ s g t * ρ 3 t) n
noncomputable def servU (ρ : RA) (κ : KA) (s g i : Nat) : Nat := if i / 4 < ρ 0 0 then κ.u i - takA ρ κ s g (i / 4) (i % 4) + (if i % 4 = 0 then restN ρ κ s g (i / 4) + ρ 10 (6 * s + i / 4) else 0) else κ.u i
noncomputable def servN (ρ : RA) (κ : KA) (s g : Nat) : KA := (servU ρ κ s g, fun q => if q = s then some κ.date else κ.la q, κ.date, some s, κ.paid + costN ρ κ s g (ρ 0 0), κ.thr, κ.lik + ρ 5 s)
theorem pack_le {ρ : RA} {κ : KA} {s g t : Nat} (hw : RW ρ) (hg : g ≤ 1) (ht : t < ρ 0 0) : packN ρ κ s g t ≤ 10 := by
  have bl := lack_le (κ := κ) (s := s) (t := t) hw hg
  have b2 := (hw.2.2.2.2.2.1 t ht).2.1
  unfold packN
  split
  · have h1 : lackN ρ κ s g t + ρ 2 t - 1 ≤ 10 * ρ 2 t := by
      rcases (show ρ 2 t = 1 ∨ ρ 2 t = 2 ∨ ρ 2 t = 3 ∨ ρ 2 t = 4 by omega) with c | c | c | c <;> rw [c] <;> omega
    have h2 := Nat.div_le_div_right (c := ρ 2 t) h1
    rw [Nat.mul_div_cancel _ (by omega)] at h2
    exact h2
  · omega
theorem pack_ge {ρ : RA} {κ : KA} {s g t : Nat} (hw : RW ρ) (ht : t < ρ 0 0) (h0 : packN ρ κ s g t ≠ 0) : lackN ρ κ s g t ≤ packN ρ κ s g t * ρ 2 t ∧ packN ρ κ s g t * ρ 2 t ≤ lackN ρ κ s g t + 3 := by
  have b2 := (hw.2.2.2.2.2.1 t ht).2.1
  unfold packN at h0 ⊢
  split
  · rcases (show ρ 2 t = 1 ∨ ρ 2 t = 2 ∨ ρ 2 t = 3 ∨ ρ 2 t = 4 by omega) with c | c | c | c <;> rw [c] <;> omega
  · rename_i q; rw [if_neg q] at h0; exact absurd rfl h0
theorem rest_le {ρ : RA} {κ : KA} {s g t : Nat} (hw : RW ρ) (ht : t < ρ 0 0) : restN ρ κ s g t ≤ 3 := by
  unfold restN
  split
  · omega
  · rename_i q
    have := pack_ge hw ht q
    omega
theorem servU_le {ρ : RA} {κ : KA} {B D s g i : Nat} (hw : RW ρ) (hk : KW κ B D) : servU ρ κ s g i ≤ B + 6 := by
  have h1 := hk.1 i
  unfold servU
  split
  · rename_i q
    have h2 := rest_le (κ := κ) (s := s) (g := g) hw q
    have h3 := (hw.2.2.2.2.2.2.2.2.1 (6 * s + i / 4)).2
    split <;> omega
  · omega
/-- units with those of things ahead of t as f says -/
def midU (u f : Nat → Nat) (t i : Nat) : Nat := if i / 4 < t then f i else u i
theorem mid_0 {u f : Nat → Nat} (i : Nat) : u i = midU u f 0 i := by unfold midU; rw [if_neg (Nat.not_lt_zero _)]
/-- a thing of which as many units lie there has the same lack and packs, if no soup is asked for -/
theorem lack_mid {ρ : RA} {κ : KA} {f : Nat → Nat} {s g t : Nat} (h3 : ρ 4 s ≠ 3) (e : ∀ a : Nat, a < 4 → f (4 * t + a) = κ.u (4 * t + a)) : lackN ρ (f, κ.2) s g t = lackN ρ κ s g t := by
  have e2 : untN (f, κ.2) t = untN κ t := sumN_congr (fun a ha => e a ha)
  unfold lackN; rw [if_neg h3, if_neg h3, e2]
theorem buy_dec {ρ : RA} {d s t : Nat} (h : buyN ρ d s t) {κ : KA} (e : κ.date = d) {g : Nat} : packN ρ κ s g t = (lackN ρ κ s g t + ρ 2 t - 1) / ρ 2 t := by
  subst e; unfold packN; exact if_pos h
theorem buy_not {ρ : RA} {d s t : Nat} (h : ¬ buyN ρ d s t) {κ : KA} (e : κ.date = d) {g : Nat} : packN ρ κ s g t = 0 := by
  subst e; unfold packN; exact if_neg h
theorem pack_mid {ρ : RA} {κ : KA} {f : Nat → Nat} {s g t : Nat} (e : ∀ a : Nat, a < 4 → f (4 * t + a) = κ.u (4 * t + a)) : packN ρ (f, κ.2) s g t = packN ρ κ s g t := by
  by_cases c : buyN ρ κ.date s t
  · have h3 : ρ 4 s ≠ 3 := by have := c.2.2; omega
    rw [buy_dec (κ := κ) c rfl, buy_dec (κ := (f, κ.2)) c rfl, lack_mid h3 e]
  · rw [buy_not (κ := κ) c rfl, buy_not (κ := (f, κ.2)) c rfl]
theorem take_same {ρ : RA} {κ : KA} {s g t : Nat} (htn : t < ρ 0 0) : ∀ i : Nat, i / 4 = t → tkU t 4 (takN ρ κ s g t) κ.u i = κ.u i - takA ρ κ s g t (i % 4) := by
  intro i hi
  rw [tkU_4]
  have cases4 : i = 4 * t + 3 ∨ i = 4 * t + 2 ∨ i = 4 * t + 1 ∨ i = 4 * t := by omega
  have et : takS ρ κ s g t 4 = takA ρ κ s g t 3 + takA ρ κ s g t 2 + takA ρ κ s g t 1 + takA ρ κ s g t 0 := by simp [takS, sumN]
  have eu : untN κ t = κ.u (4 * t) + κ.u (4 * t + 1) + κ.u (4 * t + 2) + κ.u (4 * t + 3) := by simp [untN, sumN]
  by_cases c : ρ 4 s = 3
  · have ea : ∀ a : Nat, takA ρ κ s g t a = min (soupN ρ s g - (oldS ρ κ s (3 - a) + rowS ρ κ s a t)) (inU ρ κ s t a) := fun a => by unfold takA; rw [if_pos c]
    unfold takN; rw [if_pos c]
    by_cases hin : bitN (ρ 8 s) t = 1
    · have ei : ∀ a : Nat, inU ρ κ s t a = κ.u (4 * t + a) := fun a => by unfold inU; rw [if_pos hin]
      by_cases htn2 : t < ρ 0 0
      · have mono : ∀ a : Nat, a < 3 → oldS ρ κ s (3 - (a + 1)) + rowS ρ κ s (a + 1) t + inU ρ κ s t (a + 1) ≤ oldS ρ κ s (3 - a) + rowS ρ κ s a t := by
          intro a ha
          have h1 : oldS ρ κ s (3 - a) = oldS ρ κ s (3 - (a + 1)) + rowS ρ κ s (a + 1) (ρ 0 0) := by
            rw [show 3 - a = (3 - (a + 1)) + 1 by omega]
            show sumN _ _ + rowS ρ κ s (3 - (3 - (a + 1))) _ = _
            rw [show 3 - (3 - (a + 1)) = a + 1 by omega]; rfl
          have h2 : ∀ n : Nat, t < n → rowS ρ κ s (a + 1) t + inU ρ κ s t (a + 1) ≤ rowS ρ κ s (a + 1) n := by
            intro n
            induction n with
            | zero => intro q; omega
            | succ n ih =>
              intro q
              show _ ≤ rowS ρ κ s (a + 1) n + inU ρ κ s n (a + 1)
              by_cases e : t = n
              · subst e; exact Nat.le_refl _
              · have := ih (by omega); omega
          have := h2 _ htn
          omega
        have m2 := mono 2 (by omega)
        have m1 := mono 1 (by omega)
        have m0 := mono 0 (by omega)
        have a3 := ea 3
        have a2 := ea 2
        have a1 := ea 1
        have a0 := ea 0
        rw [ei] at a3 a2 a1 a0 m2 m1 m0
        simp only [Nat.add_zero, Nat.reduceAdd] at a0 a1 a2 a3 m0 m1 m2
        rcases cases4 with q | q | q | q
        · subst q; rw [if_pos rfl, show (4 * t + 3) % 4 = 3 by omega, et]; omega
        · subst q; rw [if_neg (by omega), if_pos rfl, show (4 * t + 2) % 4 = 2 by omega, et]; omega
        · subst q; rw [if_neg (by omega), if_neg (by omega), if_pos rfl, show (4 * t + 1) % 4 = 1 by omega, et]; omega
        · subst q; rw [if_neg (by omega), if_neg (by omega), if_neg (by omega), if_pos rfl, show (4 * t) % 4 = 0 by omega, et]; omega
      · exact absurd htn htn2
    · have ei : ∀ a : Nat, inU ρ κ s t a = 0 := fun a => by unfold inU; rw [if_neg hin]
      have ez : ∀ a : Nat, takA ρ κ s g t a = 0 := fun a => by rw [ea, ei]; omega
      rw [et, ez, ez, ez, ez, ez]
      simp
  · have ea : ∀ a : Nat, takA ρ κ s g t a = min (wantN ρ s g t - sumN (fun k => κ.u (4 * t + (3 - k))) (3 - a)) (κ.u (4 * t + a)) := fun a => by unfold takA; rw [if_neg c]
    unfold takN; rw [if_neg c, eu]
    have a3 := ea 3
    have a2 := ea 2
    have a1 := ea 1
    have a0 := ea 0
    simp only [Nat.add_zero, Nat.reduceAdd, Nat.reduceSub, sumN, Nat.sub_zero, Nat.zero_add] at a0 a1 a2 a3
    rcases cases4 with q | q | q | q
    · subst q; rw [if_pos rfl, show (4 * t + 3) % 4 = 3 by omega]; omega
    · subst q; rw [if_neg (by omega), if_pos rfl, show (4 * t + 2) % 4 = 2 by omega]; omega
    · subst q; rw [if_neg (by omega), if_neg (by omega), if_pos rfl, show (4 * t + 1) % 4 = 1 by omega]; omega
    · subst q; rw [if_neg (by omega), if_neg (by omega), if_neg (by omega), if_pos rfl, show (4 * t) % 4 = 0 by omega]; omega
