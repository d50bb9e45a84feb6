theorem take_mid {t w : Nat} {u u' : Nat → Nat} (e : ∀ a : Nat, a < 4 → u (4 * t + a) = u' (4 * t + a)) (i : Nat) (hi : i / 4 = t) : tkU t 4 w u i = tkU t 4 w u' i := by
  have e0 := e 0 (by omega)
  have e1 := e 1 (by omega)
  have e2 := e 2 (by omega)
  have e3 := e 3 (by omega)
  rw [Nat.add_zero] at e0
  rw [tkU_4, tkU_4, e1, e2, e3]
  have cases4 : i = 4 * t + 3 ∨ i = 4 * t + 2 ∨ i = 4 * t + 1 ∨ i = 4 * t := by omega
  rcases cases4 with q | q | q | q <;> subst q <;> simp only [e0, e1, e2, e3]
theorem take_out {t w : Nat} {u : Nat → Nat} (i : Nat) (hi : i / 4 ≠ t) : tkU t 4 w u i = u i := by
  rw [tkU_4, if_neg (by omega), if_neg (by omega), if_neg (by omega), if_neg (by omega)]
/-- all but what was eaten today -/
def wt (κ : KA) (o : Option Nat) : KA := (κ.u, κ.la, κ.date, o, κ.paid, κ.thr, κ.lik)
def KCx (μ : Mem) (b : Nat) (κ : KA) : Prop := ∃ o : Option Nat, KC μ b (wt κ o)
def KMx (μ : Mem) (B : Nat) (κ : KA) : Prop := ∃ o : Option Nat, KM μ B (wt κ o)
theorem KCx_fr {lo hi b : Nat} {κ : KA} {μ m : Mem} (h : KCx μ b κ) (f : FI lo hi μ m) (hr : b + 3 ≤ lo ∨ hi ≤ b) : KCx m b κ := by
  obtain ⟨o, h⟩ := h
  exact ⟨o, KC_fr h f hr⟩
def zeroK (κ : KA) : KA := (κ.u, κ.la, κ.date, κ.tod, 0, 0, 0)
def begK (κ : KA) : KA := (κ.u, κ.la, κ.date, none, 0, 0, 0)
/-- a night of one thing, its n youngest ages, the oldest of them first; what is lost behind -/
def ngA (ρ : RA) (t : Nat) : Nat → (Nat → Nat) × Nat → (Nat → Nat) × Nat
  | 0, x => x
  | n + 1, x => ngA ρ t n (if n + 1 < ρ 1 t then (fun i => if i = 4 * t + n + 1 then x.1 (4 * t + n) else if i = 4 * t + n then 0 else x.1 i, x.2) else (fun i => if i = 4 * t + n then 0 else x.1 i, x.2 + x.1 (4 * t + n)))
def ngT (ρ : RA) (u : Nat → Nat) : Nat → (Nat → Nat) × Nat
  | 0 => (u, 0)
  | t + 1 => ngA ρ t 4 (ngT ρ u t)
def nightN (ρ : RA) (κ : KA) : KA := ((ngT ρ κ.u (ρ 0 0)).1, κ.la, κ.date + 1, none, κ.paid, κ.thr + (ngT ρ κ.u (ρ 0 0)).2, κ.lik)
theorem ngA_le {ρ : RA} {t B : Nat} : ∀ (n : Nat) (x : (Nat → Nat) × Nat), (∀ i : Nat, x.1 i ≤ B) → (∀ i : Nat, (ngA ρ t n x).1 i ≤ B) ∧ (ngA ρ t n x).2 ≤ x.2 + n * B
  | 0, x, h => ⟨h, by simp [ngA]⟩
  | n + 1, x, h => by
    rw [ngA]
    have h1 := h (4 * t + n)
    by_cases c : n + 1 < ρ 1 t
    · rw [if_pos c]
      have := ngA_le (ρ := ρ) (t := t) (B := B) n (fun i => if i = 4 * t + n + 1 then x.1 (4 * t + n) else if i = 4 * t + n then 0 else x.1 i, x.2) (fun i => by
        show (if i = 4 * t + n + 1 then x.1 (4 * t + n) else if i = 4 * t + n then 0 else x.1 i) ≤ B
        have := h i
        split
        · omega
        · split <;> omega)
      refine ⟨this.1, Nat.le_trans this.2 ?_⟩
      show x.2 + n * B ≤ x.2 + (n + 1) * B
      have : (n + 1) * B = n * B + B := Nat.succ_mul n B; omega
    · rw [if_neg c]
      have := ngA_le (ρ := ρ) (t := t) (B := B) n (fun i => if i = 4 * t + n then 0 else x.1 i, x.2 + x.1 (4 * t + n)) (fun i => by
        show (if i = 4 * t + n then 0 else x.1 i) ≤ B
        have := h i
        split <;> omega)
      refine ⟨this.1, Nat.le_trans this.2 ?_⟩
      show x.2 + x.1 (4 * t + n) + n * B ≤ x.2 + (n + 1) * B
      have : (n + 1) * B = n * B + B := Nat.succ_mul n B; omega
theorem ngT_le {ρ : RA} {u : Nat → Nat} {B : Nat} (h : ∀ i : Nat, u i ≤ B) : ∀ t : Nat, (∀ i : Nat, (ngT ρ u t).1 i ≤ B) ∧ (ngT ρ u t).2 ≤ t * (4 * B)
  | 0 => ⟨h, by simp [ngT]⟩
  | t + 1 => by
    have h1 := ngT_le (ρ := ρ) h t
    have h2 := ngA_le (ρ := ρ) (t := t) 4 _ h1.1
    refine ⟨h2.1, Nat.le_trans h2.2 ?_⟩
    have : (t + 1) * (4 * B) = t * (4 * B) + 4 * B := Nat.succ_mul t (4 * B); omega
theorem night_KW {ρ : RA} {κ : KA} {B D : Nat} (h : KW κ B D) : KW (nightN ρ κ) B (D + 1) := by
  refine ⟨(ngT_le h.1 _).1, ?_, fun s d e => ?_⟩
  · show κ.date + 1 ≤ D + 1
    have := h.2.1; omega
  · have := h.2.2 s d e
    show d ≤ κ.date + 1
    omega
theorem night_thr {ρ : RA} {κ : KA} {B D : Nat} (hw : RW ρ) (h : KW κ B D) : (nightN ρ κ).thr ≤ κ.thr + 24 * B := by
  have h1 := (ngT_le (ρ := ρ) h.1 (ρ 0 0)).2
  have h2 := Nat.mul_le_mul_right (4 * B) hw.1
  show κ.thr + _ ≤ _
  omega
theorem serv_KW {ρ : RA} {κ : KA} {B D s g : Nat} (hw : RW ρ) (h : KW κ B D) : KW (servN ρ κ s g) (B + 6) D := by
  refine ⟨fun i => servU_le hw h, h.2.1, fun q d e => ?_⟩
  show d ≤ κ.date
  change (if q = s then some κ.date else κ.la q) = some d at e
  by_cases c : q = s
  · rw [if_pos c] at e; have := Option.some.inj e; omega
  · rw [if_neg c] at e; exact h.2.2 q d e
theorem cost_le {ρ : RA} {κ : KA} {s g : Nat} (hw : RW ρ) (hg : g ≤ 1) : ∀ n : Nat, n ≤ ρ 0 0 → costN ρ κ s g n ≤ n * 600
  | 0, _ => by simp [costN, sumN]
  | n + 1, h => by
    have h1 := cost_le (κ := κ) (s := s) hw hg n (by omega)
    have h2 := pack_le (κ := κ) (s := s) (t := n) hw hg (by omega)
    have h3 := (hw.2.2.2.2.2.1 n (by omega)).2.2
    have h4 := Nat.mul_le_mul h2 h3
    show costN ρ κ s g n + packN ρ κ s g n * ρ 3 n ≤ _
    omega
theorem serv_paid {ρ : RA} {κ : KA} {s g : Nat} (hw : RW ρ) (hg : g ≤ 1) : (servN ρ κ s g).paid ≤ κ.paid + 3600 := by
  have h1 := cost_le (κ := κ) (s := s) hw hg (ρ 0 0) (Nat.le_refl _)
  have h2 := hw.1
  show κ.paid + costN ρ κ s g (ρ 0 0) ≤ _
  omega
theorem serv_lik {ρ : RA} {κ : KA} {s g : Nat} (hw : RW ρ) : (servN ρ κ s g).lik ≤ κ.lik + 9 := by
  have h1 := (hw.2.2.2.2.2.2.1 s).2.1
  show κ.lik + ρ 5 s ≤ _
  omega
noncomputable def stepK (ρ : RA) (κ : KA) (o : Option Nat) (g : Nat) : KA := match o with
  | none => nightN ρ κ
  | some s => nightN ρ (servN ρ κ s g)
theorem step_KW {ρ : RA} {κ : KA} {B D g : Nat} {o : Option Nat} (hw : RW ρ) (h : KW κ B D) : KW (stepK ρ κ o g) (B + 6) (D + 1) := by
  cases o with
  | none => have := night_KW (ρ := ρ) h; exact ⟨fun i => Nat.le_trans (this.1 i) (by omega), this.2⟩
  | some s => exact night_KW (serv_KW hw h)
theorem step_paid {ρ : RA} {κ : KA} {g : Nat} {o : Option Nat} (hw : RW ρ) (hg : g ≤ 1) : (stepK ρ κ o g).paid ≤ κ.paid + 3600 := by
  cases o with
  | none => show κ.paid ≤ _; omega
  | some s => exact serv_paid hw hg
theorem step_lik {ρ : RA} {κ : KA} {g : Nat} {o : Option Nat} (hw : RW ρ) : (stepK ρ κ o g).lik ≤ κ.lik + 9 := by
  cases o with
  | none => show κ.lik ≤ _; omega
  | some s => exact serv_lik (g := g) hw
theorem step_thr {ρ : RA} {κ : KA} {B D g : Nat} {o : Option Nat} (hw : RW ρ) (h : KW κ B D) : (stepK ρ κ o g).thr ≤ κ.thr + 24 * (B + 6) := by
  cases o with
  | none => have := night_thr hw h; exact Nat.le_trans this (by omega)
  | some s => exact night_thr hw (serv_KW hw h)
