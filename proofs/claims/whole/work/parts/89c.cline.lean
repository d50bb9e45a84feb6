-- a line, the tape: the class
noncomputable def fLine {R : Type} (tl : Nat) (tp : Nat → Nat) (E : Nat → Nat → R) (K : RA → List (Nat × Nat) → Nat → Nat → Nat → R) (ρ : RA) (U : List (Nat × Nat)) (ag sh p : Nat) : R := by classical exact if tS tl tp p = 1 ∧ isWd tp 0 (tF tl tp p) (tE tl tp p) then fThing tl tp ρ (tF tl tp p) (tE tl tp p) E (fun ρ' e => K ρ' U ag sh e) else if tS tl tp p = 1 ∧ isWd tp 1 (tF tl tp p) (tE tl tp p) then fSup tl tp 0 E (fun ρ' U' e => K ρ' U' ag sh e) ρ U (tF tl tp p) (tE tl tp p) else if tS tl tp p = 1 ∧ isWd tp 2 (tF tl tp p) (tE tl tp p) then fSup tl tp 1 E (fun ρ' U' e => K ρ' U' ag sh e) ρ U (tF tl tp p) (tE tl tp p) else if tS tl tp p = 1 ∧ isWd tp 3 (tF tl tp p) (tE tl tp p) then fSup tl tp 2 E (fun ρ' U' e => K ρ' U' ag sh e) ρ U (tF tl tp p) (tE tl tp p) else if tS tl tp p = 1 ∧ isWd tp 4 (tF tl tp p) (tE tl tp p) then fSup tl tp 3 E (fun ρ' U' e => K ρ' U' ag sh e) ρ U (tF tl tp p) (tE tl tp p) else if tS tl tp p = 1 ∧ isWd tp 5 (tF tl tp p) (tE tl tp p) then fAgain tl tp ρ ag (tF tl tp p) (tE tl tp p) E (fun ρ' e => K ρ' U 1 sh e) else if tS tl tp p = 1 ∧ isWd tp 6 (tF tl tp p) (tE tl tp p) then fShop tl tp ρ sh (tF tl tp p) (tE tl tp p) E (fun ρ' e => K ρ' U ag 1 e) else if tS tl tp p = 1 ∧ isWd tp 7 (tF tl tp p) (tE tl tp p) then fOut tl tp ρ (tE tl tp p) E (fun ρ' e => K ρ' U ag sh e) else if tS tl tp p = 1 ∧ isWd tp 8 (tF tl tp p) (tE tl tp p) then fGuest tl tp ρ (tE tl tp p) E (fun ρ' e => K ρ' U ag sh e) else E 2 (tF tl tp p)
theorem c_readLine {R : Type} {G : R → Prop} {E : Nat → Nat → R} {K : RA → List (Nat × Nat) → Nat → Nat → Nat → R} {tl p ag sh : Nat} {tp : Nat → Nat} {ρ : RA} {U : List (Nat × Nat)} {μ : Mem} {Q : Int32 → Mem → Prop} (hS : CS tl tp μ ρ U ag sh) (hI : LI ρ U p (14 * ρ 0 4)) (ha : ag ≤ 1) (hh : sh ≤ 1) (hp : p ≤ tl) (hc : CT tl tp μ p) (hG : G (fLine tl tp E K ρ U ag sh p))
    (hE : ∀ c f : Nat, 1 ≤ c → c ≤ 6 → f ≤ tl → G (E c f) → ∀ m : Mem, m.1 25 3 = nI c → m.1 25 4 = nI f → FW μ m → Q 0 m)
    (hK : ∀ (ρ' : RA) (U' : List (Nat × Nat)) (ag' sh' e : Nat), LI ρ' U' e (14 * ρ' 0 4) → ag' ≤ 1 → sh' ≤ 1 → p < e → e ≤ tl → G (K ρ' U' ag' sh' e) → ∀ m : Mem, CS tl tp m ρ' U' ag' sh' → m.1 25 5 = nI e → FW μ m → Q 1 m) : PX1_readLine 25 μ Q := by
  have mo := tE_mono (tp := tp) hp
  have hq := tE_le (tp := tp) hp
  unfold fLine at hG
  unfold PX1_readLine
  have sup : ∀ k : Nat, k ≤ 3 → G (fSup tl tp k E (fun ρ' U' e => K ρ' U' ag sh e) ρ U (tF tl tp p) (tE tl tp p)) → PX1_readSupper 25 (nI k) μ (fun (r39 : Int32) (m38 : Mem) => nz r39 ∧ Q r39 m38) := fun k hk g =>
    c_readSupper hS hI hk hp hc g (fun c f c1 c2 f1 g2 m' e3 e4 fr2 => ⟨nz0, hE c f c1 c2 f1 g2 m' e3 e4 fr2⟩) (fun ρ' U' e li e04 pe el g m cs e5 fw => ⟨nz1, hK ρ' U' ag sh e (LI_mono li (Nat.le_refl _) (by omega)) ha hh pe el g m cs e5 fw⟩)
  refine c_nm hS.1 hp hc (by omega) (fun z1 y => ⟨fun d => absurd d np1, fun _ => ?_⟩) (fun n0 => ⟨fun _ => ?_, fun d => absurd rfl d⟩)
  · rw [if_pos ⟨z1, y⟩] at hG
    exact c_readThing hS hI.1.1 hp hc hG (fun c f c1 c2 f1 g2 m' e3 e4 fr2 => ⟨nz0, hE c f c1 c2 f1 g2 m' e3 e4 fr2⟩) (fun a b c e a1 a2 b1 b2 c1 el pe h6 g m cs e5 fw => ⟨nz1, hK _ U ag sh e (by
      rw [show (rset (rset (rset (rset ρ 0 0 (ρ 0 0 + 1)) 1 (ρ 0 0) a) 2 (ρ 0 0) b) 3 (ρ 0 0) c) 0 4 = ρ 0 4 by rw [rset_n _ _ _ _ 0 4 (Or.inl (by omega)), rset_n _ _ _ _ 0 4 (Or.inl (by omega)), rset_n _ _ _ _ 0 4 (Or.inl (by omega)), rset_n _ _ _ _ 0 4 (Or.inr (by omega))]]
      exact LI_thing hI (by omega) h6 a1 a2 b1 b2 c1) ha hh (by omega) el g m cs e5 fw⟩)
  rw [if_neg n0] at hG
  refine c_nm hS.1 hp hc (by omega) (fun z1 y => ⟨fun d => absurd d np1, fun _ => ?_⟩) (fun n1 => ⟨fun _ => ?_, fun d => absurd rfl d⟩)
  · rw [if_pos ⟨z1, y⟩] at hG
    exact sup 0 (by omega) hG
  rw [if_neg n1] at hG
  refine c_nm hS.1 hp hc (by omega) (fun z1 y => ⟨fun d => absurd d np1, fun _ => ?_⟩) (fun n2 => ⟨fun _ => ?_, fun d => absurd rfl d⟩)
  · rw [if_pos ⟨z1, y⟩] at hG
    exact sup 1 (by omega) hG
  rw [if_neg n2] at hG
  refine c_nm hS.1 hp hc (by omega) (fun z1 y => ⟨fun d => absurd d np1, fun _ => ?_⟩) (fun n3 => ⟨fun _ => ?_, fun d => absurd rfl d⟩)
  · rw [if_pos ⟨z1, y⟩] at hG
    exact sup 2 (by omega) hG
  rw [if_neg n3] at hG
  refine c_nm hS.1 hp hc (by omega) (fun z1 y => ⟨fun d => absurd d np1, fun _ => ?_⟩) (fun n4 => ⟨fun _ => ?_, fun d => absurd rfl d⟩)
  · rw [if_pos ⟨z1, y⟩] at hG
    exact sup 3 (by omega) hG
  rw [if_neg n4] at hG
  refine c_nm hS.1 hp hc (by omega) (fun z1 y => ⟨fun d => absurd d np1, fun _ => ?_⟩) (fun n5 => ⟨fun _ => ?_, fun d => absurd rfl d⟩)
  · rw [if_pos ⟨z1, y⟩] at hG
    exact c_readAgain hS ha hp hc hG (fun c f c1 c2 f1 g2 m' e3 e4 fr2 => ⟨nz0, hE c f c1 c2 f1 g2 m' e3 e4 fr2⟩) (fun v e v7 el pe _ g m cs e5 fw => ⟨nz1, hK _ U 1 sh e (by
      rw [rset_n _ _ _ _ 0 4 (Or.inr (by omega))]
      exact LI_0 hI (by omega) (Or.inl ⟨rfl, v7⟩)) (by omega) hh (by omega) el g m cs e5 fw⟩)
  rw [if_neg n5] at hG
  refine c_nm hS.1 hp hc (by omega) (fun z1 y => ⟨fun d => absurd d np1, fun _ => ?_⟩) (fun n6 => ⟨fun _ => ?_, fun d => absurd rfl d⟩)
  · rw [if_pos ⟨z1, y⟩] at hG
    exact c_readShop hS hh hp hc hG (fun c f c1 c2 f1 g2 m' e3 e4 fr2 => ⟨nz0, hE c f c1 c2 f1 g2 m' e3 e4 fr2⟩) (fun x e x7 el pe _ g m cs e5 fw => ⟨nz1, hK _ U ag 1 e (by
      rw [rset_n _ _ _ _ 0 4 (Or.inr (by omega))]
      exact LI_0 hI (by omega) (Or.inr ⟨Or.inl rfl, by omega⟩)) ha (by omega) (by omega) el g m cs e5 fw⟩)
  rw [if_neg n6] at hG
  refine c_nm hS.1 hp hc (by omega) (fun z1 y => ⟨fun d => absurd d np1, fun _ => ?_⟩) (fun n7 => ⟨fun _ => ?_, fun d => absurd rfl d⟩)
  · rw [if_pos ⟨z1, y⟩] at hG
    exact c_readOut hS hI.1 hp hc hG (fun c f c1 c2 f1 g2 m' e3 e4 fr2 => ⟨nz0, hE c f c1 c2 f1 g2 m' e3 e4 fr2⟩) (fun v e v6 el pe g m cs e5 fw => ⟨nz1, hK _ U ag sh e (by
      rw [rset_n _ _ _ _ 0 4 (Or.inr (by omega))]
      have o14 : ρ 0 14 < 2 ^ 7 := by have := hI.1.2.2.2.2.1; omega
      have := obN_lt (t := v) o14 (by omega)
      exact LI_0 hI (by omega) (Or.inr ⟨Or.inr rfl, by omega⟩)) ha hh (by omega) el g m cs e5 fw⟩)
  rw [if_neg n7] at hG
  refine c_nm hS.1 hp hc (by omega) (fun z1 y => ⟨fun d => absurd d np1, fun _ => ?_⟩) (fun n8 => ⟨fun _ => ?_, fun d => absurd rfl d⟩)
  · rw [if_pos ⟨z1, y⟩] at hG
    exact c_readGuest hS hI.1 hp hc hG (fun c f c1 c2 f1 g2 m' e3 e4 fr2 => ⟨nz0, hE c f c1 c2 f1 g2 m' e3 e4 fr2⟩) (fun w v e w6 v1 v4 el pe g m cs e5 fw => ⟨nz1, hK _ U ag sh e (by
      rw [rset_n _ _ _ _ 0 4 (Or.inl (by omega))]
      exact LI_11 hI (by omega) v4) ha hh (by omega) el g m cs e5 fw⟩)
  rw [if_neg n8] at hG
  rw [hc.2.2.1]
  exact c_refuse (c := 2) (f := 0) (fun m' k3 k4 k => ⟨nz0, hE 2 _ (by omega) (by omega) (tF_le hp).2 hG m' k3 k4 (FW_FT k (by omega))⟩)
-- the first thing used and not told
def fnT (th : Nat) : List (Nat × Nat) → Option Nat
  | [] => none
  | (t, p) :: U => if t < th then fnT th U else some p
theorem fnT_none {th : Nat} : ∀ {U : List (Nat × Nat)}, fnT th U = none → ∀ t q : Nat, (t, q) ∈ U → t < th := fun {U} => by
  induction U with
  | nil => intro _ t q h; exact absurd h (by simp)
  | cons a U ih =>
    obtain ⟨u, p⟩ := a
    intro h t q hm
    have h' : (if u < th then fnT th U else some p) = none := h
    by_cases c : u < th
    · rw [if_pos c] at h'
      rcases List.mem_cons.1 hm with y | y
      · have : t = u := congrArg Prod.fst y
        omega
      · exact ih h' t q y
    · rw [if_neg c] at h'; exact absurd h' (by simp)
theorem fnT_some {th q : Nat} : ∀ {U : List (Nat × Nat)}, U.Pairwise (fun a b => a.2 ≤ b.2) → fnT th U = some q → (∃ t : Nat, th ≤ t ∧ (t, q) ∈ U ∧ fuN U t = some q) ∧ ∀ t q' : Nat, th ≤ t → fuN U t = some q' → q ≤ q' := fun {U} => by
  induction U with
  | nil => intro _ h; exact absurd h (by simp [fnT])
  | cons a U ih =>
    obtain ⟨u, p⟩ := a
    intro hp h
    have h' : (if u < th then fnT th U else some p) = some q := h
    obtain ⟨p1, p2⟩ := List.pairwise_cons.1 hp
    by_cases c : u < th
    · rw [if_pos c] at h'
      obtain ⟨⟨t, t1, t2, t3⟩, t4⟩ := ih p2 h'
      refine ⟨⟨t, t1, List.mem_cons_of_mem _ t2, ?_⟩, fun x q' hx hq => t4 x q' hx ?_⟩
      · show (if u = t then some p else fuN U t) = some q
        rw [if_neg (by omega)]; exact t3
      · have hq' : (if u = x then some p else fuN U x) = some q' := hq
        rw [if_neg (by omega)] at hq'; exact hq'
    · rw [if_neg c] at h'
      have e := Option.some.inj h'
      refine ⟨⟨u, by omega, by rw [e]; exact List.mem_cons_self, ?_⟩, fun x q' hx hq => ?_⟩
      · show (if u = u then some p else fuN U u) = some q
        rw [if_pos rfl]; exact h'
      · have hq' : (if u = x then some p else fuN U x) = some q' := hq
        by_cases y : u = x
        · rw [if_pos y] at hq'
          have := Option.some.inj hq'
          omega
        · rw [if_neg y] at hq'
          have := p1 _ (fu_mem hq')
          show q ≤ q'
          have h2 : p ≤ q' := this
          omega
theorem fuN_none {U : List (Nat × Nat)} {x : Nat} : fuN U x = none → ∀ q : Nat, ¬ (x, q) ∈ U := by
  induction U with
  | nil => intro _ q h; exact absurd h (by simp)
  | cons a U ih =>
    obtain ⟨u, p⟩ := a
    intro h q hm
    have h' : (if u = x then some p else fuN U x) = none := h
    by_cases c : u = x
    · rw [if_pos c] at h'; exact absurd h' (by simp)
    · rw [if_neg c] at h'
      rcases List.mem_cons.1 hm with y | y
      · have : x = u := congrArg Prod.fst y
        exact c this.symm
      · exact ih h' q y
def oP (o : Option Nat) : Int32 := match o with
  | none => -1
  | some p => nI p
theorem nIm1 {p : Nat} (h : p ≤ 400) : ¬ nI p = (-1 : Int32) := fun y => by
  have y' := congrArg Int32.toInt y
  rw [m1_toInt, nI_toInt (by omega)] at y'
  omega
theorem c_findNot {th tl L : Nat} {U : List (Nat × Nat)} {μ : Mem} {Q : Mem → Prop} (h0 : μ.1 27 0 = nI th) (h6 : th ≤ 6) (hu : ∀ t : Nat, t < 6 → μ.1 39 t = oU U t) (hU : UW U tl L) (htl : tl ≤ 400) (hN : fnT th U = none → Q μ) (hS : ∀ q : Nat, fnT th U = some q → q ≤ tl → ∀ m : Mem, m.1 25 3 = nI 6 → m.1 25 4 = nI q → FT 3 μ m → Q m) : PX1_findThingNotTold 25 μ Q := by
  intro S10 h10
  have lp : ∀ k t : Nat, ∀ o : Option Nat, t + k = 6 → th ≤ t → (o = none → ∀ x : Nat, th ≤ x → x < t → fuN U x = none) → (∀ q : Nat, o = some q → (∃ x : Nat, th ≤ x ∧ x < t ∧ fuN U x = some q) ∧ ∀ x q' : Nat, th ≤ x → x < t → fuN U x = some q' → q ≤ q') → S10 (oP o) (nI t) μ := by
    intro k
    induction k with
    | zero =>
      intro t o ht hth j1 j2
      apply h10
      unfold nX1_findThingNotTold_10
      refine ⟨fun _ => ?_, fun d => absurd (nI_le (a := 6) (by omega) (by omega)) d⟩
      cases o with
      | none =>
        refine ⟨fun _ => hN ?_, fun d => absurd rfl d⟩
        cases hf : fnT th U with
        | none => rfl
        | some q =>
          obtain ⟨⟨x, x1, x2, x3⟩, _⟩ := fnT_some hU.2.1 hf
          have := j1 rfl x x1 (by have := (hU.1 _ x2).1; omega)
          rw [this] at x3
          exact absurd x3 (by simp)
      | some q =>
        obtain ⟨⟨x, x1, x2, x3⟩, x4⟩ := j2 q rfl
        have q4 := fu_le hU x3
        refine ⟨fun d => absurd d (nIm1 (by omega)), fun _ => ?_⟩
        refine c_refuse (c := 6) (f := 0) (fun m' k3 k4 k => hS q ?_ q4 m' k3 k4 k)
        cases hf : fnT th U with
        | none =>
          have := fnT_none hf _ _ (fu_mem x3)
          omega
        | some q2 =>
          obtain ⟨⟨y, y1, y2, y3⟩, y4⟩ := fnT_some hU.2.1 hf
          have a1 := y4 x q x1 x3
          have a2 := x4 y q2 y1 (by have := (hU.1 _ y2).1; omega) y3
          rw [show q2 = q by omega]
    | succ k ih =>
      intro t o ht hth j1 j2
      apply h10
      unfold nX1_findThingNotTold_10 nX1_findThingNotTold_41 nX1_findThingNotTold_48
      have e39 : μ.1 (25 + 14) t = oU U t := hu t (by omega)
      rw [nI_clamp (n := t) (by omega), e39, nI_1]
      refine ⟨fun d => absurd d (nI_ge (b := 6) (by omega) (by omega)), fun _ => ⟨vp_in_nI (by omega) (by omega), fun d => ?_, fun d => ?_⟩⟩
      · have fn : fuN U t = none := by
          cases hf : fuN U t with
          | none => rfl
          | some q =>
            have := fu_le hU hf
            unfold oU at d
            rw [hf] at d
            exact absurd d (nIm1 (by omega))
        refine ih (t + 1) o (by omega) (by omega) (fun z x h1 h2 => ?_) (fun q z => ?_)
        · by_cases y : x = t
          · rw [y]; exact fn
          · exact j1 z x h1 (by omega)
        · obtain ⟨⟨x, x1, x2, x3⟩, x4⟩ := j2 q z
          refine ⟨⟨x, x1, by omega, x3⟩, fun x' q' h1 h2 hq => ?_⟩
          by_cases y : x' = t
          · rw [y, fn] at hq; exact absurd hq (by simp)
          · exact x4 x' q' h1 (by omega) hq
      · cases hf : fuN U t with
        | none => exact absurd (show oU U t = -1 by unfold oU; rw [hf]) d
        | some q =>
          have q4 := fu_le hU hf
          have eo : oU U t = oP (some q) := by unfold oU; rw [hf]; rfl
          rw [eo]
          cases o with
          | none =>
            refine ⟨fun _ => ⟨vp_in_nI (by omega) (by omega), ih (t + 1) (some q) (by omega) (by omega) (fun z => absurd z (by simp)) (fun q2 z => ?_)⟩, fun d => absurd rfl d⟩
            have z' := Option.some.inj z
            refine ⟨⟨t, hth, by omega, by rw [← z']; exact hf⟩, fun x' q' h1 h2 hq => ?_⟩
            by_cases y : x' = t
            · rw [y, hf] at hq
              have := Option.some.inj hq
              omega
            · rw [j1 rfl x' h1 (by omega)] at hq; exact absurd hq (by simp)
          | some q1 =>
            obtain ⟨⟨x, x1, x2, x3⟩, x4⟩ := j2 q1 rfl
            have q14 := fu_le hU x3
            refine ⟨fun d => absurd d (nIm1 (by omega)), fun _ => ⟨vp_in_nI (by omega) (by omega), fun d2 => ?_, fun d2 => ?_⟩⟩
            · have le : q1 ≤ q := (nI_leI (by omega) (by omega)).1 d2
              refine ih (t + 1) (some q1) (by omega) (by omega) (fun z => absurd z (by simp)) (fun q2 z => ?_)
              have z' := Option.some.inj z
              rw [← z']
              refine ⟨⟨x, x1, by omega, x3⟩, fun x' q' h1 h2 hq => ?_⟩
              by_cases y : x' = t
              · rw [y, hf] at hq
                have := Option.some.inj hq
                omega
              · exact x4 x' q' h1 (by omega) hq
            · have le : ¬ q1 ≤ q := fun z => d2 (nI_le z (by omega))
              refine ⟨vp_in_nI (by omega) (by omega), ih (t + 1) (some q) (by omega) (by omega) (fun z => absurd z (by simp)) (fun q2 z => ?_)⟩
              have z' := Option.some.inj z
              rw [← z']
              refine ⟨⟨t, hth, by omega, hf⟩, fun x' q' h1 h2 hq => ?_⟩
              by_cases y : x' = t
              · rw [y, hf] at hq
                have := Option.some.inj hq
                omega
              · have := x4 x' q' h1 (by omega) hq
                omega
  have h0' : μ.1 (25 + 2) 0 = nI th := h0
  rw [h0']
  exact lp (6 - th) th none (by omega) (Nat.le_refl _) (fun _ x h1 h2 => by omega) (fun q z => absurd z (by simp))
noncomputable def fLines {R : Type} (tl : Nat) (tp : Nat → Nat) (E : Nat → Nat → R) (K : RA → Nat → R) : Nat → RA → List (Nat × Nat) → Nat → Nat → Nat → Nat → R
  | 0, ρ, _, _, _, k, _ => K ρ k
  | n + 1, ρ, U, ag, sh, k, p => fTok tl tp p E (if tS tl tp p = 0 then (optR (fnT (ρ 0 0) U) (K ρ k) (fun q => E 6 q)) else fLine tl tp E (fun ρ' U' ag' sh' e => fLines tl tp E K n ρ' U' ag' sh' (k + 1) e) ρ U ag sh p)
theorem LI_rho0 : LI rho0 [] 0 0 := by
  have z : ∀ f i : Nat, f ≠ 0 → rho0 f i = 0 := fun f i h => if_neg (fun y => h y.1)
  have z0 : ∀ i : Nat, i ≠ 13 → rho0 0 i = 0 := fun i h => if_neg (fun y => h y.2)
  refine ⟨⟨by rw [z0 0 (by omega)]; omega, by rw [z0 4 (by omega)]; omega, by rw [z0 12 (by omega)]; omega, by show (127 : Nat) ≤ 127; omega, by rw [z0 14 (by omega)]; omega, fun t ht => ?_, fun s => ?_, fun s _ => ?_, fun i => ?_, fun i _ => ?_, fun w _ => ?_⟩, ⟨fun s _ => z 8 s (by omega), fun s t _ _ => z 9 _ (by omega)⟩, by rw [z0 4 (by omega)]; omega, ⟨fun x hx => absurd hx (by simp), List.Pairwise.nil, Nat.le_refl _⟩, fun s t _ hn => absurd (z 9 _ (by omega)) hn⟩
  · rw [z0 0 (by omega)] at ht; omega
  · rw [z 4 s (by omega), z 5 s (by omega), z 6 s (by omega), z 7 s (by omega), z 8 s (by omega)]; omega
  · rw [z 4 s (by omega), z 5 s (by omega), z 6 s (by omega), z 7 s (by omega), z 8 s (by omega)]; omega
  · rw [z 9 i (by omega), z 10 i (by omega)]; omega
  · rw [z 9 i (by omega), z 10 i (by omega)]; omega
  · rw [z 11 w (by omega)]; omega
theorem c_begin {tl : Nat} {tp : Nat → Nat} {μ : Mem} {Q : Mem → Prop} (hT : TC μ tl tp) (h : ∀ m : Mem, CS tl tp m rho0 [] 0 0 → m.1 25 5 = nI 0 → FW μ m → Q m) : PX1_begin 25 μ Q := by
  intro S22 h22 m1 hm1 m2 hm2
  have o : ∀ a j : Nat, (a = 25 → j < 3 ∨ 10 < j) → m2.1 a j = μ.1 a j := fun a j z => by
    subst hm2; subst hm1
    by_cases y : a = 25
    · have := z y
      simp (disch := omega) only [ms_1, if_pos y, if_neg]
    · simp only [ms_1, if_neg y]
  have v : m2.1 25 5 = nI 0 ∧ m2.1 25 3 = 0 ∧ m2.1 25 9 = nI 0 ∧ m2.1 25 10 = nI 0 := by
    subst hm2; subst hm1
    exact ⟨rfl, rfl, rfl, rfl⟩
  obtain ⟨v1, v2, v3, v4⟩ := v
  have lp : ∀ i m, i ≤ 6 → ((∀ a j : Nat, a ≠ 39 → m.1 a j = m2.1 a j) ∧ (∀ w : Nat, w < i → m.1 39 w = -1)) → S22 (nI i) m := by
    refine up_loop ?_ ?_
    · intro i m hi ⟨b1, b2⟩ ih
      apply h22
      unfold nX1_begin_22
      rw [nI_clamp (by omega), nI_1]
      refine ⟨fun d => absurd d (nI_ge (b := 6) hi (by omega)), fun _ => ⟨vp_in_nI (by omega) (by omega), ih _ ⟨fun a j z => ?_, fun w hw => ?_⟩⟩⟩
      · rw [ms_1, if_neg (by omega)]; exact b1 a j z
      · rw [ms_1, if_pos rfl]
        by_cases z : w = i
        · rw [if_pos z]
        · rw [if_neg z]; exact b2 w (by omega)
    · intro m ⟨b1, b2⟩
      apply h22
      unfold nX1_begin_22
      refine ⟨fun _ => c_rreset (b := 25 + 2) (fun m4 hr f => ?_), fun d => absurd (nI_le (a := 6) (b := 6) (by omega) (by omega)) d⟩
      have fo : ∀ a j : Nat, (a < 27 ∨ 39 ≤ a) → m4.1 a j = m.1 a j := fun a j z => f.1 a (by omega) j
      have fw : FW μ m4 := fun a j z1 z2 => by rw [fo a j (by omega), b1 a j (by omega)]; exact o a j z1
      refine h m4 ⟨TC_FW hT fw, hr, ?_, ?_, fun t ht => ?_, ?_⟩ ?_ fw
      · rw [fo _ _ (by omega), b1 _ _ (by omega)]; exact v3
      · rw [fo _ _ (by omega), b1 _ _ (by omega)]; exact v4
      · rw [fo _ _ (by omega), b2 t ht]; rfl
      · rw [fo _ _ (by omega), b1 _ _ (by omega)]; exact v2
      · rw [fo _ _ (by omega), b1 _ _ (by omega)]; exact v1
  exact lp 0 m2 (by omega) ⟨fun _ _ _ => rfl, fun w hw => absurd hw (Nat.not_lt_zero _)⟩
theorem c_readTape {R : Type} {G : R → Prop} {E : Nat → Nat → R} {K : RA → Nat → R} {tl : Nat} {tp : Nat → Nat} {μ : Mem} {Q : Int32 → Mem → Prop} (hT : TC μ tl tp) (hG : G (fLines tl tp E K 401 rho0 [] 0 0 0 0))
    (hE : ∀ c f : Nat, 1 ≤ c → c ≤ 6 → f ≤ tl → G (E c f) → ∀ (x : Int32) (m : Mem), m.1 25 3 = nI c → m.1 25 4 = nI f → FW μ m → Q x m)
    (hK : ∀ (ρ : RA) (U : List (Nat × Nat)) (k p L : Nat), LI ρ U p L → fnT (ρ 0 0) U = none → k ≤ 400 → G (K ρ k) → ∀ m : Mem, CR m 27 ρ → m.1 25 3 = 0 → FW μ m → Q (nI k) m) : PX1_readTape 25 μ Q := by
  have htl := hT.2.1
  intro S8 h8
  refine c_begin hT (fun m1 cs e5 fw => ?_)
  have lp : ∀ (n : Nat) (ρ : RA) (U : List (Nat × Nat)) (ag sh k p : Nat) (m : Mem), 401 ≤ n + p → n + k = 401 → p ≤ tl → LI ρ U p (14 * ρ 0 4) → ag ≤ 1 → sh ≤ 1 → G (fLines tl tp E K n ρ U ag sh k p) → CS tl tp m ρ U ag sh → m.1 25 5 = nI p → FW μ m → S8 (nI k) (nI k) m := by
    intro n
    induction n with
    | zero => intro ρ U ag sh k p m h1 h2 h3; omega
    | succ n ih =>
      intro ρ U ag sh k p m h1 h2 hp li ha hh g cs e5 fw
      apply h8
      unfold nX1_readTape_8 nX1_readTape_48
      unfold fLines at g
      refine ⟨fun d => absurd d (nI_nlt (a := 400) (by omega) (by omega)), fun _ => ?_⟩
      have er : ∀ c f : Nat, 1 ≤ c → c ≤ 6 → f ≤ tl → G (E c f) → ∀ m' : Mem, m'.1 25 3 = nI c → m'.1 25 4 = nI f → FW μ m' → (¬ (m'.1 25 3) = 0 → Q (nI k) m') ∧ ((m'.1 25 3) = 0 → PX1_findThingNotTold 25 m' (fun (m12 : Mem) => Q (nI k) m12)) := fun c f c1 c2 f1 g2 m' e3 e4 fw2 => ⟨fun _ => hE c f c1 c2 f1 g2 _ m' e3 e4 fw2, fun d => absurd (show nI c = 0 by rw [← e3]; exact d) (nI_ne0 (by omega) (by omega))⟩
      refine c_tok cs.1 hp e5 g (fun c f c1 c2 f1 g m' e3 e4 fr => ⟨fun _ => er c f c1 c2 f1 g m' e3 e4 (FW_trans fw (FW_FT fr (by omega))), fun d => absurd rfl d⟩) (fun g m1 ct1 fr1 => ⟨fun d => absurd d np1, fun _ => ?_⟩)
      have s1 := CS_FT cs fr1
      have w1 := FW_trans fw (FW_FT fr1 (by omega))
      have e0 : m1.1 25 6 = (0 : Int32) ↔ tS tl tp p = 0 := CT_eq (x := 0) ct1 (by omega)
      rw [e0]
      refine ⟨fun z => ?_, fun z => ?_⟩
      · rw [if_pos z] at g
        refine ⟨fun d => absurd s1.2.2.2.2.2 d, fun _ => ?_⟩
        refine c_findNot (th := ρ 0 0) s1.2.1.1 li.1.1 s1.2.2.2.2.1 (UW_mono li.2.2.2.1 hp (Nat.le_refl _)) htl (fun hN => ?_) (fun q hq ql m' e3 e4 fr => ?_)
        · rw [hN] at g
          exact hK ρ U k p _ li hN (by omega) g m1 s1.2.1 s1.2.2.2.2.2 w1
        · rw [hq] at g
          exact hE 6 q (by omega) (by omega) ql g _ m' e3 e4 (FW_trans w1 (FW_FT fr (by omega)))
      · rw [if_neg z] at g
        refine c_readLine s1 li ha hh hp ct1 g (fun c f c1 c2 f1 g2 m' e3 e4 fr2 => ⟨fun d => absurd rfl d, fun _ => er c f c1 c2 f1 g2 m' e3 e4 (FW_trans w1 fr2)⟩) (fun ρ' U' ag' sh' e li' ha' hh' pe el g' m' cs' e5' fw' => ⟨fun _ => ?_, fun d => absurd d np1⟩)
        rw [nI_1]
        exact ih ρ' U' ag' sh' (k + 1) e m' (by omega) (by omega) el li' ha' hh' g' cs' e5' (FW_trans w1 fw')
  exact lp 401 rho0 [] 0 0 0 0 m1 (by omega) (by omega) (by omega) (LI_mono LI_rho0 (Nat.le_refl _) (by omega)) (by omega) (by omega) hG cs e5 fw
