theorem fuN_app (U : List (Nat × Nat)) (t f x : Nat) : fuN (U ++ [(t, f)]) x = match fuN U x with
    | some p => some p
    | none => if t = x then some f else none := by
  induction U with
  | nil => rfl
  | cons a U ih =>
    obtain ⟨u, p⟩ := a
    show (if u = x then some p else fuN (U ++ [(t, f)]) x) = match (if u = x then some p else fuN U x) with
      | some p => some p
      | none => if t = x then some f else none
    by_cases c : u = x
    · rw [if_pos c, if_pos c]
    · rw [if_neg c, if_neg c]; exact ih
theorem c_noteUse {t f : Nat} {U : List (Nat × Nat)} {μ : Mem} {Q : Mem → Prop} (ht : t < 6) (hu : ∀ x : Nat, x < 6 → μ.1 39 x = oU U x) (hub : ∀ x p : Nat, fuN U x = some p → p ≤ 400) (h7 : μ.1 25 7 = nI f) (h : ∀ m : Mem, (∀ x : Nat, x < 6 → m.1 39 x = oU (U ++ [(t, f)]) x) → (∀ a j : Nat, a ≠ 39 → m.1 a j = μ.1 a j) → Q m) : PX1_noteUse 25 (nI t) μ Q := by
  unfold PX1_noteUse
  rw [nI_clamp (n := t) (by omega)]
  have e : μ.1 (25 + 14) t = oU U t := hu t ht
  rw [e, h7]
  have key : ∀ x : Nat, x ≠ t ∨ fuN U x ≠ none → oU (U ++ [(t, f)]) x = oU U x := fun x hx => by
    unfold oU
    rw [fuN_app]
    cases hq : fuN U x with
    | some p => rfl
    | none =>
      have : ¬ t = x := fun y => by
        rcases hx with z | z
        · exact z y.symm
        · exact z hq
      show (match (if t = x then some f else none) with
        | none => (-1 : Int32)
        | some p => nI p) = -1
      rw [if_neg this]
  refine ⟨vp_in_nI (by omega) (by omega), fun d => ?_, fun d => ⟨vp_in_nI (by omega) (by omega), ?_⟩⟩
  · refine h μ (fun x hx => ?_) (fun _ _ _ => rfl)
    rw [hu x hx]
    refine (key x ?_).symm
    by_cases y : x = t
    · right
      intro z
      apply d
      unfold oU
      rw [← y, z]
    · exact Or.inl y
  · have hn : fuN U t = none := by
      cases hq : fuN U t with
      | none => rfl
      | some p =>
        have := hub t p hq
        unfold oU at d
        rw [hq] at d
        exact absurd d (fun y => by
          have y' := congrArg Int32.toInt y
          rw [m1_toInt] at y'
          have y2 : (nI p).toInt = -1 := y'
          rw [nI_toInt (by omega)] at y2
          omega)
    refine h _ (fun x hx => ?_) (fun a j z => by rw [ms_1, if_neg (by omega)])
    rw [ms_1, if_pos rfl]
    by_cases y : x = t
    · rw [if_pos y, y]
      unfold oU
      rw [fuN_app, hn]
      show nI f = match (if t = t then some f else none) with
        | none => (-1 : Int32)
        | some p => nI p
      rw [if_pos rfl]
    · rw [if_neg y, key x (Or.inl y)]; exact hu x hx
