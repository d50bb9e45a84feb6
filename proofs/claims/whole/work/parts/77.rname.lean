theorem r_w3 {tl f e s c0 c1 c2 : Nat} {tp : Nat → Nat} {μ : Mem} {N R : Mem → Prop} (hT : TR μ tl tp) (h27 : μ.1 100 27 = nI e) (h28 : μ.1 100 28 = nI f) (hfe : f ≤ e) (hel : e ≤ tl) (hn : wdN s = 3) (e0 : wdC s 0 = c0) (e1 : wdC s 1 = c1) (e2 : wdC s 2 = c2) (hc : c0 < 200 ∧ c1 < 200 ∧ c2 < 200) (hN : ¬ isWd tp s f e → N μ) (hR : isWd tp s f e → R μ) : PX7_is 100 (nI 3) (nI c0) (nI c1) (nI c2) (nI 0) μ (fun r2 m1 => (r2 = 0 → N m1) ∧ (¬ r2 = 0 → R m1)) := by
  refine r_is hT h27 h28 hfe hel (by omega) (by omega) hc.1 hc.2.1 hc.2.2 (by omega) (fun a b0 b1 b2 b3 => ⟨fun d => absurd d np1, fun _ => ?_⟩) (fun d => ⟨fun _ => ?_, fun d => absurd rfl d⟩)
  · exact hR ((wd_3 hn).2 ⟨a, b0.trans e0.symm, b1.trans e1.symm, b2.trans e2.symm⟩)
  · refine hN (fun z => d ?_)
    obtain ⟨z1, z2, z3, z4⟩ := (wd_3 hn).1 z
    exact ⟨z1, z2.trans e0, z3.trans e1, z4.trans e2, fun y => absurd y (by omega)⟩
theorem r_w4 {tl f e s c0 c1 c2 c3 : Nat} {tp : Nat → Nat} {μ : Mem} {N R : Mem → Prop} (hT : TR μ tl tp) (h27 : μ.1 100 27 = nI e) (h28 : μ.1 100 28 = nI f) (hfe : f ≤ e) (hel : e ≤ tl) (hn : wdN s = 4) (e0 : wdC s 0 = c0) (e1 : wdC s 1 = c1) (e2 : wdC s 2 = c2) (e3 : wdC s 3 = c3) (hc : c0 < 200 ∧ c1 < 200 ∧ c2 < 200 ∧ c3 < 200) (hN : ¬ isWd tp s f e → N μ) (hR : isWd tp s f e → R μ) : PX7_is 100 (nI 4) (nI c0) (nI c1) (nI c2) (nI c3) μ (fun r2 m1 => (r2 = 0 → N m1) ∧ (¬ r2 = 0 → R m1)) := by
  refine r_is hT h27 h28 hfe hel (by omega) (by omega) hc.1 hc.2.1 hc.2.2.1 hc.2.2.2 (fun a b0 b1 b2 b3 => ⟨fun d => absurd d np1, fun _ => ?_⟩) (fun d => ⟨fun _ => ?_, fun d => absurd rfl d⟩)
  · exact hR ((wd_4 hn).2 ⟨a, b0.trans e0.symm, b1.trans e1.symm, b2.trans e2.symm, (b3 (by omega)).trans e3.symm⟩)
  · refine hN (fun z => d ?_)
    obtain ⟨z1, z2, z3, z4, z5⟩ := (wd_4 hn).1 z
    exact ⟨z1, z2.trans e0, z3.trans e1, z4.trans e2, fun _ => z5.trans e3⟩
theorem r_w5 {tl f e s c0 c1 c2 c3 c4 : Nat} {tp : Nat → Nat} {μ : Mem} {N R : Mem → Prop} (hT : TR μ tl tp) (h27 : μ.1 100 27 = nI e) (h28 : μ.1 100 28 = nI f) (hfe : f ≤ e) (hel : e ≤ tl) (hn : wdN s = 5) (e0 : wdC s 0 = c0) (e1 : wdC s 1 = c1) (e2 : wdC s 2 = c2) (e3 : wdC s 3 = c3) (e4 : wdC s 4 = c4) (hc : c0 < 200 ∧ c1 < 200 ∧ c2 < 200 ∧ c3 < 200 ∧ c4 < 200) (hN : ¬ isWd tp s f e → N μ) (hR : isWd tp s f e → R μ) : PX7_is 100 (nI 5) (nI c0) (nI c1) (nI c2) (nI c3) μ (fun r2 m1 => (r2 = 0 → N m1) ∧ (¬ r2 = 0 → PX7_goesOn 100 (nI c4) (nI 0) m1 (fun r5 m4 => (r5 = 0 → N m4) ∧ (¬ r5 = 0 → R m4)))) := by
  refine r_is hT h27 h28 hfe hel (by omega) (by omega) hc.1 hc.2.1 hc.2.2.1 hc.2.2.2.1 (fun a b0 b1 b2 b3 => ⟨fun d => absurd d np1, fun _ => ?_⟩) (fun d => ⟨fun _ => ?_, fun d => absurd rfl d⟩)
  · refine r_goesOn hT h28 hel (by omega) (fun z => absurd rfl z) hc.2.2.2.2 (by omega) (fun b4 _ => ⟨fun d => absurd d np1, fun _ => ?_⟩) (fun d => ⟨fun _ => ?_, fun d => absurd rfl d⟩)
    · exact hR ((wd_5 hn).2 ⟨a, b0.trans e0.symm, b1.trans e1.symm, b2.trans e2.symm, (b3 (by omega)).trans e3.symm, b4.trans e4.symm⟩)
    · refine hN (fun z => d ?_)
      obtain ⟨z1, z2, z3, z4, z5, z6⟩ := (wd_5 hn).1 z
      exact ⟨z6.trans e4, fun y => absurd rfl y⟩
  · refine hN (fun z => d ?_)
    obtain ⟨z1, z2, z3, z4, z5, z6⟩ := (wd_5 hn).1 z
    exact ⟨z1, z2.trans e0, z3.trans e1, z4.trans e2, fun _ => z5.trans e3⟩
theorem r_w6 {tl f e s c0 c1 c2 c3 c4 c5 : Nat} {tp : Nat → Nat} {μ : Mem} {N R : Mem → Prop} (hT : TR μ tl tp) (h27 : μ.1 100 27 = nI e) (h28 : μ.1 100 28 = nI f) (hfe : f ≤ e) (hel : e ≤ tl) (hn : wdN s = 6) (e0 : wdC s 0 = c0) (e1 : wdC s 1 = c1) (e2 : wdC s 2 = c2) (e3 : wdC s 3 = c3) (e4 : wdC s 4 = c4) (e5 : wdC s 5 = c5) (hc : c0 < 200 ∧ c1 < 200 ∧ c2 < 200 ∧ c3 < 200 ∧ c4 < 200 ∧ c5 < 200 ∧ c5 ≠ 0) (hN : ¬ isWd tp s f e → N μ) (hR : isWd tp s f e → R μ) : PX7_is 100 (nI 6) (nI c0) (nI c1) (nI c2) (nI c3) μ (fun r2 m1 => (r2 = 0 → N m1) ∧ (¬ r2 = 0 → PX7_goesOn 100 (nI c4) (nI c5) m1 (fun r5 m4 => (r5 = 0 → N m4) ∧ (¬ r5 = 0 → R m4)))) := by
  refine r_is hT h27 h28 hfe hel (by omega) (by omega) hc.1 hc.2.1 hc.2.2.1 hc.2.2.2.1 (fun a b0 b1 b2 b3 => ⟨fun d => absurd d np1, fun _ => ?_⟩) (fun d => ⟨fun _ => ?_, fun d => absurd rfl d⟩)
  · refine r_goesOn hT h28 hel (by omega) (fun z => by omega) hc.2.2.2.2.1 hc.2.2.2.2.2.1 (fun b4 b5 => ⟨fun d => absurd d np1, fun _ => ?_⟩) (fun d => ⟨fun _ => ?_, fun d => absurd rfl d⟩)
    · exact hR ((wd_6 hn).2 ⟨a, b0.trans e0.symm, b1.trans e1.symm, b2.trans e2.symm, (b3 (by omega)).trans e3.symm, b4.trans e4.symm, (b5 hc.2.2.2.2.2.2).trans e5.symm⟩)
    · refine hN (fun z => d ?_)
      obtain ⟨z1, z2, z3, z4, z5, z6, z7⟩ := (wd_6 hn).1 z
      exact ⟨z6.trans e4, fun _ => z7.trans e5⟩
  · refine hN (fun z => d ?_)
    obtain ⟨z1, z2, z3, z4, z5, z6, z7⟩ := (wd_6 hn).1 z
    exact ⟨z1, z2.trans e0, z3.trans e1, z4.trans e2, fun _ => z5.trans e3⟩
/-- the reference's number of word s -/
def wdR (s : Nat) : Nat := ([10, 0, 1, 2, 3, 11, 12, 13, 14, 15, 16, 17] : List Nat).getD s 0
theorem r_nameNow {tl f e : Nat} {tp : Nat → Nat} {μ : Mem} {Q : Int32 → Mem → Prop} (hT : TR μ tl tp) (h27 : μ.1 100 27 = nI e) (h28 : μ.1 100 28 = nI f) (hfe : f ≤ e) (hel : e ≤ tl) (h : ∀ s : Nat, s < 12 → isWd tp s f e → Q (nI (wdR s)) μ) (h0 : (∀ s : Nat, s < 12 → ¬ isWd tp s f e) → Q (-4) μ) : PX7_nameNow 100 μ Q := by
  unfold PX7_nameNow
  refine r_w5 (s := 0) (c0 := 116) (c1 := 104) (c2 := 105) (c3 := 110) (c4 := 103) hT h27 h28 hfe hel rfl rfl rfl rfl rfl rfl (by decide) (fun n0 => ?_) (fun y => h 0 (by omega) y)
  unfold nX7_nameNow_29
  refine r_w5 (s := 1) (c0 := 102) (c1 := 105) (c2 := 114) (c3 := 115) (c4 := 116) hT h27 h28 hfe hel rfl rfl rfl rfl rfl rfl (by decide) (fun n1 => ?_) (fun y => h 1 (by omega) y)
  unfold nX7_nameNow_57
  refine r_w6 (s := 2) (c0 := 115) (c1 := 101) (c2 := 99) (c3 := 111) (c4 := 110) (c5 := 100) hT h27 h28 hfe hel rfl rfl rfl rfl rfl rfl rfl (by decide) (fun n2 => ?_) (fun y => h 2 (by omega) y)
  unfold nX7_nameNow_87
  refine r_w5 (s := 3) (c0 := 102) (c1 := 101) (c2 := 97) (c3 := 115) (c4 := 116) hT h27 h28 hfe hel rfl rfl rfl rfl rfl rfl (by decide) (fun n3 => ?_) (fun y => h 3 (by omega) y)
  unfold nX7_nameNow_115
  refine r_w3 (s := 4) (c0 := 97) (c1 := 110) (c2 := 121) hT h27 h28 hfe hel rfl rfl rfl rfl (by decide) (fun n4 => ?_) (fun y => h 4 (by omega) y)
  refine r_w5 (s := 5) (c0 := 97) (c1 := 103) (c2 := 97) (c3 := 105) (c4 := 110) hT h27 h28 hfe hel rfl rfl rfl rfl rfl rfl (by decide) (fun n5 => ?_) (fun y => h 5 (by omega) y)
  unfold nX7_nameNow_161
  refine r_w4 (s := 6) (c0 := 115) (c1 := 104) (c2 := 111) (c3 := 112) hT h27 h28 hfe hel rfl rfl rfl rfl rfl (by decide) (fun n6 => ?_) (fun y => h 6 (by omega) y)
  refine r_w3 (s := 7) (c0 := 111) (c1 := 117) (c2 := 116) hT h27 h28 hfe hel rfl rfl rfl rfl (by decide) (fun n7 => ?_) (fun y => h 7 (by omega) y)
  refine r_w5 (s := 8) (c0 := 103) (c1 := 117) (c2 := 101) (c3 := 115) (c4 := 116) hT h27 h28 hfe hel rfl rfl rfl rfl rfl rfl (by decide) (fun n8 => ?_) (fun y => h 8 (by omega) y)
  unfold nX7_nameNow_227
  refine r_w6 (s := 9) (c0 := 108) (c1 := 101) (c2 := 97) (c3 := 118) (c4 := 101) (c5 := 115) hT h27 h28 hfe hel rfl rfl rfl rfl rfl rfl rfl (by decide) (fun n9 => ?_) (fun y => h 9 (by omega) y)
  unfold nX7_nameNow_258
  refine r_w4 (s := 10) (c0 := 108) (c1 := 105) (c2 := 107) (c3 := 101) hT h27 h28 hfe hel rfl rfl rfl rfl rfl (by decide) (fun n10 => ?_) (fun y => h 10 (by omega) y)
  refine r_w4 (s := 11) (c0 := 119) (c1 := 111) (c2 := 110) (c3 := 116) hT h27 h28 hfe hel rfl rfl rfl rfl rfl (by decide) (fun n11 => ?_) (fun y => h 11 (by omega) y)
  refine h0 (fun s hs => ?_)
  rcases (show s = 0 ∨ s = 1 ∨ s = 2 ∨ s = 3 ∨ s = 4 ∨ s = 5 ∨ s = 6 ∨ s = 7 ∨ s = 8 ∨ s = 9 ∨ s = 10 ∨ s = 11 by omega) with rfl | rfl | rfl | rfl | rfl | rfl | rfl | rfl | rfl | rfl | rfl | rfl <;> assumption
