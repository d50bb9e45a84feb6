-- the names of a text
def wdL (s : Nat) : List Nat := ([[116, 104, 105, 110, 103], [102, 105, 114, 115, 116], [115, 101, 99, 111, 110, 100], [102, 101, 97, 115, 116], [97, 110, 121], [97, 103, 97, 105, 110], [115, 104, 111, 112], [111, 117, 116], [103, 117, 101, 115, 116], [108, 101, 97, 118, 101, 115], [108, 105, 107, 101], [119, 111, 110, 116]] : List (List Nat)).getD s []
def wdC (s i : Nat) : Nat := (wdL s).getD i 0
def wdN (s : Nat) : Nat := sLen.getD s 0
/-- word s stands from f to e -/
def isWd (tp : Nat → Nat) (s f e : Nat) : Prop := e - f = wdN s ∧ ∀ i : Nat, i < wdN s → tp (f + i) = wdC s i
theorem wd_c : ∀ s : Nat, s < 12 → wdN s ≤ 6 ∧ 3 ≤ wdN s ∧ ∀ i : Nat, i < wdN s → wdC s i < 128 ∧ (((((sByt.getD s []).getD (nI i).toNatClampNeg 0) &&& ((255 : Int32))).toUInt32 % 65536).toInt32) = nI (wdC s i) := by decide +kernel
theorem nar_ch : ∀ v : Nat, v < 128 → narrow .char (.int (nI v)) = .int (nI v) := by
  intro v hv
  have h : ∀ w : Nat, w < 128 → ((nI w).toUInt32 % 65536).toInt32 = nI w := by decide +kernel
  have := h v hv
  first
  | rfl
  | (unfold narrow; simp [this])
  | (simp [narrow, this])
theorem c_len {s : Nat} {μ : Mem} {Q : Int32 → Mem → Prop} (h : Q (nI (wdN s)) μ) : PJ0_length_8abf5 s μ Q := by
  unfold PJ0_length_8abf5 PJ0_coder_7d493
  refine ⟨fun d => absurd d np1, fun _ => ?_⟩
  have e : nI (sLen.getD s 0) >>> ((0 : Int32) &&& 31) = nI (wdN s) := by
    rw [show (0 : Int32) &&& 31 = 0 by decide]
    exact Int32.shiftRight_zero
  show Q (nI (sLen.getD s 0) >>> ((0 : Int32) &&& 31)) μ
  rw [e]; exact h
theorem c_charAt {s i : Nat} {μ : Mem} {Q : Int32 → Mem → Prop} (hs : s < 12) (hi : i < wdN s) (h : Q (nI (wdC s i)) μ) : PJ0_charAt_5068e s (nI i) μ Q := by
  obtain ⟨w1, w2, w3⟩ := wd_c s hs
  obtain ⟨w4, w5⟩ := w3 i hi
  have hn := nar_ch (wdC s i) w4
  unfold PJ0_charAt_5068e PJ0_isLatin1_aae02 nJ0_isLatin1_aae02_17 PJ1_charAt_3b067 PJ0_checkIndex_df160 PJ3_checkIndex_8e157
  refine ⟨fun d => absurd d np1, fun _ => ⟨fun d => absurd rfl d, fun _ => ⟨fun d => absurd d np1, fun _ => ⟨fun d => absurd d (nI_pos (by omega)), fun _ => ⟨fun _ => ⟨?_, ?_, ?_, ?_⟩, fun d => absurd (show nI i < nI (sLen.getD s 0) from nI_lt hi (by show wdN s < _; omega)) d⟩⟩⟩⟩⟩
  · exact vp_in_nI hi (by show wdN s < _; omega)
  · rw [w5]; exact hn
  · rw [w5]; exact hn
  · rw [w5]; exact h
theorem c_isName {tl s f e srt : Nat} {tp : Nat → Nat} {μ : Mem} {Q : Int32 → Mem → Prop} (hT : TC μ tl tp) (hs : s < 12) (h5 : μ.1 25 5 = nI e) (h6 : μ.1 25 6 = nI srt) (h7 : μ.1 25 7 = nI f) (hsr : srt < 5) (hfe : f ≤ e) (hel : e ≤ tl) (h1 : srt = 1 → isWd tp s f e → Q 1 μ) (h0 : ¬ (srt = 1 ∧ isWd tp s f e) → Q 0 μ) : PX1_isName 25 s μ Q := by
  obtain ⟨ht1, ht2, ht3⟩ := hT
  obtain ⟨w1, w2, w3⟩ := wd_c s hs
  intro S28 h28
  rw [h6, h5, h7, pk_sub hfe]
  refine ⟨fun d => h0 (fun z => d (by rw [z.1]; rfl)), fun d => c_len ⟨fun z => ?_, fun z => h0 (fun y => z (by rw [y.2.1]))⟩⟩
  have d' : nI srt = nI 1 := d
  rw [nI_eq (by omega) (by omega)] at d' z
  have lp : ∀ i m, i ≤ wdN s → (m = μ ∧ ∀ j : Nat, j < i → tp (f + j) = wdC s j) → S28 (nI i) m := by
    refine up_loop ?_ ?_
    · intro i m hi ⟨b1, b2⟩ ih
      rw [b1]
      apply h28
      unfold nX1_isName_28
      obtain ⟨t1, t2⟩ := ht3 (f + i) (by omega)
      have e26 : μ.1 (25 + 1) (f + i) = sg (tp (f + i)) := t2
      obtain ⟨w4, w5⟩ := w3 i hi
      refine c_len ⟨fun y => absurd y (nI_ge hi (by omega)), fun _ => ?_⟩
      rw [h7, nI_add, nI_clamp (n := f + i) (by omega), e26]
      refine ⟨vp_in_nI (by omega) (by omega), c_charAt hs hi ?_⟩
      rw [sg_eq t1 w4, nI_1]
      refine ⟨fun y => ih μ ⟨rfl, fun j hj => ?_⟩, fun y => h0 (fun x => y (x.2.2 i hi))⟩
      by_cases x : j = i
      · rw [x]; exact y
      · exact b2 j (by omega)
    · intro m ⟨b1, b2⟩
      rw [b1]
      apply h28
      unfold nX1_isName_28
      exact c_len ⟨fun _ => h1 d' ⟨z, b2⟩, fun y => absurd (nI_le (by omega) (by omega)) y⟩
  exact lp 0 μ (by omega) ⟨rfl, fun j hj => absurd hj (Nat.not_lt_zero _)⟩
theorem r_is {tl n f e c0 c1 c2 c3 : Nat} {tp : Nat → Nat} {μ : Mem} {Q : Int32 → Mem → Prop} (hT : TR μ tl tp) (h27 : μ.1 100 27 = nI e) (h28 : μ.1 100 28 = nI f) (hfe : f ≤ e) (hel : e ≤ tl) (hn : 3 ≤ n) (hn6 : n ≤ 6) (hc0 : c0 < 200) (hc1 : c1 < 200) (hc2 : c2 < 200) (hc3 : c3 < 200) (h1 : e - f = n → tp f = c0 → tp (f + 1) = c1 → tp (f + 2) = c2 → (4 ≤ n → tp (f + 3) = c3) → Q 1 μ) (h0 : ¬ (e - f = n ∧ tp f = c0 ∧ tp (f + 1) = c1 ∧ tp (f + 2) = c2 ∧ (4 ≤ n → tp (f + 3) = c3)) → Q 0 μ) : PX7_is 100 (nI n) (nI c0) (nI c1) (nI c2) (nI c3) μ Q := by
  have htl := hT.2.1
  unfold PX7_is nX7_is_74 nX7_is_78
  rw [h27, h28, pk_sub hfe, nI_eq (by omega) (by omega)]
  refine ⟨fun d => h0 (fun z => d z.1), fun d => ?_⟩
  refine r_look hT (by omega) (fun _ t0 => ?_) (fun z => absurd z (by omega))
  rw [nI_eq (by omega) (by omega), h28, show (1 : Int32) = nI 1 from rfl, nI_add]
  refine ⟨fun z => h0 (fun y => z y.2.1), fun z0 => ?_⟩
  refine r_look hT (by omega) (fun _ t1 => ?_) (fun z => absurd z (by omega))
  rw [nI_eq (by omega) (by omega), h28, show (2 : Int32) = nI 2 from rfl, nI_add]
  refine ⟨fun z => h0 (fun y => z y.2.2.1), fun z1 => ?_⟩
  refine r_look hT (by omega) (fun _ t2 => ?_) (fun z => absurd z (by omega))
  rw [nI_eq (by omega) (by omega), h28, show (3 : Int32) = nI 3 from rfl, nI_add, show (4 : Int32) = nI 4 from rfl]
  refine ⟨fun z => h0 (fun y => z y.2.2.2.1), fun z2 => ⟨fun z => h1 d z0 z1 z2 (fun y => absurd z (nI_nlt (by omega) (by omega))), fun z => ?_⟩⟩
  have hn4 : 4 ≤ n := by
    by_cases y : n < 4
    · exact absurd (nI_lt y (by omega)) z
    · omega
  refine r_look hT (by omega) (fun _ t3 => ?_) (fun z => absurd z (by omega))
  rw [nI_eq (by omega) (by omega)]
  exact ⟨fun z => h0 (fun y => z (y.2.2.2.2 hn4)), fun z3 => h1 d z0 z1 z2 (fun _ => z3)⟩
theorem r_goesOn {tl f e c4 c5 : Nat} {tp : Nat → Nat} {μ : Mem} {Q : Int32 → Mem → Prop} (hT : TR μ tl tp) (h28 : μ.1 100 28 = nI f) (hel : e ≤ tl) (hn : f + 5 ≤ e) (hn6 : c5 ≠ 0 → f + 6 ≤ e) (hc4 : c4 < 200) (hc5 : c5 < 200) (h1 : tp (f + 4) = c4 → (c5 ≠ 0 → tp (f + 5) = c5) → Q 1 μ) (h0 : ¬ (tp (f + 4) = c4 ∧ (c5 ≠ 0 → tp (f + 5) = c5)) → Q 0 μ) : PX7_goesOn 100 (nI c4) (nI c5) μ Q := by
  have htl := hT.2.1
  unfold PX7_goesOn nX7_goesOn_32 nX7_goesOn_36
  rw [h28, show (4 : Int32) = nI 4 from rfl, nI_add]
  refine r_look hT (by omega) (fun _ t4 => ?_) (fun z => absurd z (by omega))
  rw [nI_eq (by omega) (by omega), h28, show (5 : Int32) = nI 5 from rfl, nI_add]
  refine ⟨fun z => h0 (fun y => z y.1), fun z4 => ⟨fun z => h1 z4 (fun y => absurd (by
    have z' : nI c5 = nI 0 := z
    rwa [nI_eq (by omega) (by omega)] at z') y), fun z => ?_⟩⟩
  have h5 : c5 ≠ 0 := fun y => z (by rw [y]; rfl)
  have := hn6 h5
  refine r_look hT (by omega) (fun _ t5 => ?_) (fun z => absurd z (by omega))
  rw [nI_eq (by omega) (by omega)]
  exact ⟨fun z => h0 (fun y => z (y.2 h5)), fun z5 => h1 z4 (fun _ => z5)⟩
theorem wd_3 {tp : Nat → Nat} {s f e : Nat} (hn : wdN s = 3) : isWd tp s f e ↔ (e - f = 3 ∧ tp f = wdC s 0 ∧ tp (f + 1) = wdC s 1 ∧ tp (f + 2) = wdC s 2) := by
  unfold isWd
  rw [hn]
  constructor
  · intro ⟨a, b⟩
    exact ⟨a, b 0 (by omega), b 1 (by omega), b 2 (by omega)⟩
  · intro ⟨a, b0, b1, b2⟩
    refine ⟨a, fun i hi => ?_⟩
    rcases (show i = 0 ∨ i = 1 ∨ i = 2 by omega) with rfl | rfl | rfl <;> assumption
theorem wd_4 {tp : Nat → Nat} {s f e : Nat} (hn : wdN s = 4) : isWd tp s f e ↔ (e - f = 4 ∧ tp f = wdC s 0 ∧ tp (f + 1) = wdC s 1 ∧ tp (f + 2) = wdC s 2 ∧ tp (f + 3) = wdC s 3) := by
  unfold isWd
  rw [hn]
  constructor
  · intro ⟨a, b⟩
    exact ⟨a, b 0 (by omega), b 1 (by omega), b 2 (by omega), b 3 (by omega)⟩
  · intro ⟨a, b0, b1, b2, b3⟩
    refine ⟨a, fun i hi => ?_⟩
    rcases (show i = 0 ∨ i = 1 ∨ i = 2 ∨ i = 3 by omega) with rfl | rfl | rfl | rfl <;> assumption
theorem wd_5 {tp : Nat → Nat} {s f e : Nat} (hn : wdN s = 5) : isWd tp s f e ↔ (e - f = 5 ∧ tp f = wdC s 0 ∧ tp (f + 1) = wdC s 1 ∧ tp (f + 2) = wdC s 2 ∧ tp (f + 3) = wdC s 3 ∧ tp (f + 4) = wdC s 4) := by
  unfold isWd
  rw [hn]
  constructor
  · intro ⟨a, b⟩
    exact ⟨a, b 0 (by omega), b 1 (by omega), b 2 (by omega), b 3 (by omega), b 4 (by omega)⟩
  · intro ⟨a, b0, b1, b2, b3, b4⟩
    refine ⟨a, fun i hi => ?_⟩
    rcases (show i = 0 ∨ i = 1 ∨ i = 2 ∨ i = 3 ∨ i = 4 by omega) with rfl | rfl | rfl | rfl | rfl <;> assumption
theorem wd_6 {tp : Nat → Nat} {s f e : Nat} (hn : wdN s = 6) : isWd tp s f e ↔ (e - f = 6 ∧ tp f = wdC s 0 ∧ tp (f + 1) = wdC s 1 ∧ tp (f + 2) = wdC s 2 ∧ tp (f + 3) = wdC s 3 ∧ tp (f + 4) = wdC s 4 ∧ tp (f + 5) = wdC s 5) := by
  unfold isWd
  rw [hn]
  constructor
  · intro ⟨a, b⟩
    exact ⟨a, b 0 (by omega), b 1 (by omega), b 2 (by omega), b 3 (by omega), b 4 (by omega), b 5 (by omega)⟩
  · intro ⟨a, b0, b1, b2, b3, b4, b5⟩
    refine ⟨a, fun i hi => ?_⟩
    rcases (show i = 0 ∨ i = 1 ∨ i = 2 ∨ i = 3 ∨ i = 4 ∨ i = 5 by omega) with rfl | rfl | rfl | rfl | rfl | rfl <;> assumption
