-- the names of a text
def wdL (s : Nat) : List Nat := ([[116, 104, 105, 110, 103], [102, 105, 114, 115, 116], [115, 101, 99, 111, 110, 100], [102, 101, 97, 115, 116], [97, 110, 121], [97, 103, 97, 105, 110], [115, 104, 111, 112], [111, 117, 116], [103, 117, 101, 115, 116], [108, 101, 97, 118, 101, 115], [108, 105, 107, 101], [119, 111, 110, 116]] : List (List Nat)).getD s []
def wdC (s i : Nat) : Nat := (wdL s).getD i 0
def wdN (s : Nat) : Nat := sLen.getD s 0
/-- word s stands from f to e -/
def isWd (tp : Nat → Nat) (s f e : Nat) : Prop := e - f = wdN s ∧ ∀ i : Nat, i < wdN s → tp (f + i) = wdC s i
theorem wd_c : ∀ s : Nat, s < 12 → wdN s ≤ 6 ∧ 3 ≤ wdN s ∧ ∀ i : Nat, i < wdN s → wdC s i < 128 ∧ (((((sByt.getD s []).getD (nI i).toNatClampNeg 0) &&& ((255 : Int32))).toUInt32 % 65536).toInt32) = nI (wdC s i) := by decide +kernel
theorem nar_ch : ∀ v : Nat, v < 128 → narrow .char (.int (nI v)) = .int (nI v) := by
  intro v hv
  have h : ∀ w : Nat, w < 128 → ((nI w).toUInt32 % 65536).toInt32 = nI w := by decide +kernel
  have := h v hv
  first
  | rfl
  | (unfold narrow; simp [this])
  | (simp [narrow, this])
theorem c_len {s : Nat} {μ : Mem} {Q : Int32 → Mem → Prop} (h : Q (nI (wdN s)) μ) : PJ0_length_8abf5 s μ Q := by
  unfold PJ0_length_8abf5 PJ0_coder_7d493
  refine ⟨fun d => absurd d np1, fun _ => ?_⟩
  have e : nI (sLen.getD s 0) >>> ((0 : Int32) &&& 31) = nI (wdN s) := by
    rw [show (0 : Int32) &&& 31 = 0 by decide]
    exact Int32.shiftRight_zero
  show Q (nI (sLen.getD s 0) >>> ((0 : Int32) &&& 31)) μ
  rw [e]; exact h
theorem c_charAt {s i : Nat} {μ : Mem} {Q : Int32 → Mem → Prop} (hs : s < 12) (hi : i < wdN s) (h : Q (nI (wdC s i)) μ) : PJ0_charAt_5068e s (nI i) μ Q := by
  obtain ⟨w1, w2, w3⟩ := wd_c s hs
  obtain ⟨w4, w5⟩ := w3 i hi
  have hn := nar_ch (wdC s i) w4
  unfold PJ0_charAt_5068e PJ0_isLatin1_aae02 nJ0_isLatin1_aae02_17 PJ1_charAt_3b067 PJ0_checkIndex_df160 PJ3_checkIndex_8e157
  refine ⟨fun d => absurd d np1, fun _ => ⟨fun d => absurd rfl d, fun _ => ⟨fun d => absurd d np1, fun _ => ⟨fun d => absurd d (nI_pos (by omega)), fun _ => ⟨fun _ => ⟨?_, ?_, ?_, ?_⟩, fun d => absurd (show nI i < nI (sLen.getD s 0) from nI_lt hi (by show wdN s < _; omega)) d⟩⟩⟩⟩⟩
  · exact vp_in_nI hi (by show wdN s < _; omega)
  · rw [w5]; exact hn
  · rw [w5]; exact hn
  · rw [w5]; exact h
theorem c_isName {tl s f e srt : Nat} {tp : Nat → Nat} {μ : Mem} {Q : Int32 → Mem → Prop} (hT : TC μ tl tp) (hs : s < 12) (h5 : μ.1 25 5 = nI e) (h6 : μ.1 25 6 = nI srt) (h7 : μ.1 25 7 = nI f) (hsr : srt < 5) (hfe : f ≤ e) (hel : e ≤ tl) (h1 : srt = 1 → isWd tp s f e → Q 1 μ) (h0 : ¬ (srt = 1 ∧ isWd tp s f e) → Q 0 μ) : PX1_isName 25 s μ Q := by
  obtain ⟨ht1, ht2, ht3⟩ := hT
  obtain ⟨w1, w2, w3⟩ := wd_c s hs
  intro S28 h28
  rw [h6, h5, h7, pk_sub hfe]
  refine ⟨fun d => h0 (fun z => d (by rw [z.1]; rfl)), fun d => c_len ⟨fun z => ?_, fun z => h0 (fun y => z (by rw [y.2.1]))⟩⟩
  have d' : nI srt = nI 1 := d
  rw [nI_eq (by omega) (by omega)] at d' z
  have lp : ∀ i m, i ≤ wdN s → (m = μ ∧ ∀ j : Nat, j < i → tp (f + j) = wdC s j) → S28 (nI i) m := by
    refine up_loop ?_ ?_
    · intro i m hi ⟨b1, b2⟩ ih
      rw [b1]
      apply h28
      unfold nX1_isName_28
      obtain ⟨t1, t2⟩ := ht3 (f + i) (by omega)
      have e26 : μ.1 (25 + 1) (f + i) = sg (tp (f + i)) := t2
      obtain ⟨w4, w5⟩ := w3 i hi
      refine c_len ⟨fun y => absurd y (nI_ge hi (by omega)), fun _ => ?_⟩
      rw [h7, nI_add, nI_clamp (n := f + i) (by omega), e26]
      refine ⟨vp_in_nI (by omega) (by omega), c_charAt hs hi ?_⟩
      rw [sg_eq t1 w4, nI_1]
      refine ⟨fun y => ih μ ⟨rfl, fun j hj => ?_⟩, fun y => h0 (fun x => y (x.2.2 i hi))⟩
      by_cases x : j = i
      · rw [x]; exact y
      · exact b2 j (by omega)
    · intro m ⟨b1, b2⟩
      rw [b1]
      apply h28
      unfold nX1_isName_28
      exact c_len ⟨fun _ => h1 d' ⟨z, b2⟩, fun y => absurd (nI_le (by omega) (by omega)) y⟩
  exact lp 0 μ (by omega) ⟨rfl, fun j hj => absurd hj (Nat.not_lt_zero _)⟩
