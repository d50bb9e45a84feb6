-- the memory of all cells: ints by (place of the cell, index), longs likewise
abbrev Mem : Type := (Nat → Nat → Int32) × (Nat → Nat → Int64)
def ms (μ : Mem) (a j : Nat) (v : Int32) : Mem := (fun b => if b = a then upd (μ.1 a) j v else μ.1 b, μ.2)
def mr (μ : Mem) (a : Nat) (f : Nat → Int32) : Mem := (fun b => if b = a then f else μ.1 b, μ.2)
def ml (μ : Mem) (a j : Nat) (v : Int64) : Mem := (μ.1, fun b => if b = a then vp_updL (μ.2 a) j v else μ.2 b)
abbrev Row : Type := (Nat → Int32) × (Nat → Int64)
/-- the world: D, the four array classes (int, byte, boolean, kitchens), addresses, how many, the shapes -/
abbrev YT : Type := va_G × (ClassId × ClassId × ClassId × ClassId) × (Nat → Nat) × Nat × (Nat → Row → va_E) × (Nat → Nat) × (Nat → Nat)
abbrev YT.D (Y : YT) : va_G := Y.1
abbrev YT.cI (Y : YT) : ClassId := Y.2.1.1
abbrev YT.cB (Y : YT) : ClassId := Y.2.1.2.1
abbrev YT.cZ (Y : YT) : ClassId := Y.2.1.2.2.1
abbrev YT.cK (Y : YT) : ClassId := Y.2.1.2.2.2
abbrev YT.ad (Y : YT) : Nat → Nat := Y.2.2.1
abbrev YT.N (Y : YT) : Nat := Y.2.2.2.1
abbrev YT.sh (Y : YT) : Nat → Row → va_E := Y.2.2.2.2.1
/-- the claim's text constants: their cells, and the cells of their bytes -/
abbrev YT.aK (Y : YT) : Nat → Nat := Y.2.2.2.2.2.1
abbrev YT.aV (Y : YT) : Nat → Nat := Y.2.2.2.2.2.2
abbrev YT.tys (Y : YT) : List (ClassId × FieldType) := [(Y.cI, .int), (Y.cB, .byte), (Y.cZ, .boolean), (Y.cK, .object RX0)]
def mrow (μ : Mem) (a : Nat) : Row := (μ.1 a, μ.2 a)
def wd (Y : YT) (μ : Mem) : va_W := (List.range Y.N).map (fun i => (Y.ad i, Y.sh i (mrow μ i)))
def YI (Y : YT) : Prop := ∀ i j : Nat, i < Y.N → j < Y.N → Y.ad i = Y.ad j → i = j
def Aw (Y : YT) : Nat → Prop := fun q => ∃ i : Nat, i < Y.N ∧ q = Y.ad i
theorem wd_at {Y : YT} {μ : Mem} {i : Nat} (h : i < Y.N) : (wd Y μ)[i]? = some (Y.ad i, Y.sh i (mrow μ i)) := by
  unfold wd
  rw [List.getElem?_map, List.getElem?_range h]; rfl
theorem wd_in {Y : YT} {μ : Mem} {k : Nat} {q : Nat × va_E} (h : (wd Y μ)[k]? = some q) : k < Y.N ∧ q = (Y.ad k, Y.sh k (mrow μ k)) := by
  unfold wd at h
  rw [List.getElem?_map] at h
  by_cases hk : k < Y.N
  · rw [List.getElem?_range hk] at h
    exact ⟨hk, (Option.some.inj h).symm⟩
  · rw [List.getElem?_eq_none (by rw [List.length_range]; omega)] at h
    cases h
theorem wd_D {Y : YT} {μ : Mem} {A : Nat → Prop} (hI : YI Y) (hA : ∀ i : Nat, i < Y.N → A (Y.ad i)) : va_D A (wd Y μ) := by
  refine ⟨fun i j p q hi hj h => ?_, fun k q hk => ?_⟩
  · obtain ⟨h1, rfl⟩ := wd_in hi
    obtain ⟨h2, rfl⟩ := wd_in hj
    exact hI i j h1 h2 h
  · obtain ⟨h1, rfl⟩ := wd_in hk
    exact hA k h1
/-- another row for one cell -/
theorem wd_set {Y : YT} {μ μ' : Mem} {i : Nat} {e : va_E} (hi : i < Y.N) (he : Y.sh i (mrow μ' i) = e) (ho : ∀ b : Nat, b ≠ i → mrow μ' b = mrow μ b) : (wd Y μ).set i (Y.ad i, e) = wd Y μ' := by
  subst he
  apply List.ext_getElem?
  intro k
  have hl : (wd Y μ).length = Y.N := by unfold wd; rw [List.length_map, List.length_range]
  by_cases hk : k = i
  · subst hk
    rw [List.getElem?_set_self (by rw [hl]; exact hi), wd_at hi]
  · rw [List.getElem?_set_ne (Ne.symm hk)]
    by_cases hn : k < Y.N
    · rw [wd_at hn, wd_at hn, ho k hk]
    · have h2 : (wd Y μ').length = Y.N := by unfold wd; rw [List.length_map, List.length_range]
      rw [List.getElem?_eq_none (by omega), List.getElem?_eq_none (by omega)]
theorem mrow_ms {μ : Mem} {a j : Nat} {v : Int32} : mrow (ms μ a j v) a = (upd (μ.1 a) j v, μ.2 a) := by simp [mrow, ms]
theorem mrow_ms_ne {μ : Mem} {a j : Nat} {v : Int32} {b : Nat} (h : b ≠ a) : mrow (ms μ a j v) b = mrow μ b := by simp [mrow, ms, h]
theorem mrow_mr {μ : Mem} {a : Nat} {f : Nat → Int32} : mrow (mr μ a f) a = (f, μ.2 a) := by simp [mrow, mr]
theorem mrow_mr_ne {μ : Mem} {a : Nat} {f : Nat → Int32} {b : Nat} (h : b ≠ a) : mrow (mr μ a f) b = mrow μ b := by simp [mrow, mr, h]
theorem mrow_ml {μ : Mem} {a j : Nat} {v : Int64} : mrow (ml μ a j v) a = (μ.1 a, vp_updL (μ.2 a) j v) := by simp [mrow, ml]
theorem mrow_ml_ne {μ : Mem} {a j : Nat} {v : Int64} {b : Nat} (h : b ≠ a) : mrow (ml μ a j v) b = mrow μ b := by simp [mrow, ml, h]
-- what lies outside the world: the text constants, two statics of the JDK
def EVA (aK aV : Nat → Nat) (A : Nat → Prop) (U : State) (H : Heap) : Prop := vk_S nS sLen sByt aK aV A U H ∧ (∀ i : Nat, i < nS → vk_R RX1 (sIdx.getD i 0) (sTxt.getD i "") (aK i) U) ∧ va_Z "java/lang/String" "COMPACT_STRINGS" "Z" (.int 1) A U H ∧ va_Zq "jdk/internal/util/Preconditions" "SIOOBE_FORMATTER" "Ljava/util/function/BiFunction;" A U H ∧ (∀ q ∈ sNst, va_Nw (.methodLinkNest q.1 q.2.1 q.2.2.1 q.2.2.2) U) ∧ va_AO RX0 U
theorem EVA.to {aK aV : Nat → Nat} {A B : Nat → Prop} {s U : State} {H : Heap} {locs : List Loc} (h : EVA aK aV A s s.heap) (hAB : ∀ q, B q → A q) (hS : va_S A s.heap H locs) (hW : s.WarmedH U.vm) : EVA aK aV B U H :=
  ⟨((h.1.kept hS.2.1).moved hW.alike).narrow hAB, fun i hi => vk_R.warm hW (h.2.1 i hi), ((h.2.2.1.kept hS.2.1).moved hW.alike).narrow hAB, ((h.2.2.2.1.kept hS.2.1).moved hW.alike).narrow hAB, fun q hq => va_Nw.warmM hW (h.2.2.2.2.1 q hq), va_AO.moved hW.alike h.2.2.2.2.2⟩
-- where the walk stands
abbrev XT : Type := Program × Launch × Env × Room × State × MethodId × Array Value × List Frame × Method × Code × (Nat → Prop) × Heap × Nat × Nat × (State → Prop)
def G (X : XT) (Y : YT) (nL : Nat) (pc : Nat) (lv : List (Nat × Value)) (st : List Value) (μ : Mem) : Prop :=
  match X with
  | (p, l, e, R, s, m, args, below, meth, c, A, H0, cells, slots, Q) => ∀ (H : Heap) (locs : List Loc) (ls : Array Slot), va_P Y.D vwCl (wd Y μ) H → va_S A H0 H locs → lv_has ls nL lv → W p l e R s m args below meth c H locs cells slots Q (F0 m pc ls st)
def Cx (X : XT) (Y : YT) (nL : Nat) (cc : ByteArray) (own : String) (Ts : List Cond) (R0 : Room) (l0 : Launch) : Prop :=
  match X with
  | (p, l, _, R, s, m, args, _, meth, c, A, H0, cells, slots, _) => p.tables.exec = Jvm.exec ∧ c.code = cc ∧ c.maxLocals = nL ∧ s.vm.findClass own = some m.cls ∧ (∀ w ∈ Ts, w.before args s = true) ∧ va_K Y.D vwCl Y.tys s ∧ YI Y ∧ (∀ i : Nat, i < Y.N → A (Y.ad i)) ∧ meth.locks = false ∧ R = R0 ∧ l = l0 ∧ cells ≤ R.cells ∧ slots ≤ R.slots ∧ H0 = s.heap ∧ EVA Y.aK Y.aV A s s.heap
def rt (fs : Row → List Value) (ci : Nat) : Row → va_E := fun c => .inr (ci, fs c)
def sI (cA : ClassId) (n : Nat) : Row → va_E := fun c => .inl (cA, n, .inl c.1)
section GR
variable {X : XT} {Y : YT} {nL : Nat} {cc : ByteArray} {own : String} {Ts : List Cond} {R0 : Room} {l0 : Launch} {pc : Nat} {lv : List (Nat × Value)} {st : List Value} {μ : Mem}
theorem g_lv (ks : List Nat) {lv2 : List (Nat × Value)} (k : G X Y nL pc lv2 st μ) (h : lv_pick lv ks = lv2) : G X Y nL pc lv st μ := by
  obtain ⟨p, l, e, R, s, m, args, below, meth, c, A, H0, cells, slots, Q⟩ := X
  intro H locs ls hP hS hl
  exact k H locs ls hP hS (lv_sub hl ks h)
theorem g_iconst (C : Cx X Y nL cc own Ts R0 l0) {n : Int} {v : Int32} (hdg : decode cc pc = .ok (.iconst n, 1)) (hv : Int32.ofInt n = v) (k : G X Y nL (pc + 1) lv (.int v :: st) μ) : G X Y nL pc lv st μ := by
  obtain ⟨p, l, e, R, s, m, args, below, meth, c, A, H0, cells, slots, Q⟩ := X
  intro H locs ls hP hS hl
  exact lv_iconst C.1 C.2.1 hdg hv (k H locs ls hP hS hl)
theorem g_bipush (C : Cx X Y nL cc own Ts R0 l0) {n : Int} {v : Int32} (hdg : decode cc pc = .ok (.bipush n, 2)) (hv : (Int8.ofInt n).toInt32 = v) (k : G X Y nL (pc + 2) lv (.int v :: st) μ) : G X Y nL pc lv st μ := by
  obtain ⟨p, l, e, R, s, m, args, below, meth, c, A, H0, cells, slots, Q⟩ := X
  intro H locs ls hP hS hl
  exact lv_bipush C.1 C.2.1 hdg hv (k H locs ls hP hS hl)
theorem g_sipush (C : Cx X Y nL cc own Ts R0 l0) {n : Int} {v : Int32} (hdg : decode cc pc = .ok (.sipush n, 3)) (hv : (Int16.ofInt n).toInt32 = v) (k : G X Y nL (pc + 3) lv (.int v :: st) μ) : G X Y nL pc lv st μ := by
  obtain ⟨p, l, e, R, s, m, args, below, meth, c, A, H0, cells, slots, Q⟩ := X
  intro H locs ls hP hS hl
  exact lv_sipush C.1 C.2.1 hdg hv (k H locs ls hP hS hl)
theorem g_lconst (C : Cx X Y nL cc own Ts R0 l0) {n : Fin 2} {v : Int64} (hdg : decode cc pc = .ok (.lconst n, 1)) (hv : Int64.ofNat (n : Nat) = v) (k : G X Y nL (pc + 1) lv (.long v :: st) μ) : G X Y nL pc lv st μ := by
  obtain ⟨p, l, e, R, s, m, args, below, meth, c, A, H0, cells, slots, Q⟩ := X
  intro H locs ls hP hS hl
  exact lv_lconst C.1 C.2.1 hdg hv (k H locs ls hP hS hl)
theorem g_iload_n (C : Cx X Y nL cc own Ts R0 l0) {n : Fin 4} {x : Int32} (q : Nat) (hdg : decode cc pc = .ok (.iload_n n, 1)) (hl : lv[q]? = some ((n : Nat), .int x)) (k : G X Y nL (pc + 1) lv (.int x :: st) μ) : G X Y nL pc lv st μ := by
  obtain ⟨p, l, e, R, s, m, args, below, meth, c, A, H0, cells, slots, Q⟩ := X
  intro H locs ls hP hS h
  exact lv_iload_n C.1 C.2.1 hdg rfl (lv_at h q hl) (k H locs ls hP hS h)
theorem g_iload (C : Cx X Y nL cc own Ts R0 l0) {n : Nat} {x : Int32} (q : Nat) (hdg : decode cc pc = .ok (.iload n, 2)) (hl : lv[q]? = some (n, .int x)) (k : G X Y nL (pc + 2) lv (.int x :: st) μ) : G X Y nL pc lv st μ := by
  obtain ⟨p, l, e, R, s, m, args, below, meth, c, A, H0, cells, slots, Q⟩ := X
  intro H locs ls hP hS h
  exact lv_iload C.1 C.2.1 hdg (lv_at h q hl) (k H locs ls hP hS h)
theorem g_lload_n (C : Cx X Y nL cc own Ts R0 l0) {n : Fin 4} {x : Int64} (q : Nat) (hdg : decode cc pc = .ok (.lload_n n, 1)) (hl : lv[q]? = some ((n : Nat), .long x)) (k : G X Y nL (pc + 1) lv (.long x :: st) μ) : G X Y nL pc lv st μ := by
  obtain ⟨p, l, e, R, s, m, args, below, meth, c, A, H0, cells, slots, Q⟩ := X
  intro H locs ls hP hS h
  exact lv_lload_n C.1 C.2.1 hdg rfl (lv_at h q hl) (k H locs ls hP hS h)
theorem g_lload (C : Cx X Y nL cc own Ts R0 l0) {n : Nat} {x : Int64} (q : Nat) (hdg : decode cc pc = .ok (.lload n, 2)) (hl : lv[q]? = some (n, .long x)) (k : G X Y nL (pc + 2) lv (.long x :: st) μ) : G X Y nL pc lv st μ := by
  obtain ⟨p, l, e, R, s, m, args, below, meth, c, A, H0, cells, slots, Q⟩ := X
  intro H locs ls hP hS h
  exact lv_lload C.1 C.2.1 hdg (lv_at h q hl) (k H locs ls hP hS h)
theorem g_aload_n (C : Cx X Y nL cc own Ts R0 l0) {n : Fin 4} {x : Nat} (q : Nat) (hdg : decode cc pc = .ok (.aload_n n, 1)) (hl : lv[q]? = some ((n : Nat), .ref x)) (k : G X Y nL (pc + 1) lv (.ref x :: st) μ) : G X Y nL pc lv st μ := by
  obtain ⟨p, l, e, R, s, m, args, below, meth, c, A, H0, cells, slots, Q⟩ := X
  intro H locs ls hP hS h
  exact lv_aload_n C.1 C.2.1 hdg rfl (lv_at h q hl) (k H locs ls hP hS h)
theorem g_aload (C : Cx X Y nL cc own Ts R0 l0) {n : Nat} {x : Nat} (q : Nat) (hdg : decode cc pc = .ok (.aload n, 2)) (hl : lv[q]? = some (n, .ref x)) (k : G X Y nL (pc + 2) lv (.ref x :: st) μ) : G X Y nL pc lv st μ := by
  obtain ⟨p, l, e, R, s, m, args, below, meth, c, A, H0, cells, slots, Q⟩ := X
  intro H locs ls hP hS h
  exact lv_aload C.1 C.2.1 hdg (lv_at h q hl) (k H locs ls hP hS h)
abbrev lvS (lv : List (Nat × Value)) (i : Nat) (v : Value) : List (Nat × Value) := (i, v) :: lv.filter (fun q => !(q.1 == i) && !(q.1 + 1 == i && q.2.category == 2))
abbrev lvS2 (lv : List (Nat × Value)) (i : Nat) (v : Value) : List (Nat × Value) := (i, v) :: lv.filter (fun q => !(q.1 == i) && (!(q.1 == i + 1) && !(q.1 + 1 == i && q.2.category == 2)))
theorem g_istore_n (C : Cx X Y nL cc own Ts R0 l0) {n : Fin 4} {x : Int32} (lv2 : List (Nat × Value)) (hdg : decode cc pc = .ok (.istore_n n, 1)) (hn : (n : Nat) < nL) (hl : lvS lv n (.int x) = lv2) (k : G X Y nL (pc + 1) lv2 st μ) : G X Y nL pc lv (.int x :: st) μ := by
  obtain ⟨p, l, e, R, s, m, args, below, meth, c, A, H0, cells, slots, Q⟩ := X
  intro H locs ls hP hS h
  exact lv_istore_n C.1 C.2.1 hdg rfl h hn hl (fun ls h => k H locs ls hP hS h)
theorem g_istore (C : Cx X Y nL cc own Ts R0 l0) {n : Nat} {x : Int32} (lv2 : List (Nat × Value)) (hdg : decode cc pc = .ok (.istore n, 2)) (hn : n < nL) (hl : lvS lv n (.int x) = lv2) (k : G X Y nL (pc + 2) lv2 st μ) : G X Y nL pc lv (.int x :: st) μ := by
  obtain ⟨p, l, e, R, s, m, args, below, meth, c, A, H0, cells, slots, Q⟩ := X
  intro H locs ls hP hS h
  exact lv_istore C.1 C.2.1 hdg h hn hl (fun ls h => k H locs ls hP hS h)
theorem g_lstore_n (C : Cx X Y nL cc own Ts R0 l0) {n : Fin 4} {x : Int64} (lv2 : List (Nat × Value)) (hdg : decode cc pc = .ok (.lstore_n n, 1)) (hn : (n : Nat) + 1 < nL) (hl : lvS2 lv n (.long x) = lv2) (k : G X Y nL (pc + 1) lv2 st μ) : G X Y nL pc lv (.long x :: st) μ := by
  obtain ⟨p, l, e, R, s, m, args, below, meth, c, A, H0, cells, slots, Q⟩ := X
  intro H locs ls hP hS h
  exact lv_lstore_n C.1 C.2.1 hdg rfl h hn hl (fun ls h => k H locs ls hP hS h)
theorem g_lstore (C : Cx X Y nL cc own Ts R0 l0) {n : Nat} {x : Int64} (lv2 : List (Nat × Value)) (hdg : decode cc pc = .ok (.lstore n, 2)) (hn : n + 1 < nL) (hl : lvS2 lv n (.long x) = lv2) (k : G X Y nL (pc + 2) lv2 st μ) : G X Y nL pc lv (.long x :: st) μ := by
  obtain ⟨p, l, e, R, s, m, args, below, meth, c, A, H0, cells, slots, Q⟩ := X
  intro H locs ls hP hS h
  exact lv_lstore C.1 C.2.1 hdg h hn hl (fun ls h => k H locs ls hP hS h)
theorem g_astore_n (C : Cx X Y nL cc own Ts R0 l0) {n : Fin 4} {x : Nat} (lv2 : List (Nat × Value)) (hdg : decode cc pc = .ok (.astore_n n, 1)) (hn : (n : Nat) < nL) (hl : lvS lv n (.ref x) = lv2) (k : G X Y nL (pc + 1) lv2 st μ) : G X Y nL pc lv (.ref x :: st) μ := by
  obtain ⟨p, l, e, R, s, m, args, below, meth, c, A, H0, cells, slots, Q⟩ := X
  intro H locs ls hP hS h
  exact lv_astore_n C.1 C.2.1 hdg rfl h hn hl (fun ls h => k H locs ls hP hS h)
theorem g_astore (C : Cx X Y nL cc own Ts R0 l0) {n : Nat} {x : Nat} (lv2 : List (Nat × Value)) (hdg : decode cc pc = .ok (.astore n, 2)) (hn : n < nL) (hl : lvS lv n (.ref x) = lv2) (k : G X Y nL (pc + 2) lv2 st μ) : G X Y nL pc lv (.ref x :: st) μ := by
  obtain ⟨p, l, e, R, s, m, args, below, meth, c, A, H0, cells, slots, Q⟩ := X
  intro H locs ls hP hS h
  exact lv_astore C.1 C.2.1 hdg h hn hl (fun ls h => k H locs ls hP hS h)
theorem g_iinc (C : Cx X Y nL cc own Ts R0 l0) {i : Nat} {n : Int} {x v : Int32} (q : Nat) (lv2 : List (Nat × Value)) (hdg : decode cc pc = .ok (.iinc i n, 3)) (hk : lv[q]? = some (i, .int x)) (hv : x + Int32.ofInt n = v) (hn : i < nL) (hl : lvS lv i (.int v) = lv2) (k : G X Y nL (pc + 3) lv2 st μ) : G X Y nL pc lv st μ := by
  obtain ⟨p, l, e, R, s, m, args, below, meth, c, A, H0, cells, slots, Q⟩ := X
  intro H locs ls hP hS h
  exact lv_iinc C.1 C.2.1 hdg h hk hv hn hl (fun ls h => k H locs ls hP hS h)
theorem g_goto (C : Cx X Y nL cc own Ts R0 l0) {off : Int} (tgt : Nat) (hdg : decode cc pc = .ok (.goto off, 3)) (ht : (pc : Int) + off = (tgt : Int)) (k : G X Y nL tgt lv st μ) : G X Y nL pc lv st μ := by
  obtain ⟨p, l, e, R, s, m, args, below, meth, c, A, H0, cells, slots, Q⟩ := X
  intro H locs ls hP hS h
  exact lv_goto C.1 C.2.1 hdg ht (k H locs ls hP hS h)
theorem g_dup (C : Cx X Y nL cc own Ts R0 l0) {v : Value} (hdg : decode cc pc = .ok (.dup, 1)) (hv : v.category = 1) (k : G X Y nL (pc + 1) lv (v :: v :: st) μ) : G X Y nL pc lv (v :: st) μ := by
  obtain ⟨p, l, e, R, s, m, args, below, meth, c, A, H0, cells, slots, Q⟩ := X
  intro H locs ls hP hS h
  exact lv_dup C.1 C.2.1 hdg hv (k H locs ls hP hS h)
theorem g_dup2 (C : Cx X Y nL cc own Ts R0 l0) {v w : Value} (hdg : decode cc pc = .ok (.dup2, 1)) (hv : v.category = 1) (hw : w.category = 1) (k : G X Y nL (pc + 1) lv (v :: w :: v :: w :: st) μ) : G X Y nL pc lv (v :: w :: st) μ := by
  obtain ⟨p, l, e, R, s, m, args, below, meth, c, A, H0, cells, slots, Q⟩ := X
  intro H locs ls hP hS h
  exact lv_dup2_11 C.1 C.2.1 hdg hv hw (k H locs ls hP hS h)
theorem g_pop (C : Cx X Y nL cc own Ts R0 l0) {v : Value} (hdg : decode cc pc = .ok (.pop, 1)) (hv : v.category = 1) (k : G X Y nL (pc + 1) lv st μ) : G X Y nL pc lv (v :: st) μ := by
  obtain ⟨p, l, e, R, s, m, args, below, meth, c, A, H0, cells, slots, Q⟩ := X
  intro H locs ls hP hS h
  exact lv_pop C.1 C.2.1 hdg hv (k H locs ls hP hS h)
theorem g_iadd (C : Cx X Y nL cc own Ts R0 l0) {x y : Int32} (hdg : decode cc pc = .ok (.iadd, 1)) (k : G X Y nL (pc + 1) lv (.int (x + y) :: st) μ) : G X Y nL pc lv (.int y :: .int x :: st) μ := by
  obtain ⟨p, l, e, R, s, m, args, below, meth, c, A, H0, cells, slots, Q⟩ := X
  intro H locs ls hP hS h
  exact lv_iadd C.1 C.2.1 hdg (k H locs ls hP hS h)
theorem g_isub (C : Cx X Y nL cc own Ts R0 l0) {x y : Int32} (hdg : decode cc pc = .ok (.isub, 1)) (k : G X Y nL (pc + 1) lv (.int (x - y) :: st) μ) : G X Y nL pc lv (.int y :: .int x :: st) μ := by
  obtain ⟨p, l, e, R, s, m, args, below, meth, c, A, H0, cells, slots, Q⟩ := X
  intro H locs ls hP hS h
  exact lv_isub C.1 C.2.1 hdg (k H locs ls hP hS h)
theorem g_imul (C : Cx X Y nL cc own Ts R0 l0) {x y : Int32} (hdg : decode cc pc = .ok (.imul, 1)) (k : G X Y nL (pc + 1) lv (.int (x * y) :: st) μ) : G X Y nL pc lv (.int y :: .int x :: st) μ := by
  obtain ⟨p, l, e, R, s, m, args, below, meth, c, A, H0, cells, slots, Q⟩ := X
  intro H locs ls hP hS h
  exact lv_imul C.1 C.2.1 hdg (k H locs ls hP hS h)
theorem g_iand (C : Cx X Y nL cc own Ts R0 l0) {x y : Int32} (hdg : decode cc pc = .ok (.iand, 1)) (k : G X Y nL (pc + 1) lv (.int (x &&& y) :: st) μ) : G X Y nL pc lv (.int y :: .int x :: st) μ := by
  obtain ⟨p, l, e, R, s, m, args, below, meth, c, A, H0, cells, slots, Q⟩ := X
  intro H locs ls hP hS h
  exact lv_iand C.1 C.2.1 hdg (k H locs ls hP hS h)
theorem g_ior (C : Cx X Y nL cc own Ts R0 l0) {x y : Int32} (hdg : decode cc pc = .ok (.ior, 1)) (k : G X Y nL (pc + 1) lv (.int (x ||| y) :: st) μ) : G X Y nL pc lv (.int y :: .int x :: st) μ := by
  obtain ⟨p, l, e, R, s, m, args, below, meth, c, A, H0, cells, slots, Q⟩ := X
  intro H locs ls hP hS h
  exact lv_ior C.1 C.2.1 hdg (k H locs ls hP hS h)
theorem g_ixor (C : Cx X Y nL cc own Ts R0 l0) {x y : Int32} (hdg : decode cc pc = .ok (.ixor, 1)) (k : G X Y nL (pc + 1) lv (.int (x ^^^ y) :: st) μ) : G X Y nL pc lv (.int y :: .int x :: st) μ := by
  obtain ⟨p, l, e, R, s, m, args, below, meth, c, A, H0, cells, slots, Q⟩ := X
  intro H locs ls hP hS h
  exact lv_ixor C.1 C.2.1 hdg (k H locs ls hP hS h)
theorem g_ishl (C : Cx X Y nL cc own Ts R0 l0) {x y : Int32} (hdg : decode cc pc = .ok (.ishl, 1)) (k : G X Y nL (pc + 1) lv (.int (x <<< (y &&& 31)) :: st) μ) : G X Y nL pc lv (.int y :: .int x :: st) μ := by
  obtain ⟨p, l, e, R, s, m, args, below, meth, c, A, H0, cells, slots, Q⟩ := X
  intro H locs ls hP hS h
  exact lv_ishl C.1 C.2.1 hdg (k H locs ls hP hS h)
theorem g_ishr (C : Cx X Y nL cc own Ts R0 l0) {x y : Int32} (hdg : decode cc pc = .ok (.ishr, 1)) (k : G X Y nL (pc + 1) lv (.int (x >>> (y &&& 31)) :: st) μ) : G X Y nL pc lv (.int y :: .int x :: st) μ := by
  obtain ⟨p, l, e, R, s, m, args, below, meth, c, A, H0, cells, slots, Q⟩ := X
  intro H locs ls hP hS h
  exact lv_ishr C.1 C.2.1 hdg (k H locs ls hP hS h)
theorem g_idiv (C : Cx X Y nL cc own Ts R0 l0) {x y : Int32} (hdg : decode cc pc = .ok (.idiv, 1)) (hne : ¬ y = 0) (k : G X Y nL (pc + 1) lv (.int (x / y) :: st) μ) : G X Y nL pc lv (.int y :: .int x :: st) μ := by
  obtain ⟨p, l, e, R, s, m, args, below, meth, c, A, H0, cells, slots, Q⟩ := X
  intro H locs ls hP hS h
  exact lv_idiv C.1 C.2.1 hdg hne (k H locs ls hP hS h)
theorem g_irem (C : Cx X Y nL cc own Ts R0 l0) {x y : Int32} (hdg : decode cc pc = .ok (.irem, 1)) (hne : ¬ y = 0) (k : G X Y nL (pc + 1) lv (.int (x - x / y * y) :: st) μ) : G X Y nL pc lv (.int y :: .int x :: st) μ := by
  obtain ⟨p, l, e, R, s, m, args, below, meth, c, A, H0, cells, slots, Q⟩ := X
  intro H locs ls hP hS h
  exact lv_irem C.1 C.2.1 hdg hne (k H locs ls hP hS h)
theorem g_ladd (C : Cx X Y nL cc own Ts R0 l0) {x y : Int64} (hdg : decode cc pc = .ok (.ladd, 1)) (k : G X Y nL (pc + 1) lv (.long (x + y) :: st) μ) : G X Y nL pc lv (.long y :: .long x :: st) μ := by
  obtain ⟨p, l, e, R, s, m, args, below, meth, c, A, H0, cells, slots, Q⟩ := X
  intro H locs ls hP hS h
  exact lv_ladd C.1 C.2.1 hdg (k H locs ls hP hS h)
theorem g_lsub (C : Cx X Y nL cc own Ts R0 l0) {x y : Int64} (hdg : decode cc pc = .ok (.lsub, 1)) (k : G X Y nL (pc + 1) lv (.long (x - y) :: st) μ) : G X Y nL pc lv (.long y :: .long x :: st) μ := by
  obtain ⟨p, l, e, R, s, m, args, below, meth, c, A, H0, cells, slots, Q⟩ := X
  intro H locs ls hP hS h
  exact lv_lsub C.1 C.2.1 hdg (k H locs ls hP hS h)
theorem g_lmul (C : Cx X Y nL cc own Ts R0 l0) {x y : Int64} (hdg : decode cc pc = .ok (.lmul, 1)) (k : G X Y nL (pc + 1) lv (.long (x * y) :: st) μ) : G X Y nL pc lv (.long y :: .long x :: st) μ := by
  obtain ⟨p, l, e, R, s, m, args, below, meth, c, A, H0, cells, slots, Q⟩ := X
  intro H locs ls hP hS h
  exact lv_lmul C.1 C.2.1 hdg (k H locs ls hP hS h)
theorem g_land (C : Cx X Y nL cc own Ts R0 l0) {x y : Int64} (hdg : decode cc pc = .ok (.land, 1)) (k : G X Y nL (pc + 1) lv (.long (x &&& y) :: st) μ) : G X Y nL pc lv (.long y :: .long x :: st) μ := by
  obtain ⟨p, l, e, R, s, m, args, below, meth, c, A, H0, cells, slots, Q⟩ := X
  intro H locs ls hP hS h
  exact lv_land C.1 C.2.1 hdg (k H locs ls hP hS h)
theorem g_lor (C : Cx X Y nL cc own Ts R0 l0) {x y : Int64} (hdg : decode cc pc = .ok (.lor, 1)) (k : G X Y nL (pc + 1) lv (.long (x ||| y) :: st) μ) : G X Y nL pc lv (.long y :: .long x :: st) μ := by
  obtain ⟨p, l, e, R, s, m, args, below, meth, c, A, H0, cells, slots, Q⟩ := X
  intro H locs ls hP hS h
  exact lv_lor C.1 C.2.1 hdg (k H locs ls hP hS h)
theorem g_lushr (C : Cx X Y nL cc own Ts R0 l0) {x : Int64} {y : Int32} (hdg : decode cc pc = .ok (.lushr, 1)) (k : G X Y nL (pc + 1) lv (.long ((x.toUInt64 >>> (y.toInt64.toUInt64 &&& Int64.toUInt64 63)).toInt64) :: st) μ) : G X Y nL pc lv (.int y :: .long x :: st) μ := by
  obtain ⟨p, l, e, R, s, m, args, below, meth, c, A, H0, cells, slots, Q⟩ := X
  intro H locs ls hP hS h
  exact lv_lushr C.1 C.2.1 hdg rfl (k H locs ls hP hS h)
theorem g_lshl (C : Cx X Y nL cc own Ts R0 l0) {x : Int64} {y : Int32} (hdg : decode cc pc = .ok (.lshl, 1)) (k : G X Y nL (pc + 1) lv (.long (x <<< (y.toInt64 &&& 63)) :: st) μ) : G X Y nL pc lv (.int y :: .long x :: st) μ := by
  obtain ⟨p, l, e, R, s, m, args, below, meth, c, A, H0, cells, slots, Q⟩ := X
  intro H locs ls hP hS h
  exact lv_lshl C.1 C.2.1 hdg rfl (k H locs ls hP hS h)
theorem g_lshr (C : Cx X Y nL cc own Ts R0 l0) {x : Int64} {y : Int32} (hdg : decode cc pc = .ok (.lshr, 1)) (k : G X Y nL (pc + 1) lv (.long (x >>> (y.toInt64 &&& 63)) :: st) μ) : G X Y nL pc lv (.int y :: .long x :: st) μ := by
  obtain ⟨p, l, e, R, s, m, args, below, meth, c, A, H0, cells, slots, Q⟩ := X
  intro H locs ls hP hS h
  exact lv_lshr C.1 C.2.1 hdg rfl (k H locs ls hP hS h)
theorem g_i2l (C : Cx X Y nL cc own Ts R0 l0) {x : Int32} (hdg : decode cc pc = .ok (.i2l, 1)) (k : G X Y nL (pc + 1) lv (.long (x.toInt64) :: st) μ) : G X Y nL pc lv (.int x :: st) μ := by
  obtain ⟨p, l, e, R, s, m, args, below, meth, c, A, H0, cells, slots, Q⟩ := X
  intro H locs ls hP hS h
  exact lv_i2l C.1 C.2.1 hdg rfl (k H locs ls hP hS h)
theorem g_l2i (C : Cx X Y nL cc own Ts R0 l0) {x : Int64} (hdg : decode cc pc = .ok (.l2i, 1)) (k : G X Y nL (pc + 1) lv (.int (x.toInt32) :: st) μ) : G X Y nL pc lv (.long x :: st) μ := by
  obtain ⟨p, l, e, R, s, m, args, below, meth, c, A, H0, cells, slots, Q⟩ := X
  intro H locs ls hP hS h
  exact lv_l2i C.1 C.2.1 hdg rfl (k H locs ls hP hS h)
theorem g_i2b (C : Cx X Y nL cc own Ts R0 l0) {x : Int32} (hdg : decode cc pc = .ok (.i2b, 1)) (k : G X Y nL (pc + 1) lv (.int (x.toInt8.toInt32) :: st) μ) : G X Y nL pc lv (.int x :: st) μ := by
  obtain ⟨p, l, e, R, s, m, args, below, meth, c, A, H0, cells, slots, Q⟩ := X
  intro H locs ls hP hS h
  exact lv_i2b C.1 C.2.1 hdg rfl (k H locs ls hP hS h)
theorem g_i2s (C : Cx X Y nL cc own Ts R0 l0) {x : Int32} (hdg : decode cc pc = .ok (.i2s, 1)) (k : G X Y nL (pc + 1) lv (.int (x.toInt16.toInt32) :: st) μ) : G X Y nL pc lv (.int x :: st) μ := by
  obtain ⟨p, l, e, R, s, m, args, below, meth, c, A, H0, cells, slots, Q⟩ := X
  intro H locs ls hP hS h
  exact lv_i2s C.1 C.2.1 hdg rfl (k H locs ls hP hS h)
theorem g_i2c (C : Cx X Y nL cc own Ts R0 l0) {x : Int32} (hdg : decode cc pc = .ok (.i2c, 1)) (k : G X Y nL (pc + 1) lv (.int ((x.toUInt32 % 65536).toInt32) :: st) μ) : G X Y nL pc lv (.int x :: st) μ := by
  obtain ⟨p, l, e, R, s, m, args, below, meth, c, A, H0, cells, slots, Q⟩ := X
  intro H locs ls hP hS h
  exact lv_i2c C.1 C.2.1 hdg rfl (k H locs ls hP hS h)
theorem g_if_eq (C : Cx X Y nL cc own Ts R0 l0) {x : Int32} {off : Int} (tgt : Nat) (hdg : decode cc pc = .ok (.ifCond .eq off, 3)) (ht : (pc : Int) + off = (tgt : Int)) (kt : x = 0 → G X Y nL tgt lv st μ) (kf : ¬ x = 0 → G X Y nL (pc + 3) lv st μ) : G X Y nL pc lv (.int x :: st) μ := by
  obtain ⟨p, l, e, R, s, m, args, below, meth, c, A, H0, cells, slots, Q⟩ := X
  intro H locs ls hP hS h
  exact lv_if_eq C.1 C.2.1 hdg ht (fun z => kt z H locs ls hP hS h) (fun z => kf z H locs ls hP hS h)
theorem g_icmp_eq (C : Cx X Y nL cc own Ts R0 l0) {x y : Int32} {off : Int} (tgt : Nat) (hdg : decode cc pc = .ok (.if_icmp .eq off, 3)) (ht : (pc : Int) + off = (tgt : Int)) (kt : x = y → G X Y nL tgt lv st μ) (kf : ¬ x = y → G X Y nL (pc + 3) lv st μ) : G X Y nL pc lv (.int y :: .int x :: st) μ := by
  obtain ⟨p, l, e, R, s, m, args, below, meth, c, A, H0, cells, slots, Q⟩ := X
  intro H locs ls hP hS h
  exact lv_icmp_eq C.1 C.2.1 hdg ht (fun z => kt z H locs ls hP hS h) (fun z => kf z H locs ls hP hS h)
theorem g_if_ne (C : Cx X Y nL cc own Ts R0 l0) {x : Int32} {off : Int} (tgt : Nat) (hdg : decode cc pc = .ok (.ifCond .ne off, 3)) (ht : (pc : Int) + off = (tgt : Int)) (kt : ¬ x = 0 → G X Y nL tgt lv st μ) (kf : x = 0 → G X Y nL (pc + 3) lv st μ) : G X Y nL pc lv (.int x :: st) μ := by
  obtain ⟨p, l, e, R, s, m, args, below, meth, c, A, H0, cells, slots, Q⟩ := X
  intro H locs ls hP hS h
  exact lv_if_ne C.1 C.2.1 hdg ht (fun z => kt z H locs ls hP hS h) (fun z => kf z H locs ls hP hS h)
theorem g_icmp_ne (C : Cx X Y nL cc own Ts R0 l0) {x y : Int32} {off : Int} (tgt : Nat) (hdg : decode cc pc = .ok (.if_icmp .ne off, 3)) (ht : (pc : Int) + off = (tgt : Int)) (kt : ¬ x = y → G X Y nL tgt lv st μ) (kf : x = y → G X Y nL (pc + 3) lv st μ) : G X Y nL pc lv (.int y :: .int x :: st) μ := by
  obtain ⟨p, l, e, R, s, m, args, below, meth, c, A, H0, cells, slots, Q⟩ := X
  intro H locs ls hP hS h
  exact lv_icmp_ne C.1 C.2.1 hdg ht (fun z => kt z H locs ls hP hS h) (fun z => kf z H locs ls hP hS h)
theorem g_if_lt (C : Cx X Y nL cc own Ts R0 l0) {x : Int32} {off : Int} (tgt : Nat) (hdg : decode cc pc = .ok (.ifCond .lt off, 3)) (ht : (pc : Int) + off = (tgt : Int)) (kt : x < 0 → G X Y nL tgt lv st μ) (kf : ¬ x < 0 → G X Y nL (pc + 3) lv st μ) : G X Y nL pc lv (.int x :: st) μ := by
  obtain ⟨p, l, e, R, s, m, args, below, meth, c, A, H0, cells, slots, Q⟩ := X
  intro H locs ls hP hS h
  exact lv_if_lt C.1 C.2.1 hdg ht (fun z => kt z H locs ls hP hS h) (fun z => kf z H locs ls hP hS h)
theorem g_icmp_lt (C : Cx X Y nL cc own Ts R0 l0) {x y : Int32} {off : Int} (tgt : Nat) (hdg : decode cc pc = .ok (.if_icmp .lt off, 3)) (ht : (pc : Int) + off = (tgt : Int)) (kt : x < y → G X Y nL tgt lv st μ) (kf : ¬ x < y → G X Y nL (pc + 3) lv st μ) : G X Y nL pc lv (.int y :: .int x :: st) μ := by
  obtain ⟨p, l, e, R, s, m, args, below, meth, c, A, H0, cells, slots, Q⟩ := X
  intro H locs ls hP hS h
  exact lv_icmp_lt C.1 C.2.1 hdg ht (fun z => kt z H locs ls hP hS h) (fun z => kf z H locs ls hP hS h)
theorem g_if_ge (C : Cx X Y nL cc own Ts R0 l0) {x : Int32} {off : Int} (tgt : Nat) (hdg : decode cc pc = .ok (.ifCond .ge off, 3)) (ht : (pc : Int) + off = (tgt : Int)) (kt : 0 ≤ x → G X Y nL tgt lv st μ) (kf : ¬ 0 ≤ x → G X Y nL (pc + 3) lv st μ) : G X Y nL pc lv (.int x :: st) μ := by
  obtain ⟨p, l, e, R, s, m, args, below, meth, c, A, H0, cells, slots, Q⟩ := X
  intro H locs ls hP hS h
  exact lv_if_ge C.1 C.2.1 hdg ht (fun z => kt z H locs ls hP hS h) (fun z => kf z H locs ls hP hS h)
theorem g_icmp_ge (C : Cx X Y nL cc own Ts R0 l0) {x y : Int32} {off : Int} (tgt : Nat) (hdg : decode cc pc = .ok (.if_icmp .ge off, 3)) (ht : (pc : Int) + off = (tgt : Int)) (kt : y ≤ x → G X Y nL tgt lv st μ) (kf : ¬ y ≤ x → G X Y nL (pc + 3) lv st μ) : G X Y nL pc lv (.int y :: .int x :: st) μ := by
  obtain ⟨p, l, e, R, s, m, args, below, meth, c, A, H0, cells, slots, Q⟩ := X
  intro H locs ls hP hS h
  exact lv_icmp_ge C.1 C.2.1 hdg ht (fun z => kt z H locs ls hP hS h) (fun z => kf z H locs ls hP hS h)
theorem g_if_gt (C : Cx X Y nL cc own Ts R0 l0) {x : Int32} {off : Int} (tgt : Nat) (hdg : decode cc pc = .ok (.ifCond .gt off, 3)) (ht : (pc : Int) + off = (tgt : Int)) (kt : 0 < x → G X Y nL tgt lv st μ) (kf : ¬ 0 < x → G X Y nL (pc + 3) lv st μ) : G X Y nL pc lv (.int x :: st) μ := by
  obtain ⟨p, l, e, R, s, m, args, below, meth, c, A, H0, cells, slots, Q⟩ := X
  intro H locs ls hP hS h
  exact lv_if_gt C.1 C.2.1 hdg ht (fun z => kt z H locs ls hP hS h) (fun z => kf z H locs ls hP hS h)
theorem g_icmp_gt (C : Cx X Y nL cc own Ts R0 l0) {x y : Int32} {off : Int} (tgt : Nat) (hdg : decode cc pc = .ok (.if_icmp .gt off, 3)) (ht : (pc : Int) + off = (tgt : Int)) (kt : y < x → G X Y nL tgt lv st μ) (kf : ¬ y < x → G X Y nL (pc + 3) lv st μ) : G X Y nL pc lv (.int y :: .int x :: st) μ := by
  obtain ⟨p, l, e, R, s, m, args, below, meth, c, A, H0, cells, slots, Q⟩ := X
  intro H locs ls hP hS h
  exact lv_icmp_gt C.1 C.2.1 hdg ht (fun z => kt z H locs ls hP hS h) (fun z => kf z H locs ls hP hS h)
theorem g_if_le (C : Cx X Y nL cc own Ts R0 l0) {x : Int32} {off : Int} (tgt : Nat) (hdg : decode cc pc = .ok (.ifCond .le off, 3)) (ht : (pc : Int) + off = (tgt : Int)) (kt : x ≤ 0 → G X Y nL tgt lv st μ) (kf : ¬ x ≤ 0 → G X Y nL (pc + 3) lv st μ) : G X Y nL pc lv (.int x :: st) μ := by
  obtain ⟨p, l, e, R, s, m, args, below, meth, c, A, H0, cells, slots, Q⟩ := X
  intro H locs ls hP hS h
  exact lv_if_le C.1 C.2.1 hdg ht (fun z => kt z H locs ls hP hS h) (fun z => kf z H locs ls hP hS h)
theorem g_icmp_le (C : Cx X Y nL cc own Ts R0 l0) {x y : Int32} {off : Int} (tgt : Nat) (hdg : decode cc pc = .ok (.if_icmp .le off, 3)) (ht : (pc : Int) + off = (tgt : Int)) (kt : x ≤ y → G X Y nL tgt lv st μ) (kf : ¬ x ≤ y → G X Y nL (pc + 3) lv st μ) : G X Y nL pc lv (.int y :: .int x :: st) μ := by
  obtain ⟨p, l, e, R, s, m, args, below, meth, c, A, H0, cells, slots, Q⟩ := X
  intro H locs ls hP hS h
  exact lv_icmp_le C.1 C.2.1 hdg ht (fun z => kt z H locs ls hP hS h) (fun z => kf z H locs ls hP hS h)
theorem g_lcmp (C : Cx X Y nL cc own Ts R0 l0) {x y : Int64} (hdg : decode cc pc = .ok (.lcmp, 1)) (k : G X Y nL (pc + 1) lv (.int (lg_cmp x y) :: st) μ) : G X Y nL pc lv (.long y :: .long x :: st) μ := by
  obtain ⟨p, l, e, R, s, m, args, below, meth, c, A, H0, cells, slots, Q⟩ := X
  intro H locs ls hP hS h
  exact W.lcmp C.1 C.2.1 hdg (k H locs ls hP hS h)
theorem g_ldc (C : Cx X Y nL cc own Ts R0 l0) {idx : Nat} {v : Int32} (hw : Cond.constant own idx v ∈ Ts) (hdg : decode cc pc = .ok (.ldc idx, 2)) (k : G X Y nL (pc + 2) lv (.int v :: st) μ) : G X Y nL pc lv st μ := by
  obtain ⟨p, l, e, R, s, m, args, below, meth, c, A, H0, cells, slots, Q⟩ := X
  intro H locs ls hP hS h
  exact lv_ldc C.1 C.2.1 C.2.2.2.1 (C.2.2.2.2.1 _ hw) hdg (k H locs ls hP hS h)
theorem g_ldc2 (C : Cx X Y nL cc own Ts R0 l0) {idx : Nat} {v : Int64} (hw : Cond.constantLong own idx v ∈ Ts) (hdg : decode cc pc = .ok (.ldc2_w idx, 3)) (k : G X Y nL (pc + 3) lv (.long v :: st) μ) : G X Y nL pc lv st μ := by
  obtain ⟨p, l, e, R, s, m, args, below, meth, c, A, H0, cells, slots, Q⟩ := X
  intro H locs ls hP hS h
  exact lv_ldc2 C.1 C.2.1 C.2.2.2.1 (C.2.2.2.2.1 _ hw) hdg (k H locs ls hP hS h)
theorem g_tableOut (C : Cx X Y nL cc own Ts R0 l0) {dflt lo hi : Int} {offs : Array Int} {len : Nat} {x : Int32} (tgt : Nat) (hdg : decode cc pc = .ok (.tableswitch dflt lo hi offs, len)) (h : x.toInt < lo ∨ hi < x.toInt) (ht : (pc : Int) + dflt = (tgt : Int)) (k : G X Y nL tgt lv st μ) : G X Y nL pc lv (.int x :: st) μ := by
  obtain ⟨p, l, e, R, s, m, args, below, meth, c, A, H0, cells, slots, Q⟩ := X
  intro H locs ls hP hS hl
  exact lv_tableOut C.1 C.2.1 hdg h ht (k H locs ls hP hS hl)
theorem g_tableIn (C : Cx X Y nL cc own Ts R0 l0) {dflt lo hi : Int} {offs : Array Int} {len : Nat} {x : Int32} {off : Int} (tgt : Nat) (hdg : decode cc pc = .ok (.tableswitch dflt lo hi offs, len)) (h1 : ¬ x.toInt < lo) (h2 : ¬ hi < x.toInt) (ho : offs[(x.toInt - lo).toNat]? = some off) (ht : (pc : Int) + off = (tgt : Int)) (k : G X Y nL tgt lv st μ) : G X Y nL pc lv (.int x :: st) μ := by
  obtain ⟨p, l, e, R, s, m, args, below, meth, c, A, H0, cells, slots, Q⟩ := X
  intro H locs ls hP hS hl
  exact lv_tableIn C.1 C.2.1 hdg h1 h2 ho ht (k H locs ls hP hS hl)
theorem g_get (C : Cx X Y nL cc own Ts R0 l0) {i ci k Nc idx : Nat} {Cn ref : String} {T : u_T} {sh : Row → va_E} {fs : List Value} {v : Value} (hi : i < Y.N) (hsh : Y.sh i = sh) (he : sh (mrow μ i) = .inr (ci, fs)) (hc : vwCl[ci]? = some (Cn, T, Nc)) (hin : ∀ w ∈ u_ws Cn T Nc, w ∈ Ts) (hk : k < Nc) (hlk : Cond.fieldLink own idx ref (T k).2.1 (T k).2.2.1 ∈ Ts) (href : (T k).1 = ref) (hv : fs[k]? = some v) (hdg : decode cc pc = .ok (.getfield idx, 3)) (kk : G X Y nL (pc + 3) lv (v :: st) μ) : G X Y nL pc lv (.ref (Y.ad i) :: st) μ := by
  obtain ⟨p, l, e, R, s, m, args, below, meth, c, A, H0, cells, slots, Q⟩ := X
  intro H locs ls hP hS hl
  obtain ⟨hx, hb, hml, hown, hts, hK, hI, hA, -⟩ := C
  subst hsh
  exact va_get hx hb hts hin hown hK hP i (by rw [wd_at hi, he]) hc k hk (hts _ hlk) (fun x h => by rw [← href]; exact h) hv hdg (kk H locs ls hP hS hl)
theorem g_put (C : Cx X Y nL cc own Ts R0 l0) {i ci k Nc idx : Nat} {Cn ref : String} {T : u_T} {ty0 : Nat → FieldType} {sh : Row → va_E} {fs : List Value} {v : Value} {ty : FieldType} {μ' : Mem} (hi : i < Y.N) (hsh : Y.sh i = sh) (he : sh (mrow μ i) = .inr (ci, fs)) (hc : vwCl[ci]? = some (Cn, T, Nc)) (hin : ∀ w ∈ u_ws Cn T Nc, w ∈ Ts) (hty : ∀ k, k < Nc → parseFieldDescriptor (T k).2.2.1 = some (ty0 k)) (hnm : ∀ a, a < Nc → ∀ b, b < Nc → a ≠ b → (T a).2.1 ≠ (T b).2.1) (hk : k < Nc) (hlk : Cond.fieldLink own idx ref (T k).2.1 (T k).2.2.1 ∈ Ts) (href : (T k).1 = ref) (hfin : (T k).2.2.2 = false) (hd : ty0 k = ty) (hn : narrow ty v = v) (hfit : fits ty v = true) (hlen : k < fs.length) (hrow : sh (mrow μ' i) = .inr (ci, fs.set k v)) (ho : ∀ b : Nat, b ≠ i → mrow μ' b = mrow μ b) (hdg : decode cc pc = .ok (.putfield idx, 3)) (kk : G X Y nL (pc + 3) lv st μ') : G X Y nL pc lv (v :: .ref (Y.ad i) :: st) μ := by
  obtain ⟨p, l, e, R, s, m, args, below, meth, c, A, H0, cells, slots, Q⟩ := X
  intro H locs ls hP hS hl
  obtain ⟨hx, hb, hml, hown, hts, hK, hI, hA, -⟩ := C
  subst hsh
  refine va_put hx hb hts hin ty0 hty hnm hown hK hP (wd_D hI hA) hS i (by rw [wd_at hi, he]) hc k hk (hts _ hlk) (fun x h => by rw [← href]; exact h) hfin (by rw [hty k hk, hd]) hn hfit hlen hdg (fun H1 locs1 hP1 _ hS1 => kk H1 locs1 ls ?_ hS1 hl)
  rw [wd_set hi hrow ho] at hP1
  exact hP1
theorem g_iald (C : Cx X Y nL cc own Ts R0 l0) {a n : Nat} (ha : a < Y.N) (hsh : Y.sh a = sI Y.cI n) {i : Int32} (hin : vp_in i n) (hdg : decode cc pc = .ok (.iaload, 1)) (kk : G X Y nL (pc + 1) lv (.int (μ.1 a i.toNatClampNeg) :: st) μ) : G X Y nL pc lv (.int i :: .ref (Y.ad a) :: st) μ := by
  obtain ⟨p, l, e, R, s, m, args, below, meth, c, A, H0, cells, slots, Q⟩ := X
  intro H locs ls hP hS hl
  exact va_iald C.1 C.2.1 C.2.2.2.2.2.1 hP a 0 (by rw [wd_at ha, hsh]; rfl) rfl hin hdg (kk H locs ls hP hS hl)
theorem g_bald (C : Cx X Y nL cc own Ts R0 l0) {a n : Nat} (ha : a < Y.N) (hsh : Y.sh a = sI Y.cB n) {i : Int32} (hin : vp_in i n) (hdg : decode cc pc = .ok (.baload, 1)) (kk : G X Y nL (pc + 1) lv (.int (μ.1 a i.toNatClampNeg) :: st) μ) : G X Y nL pc lv (.int i :: .ref (Y.ad a) :: st) μ := by
  obtain ⟨p, l, e, R, s, m, args, below, meth, c, A, H0, cells, slots, Q⟩ := X
  intro H locs ls hP hS hl
  exact va_bald C.1 C.2.1 C.2.2.2.2.2.1 hP a 1 (by rw [wd_at ha, hsh]; rfl) rfl hin hdg (kk H locs ls hP hS hl)
theorem g_zald (C : Cx X Y nL cc own Ts R0 l0) {a n : Nat} (ha : a < Y.N) (hsh : Y.sh a = sI Y.cZ n) {i : Int32} (hin : vp_in i n) (hdg : decode cc pc = .ok (.baload, 1)) (kk : G X Y nL (pc + 1) lv (.int (μ.1 a i.toNatClampNeg) :: st) μ) : G X Y nL pc lv (.int i :: .ref (Y.ad a) :: st) μ := by
  obtain ⟨p, l, e, R, s, m, args, below, meth, c, A, H0, cells, slots, Q⟩ := X
  intro H locs ls hP hS hl
  exact va_zald C.1 C.2.1 C.2.2.2.2.2.1 hP a 2 (by rw [wd_at ha, hsh]; rfl) rfl hin hdg (kk H locs ls hP hS hl)
theorem g_iast (C : Cx X Y nL cc own Ts R0 l0) {a n : Nat} (ha : a < Y.N) (hsh : Y.sh a = sI Y.cI n) {i x : Int32} (hin : vp_in i n) (hdg : decode cc pc = .ok (.iastore, 1)) (kk : G X Y nL (pc + 1) lv st (ms μ a i.toNatClampNeg x)) : G X Y nL pc lv (.int x :: .int i :: .ref (Y.ad a) :: st) μ := by
  obtain ⟨p, l, e, R, s, m, args, below, meth, c, A, H0, cells, slots, Q⟩ := X
  intro H locs ls hP hS hl
  refine va_iast C.1 C.2.1 C.2.2.2.2.2.1 hP (wd_D C.2.2.2.2.2.2.1 C.2.2.2.2.2.2.2.1) hS a 0 (by rw [wd_at ha, hsh]; rfl) rfl hin hdg (fun H1 locs1 hP1 _ hS1 => kk H1 locs1 ls ?_ hS1 hl)
  rw [wd_set (μ' := ms μ a i.toNatClampNeg x) ha (by rw [hsh, mrow_ms]; rfl) (fun b h => mrow_ms_ne h)] at hP1
  exact hP1
theorem g_bast (C : Cx X Y nL cc own Ts R0 l0) {a n : Nat} (ha : a < Y.N) (hsh : Y.sh a = sI Y.cB n) {i x : Int32} (hin : vp_in i n) (hdg : decode cc pc = .ok (.bastore, 1)) (kk : G X Y nL (pc + 1) lv st (ms μ a i.toNatClampNeg (vp_nar .byte x))) : G X Y nL pc lv (.int x :: .int i :: .ref (Y.ad a) :: st) μ := by
  obtain ⟨p, l, e, R, s, m, args, below, meth, c, A, H0, cells, slots, Q⟩ := X
  intro H locs ls hP hS hl
  refine va_bast C.1 C.2.1 C.2.2.2.2.2.1 hP (wd_D C.2.2.2.2.2.2.1 C.2.2.2.2.2.2.2.1) hS a 1 (by rw [wd_at ha, hsh]; rfl) rfl hin hdg (fun H1 locs1 hP1 _ hS1 => kk H1 locs1 ls ?_ hS1 hl)
  rw [wd_set (μ' := ms μ a i.toNatClampNeg (vp_nar .byte x)) ha (by rw [hsh, mrow_ms]; rfl) (fun b h => mrow_ms_ne h)] at hP1
  exact hP1
theorem g_zast (C : Cx X Y nL cc own Ts R0 l0) {a n : Nat} (ha : a < Y.N) (hsh : Y.sh a = sI Y.cZ n) {i x : Int32} (hin : vp_in i n) (hdg : decode cc pc = .ok (.bastore, 1)) (kk : G X Y nL (pc + 1) lv st (ms μ a i.toNatClampNeg (vp_nar .boolean x))) : G X Y nL pc lv (.int x :: .int i :: .ref (Y.ad a) :: st) μ := by
  obtain ⟨p, l, e, R, s, m, args, below, meth, c, A, H0, cells, slots, Q⟩ := X
  intro H locs ls hP hS hl
  refine va_zast C.1 C.2.1 C.2.2.2.2.2.1 hP (wd_D C.2.2.2.2.2.2.1 C.2.2.2.2.2.2.2.1) hS a 2 (by rw [wd_at ha, hsh]; rfl) rfl hin hdg (fun H1 locs1 hP1 _ hS1 => kk H1 locs1 ls ?_ hS1 hl)
  rw [wd_set (μ' := ms μ a i.toNatClampNeg (vp_nar .boolean x)) ha (by rw [hsh, mrow_ms]; rfl) (fun b h => mrow_ms_ne h)] at hP1
  exact hP1
def sO (cA : ClassId) (n : Nat) (f : Nat → Option Nat) : Row → va_E := fun _ => .inl (cA, n, .inr (.inr (.inr (.inr f))))
theorem g_aald (C : Cx X Y nL cc own Ts R0 l0) {a n : Nat} {g : Nat → Nat} (ha : a < Y.N) (hsh : ∃ f : Nat → Option Nat, Y.sh a = sO Y.cK n f ∧ ∀ j : Nat, j < n → f j = some (Y.ad (g j))) {i : Int32} (hin : vp_in i n) (hdg : decode cc pc = .ok (.aaload, 1)) (kk : G X Y nL (pc + 1) lv (.ref (Y.ad (g i.toNatClampNeg)) :: st) μ) : G X Y nL pc lv (.int i :: .ref (Y.ad a) :: st) μ := by
  obtain ⟨p, l, e, R, s, m, args, below, meth, c, A, H0, cells, slots, Q⟩ := X
  obtain ⟨f, h1, h2⟩ := hsh
  have hlt : i.toNatClampNeg < n := Nat.not_le.mp fun q => hin (Or.inr q)
  intro H locs ls hP hS hl
  refine va_aldq (f := f) C.1 C.2.1 C.2.2.2.2.2.1 hP a 3 (by rw [wd_at ha, h1]; rfl) rfl hin hdg ?_
  rw [h2 _ hlt]
  exact kk H locs ls hP hS hl
theorem g_max (C : Cx X Y nL cc own Ts R0 l0) {idx : Nat} {x y : Int32} (h1 : Cond.methodLink own idx Lib.Math.max.name ∈ Ts) (h2 : Cond.static Lib.Math.max.name ∈ Ts) (h3 : Cond.initialized "java/lang/Math" ∈ Ts) (h4 : Cond.code Lib.Math.max.name Lib.Math.max.code 2 (some .int) ∈ Ts) (hf : 1 ≤ R0.frames) (hlo : (st.map fun v => v.category).sum + 13 ≤ R0.locals) (hdg : decode cc pc = .ok (.invokestatic idx, 3)) (kk : G X Y nL (pc + 3) lv (.int (if x < y then y else x) :: st) μ) : G X Y nL pc lv (.int y :: .int x :: st) μ := by
  obtain ⟨p, l, e, R, s, m, args, below, meth, c, A, H0, cells, slots, Q⟩ := X
  intro H locs ls hP hS hl
  obtain ⟨hx, hb, hml, hown, hts, hK, hI, hA, hlk, hR, -, hce, hsl, -, -⟩ := C
  subst hR
  exact va_mmax hx hb (by rw [hml, hl.1]) hown (hts _ h1) (hts _ h2) (hts _ h3) (hts _ h4) hf hlo hce hsl hdg (kk H locs ls hP hS hl)
theorem g_min (C : Cx X Y nL cc own Ts R0 l0) {idx : Nat} {x y : Int32} (h1 : Cond.methodLink own idx Lib.Math.min.name ∈ Ts) (h2 : Cond.static Lib.Math.min.name ∈ Ts) (h3 : Cond.initialized "java/lang/Math" ∈ Ts) (h4 : Cond.code Lib.Math.min.name Lib.Math.min.code 2 (some .int) ∈ Ts) (hf : 1 ≤ R0.frames) (hlo : (st.map fun v => v.category).sum + 13 ≤ R0.locals) (hdg : decode cc pc = .ok (.invokestatic idx, 3)) (kk : G X Y nL (pc + 3) lv (.int (if y < x then y else x) :: st) μ) : G X Y nL pc lv (.int y :: .int x :: st) μ := by
  obtain ⟨p, l, e, R, s, m, args, below, meth, c, A, H0, cells, slots, Q⟩ := X
  intro H locs ls hP hS hl
  obtain ⟨hx, hb, hml, hown, hts, hK, hI, hA, hlk, hR, -, hce, hsl, -, -⟩ := C
  subst hR
  exact va_mmin hx hb (by rw [hml, hl.1]) hown (hts _ h1) (hts _ h2) (hts _ h3) (hts _ h4) hf hlo hce hsl hdg (kk H locs ls hP hS hl)
theorem g_copy (C : Cx X Y nL cc own Ts R0 l0) {idx a0 a n0 n1 : Nat} {sp dp n : Int32} (h1 : Cond.methodLink own idx arraycopyName ∈ Ts) (h2 : Cond.native arraycopyName ∈ Ts) (h3 : Cond.static arraycopyName ∈ Ts) (h4 : Cond.initialized "java/lang/System" ∈ Ts) (ha0 : a0 < Y.N) (ha : a < Y.N) (hs0 : Y.sh a0 = sI Y.cI n0) (hs1 : Y.sh a = sI Y.cI n1) (g1 : ¬ sp < 0) (g2 : ¬ dp < 0) (g3 : ¬ n < 0) (g4 : sp.toNatClampNeg + n.toNatClampNeg ≤ n0) (g5 : dp.toNatClampNeg + n.toNatClampNeg ≤ n1) (hf : 1 ≤ R0.frames) (hlo : (st.map fun v => v.category).sum + (nativeFrameWords "java/lang/System" "arraycopy" 5 + 11) ≤ R0.locals) (hdg : decode cc pc = .ok (.invokestatic idx, 3)) (kk : G X Y nL (pc + 3) lv st (mr μ a (va_cpy (μ.1 a0) (μ.1 a) sp.toNatClampNeg dp.toNatClampNeg n.toNatClampNeg))) : G X Y nL pc lv (.int n :: .int dp :: .ref (Y.ad a) :: .int sp :: .ref (Y.ad a0) :: st) μ := by
  obtain ⟨p, l, e, R, s, m, args, below, meth, c, A, H0, cells, slots, Q⟩ := X
  intro H locs ls hP hS hl
  obtain ⟨hx, hb, hml, hown, hts, hK, hI, hA, hlk, hR, -, hce, hsl, -, -⟩ := C
  subst hR
  refine va_copyi hx hb (by rw [hml, hl.1]) hown (hts _ h1) (hts _ h2) (hts _ h3) (hts _ h4) hK hP (wd_D hI hA) hS a0 a 0 0 (f := μ.1 a0) (g := μ.1 a) (by rw [wd_at ha0, hs0]; rfl) (by rw [wd_at ha, hs1]; rfl) rfl rfl rfl g1 g2 g3 g4 g5 (fun _ _ => rfl) hf hlo hdg (fun H1 locs1 hP1 _ hS1 => kk H1 locs1 ls ?_ hS1 hl)
  rw [wd_set (μ' := mr μ a (va_cpy (μ.1 a0) (μ.1 a) sp.toNatClampNeg dp.toNatClampNeg n.toNatClampNeg)) ha (by rw [hs1, mrow_mr]; rfl) (fun b h => mrow_mr_ne h)] at hP1
  exact hP1
end GR
-- a method's contract
abbrev PreB (Y : YT) (μ : Mem) : State → Prop := fun U => va_P Y.D vwCl (wd Y μ) U.heap ∧ va_K Y.D vwCl Y.tys U ∧ EVA Y.aK Y.aV (Aw Y) U U.heap
abbrev PosB (Y : YT) : Mem → State → Prop := fun μ t => va_P Y.D vwCl (wd Y μ) t.heap
abbrev rmB (fr lo : Nat) : Room := { frames := fr, cells := 0, slots := 0, locals := lo }
def MI (l : Launch) (y : MethodName) (ws : List Cond) (fr lo : Nat) (Y : YT) (As : List Value) (μ : Mem) (Q : Int32 → Mem → Prop) : Prop := Met l y ws (rmB fr lo) (va_Pc As (PreB Y μ)) (va_Qi Q (PosB Y) (Aw Y)) 0 0 (Aw Y)
def MV (l : Launch) (y : MethodName) (ws : List Cond) (fr lo : Nat) (Y : YT) (As : List Value) (μ : Mem) (Q : Mem → Prop) : Prop := Met l y ws (rmB fr lo) (va_Pc As (PreB Y μ)) (va_Qv Q (PosB Y) (Aw Y)) 0 0 (Aw Y)
theorem pre_blind {Y : YT} {μ : Mem} {As : List Value} : FrameBlind (va_Pc As (PreB Y μ)) := by
  intro a U g mk h
  obtain ⟨h1, h2, h3, h4, h5, h6, h7, h8, h9⟩ := h
  exact ⟨h1, h2, va_K.moved (u := U) (U := U.calling g mk a) (Vm.Alike.refl U.vm) h3, vk_S.moved (u := U) (U := U.calling g mk a) (Vm.Alike.refl U.vm) h4, fun i hi => vk_R.same (u := U) (U := U.calling g mk a) rfl (h5 i hi), va_Z.moved (u := U) (U := U.calling g mk a) (Vm.Alike.refl U.vm) h6, va_Zq.moved (u := U) (U := U.calling g mk a) (Vm.Alike.refl U.vm) h7, fun q hq => va_Nw.same (u := U) (U := U.calling g mk a) rfl rfl (h8 q hq), va_AO.moved (u := U) (U := U.calling g mk a) (Vm.Alike.refl U.vm) h9⟩
def RI (X : XT) (Y : YT) (cc : ByteArray) (ty : FieldType) (Q : Int32 → Mem → Prop) : Prop := ∀ (nL pc : Nat) (lv : List (Nat × Value)) (v : Int32) (μ : Mem), decode cc pc = .ok (.ireturn, 1) → narrow ty (.int v) = .int v → Q v μ → G X Y nL pc lv [.int v] μ
def RV (X : XT) (Y : YT) (cc : ByteArray) (Q : Mem → Prop) : Prop := ∀ (nL pc : Nat) (lv : List (Nat × Value)) (μ : Mem), decode cc pc = .ok (.return_, 1) → Q μ → G X Y nL pc lv [] μ
def RVn (X : XT) (Y : YT) (nL : Nat) (cc : ByteArray) (Q : Mem → Prop) : Prop := ∀ (pc : Nat) (lv : List (Nat × Value)) (μ : Mem), decode cc pc = .ok (.return_, 1) → Q μ → G X Y nL pc lv [] μ
theorem cx_YI {X : XT} {Y : YT} {nL : Nat} {cc : ByteArray} {own : String} {Ts : List Cond} {R0 : Room} {l0 : Launch} (C : Cx X Y nL cc own Ts R0 l0) : YI Y := by
  obtain ⟨p, l, e, R, s, m, args, below, meth, c, A, H0, cells, slots, Q⟩ := X
  exact C.2.2.2.2.2.2.1
theorem met_ofWF {l : Launch} {y : MethodName} {ws ws' : List Cond} {rm : Room} {Pc : Array Value → State → Prop} {Qc : Array Value → State → Outcome → State → Prop} {mc ms : Nat} {free : Addr → Prop} {cc : ByteArray} {maxL : Nat} {ret : Option FieldType}
    (hy : plainFor y = true) (hw : ws = Cond.code y cc maxL ret :: ws')
    (body : ∀ p e s m args below meth c s₁, BodyLoose p l y (headSpec ws rm) cc maxL ret e s m args below meth c s₁ → c.maxLocals = maxL → Pc args s →
      W p l e (headSpec ws rm).room s m args below meth c s.heap [] 0 0 (MQ below Qc args s mc ms free) (entryFrame m args maxL)) : Met l y ws rm Pc Qc mc ms free := by
  refine MetFree.of_bodySF (code := cc) (maxLocals := maxL) (ret := ret) hy ?_ ?_
  · intro args s m h hn
    obtain ⟨meth, c, h1, h2, h3, h4, h5, h6, -, -⟩ := Cond.code_spec hn (atoms_spec (ws := ws) h _ (by rw [hw]; exact List.mem_cons_self))
    exact ⟨meth, c, h1, h2, h3, h4, h5, h6⟩
  · intro p e s m args below meth c s₁ B hml hP _
    have hh0 : s₁.heap = s.heap := by rw [B.state]; rfl
    obtain ⟨t, a1, o, b1, b2, b3⟩ := body p e s m args below meth c s₁ B hml hP s₁ hh0 (Stand.of_body B)
    exact ⟨t, o, a1, b1, b2, ⟨b3.1, b3.2⟩⟩
theorem mI_of {l : Launch} {y : MethodName} {cc : ByteArray} {maxL : Nat} {ty : FieldType} {ws ws' : List Cond} {fr lo : Nat} {Y : YT} {As : List Value} {μ : Mem} {Q : Int32 → Mem → Prop} (hy : plainFor y = true) (hw : ws = Cond.code y cc maxL (some ty) :: ws') (hI : YI Y) (hle : (lg_sl As).length ≤ maxL)
    (body : ∀ X : XT, Cx X Y maxL cc y.cls ws (rmB fr lo) l → RI X Y cc ty Q → G X Y maxL 0 (lv_args 0 As) [] μ) : MI l y ws fr lo Y As μ Q := by
  refine met_ofWF (cc := cc) (maxL := maxL) (ret := some ty) hy hw ?_
  intro p e s m args below meth c s₁ B hml hv
  obtain ⟨rfl, hP, hK, hEV⟩ := hv
  rw [lg_entry_eq]
  refine body (p, l, e, rmB fr lo, s, m, As.toArray, below, meth, c, Aw Y, s.heap, 0, 0, MQ below (va_Qi Q (PosB Y) (Aw Y)) As.toArray s 0 0 (Aw Y)) ⟨B.exec, B.bytes, hml, findClass_of_methodNamed B.named, atoms_spec (ws := ws) B.pre, hK, hI, fun i hi => ⟨i, hi, rfl⟩, B.notSynchronized, rfl, rfl, Nat.le_refl _, Nat.le_refl _, rfl, hEV⟩ ?_ s.heap [] _ hP va_S.rf (lv_entry As hle)
  intro nL pc lv v μ' hdg hn hq H locs ls hP hS hl
  have hlocks := B.notSynchronized
  exact W.zret B.exec B.bytes B.returns hn (fun t ht hW => ⟨⟨v, μ', rfl, hq, by show va_P Y.D vwCl (wd Y μ') t.heap; rw [ht]; exact hP⟩, hS.F ht⟩) hS.2.2 hdg
theorem mV_of {l : Launch} {y : MethodName} {cc : ByteArray} {maxL : Nat} {ws ws' : List Cond} {fr lo : Nat} {Y : YT} {As : List Value} {μ : Mem} {Q : Mem → Prop} (hy : plainFor y = true) (hw : ws = Cond.code y cc maxL none :: ws') (hI : YI Y) (hle : (lg_sl As).length ≤ maxL)
    (body : ∀ X : XT, Cx X Y maxL cc y.cls ws (rmB fr lo) l → RV X Y cc Q → G X Y maxL 0 (lv_args 0 As) [] μ) : MV l y ws fr lo Y As μ Q := by
  refine met_ofWF (cc := cc) (maxL := maxL) (ret := none) hy hw ?_
  intro p e s m args below meth c s₁ B hml hv
  obtain ⟨rfl, hP, hK, hEV⟩ := hv
  rw [lg_entry_eq]
  refine body (p, l, e, rmB fr lo, s, m, As.toArray, below, meth, c, Aw Y, s.heap, 0, 0, MQ below (va_Qv Q (PosB Y) (Aw Y)) As.toArray s 0 0 (Aw Y)) ⟨B.exec, B.bytes, hml, findClass_of_methodNamed B.named, atoms_spec (ws := ws) B.pre, hK, hI, fun i hi => ⟨i, hi, rfl⟩, B.notSynchronized, rfl, rfl, Nat.le_refl _, Nat.le_refl _, rfl, hEV⟩ ?_ s.heap [] _ hP va_S.rf (lv_entry As hle)
  intro nL pc lv μ' hdg hq H locs ls hP hS hl
  have hlocks := B.notSynchronized
  exact W.vret B.exec B.bytes B.returns (fun t ht hW => ⟨⟨μ', rfl, hq, by show va_P Y.D vwCl (wd Y μ') t.heap; rw [ht]; exact hP⟩, hS.F ht⟩) hS.2.2 hdg
section GC
variable {X : XT} {Y : YT} {nL : Nat} {cc : ByteArray} {own : String} {Ts : List Cond} {R0 : Room} {l0 : Launch} {pc : Nat} {lv : List (Nat × Value)} {st : List Value} {μ : Mem}
variable {y : MethodName} {Cn : String} {bytes : ByteArray} {maxL idx fr lo b : Nat} {ret : Option FieldType} {ws ws' : List Cond}
theorem g_callVI (C : Cx X Y nL cc own Ts R0 l0) {Q : Int32 → Mem → Prop} (As rest : List Value) {ci : Nat} {fs : List Value} {sh : Row → va_E} {q : vw_C} (hM : MI l0 y ws fr lo Y (.ref (Y.ad b) :: As) μ Q) (hT : GoodIn Ts (wsV own idx Cn y ws)) (hw : ws = Cond.code y bytes maxL ret :: ws') (hd : y.cls = Cn ∧ y.cls ≠ "java/lang/invoke/MethodHandle" ∧ y.cls ≠ "java/lang/invoke/VarHandle" ∧ (parseMethodDescriptor y.desc).map (fun d => d.parameters.length) = some As.length) (hR : fr + 1 ≤ R0.frames ∧ 8 + (maxL + 11) + lo ≤ R0.locals) (hb : b < Y.N) (hsh : Y.sh b = sh) (he : sh (mrow μ b) = .inr (ci, fs)) (hc : vwCl[ci]? = some q) (hq : q.1 = Cn) (hst : st = As.reverse ++ .ref (Y.ad b) :: rest) (hcat : (rest.map fun v => v.category).sum ≤ 8) (hdg : decode cc pc = .ok (.invokevirtual idx, 3)) (kk : ∀ (r : Int32) (μ' : Mem), Q r μ' → G X Y nL (pc + 3) lv (.int r :: rest) μ') : G X Y nL pc lv st μ := by
  obtain ⟨p, l, e, R, s, m, args, below, meth, c, A, H0, cells, slots, Qx⟩ := X
  intro H locs ls hP hS hl
  obtain ⟨hx, hbc, hml, hown, hts, hK, hI, hA, hlk, hRR, hL, hce, hsl, hH0, hEV⟩ := C
  subst hH0; subst hRR; subst hsh; subst hst; subst hq; subst hL
  have he' : (wd Y μ)[b]? = some (Y.ad b, .inr (ci, fs)) := by rw [wd_at hb, he]
  have hAw : ∀ q, Aw Y q → A q := fun q h => by obtain ⟨i, hi, rfl⟩ := h; exact hA i hi
  refine va_calli (va_runV (As := As) (rest := rest) ⟨hx, hbc, hml, hown, hts⟩ hM (cwV As.length hts hT hw rfl rfl hd hR) ⟨pre_blind, va_recv hK hP hc he', fun U hU hW => ⟨rfl, by rw [hU]; exact hP, va_K.moved hW.alike hK, by rw [hU]; exact hEV.to hAw hS hW⟩⟩ rfl rfl hl.1 rfl (lv_room hcat) hdg ⟨hce, hsl⟩) hS (fun q _ h => hAw q h) hAw (fun r u t H1 locs1 ht hvm hp hB _ _ hS1 => ?_)
  exact kk r u hp H1 locs1 ls (by rw [← ht]; exact hB) hS1 hl
theorem g_callVV (C : Cx X Y nL cc own Ts R0 l0) {Q : Mem → Prop} (As rest : List Value) {ci : Nat} {fs : List Value} {sh : Row → va_E} {q : vw_C} (hM : MV l0 y ws fr lo Y (.ref (Y.ad b) :: As) μ Q) (hT : GoodIn Ts (wsV own idx Cn y ws)) (hw : ws = Cond.code y bytes maxL ret :: ws') (hd : y.cls = Cn ∧ y.cls ≠ "java/lang/invoke/MethodHandle" ∧ y.cls ≠ "java/lang/invoke/VarHandle" ∧ (parseMethodDescriptor y.desc).map (fun d => d.parameters.length) = some As.length) (hR : fr + 1 ≤ R0.frames ∧ 8 + (maxL + 11) + lo ≤ R0.locals) (hb : b < Y.N) (hsh : Y.sh b = sh) (he : sh (mrow μ b) = .inr (ci, fs)) (hc : vwCl[ci]? = some q) (hq : q.1 = Cn) (hst : st = As.reverse ++ .ref (Y.ad b) :: rest) (hcat : (rest.map fun v => v.category).sum ≤ 8) (hdg : decode cc pc = .ok (.invokevirtual idx, 3)) (kk : ∀ (μ' : Mem), Q μ' → G X Y nL (pc + 3) lv rest μ') : G X Y nL pc lv st μ := by
  obtain ⟨p, l, e, R, s, m, args, below, meth, c, A, H0, cells, slots, Qx⟩ := X
  intro H locs ls hP hS hl
  obtain ⟨hx, hbc, hml, hown, hts, hK, hI, hA, hlk, hRR, hL, hce, hsl, hH0, hEV⟩ := C
  subst hH0; subst hRR; subst hsh; subst hst; subst hq; subst hL
  have he' : (wd Y μ)[b]? = some (Y.ad b, .inr (ci, fs)) := by rw [wd_at hb, he]
  have hAw : ∀ q, Aw Y q → A q := fun q h => by obtain ⟨i, hi, rfl⟩ := h; exact hA i hi
  refine va_callv (va_runV (As := As) (rest := rest) ⟨hx, hbc, hml, hown, hts⟩ hM (cwV As.length hts hT hw rfl rfl hd hR) ⟨pre_blind, va_recv hK hP hc he', fun U hU hW => ⟨rfl, by rw [hU]; exact hP, va_K.moved hW.alike hK, by rw [hU]; exact hEV.to hAw hS hW⟩⟩ rfl rfl hl.1 rfl (lv_room hcat) hdg ⟨hce, hsl⟩) hS (fun q _ h => hAw q h) hAw (fun u t H1 locs1 ht hvm hp hB _ _ hS1 => ?_)
  exact kk u hp H1 locs1 ls (by rw [← ht]; exact hB) hS1 hl
theorem g_callSI (C : Cx X Y nL cc own Ts R0 l0) {Q : Int32 → Mem → Prop} (As rest : List Value) (hM : MI l0 y ws fr lo Y As μ Q) (hT : GoodIn Ts (va_wsS own idx y ws)) (hw : ws = Cond.code y bytes maxL ret :: ws') (hd : y.cls ≠ "java/lang/invoke/MethodHandle" ∧ y.cls ≠ "java/lang/invoke/VarHandle" ∧ (parseMethodDescriptor y.desc).map (fun d => d.parameters.length) = some As.length) (hR : fr + 1 ≤ R0.frames ∧ 8 + (maxL + 11) + lo ≤ R0.locals) (hst : st = As.reverse ++ rest) (hcat : (rest.map fun v => v.category).sum ≤ 8) (hdg : decode cc pc = .ok (.invokestatic idx, 3)) (kk : ∀ (r : Int32) (μ' : Mem), Q r μ' → G X Y nL (pc + 3) lv (.int r :: rest) μ') : G X Y nL pc lv st μ := by
  obtain ⟨p, l, e, R, s, m, args, below, meth, c, A, H0, cells, slots, Qx⟩ := X
  intro H locs ls hP hS hl
  obtain ⟨hx, hbc, hml, hown, hts, hK, hI, hA, hlk, hRR, hL, hce, hsl, hH0, hEV⟩ := C
  subst hH0; subst hRR; subst hst; subst hL
  have hAw : ∀ q, Aw Y q → A q := fun q h => by obtain ⟨i, hi, rfl⟩ := h; exact hA i hi
  refine va_calli (va_runS (As := As) (rest := rest) ⟨hx, hbc, hml, hown, hts⟩ hM (va_cwS As.length hts hT hw rfl rfl hd hR) ⟨pre_blind, fun U hU hW => ⟨rfl, by rw [hU]; exact hP, va_K.moved hW.alike hK, by rw [hU]; exact hEV.to hAw hS hW⟩⟩ rfl rfl hl.1 rfl (lv_room hcat) hdg ⟨hce, hsl⟩) hS (fun q _ h => hAw q h) hAw (fun r u t H1 locs1 ht hvm hp hB _ _ hS1 => ?_)
  exact kk r u hp H1 locs1 ls (by rw [← ht]; exact hB) hS1 hl
/-- a call on a text constant -/
theorem g_callQI (C : Cx X Y nL cc own Ts R0 l0) {Q : Int32 → Mem → Prop} (As rest : List Value) {i : Nat} (hM : MI l0 y ws fr lo Y (.ref (Y.aK i) :: As) μ Q) (hT : GoodIn Ts (wsV own idx Cn y ws)) (hw : ws = Cond.code y bytes maxL ret :: ws') (hd : y.cls = Cn ∧ y.cls ≠ "java/lang/invoke/MethodHandle" ∧ y.cls ≠ "java/lang/invoke/VarHandle" ∧ (parseMethodDescriptor y.desc).map (fun d => d.parameters.length) = some As.length) (hR : fr + 1 ≤ R0.frames ∧ 8 + (maxL + 11) + lo ≤ R0.locals) (hi : i < nS) (hq : Cn = "java/lang/String") (hst : st = As.reverse ++ .ref (Y.aK i) :: rest) (hcat : (rest.map fun v => v.category).sum ≤ 8) (hdg : decode cc pc = .ok (.invokevirtual idx, 3)) (kk : ∀ (r : Int32) (μ' : Mem), Q r μ' → G X Y nL (pc + 3) lv (.int r :: rest) μ') : G X Y nL pc lv st μ := by
  obtain ⟨p, l, e, R, s, m, args, below, meth, c, A, H0, cells, slots, Qx⟩ := X
  intro H locs ls hP hS hl
  obtain ⟨hx, hbc, hml, hown, hts, hK, hI, hA, hlk, hRR, hL, hce, hsl, hH0, hEV⟩ := C
  subst hH0; subst hRR; subst hst; subst hL; subst hq
  have hAw : ∀ q, Aw Y q → A q := fun q h => by obtain ⟨i, hi, rfl⟩ := h; exact hA i hi
  refine va_calli (va_runV (As := As) (rest := rest) ⟨hx, hbc, hml, hown, hts⟩ hM (cwV As.length hts hT hw rfl rfl hd hR) ⟨pre_blind, vk_recv hEV.1 hi hS, fun U hU hW => ⟨rfl, by rw [hU]; exact hP, va_K.moved hW.alike hK, by rw [hU]; exact hEV.to hAw hS hW⟩⟩ rfl rfl hl.1 rfl (lv_room hcat) hdg ⟨hce, hsl⟩) hS (fun q _ h => hAw q h) hAw (fun r u t H1 locs1 ht hvm hp hB _ _ hS1 => ?_)
  exact kk r u hp H1 locs1 ls (by rw [← ht]; exact hB) hS1 hl
theorem g_callSV (C : Cx X Y nL cc own Ts R0 l0) {Q : Mem → Prop} (As rest : List Value) (hM : MV l0 y ws fr lo Y As μ Q) (hT : GoodIn Ts (va_wsS own idx y ws)) (hw : ws = Cond.code y bytes maxL ret :: ws') (hd : y.cls ≠ "java/lang/invoke/MethodHandle" ∧ y.cls ≠ "java/lang/invoke/VarHandle" ∧ (parseMethodDescriptor y.desc).map (fun d => d.parameters.length) = some As.length) (hR : fr + 1 ≤ R0.frames ∧ 8 + (maxL + 11) + lo ≤ R0.locals) (hst : st = As.reverse ++ rest) (hcat : (rest.map fun v => v.category).sum ≤ 8) (hdg : decode cc pc = .ok (.invokestatic idx, 3)) (kk : ∀ (μ' : Mem), Q μ' → G X Y nL (pc + 3) lv rest μ') : G X Y nL pc lv st μ := by
  obtain ⟨p, l, e, R, s, m, args, below, meth, c, A, H0, cells, slots, Qx⟩ := X
  intro H locs ls hP hS hl
  obtain ⟨hx, hbc, hml, hown, hts, hK, hI, hA, hlk, hRR, hL, hce, hsl, hH0, hEV⟩ := C
  subst hH0; subst hRR; subst hst; subst hL
  have hAw : ∀ q, Aw Y q → A q := fun q h => by obtain ⟨i, hi, rfl⟩ := h; exact hA i hi
  refine va_callv (va_runS (As := As) (rest := rest) ⟨hx, hbc, hml, hown, hts⟩ hM (va_cwS As.length hts hT hw rfl rfl hd hR) ⟨pre_blind, fun U hU hW => ⟨rfl, by rw [hU]; exact hP, va_K.moved hW.alike hK, by rw [hU]; exact hEV.to hAw hS hW⟩⟩ rfl rfl hl.1 rfl (lv_room hcat) hdg ⟨hce, hsl⟩) hS (fun q _ h => hAw q h) hAw (fun u t H1 locs1 ht hvm hp hB _ _ hS1 => ?_)
  exact kk u hp H1 locs1 ls (by rw [← ht]; exact hB) hS1 hl
theorem g_ldcS (C : Cx X Y nL cc own Ts R0 l0) (i : Nat) (hi : i < nS) (ho : own = RX1) (hx : sIdx.getD i 0 = idx) (hdg : decode cc pc = .ok (.ldc idx, 2)) (kk : G X Y nL (pc + 2) lv (.ref (Y.aK i) :: st) μ) : G X Y nL pc lv st μ := by
  obtain ⟨p, l, e, R, s, m, args, below, meth, c, A, H0, cells, slots, Qx⟩ := X
  intro H locs ls hP hS hl
  obtain ⟨hx', hbc, hml, hown, hts, hK, hI, hA, hlk, hRR, hL, hce, hsl, hH0, hEV⟩ := C
  subst hx; subst ho
  exact va_ldcS hx' hbc hown (hEV.2.1 i hi) hdg (kk H locs ls hP hS hl)
theorem g_sval (C : Cx X Y nL cc own Ts R0 l0) {i : Nat} (hi : i < nS) (hw : Cond.fieldLink own idx "java/lang/String" "value" "[B" ∈ Ts) (hdg : decode cc pc = .ok (.getfield idx, 3)) (kk : G X Y nL (pc + 3) lv (.ref (Y.aV i) :: st) μ) : G X Y nL pc lv (.ref (Y.aK i) :: st) μ := by
  obtain ⟨p, l, e, R, s, m, args, below, meth, c, A, H0, cells, slots, Qx⟩ := X
  intro H locs ls hP hS hl
  obtain ⟨hx', hbc, hml, hown, hts, hK, hI, hA, hlk, hRR, hL, hce, hsl, hH0, hEV⟩ := C
  subst hH0
  exact vk_getf hx' hbc (hEV.1.1 i hi).2.2.1 hS hown (hts _ hw) (fun x h => h) hdg (kk H locs ls hP hS hl)
theorem g_scod (C : Cx X Y nL cc own Ts R0 l0) {i : Nat} (hi : i < nS) (hw : Cond.fieldLink own idx "java/lang/String" "coder" "B" ∈ Ts) (hdg : decode cc pc = .ok (.getfield idx, 3)) (kk : G X Y nL (pc + 3) lv (.int 0 :: st) μ) : G X Y nL pc lv (.ref (Y.aK i) :: st) μ := by
  obtain ⟨p, l, e, R, s, m, args, below, meth, c, A, H0, cells, slots, Qx⟩ := X
  intro H locs ls hP hS hl
  obtain ⟨hx', hbc, hml, hown, hts, hK, hI, hA, hlk, hRR, hL, hce, hsl, hH0, hEV⟩ := C
  subst hH0
  exact vk_getf hx' hbc (hEV.1.1 i hi).2.1 hS hown (hts _ hw) (fun x h => h) hdg (kk H locs ls hP hS hl)
theorem g_gcs (C : Cx X Y nL cc own Ts R0 l0) (hw : Cond.fieldLink own idx "java/lang/String" "COMPACT_STRINGS" "Z" ∈ Ts) (hdg : decode cc pc = .ok (.getstatic idx, 3)) (kk : G X Y nL (pc + 3) lv (.int 1 :: st) μ) : G X Y nL pc lv st μ := by
  obtain ⟨p, l, e, R, s, m, args, below, meth, c, A, H0, cells, slots, Qx⟩ := X
  intro H locs ls hP hS hl
  obtain ⟨hx', hbc, hml, hown, hts, hK, hI, hA, hlk, hRR, hL, hce, hsl, hH0, hEV⟩ := C
  subst hH0
  exact va_gets hx' hbc hEV.2.2.1 hS hown (hts _ hw) (fun x h => h) hdg (kk H locs ls hP hS hl)
theorem g_gfm (C : Cx X Y nL cc own Ts R0 l0) (hw : Cond.fieldLink own idx "jdk/internal/util/Preconditions" "SIOOBE_FORMATTER" "Ljava/util/function/BiFunction;" ∈ Ts) (hdg : decode cc pc = .ok (.getstatic idx, 3)) (kk : ∀ v : Value, v.category = 1 → G X Y nL (pc + 3) lv (v :: st) μ) : G X Y nL pc lv st μ := by
  obtain ⟨p, l, e, R, s, m, args, below, meth, c, A, H0, cells, slots, Qx⟩ := X
  intro H locs ls hP hS hl
  obtain ⟨hx', hbc, hml, hown, hts, hK, hI, hA, hlk, hRR, hL, hce, hsl, hH0, hEV⟩ := C
  subst hH0
  rcases hEV.2.2.2.1 with h | ⟨t, h⟩
  · exact va_gets hx' hbc h hS hown (hts _ hw) (fun x h => h) hdg (kk .null rfl H locs ls hP hS hl)
  · exact va_gets hx' hbc h hS hown (hts _ hw) (fun x h => h) hdg (kk (.ref t) rfl H locs ls hP hS hl)
theorem g_slen (C : Cx X Y nL cc own Ts R0 l0) {i : Nat} (hi : i < nS) (hdg : decode cc pc = .ok (.arraylength, 1)) (kk : G X Y nL (pc + 1) lv (.int (nI (sLen.getD i 0)) :: st) μ) : G X Y nL pc lv (.ref (Y.aV i) :: st) μ := by
  obtain ⟨p, l, e, R, s, m, args, below, meth, c, A, H0, cells, slots, Qx⟩ := X
  intro H locs ls hP hS hl
  obtain ⟨hx', hbc, hml, hown, hts, hK, hI, hA, hlk, hRR, hL, hce, hsl, hH0, hEV⟩ := C
  subst hH0
  exact va_tlen hx' hbc (hEV.1.1 i hi).2.2.2 hS rfl hdg (kk H locs ls hP hS hl)
theorem g_sbal (C : Cx X Y nL cc own Ts R0 l0) {i : Nat} (hi : i < nS) {j : Int32} (hin : vp_in j (sLen.getD i 0)) (hdg : decode cc pc = .ok (.baload, 1)) (kk : G X Y nL (pc + 1) lv (.int ((sByt.getD i []).getD j.toNatClampNeg 0) :: st) μ) : G X Y nL pc lv (.int j :: .ref (Y.aV i) :: st) μ := by
  obtain ⟨p, l, e, R, s, m, args, below, meth, c, A, H0, cells, slots, Qx⟩ := X
  intro H locs ls hP hS hl
  obtain ⟨hx', hbc, hml, hown, hts, hK, hI, hA, hlk, hRR, hL, hce, hsl, hH0, hEV⟩ := C
  subst hH0
  exact va_tb hx' hbc (hEV.1.1 i hi).2.2.2 hS hin rfl hdg (kk H locs ls hP hS hl)
end GC
-- the tables' words that last, one list for all methods
def GW : List Cond := lw_tbl.filter goodWord
theorem gw_in {w : Cond} (h : w ∈ lw_tbl) (hg : goodWord w = true) : w ∈ GW := List.mem_filter.mpr ⟨h, hg⟩
theorem gw_t {w : Cond} (h : w ∈ tables_1) (hg : goodWord w = true) : w ∈ GW := gw_in (List.mem_append_right _ h) hg
theorem gw_s {w : Cond} (h : w ∈ k2_sels lw_privs) (hg : goodWord w = true) : w ∈ GW := gw_in (List.mem_append_left _ h) hg
theorem gw_good {a : Cond} {ws : List Cond} (h : ∀ w ∈ ws, w ∈ GW) : GoodIn (a :: GW) ws := fun w hw => ⟨List.mem_cons_of_mem _ (h w hw), good_of_word (List.mem_filter.mp (h w hw)).2⟩
theorem gw_wsV {a : Cond} {own C : String} {idx : Nat} {y : MethodName} {cd : Cond} (h1 : Cond.methodLink own idx y ∈ GW) (h2 : Cond.instanceMethod y ∈ GW) (h3 : Cond.selects C y y ∈ GW) (h4 : Cond.initialized C ∈ GW) (h5 : cd ∈ GW) : GoodIn (a :: GW) (wsV own idx C y (cd :: GW)) := by
  apply gw_good
  intro w hw
  simp only [wsV, List.cons_append, List.nil_append, List.mem_cons] at hw
  rcases hw with rfl | rfl | rfl | rfl | rfl | hw
  · exact h1
  · exact h2
  · exact h3
  · exact h4
  · exact h5
  · exact hw
theorem gw_wsS {a : Cond} {own : String} {idx : Nat} {y : MethodName} {cd : Cond} (h1 : Cond.methodLink own idx y ∈ GW) (h2 : Cond.static y ∈ GW) (h4 : Cond.initialized y.cls ∈ GW) (h5 : cd ∈ GW) : GoodIn (a :: GW) (va_wsS own idx y (cd :: GW)) := by
  apply gw_good
  intro w hw
  simp only [va_wsS, List.cons_append, List.nil_append, List.mem_cons] at hw
  rcases hw with rfl | rfl | rfl | rfl | hw
  · exact h1
  · exact h2
  · exact h4
  · exact h5
  · exact hw
