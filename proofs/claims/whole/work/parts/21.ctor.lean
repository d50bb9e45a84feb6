-- constructors: the world grows
def xset (X : XT) (c s : Nat) : XT := match X with
  | (p, l, e, R, st, m, args, below, meth, cd, A, H0, _, _, Q) => (p, l, e, R, st, m, args, below, meth, cd, A, H0, c, s, Q)
def mz (μ : Mem) (a : Nat) : Mem := (fun b => if b = a then (fun _ => 0) else μ.1 b, fun b => if b = a then (fun _ => 0) else μ.2 b)
def yext (Y : YT) (q : Nat) (f : Row → va_E) : YT := (Y.D, Y.2.1, va_up Y.ad Y.N q, Y.N + 1, va_up Y.sh Y.N f, Y.aK, Y.aV)
def yset (Y : YT) (i : Nat) (f : Row → va_E) : YT := (Y.D, Y.2.1, Y.ad, Y.N, va_up Y.sh i f, Y.aK, Y.aV)
theorem yext_ad {Y : YT} {q : Nat} {f : Row → va_E} (i : Nat) : (yext Y q f).ad i = va_up Y.ad Y.N q i := rfl
theorem yext_sh {Y : YT} {q : Nat} {f : Row → va_E} (i : Nat) : (yext Y q f).sh i = va_up Y.sh Y.N f i := rfl
theorem yset_ad {Y : YT} {j : Nat} {f : Row → va_E} (i : Nat) : (yset Y j f).ad i = Y.ad i := rfl
theorem yset_sh {Y : YT} {j : Nat} {f : Row → va_E} (i : Nat) : (yset Y j f).sh i = va_up Y.sh j f i := rfl
abbrev r0 : Row := (fun _ => 0, fun _ => 0)
theorem mrow_mz {μ : Mem} {a : Nat} : mrow (mz μ a) a = r0 := by simp [mrow, mz]
theorem mrow_mz_ne {μ : Mem} {a b : Nat} (h : b ≠ a) : mrow (mz μ a) b = mrow μ b := by simp [mrow, mz, h]
/-- what a growing step keeps: all old cells but, may be, the shape of j -/
def Keep (Y Y' : YT) (j : Nat) : Prop := (Y'.D = Y.D ∧ Y'.2.1 = Y.2.1 ∧ Y'.aK = Y.aK ∧ Y'.aV = Y.aV) ∧ Y.N ≤ Y'.N ∧ (∀ i : Nat, i < Y.N → Y'.ad i = Y.ad i) ∧ ∀ i : Nat, i < Y.N → i ≠ j → Y'.sh i = Y.sh i
theorem wd_yext {Y : YT} {μ : Mem} {q : Nat} {f : Row → va_E} : wd (yext Y q f) (mz μ Y.N) = wd Y μ ++ [(q, f r0)] := by
  have e : ∀ i, i < Y.N → ((yext Y q f).ad i, (yext Y q f).sh i (mrow (mz μ Y.N) i)) = (Y.ad i, Y.sh i (mrow μ i)) := by
    intro i hi
    have hne : i ≠ Y.N := by omega
    rw [mrow_mz_ne hne]
    simp [yext_ad, yext_sh, va_up, hne]
  show (List.range (Y.N + 1)).map _ = _
  rw [List.range_succ, List.map_append]
  congr 1
  · unfold wd
    exact List.map_congr_left (fun i hi => e i (List.mem_range.mp hi))
  · simp only [List.map_cons, List.map_nil]
    rw [mrow_mz]
    simp [yext_ad, yext_sh, va_up]
theorem wd_yset {Y : YT} {μ : Mem} {i : Nat} {f : Row → va_E} (hi : i < Y.N) : wd (yset Y i f) μ = (wd Y μ).set i (Y.ad i, f (mrow μ i)) := by
  apply List.ext_getElem?
  intro k
  have hl : (wd Y μ).length = Y.N := by unfold wd; rw [List.length_map, List.length_range]
  have hl2 : (wd (yset Y i f) μ).length = Y.N := by unfold wd; rw [List.length_map, List.length_range]; rfl
  by_cases hk : k < Y.N
  · rw [wd_at (Y := yset Y i f) (show k < (yset Y i f).N from hk)]
    by_cases h : k = i
    · subst h
      rw [List.getElem?_set_self (by omega)]
      simp [yset_ad, yset_sh, va_up]
    · rw [List.getElem?_set_ne (Ne.symm h), wd_at hk]
      simp [yset_ad, yset_sh, va_up, h]
  · rw [List.getElem?_eq_none (by omega), List.getElem?_eq_none (by rw [List.length_set]; omega)]
theorem YI_of {Y : YT} {μ : Mem} {A : Nat → Prop} (h : va_D A (wd Y μ)) : YI Y ∧ ∀ i : Nat, i < Y.N → A (Y.ad i) :=
  ⟨fun i j hi hj e => h.1 i j _ _ (wd_at hi) (wd_at hj) e, fun i hi => h.2 i _ (wd_at hi)⟩
def NXa (X : XT) : Prop := match X with
  | (_, _, _, _, _, _, _, _, _, _, A, H0, _, _, _) => ∀ q : Nat, H0.size ≤ q → A q
def NXi (X : XT) : Prop := match X with
  | (_, _, _, _, _, _, _, _, meth, _, _, _, _, _, _) => meth.name = "<init>"
theorem keep_ext {Y : YT} {q : Nat} {f : Row → va_E} : Keep Y (yext Y q f) Y.N := ⟨⟨rfl, rfl, rfl, rfl⟩, Nat.le_succ _, fun i hi => by simp [yext_ad, yext_sh, va_up, Nat.ne_of_lt hi], fun i hi _ => by simp [yext_ad, yext_sh, va_up, Nat.ne_of_lt hi]⟩
theorem keep_set {Y : YT} {j : Nat} {f : Row → va_E} : Keep Y (yset Y j f) j := ⟨⟨rfl, rfl, rfl, rfl⟩, Nat.le_refl _, fun i hi => rfl, fun i hi h => by simp [yset_ad, yset_sh, va_up, h]⟩
section NR
variable {X : XT} {Y : YT} {nL : Nat} {cc : ByteArray} {own : String} {Ts : List Cond} {R0 : Room} {l0 : Launch} {pc : Nat} {lv : List (Nat × Value)} {st : List Value} {μ : Mem} {c s : Nat}
theorem g_newO (C : Cx (xset X c s) Y nL cc own Ts R0 l0) (hN : NXa X) {id : Nat} (hid : Y.N = id) {Cn : String} {T : u_T} {Nc ci idx : Nat} {ty : Nat → FieldType} (hin : ∀ w ∈ u_ws Cn T Nc, w ∈ Ts) (hty : ∀ k, k < Nc → parseFieldDescriptor (T k).2.2.1 = some (ty k)) (hcl : Cond.classLink own idx Cn ∈ Ts) (hinst : Cond.instantiable Cn Nc ∈ Ts) (hini : Cond.initialized Cn ∈ Ts) (hc : vwCl[ci]? = some (Cn, T, Nc)) (fs : List Value) (hfs : ∀ j, j < Nc → defaultValue (ty j) = vp_V fs j) (f : Row → va_E) (hf : f r0 = .inr (ci, fs)) (h1 : c + 1 ≤ R0.cells) (h2 : s + Nc ≤ R0.slots) (hdg : decode cc pc = .ok (.new idx, 3)) (kk : ∀ (Y' : YT) (q : Nat), Cx (xset X (c + 1) (s + Nc)) Y' nL cc own Ts R0 l0 → Keep Y Y' id → Y'.N = id + 1 → Y'.ad id = q → Y'.sh id = f → G (xset X (c + 1) (s + Nc)) Y' nL (pc + 3) lv (.ref q :: st) (mz μ id)) : G (xset X c s) Y nL pc lv st μ := by
  obtain ⟨p, l, e, R, sx, m, args, below, meth, cd, A, H0, c', s', Q⟩ := X
  subst hid
  intro H locs ls hP hS hl
  obtain ⟨hx, hb, hml, hown, hts, hK, hI, hA, hlk, hR, hL, hce, hsl, hH0, hEV⟩ := C
  subst hR
  refine va_new (ci := ci) (fs := fs) hx hb hts hin ty hty hown (hts _ hcl) (hts _ hinst) (hts _ hini) hK hP (wd_D hI hA) hS hN hc hfs h1 h2 hdg (fun q H1 hP1 hD1 hS1 => ?_)
  have ew : wd Y μ ++ [(q, .inr (ci, fs))] = wd (yext Y q f) (mz μ Y.N) := by rw [wd_yext, hf]
  rw [ew] at hP1 hD1
  obtain ⟨g1, g2⟩ := YI_of hD1
  exact kk (yext Y q f) q ⟨hx, hb, hml, hown, hts, hK, g1, g2, hlk, rfl, hL, h1, h2, hH0, hEV⟩ keep_ext rfl (by simp [yext_ad, yext_sh, va_up]) (by simp [yext_ad, yext_sh, va_up]) H1 locs ls hP1 hS1 hl
theorem g_newA (C : Cx (xset X c s) Y nL cc own Ts R0 l0) (hN : NXa X) {id : Nat} (hid : Y.N = id) (at0 : ArrayType) (ty : FieldType) (hty : newarray.typeOf at0 = ty) (hw : Cond.arrayClass (newarray.typeOf at0) ∈ Ts) (cA0 : ClassId) (t0 : Nat) (ht : Y.tys[t0]? = some (cA0, ty)) (hprim : ∀ U : State, ∀ x : ClassId, va_RA U x ty → U.vm.findClass ("[" ++ ty.toString) = some x) (hdef : defaultValue ty = .int 0) {n : Int32} {k : Nat} (hn : ¬ n < 0) (hk : n.toNatClampNeg = k) (hby : k * componentBytes ty ≤ 536870912) (h1 : c + 1 ≤ R0.cells) (h2 : s + k ≤ R0.slots) (hdg : decode cc pc = .ok (.newarray at0, 2)) (kk : ∀ (Y' : YT) (q : Nat), Cx (xset X (c + 1) (s + k)) Y' nL cc own Ts R0 l0 → Keep Y Y' id → Y'.N = id + 1 → Y'.ad id = q → Y'.sh id = sI cA0 k → G (xset X (c + 1) (s + k)) Y' nL (pc + 2) lv (.ref q :: st) (mz μ id)) : G (xset X c s) Y nL pc lv (.int n :: st) μ := by
  obtain ⟨p, l, e, R, sx, m, args, below, meth, cd, A, H0, c', s', Q⟩ := X
  subst hid
  intro H locs ls hP hS hl
  obtain ⟨hx, hb, hml, hown, hts, hK, hI, hA, hlk, hR, hL, hce, hsl, hH0, hEV⟩ := C
  subst hR
  refine va_newa (N' := k) (a0 := (k, .inl (fun _ => 0))) hx hb (hts _ hw) hty hK hP (wd_D hI hA) hS hN (fun cA => by rw [hdef]; rfl) hn hk hby h1 h2 hdg (fun q cA H1 hK1 hP1 hD1 hS1 => ?_)
  have e1 := hprim _ _ (hK1.2 Y.tys.length (cA, ty) (by simp)).2
  have e2 := hprim _ _ (hK.2 t0 (cA0, ty) ht).2
  have e3 : cA = cA0 := Option.some.inj (e1.symm.trans e2)
  subst e3
  have ew : wd Y μ ++ [(q, .inl (cA, k, .inl (fun _ => 0)))] = wd (yext Y q (sI cA k)) (mz μ Y.N) := by rw [wd_yext]; rfl
  rw [ew] at hP1 hD1
  obtain ⟨g1, g2⟩ := YI_of hD1
  exact kk (yext Y q (sI cA k)) q ⟨hx, hb, hml, hown, hts, hK, g1, g2, hlk, rfl, hL, h1, h2, hH0, hEV⟩ keep_ext rfl (by simp [yext_ad, yext_sh, va_up]) (by simp [yext_ad, yext_sh, va_up]) H1 locs ls hP1 hS1 hl
theorem g_newQ (C : Cx (xset X c s) Y nL cc own Ts R0 l0) (hN : NXa X) {id idx : Nat} (hid : Y.N = id) (hw : Cond.classLink own idx RX0 ∈ Ts) {n : Int32} {k : Nat} (hn : ¬ n < 0) (hk : n.toNatClampNeg = k) (hby : k * 4 ≤ 536870912) (h1 : c + 1 ≤ R0.cells) (h2 : s + k ≤ R0.slots) (hdg : decode cc pc = .ok (.anewarray idx, 3)) (kk : ∀ (Y' : YT) (q : Nat), Cx (xset X (c + 1) (s + k)) Y' nL cc own Ts R0 l0 → Keep Y Y' id → Y'.N = id + 1 → Y'.ad id = q → Y'.sh id = sO Y.cK k (fun _ => none) → G (xset X (c + 1) (s + k)) Y' nL (pc + 3) lv (.ref q :: st) (mz μ id)) : G (xset X c s) Y nL pc lv (.int n :: st) μ := by
  obtain ⟨p, l, e, R, sx, m, args, below, meth, cd, A, H0, c', s', Q⟩ := X
  subst hid
  intro H locs ls hP hS hl
  obtain ⟨hx, hb, hml, hown, hts, hK, hI, hA, hlk, hR, hL, hce, hsl, hH0, hEV⟩ := C
  subst hR
  refine va_newq (N' := k) hx hb hown (hts _ hw) hEV.2.2.2.2.2 hK hP (wd_D hI hA) hS hN hn hk hby h1 h2 hdg (fun q cA H1 hK1 hP1 hD1 hS1 => ?_)
  obtain ⟨k1, c1, f1, f2, f3, f4⟩ := (hK1.2 Y.tys.length (cA, .object RX0) (by simp)).2
  obtain ⟨k2, c2, i1, i2, i3, i4⟩ := (hK.2 3 (Y.cK, .object RX0) rfl).2
  have e3 : cA = Y.cK := Option.some.inj (f4.symm.trans i4)
  subst e3
  have ew : wd Y μ ++ [(q, .inl (Y.cK, k, .inr (.inr (.inr (.inr (fun _ => none))))))] = wd (yext Y q (sO Y.cK k (fun _ => none))) (mz μ Y.N) := by rw [wd_yext]; rfl
  rw [ew] at hP1 hD1
  obtain ⟨g1, g2⟩ := YI_of hD1
  exact kk (yext Y q (sO Y.cK k (fun _ => none))) q ⟨hx, hb, hml, hown, hts, hK, g1, g2, hlk, rfl, hL, h1, h2, hH0, hEV⟩ keep_ext rfl (by simp [yext_ad, yext_sh, va_up]) (by simp [yext_ad, yext_sh, va_up]) H1 locs ls hP1 hS1 hl
theorem g_putR (C : Cx (xset X c s) Y nL cc own Ts R0 l0) (hN : NXi X) {i ci k Nc idx x v : Nat} {Cn ref : String} {T : u_T} {ty0 : Nat → FieldType} {sh : Row → va_E} {fs : List Value} {ty : FieldType} (hi : i < Y.N) (hx0 : Y.ad i = x) (hsh : Y.sh i = sh) (he : sh (mrow μ i) = .inr (ci, fs)) (hc : vwCl[ci]? = some (Cn, T, Nc)) (hin : ∀ w ∈ u_ws Cn T Nc, w ∈ Ts) (hty : ∀ k, k < Nc → parseFieldDescriptor (T k).2.2.1 = some (ty0 k)) (hnm : ∀ a, a < Nc → ∀ b, b < Nc → a ≠ b → (T a).2.1 ≠ (T b).2.1) (hk : k < Nc) (hlk : Cond.fieldLink own idx ref (T k).2.1 (T k).2.2.1 ∈ Ts) (href : (T k).1 = ref) (hfin : (T k).2.2.2 = true) (hdecl : (T k).1 = own) (hd : ty0 k = ty) (hn : narrow ty (.ref v) = .ref v) (hfit : fits ty (.ref v) = true) (hlen : k < fs.length) (sh' : Row → va_E) (hrow : sh' (mrow μ i) = .inr (ci, fs.set k (.ref v))) (hdg : decode cc pc = .ok (.putfield idx, 3)) (kk : ∀ Y' : YT, Cx (xset X c s) Y' nL cc own Ts R0 l0 → Keep Y Y' i → Y'.N = Y.N → Y'.ad i = x → Y'.sh i = sh' → G (xset X c s) Y' nL (pc + 3) lv st μ) : G (xset X c s) Y nL pc lv (.ref v :: .ref x :: st) μ := by
  obtain ⟨p, l, e, R, sx, m, args, below, meth, cd, A, H0, c', s', Q⟩ := X
  intro H locs ls hP hS hl
  have C0 := C
  obtain ⟨hx, hb, hml, hown, hts, hK, hI, hA, -⟩ := C
  subst hsh; subst hx0
  refine va_putF hx hb hts hin ty0 hty hnm hown hK hP (wd_D hI hA) hS i (by rw [wd_at hi, he]) hc k hk (hts _ hlk) (fun x h => by rw [← href]; exact h) hfin hN hdecl (by rw [hty k hk, hd]) hn hfit hlen hdg (fun H1 locs1 hP1 _ hS1 => kk (yset Y i sh') C0 keep_set rfl rfl (by simp [yset_ad, yset_sh, va_up]) H1 locs1 ls ?_ hS1 hl)
  rw [wd_yset hi, hrow]
  exact hP1
theorem g_astq (C : Cx (xset X c s) Y nL cc own Ts R0 l0) {a b n x v : Nat} {f : Nat → Option Nat} (ha : a < Y.N) (hxa : Y.ad a = x) (hsh : Y.sh a = sO Y.cK n f) (hb' : b < Y.N) (hxb : Y.ad b = v) {fs : List Value} (hfs : Y.sh b (mrow μ b) = .inr (0, fs)) {i : Int32} (hin : vp_in i n) (hdg : decode cc pc = .ok (.aastore, 1)) (kk : ∀ Y' : YT, Cx (xset X c s) Y' nL cc own Ts R0 l0 → Keep Y Y' a → Y'.N = Y.N → Y'.ad a = x → Y'.sh a = sO Y.cK n (va_up f i.toNatClampNeg (some v)) → G (xset X c s) Y' nL (pc + 1) lv st μ) : G (xset X c s) Y nL pc lv (.ref v :: .int i :: .ref x :: st) μ := by
  obtain ⟨p, l, e, R, sx, m, args, below, meth, cd, A, H0, c', s', Q⟩ := X
  intro H locs ls hP hS hl
  have C0 := C
  obtain ⟨hx, hb, hml, hown, hts, hK, hI, hA, -⟩ := C
  subst hxa; subst hxb
  refine va_astq (r := (RX0, TX0, 8)) hx hb hK hP (wd_D hI hA) hS a 3 b 0 (vs := fs) (f := f) (by rw [wd_at ha, hsh]; rfl) rfl (by rw [wd_at hb', hfs]) rfl hin hdg (fun H1 locs1 hP1 _ hS1 => kk (yset Y a (sO Y.cK n (va_up f i.toNatClampNeg (some (Y.ad b))))) C0 keep_set rfl rfl (by simp [yset_ad, yset_sh, va_up]) H1 locs1 ls ?_ hS1 hl)
  rw [wd_yset ha]
  exact hP1
theorem g_obj (C : Cx (xset X c s) Y nL cc own Ts R0 l0) {idx x : Nat} (h1 : Cond.methodLink own idx objectInit ∈ Ts) (h2 : Cond.instanceMethod objectInit ∈ Ts) (h3 : Cond.code objectInit ⟨#[0xb1]⟩ 1 none ∈ Ts) (hf : 1 ≤ R0.frames) (hlo : (st.map fun v => v.category).sum + 12 ≤ R0.locals) (hdg : decode cc pc = .ok (.invokespecial idx, 3)) (kk : G (xset X c s) Y nL (pc + 3) lv st μ) : G (xset X c s) Y nL pc lv (.ref x :: st) μ := by
  obtain ⟨p, l, e, R, sx, m, args, below, meth, cd, A, H0, c', s', Q⟩ := X
  intro H locs ls hP hS hl
  obtain ⟨hx, hb, hml, hown, hts, hK, hI, hA, hlk, hR, hL, hce, hsl, hH0, hEV⟩ := C
  subst hR
  refine W.objInit hx hb hown (hts _ h1) (hts _ h2) (hts _ h3) rfl (by rw [hml]; exact hl.1) rfl hdg hf (by show 2 * 0 + _ + 12 ≤ _; omega) ?_
  exact kk H locs ls hP hS hl
end NR
-- a constructor's contract
def AC (Y : YT) (sz : Nat) : Nat → Prop := fun q => Aw Y q ∨ sz ≤ q
abbrev rmC (fr lo mc ms : Nat) : Room := { frames := fr, cells := mc, slots := ms, locals := lo }
def MC (l : Launch) (y : MethodName) (ws : List Cond) (fr lo mc ms : Nat) (Y : YT) (b : Nat) (μ : Mem) (Post : YT → Mem → Prop) : Prop := ∀ sz : Nat, Met l y ws (rmC fr lo mc ms) (va_Pc [.ref (Y.ad b)] (fun U => U.heap.size = sz ∧ va_P Y.D vwCl (wd Y μ) U.heap ∧ va_K Y.D vwCl Y.tys U ∧ EVA Y.aK Y.aV (AC Y sz) U U.heap))
  (va_Qv (fun u : YT × Mem => YI u.1 ∧ (∀ i : Nat, i < u.1.N → AC Y sz (u.1.ad i)) ∧ Keep Y u.1 b ∧ Post u.1 u.2) (fun u t => va_P u.1.D vwCl (wd u.1 u.2) t.heap) (AC Y sz)) mc ms (AC Y sz)
def RC (X : XT) (Y : YT) (b mc ms nL : Nat) (cc : ByteArray) (own : String) (Ts : List Cond) (R0 : Room) (l0 : Launch) (Post : YT → Mem → Prop) : Prop := ∀ (pc : Nat) (lv : List (Nat × Value)) (Y' : YT) (μ' : Mem), decode cc pc = .ok (.return_, 1) → Cx (xset X mc ms) Y' nL cc own Ts R0 l0 → Keep Y Y' b → Post Y' μ' → G (xset X mc ms) Y' nL pc lv [] μ'
theorem mC_of {l : Launch} {y : MethodName} {cc : ByteArray} {maxL : Nat} {ws ws' : List Cond} {fr lo mc ms : Nat} {Y : YT} {b : Nat} {μ : Mem} {Post : YT → Mem → Prop} (hy : plainFor y = true) (hyn : y.name = "<init>") (hw : ws = Cond.code y cc maxL none :: ws') (hI : YI Y) (hle : 1 ≤ maxL)
    (body : ∀ X : XT, Cx (xset X 0 0) Y maxL cc y.cls ws (rmC fr lo mc ms) l → NXa X → NXi X → RC X Y b mc ms maxL cc y.cls ws (rmC fr lo mc ms) l Post → G (xset X 0 0) Y maxL 0 [(0, .ref (Y.ad b))] [] μ) : MC l y ws fr lo mc ms Y b μ Post := by
  intro sz
  refine met_ofWF (cc := cc) (maxL := maxL) (ret := none) hy hw ?_
  intro p e s m args below meth c s₁ B hml hv
  obtain ⟨rfl, hsz, hP, hK, hEV⟩ := hv
  subst hsz
  rw [lg_entry_eq]
  refine body (p, l, e, rmC fr lo mc ms, s, m, [Value.ref (Y.ad b)].toArray, below, meth, c, AC Y s.heap.size, s.heap, 0, 0, MQ below _ _ s mc ms (AC Y s.heap.size)) ⟨B.exec, B.bytes, hml, findClass_of_methodNamed B.named, atoms_spec (ws := ws) B.pre, hK, hI, fun i hi => Or.inl ⟨i, hi, rfl⟩, B.notSynchronized, rfl, rfl, Nat.zero_le _, Nat.zero_le _, rfl, hEV⟩ (fun q h => Or.inr h) (by show meth.name = "<init>"; rw [(name_of_methodNamed B.named B.method).1]; exact hyn) ?_ s.heap [] _ hP va_S.rf (lv_entry [.ref (Y.ad b)] hle)
  intro pc lv Y' μ' hdg C' hKp hq H locs ls hP' hS hl
  have hlocks := B.notSynchronized
  obtain ⟨-, -, -, -, -, -, hI', hA', -⟩ := C'
  exact W.vret B.exec B.bytes B.returns (fun t ht hW => ⟨⟨(Y', μ'), rfl, ⟨hI', hA', hKp, hq⟩, by show va_P Y'.D vwCl (wd Y' μ') t.heap; rw [ht]; exact hP'⟩, hS.F ht⟩) hS.2.2 hdg
section NC
variable {X : XT} {Y : YT} {nL : Nat} {cc : ByteArray} {own : String} {Ts : List Cond} {R0 : Room} {l0 : Launch} {pc : Nat} {lv : List (Nat × Value)} {st : List Value} {μ : Mem} {c s : Nat}
variable {y : MethodName} {bytes : ByteArray} {maxL idx fr lo mc ms b x : Nat} {ws ws' : List Cond} {Post : YT → Mem → Prop}
theorem tys_keep {Y Y' : YT} {j : Nat} (h : Keep Y Y' j) : Y'.tys = Y.tys := by
  obtain ⟨⟨-, h2, -⟩, -⟩ := h
  show [(Y'.2.1.1, _), (Y'.2.1.2.1, _), (Y'.2.1.2.2.1, _), (Y'.2.1.2.2.2, _)] = _
  rw [h2]
theorem g_callC (C : Cx (xset X c s) Y nL cc own Ts R0 l0) (hN : NXa X) (hM : MC l0 y ws fr lo mc ms Y b μ Post) (hb : b < Y.N) (hxb : Y.ad b = x) (hG : GoodIn Ts ws) (hw : ws = Cond.code y bytes maxL none :: ws') (hini : Cond.initialized y.cls ∈ Ts) (hl : Cond.methodLink own idx y ∈ Ts) (hin : Cond.instanceMethod y ∈ Ts) (hyn : y.name = "<init>") (hd : y.cls ≠ "java/lang/invoke/MethodHandle" ∧ y.cls ≠ "java/lang/invoke/VarHandle" ∧ (parseMethodDescriptor y.desc).map (fun d => d.parameters.length) = some 0) (hR : fr + 1 ≤ R0.frames ∧ 8 + (maxL + 11) + lo ≤ R0.locals) (h1 : c + mc ≤ R0.cells) (h2 : s + ms ≤ R0.slots) (hcat : (st.map fun v => v.category).sum ≤ 8) (hdg : decode cc pc = .ok (.invokespecial idx, 3)) (kk : ∀ (Y' : YT) (μ' : Mem), Cx (xset X (c + mc) (s + ms)) Y' nL cc own Ts R0 l0 → Keep Y Y' b → Post Y' μ' → G (xset X (c + mc) (s + ms)) Y' nL (pc + 3) lv st μ') : G (xset X c s) Y nL pc lv (.ref x :: st) μ := by
  obtain ⟨p, l, e, R, sx, m, args, below, meth, cd, A, H0, c', s', Q⟩ := X
  intro H locs ls hP hS hlv
  obtain ⟨hx, hbc, hml, hown, hts, hK, hI, hA, hlk, hRR, hL, hce, hsl, hH0, hEV⟩ := C
  subst hH0; subst hRR; subst hL; subst hxb
  have hAC : ∀ q, AC Y H.size q → A q := fun q h => by
    rcases h with ⟨i, hi, rfl⟩ | h
    · exact hA i hi
    · exact hN q (Nat.le_trans hS.1 h)
  refine va_callv (va_runI (As := []) (rest := st) ⟨hx, hbc, hml, hown, hts⟩ (hM H.size) (cwI 0 hts hG hw rfl rfl (hts _ hini) (hts _ hl) (hts _ hin) hyn hd hR) ⟨fun a U g mk q => by
      obtain ⟨q1, q2, q3, q4, q5, q6, q7, q8, q9, q10⟩ := q
      exact ⟨q1, q2, q3, va_K.moved (u := U) (U := U.calling g mk a) (Vm.Alike.refl U.vm) q4, vk_S.moved (u := U) (U := U.calling g mk a) (Vm.Alike.refl U.vm) q5, fun i hi => vk_R.same (u := U) (U := U.calling g mk a) rfl (q6 i hi), va_Z.moved (u := U) (U := U.calling g mk a) (Vm.Alike.refl U.vm) q7, va_Zq.moved (u := U) (U := U.calling g mk a) (Vm.Alike.refl U.vm) q8, fun q hq => va_Nw.same (u := U) (U := U.calling g mk a) rfl rfl (q9 q hq), va_AO.moved (u := U) (U := U.calling g mk a) (Vm.Alike.refl U.vm) q10⟩, fun U hU hW => ⟨rfl, by rw [hU], by rw [hU]; exact hP, va_K.moved hW.alike hK, by rw [hU]; exact hEV.to hAC hS hW⟩⟩ rfl rfl hlv.1 rfl (lv_room hcat) hdg ⟨h1, h2⟩) hS (fun q _ h => hAC q h) hAC (fun u t H1 locs1 ht hvm hp hB _ _ hS1 => ?_)
  obtain ⟨Y', μ'⟩ := u
  obtain ⟨p1, p2, p3, p4⟩ := hp
  have hK' : va_K Y'.D vwCl Y'.tys sx := by rw [tys_keep p3, p3.1.1]; exact hK
  have hEV' : EVA Y'.aK Y'.aV A sx sx.heap := by rw [p3.1.2.2.1, p3.1.2.2.2]; exact hEV
  exact kk Y' μ' ⟨hx, hbc, hml, hown, hts, hK', p1, fun i hi => hAC _ (p2 i hi), hlk, rfl, rfl, h1, h2, rfl, hEV'⟩ p3 p4 H1 locs1 ls (by rw [← ht]; exact hB) hS1 hlv
theorem g_callN (C : Cx (xset X c s) Y nL cc own Ts R0 l0) (hN : NXa X) (hM : MC l0 y ws fr lo mc ms Y b μ Post) (hb : b < Y.N) (hxb : Y.ad b = x) (hG : GoodIn Ts ws) (hw : ws = Cond.code y bytes maxL none :: ws') (hini : Cond.initialized y.cls ∈ Ts) {host : String} (hl : (own, idx, y, host) ∈ sNst) (hin : Cond.instanceMethod y ∈ Ts) (hyn : y.name = "<init>") (hd : y.cls ≠ "java/lang/invoke/MethodHandle" ∧ y.cls ≠ "java/lang/invoke/VarHandle" ∧ (parseMethodDescriptor y.desc).map (fun d => d.parameters.length) = some 0) (hR : fr + 1 ≤ R0.frames ∧ 8 + (maxL + 11) + lo ≤ R0.locals) (h1 : c + mc ≤ R0.cells) (h2 : s + ms ≤ R0.slots) (hcat : (st.map fun v => v.category).sum ≤ 8) (hdg : decode cc pc = .ok (.invokespecial idx, 3)) (kk : ∀ (Y' : YT) (μ' : Mem), Cx (xset X (c + mc) (s + ms)) Y' nL cc own Ts R0 l0 → Keep Y Y' b → Post Y' μ' → G (xset X (c + mc) (s + ms)) Y' nL (pc + 3) lv st μ') : G (xset X c s) Y nL pc lv (.ref x :: st) μ := by
  obtain ⟨p, l, e, R, sx, m, args, below, meth, cd, A, H0, c', s', Q⟩ := X
  intro H locs ls hP hS hlv
  obtain ⟨hx, hbc, hml, hown, hts, hK, hI, hA, hlk, hRR, hL, hce, hsl, hH0, hEV⟩ := C
  subst hH0; subst hRR; subst hL; subst hxb
  have hAC : ∀ q, AC Y H.size q → A q := fun q h => by
    rcases h with ⟨i, hi, rfl⟩ | h
    · exact hA i hi
    · exact hN q (Nat.le_trans hS.1 h)
  refine va_callv (va_runIN (As := []) (rest := st) ⟨hx, hbc, hml, hown, hts⟩ (hM H.size) ⟨va_cnB 0 hts hG hw rfl rfl (hEV.2.2.2.2.1 _ hl) (hts _ hini) hd hR, hyn, hts _ hin⟩ ⟨fun a U g mk q => by
      obtain ⟨q1, q2, q3, q4, q5, q6, q7, q8, q9, q10⟩ := q
      exact ⟨q1, q2, q3, va_K.moved (u := U) (U := U.calling g mk a) (Vm.Alike.refl U.vm) q4, vk_S.moved (u := U) (U := U.calling g mk a) (Vm.Alike.refl U.vm) q5, fun i hi => vk_R.same (u := U) (U := U.calling g mk a) rfl (q6 i hi), va_Z.moved (u := U) (U := U.calling g mk a) (Vm.Alike.refl U.vm) q7, va_Zq.moved (u := U) (U := U.calling g mk a) (Vm.Alike.refl U.vm) q8, fun q hq => va_Nw.same (u := U) (U := U.calling g mk a) rfl rfl (q9 q hq), va_AO.moved (u := U) (U := U.calling g mk a) (Vm.Alike.refl U.vm) q10⟩, fun U hU hW => ⟨rfl, by rw [hU], by rw [hU]; exact hP, va_K.moved hW.alike hK, by rw [hU]; exact hEV.to hAC hS hW⟩⟩ rfl rfl hlv.1 rfl (lv_room hcat) hdg ⟨h1, h2⟩) hS (fun q _ h => hAC q h) hAC (fun u t H1 locs1 ht hvm hp hB _ _ hS1 => ?_)
  obtain ⟨Y', μ'⟩ := u
  obtain ⟨p1, p2, p3, p4⟩ := hp
  have hK' : va_K Y'.D vwCl Y'.tys sx := by rw [tys_keep p3, p3.1.1]; exact hK
  have hEV' : EVA Y'.aK Y'.aV A sx sx.heap := by rw [p3.1.2.2.1, p3.1.2.2.2]; exact hEV
  exact kk Y' μ' ⟨hx, hbc, hml, hown, hts, hK', p1, fun i hi => hAC _ (p2 i hi), hlk, rfl, rfl, h1, h2, rfl, hEV'⟩ p3 p4 H1 locs1 ls (by rw [← ht]; exact hB) hS1 hlv
end NC
