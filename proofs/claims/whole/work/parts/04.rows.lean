/-! what lies outside the world: constants' rows, the texts, the nest's links -/
def stLeast (j : Nat) : Int32 := ([0, 1, 0, 0] : List Int32).getD j 0
def stMost (j : Nat) : Int32 := ([100, 99, 99, 99999] : List Int32).getD j 0
def stUntold (j : Nat) : Int32 := ([20, 20, 5, 0] : List Int32).getD j 0
def strL : String := "or    and   not   love  worth hurt  care  anger fond  week  nurse doll  moth  breachtea   seed  law   east  west  moths angry calm  "
def strW : String := "nurse doll moth breach tea seed law east west moths angry calm or and not love worth hurt care anger fond week "
def strN (t : String) : List Int32 := t.toList.map (fun ch => nI ch.toNat)
def strByt : List (List Int32) := [strN strL, strN strW]
def strLen : List Nat := [132, 111]
def nwL : List Cond := [
  .methodLinkNest "DollTruce" 13 ⟨"DollTruce$Tape", "<init>", "()V"⟩ "DollTruce", .methodLinkNest "DollTruce" 20 ⟨"DollTruce$Reader", "<init>", "()V"⟩ "DollTruce",
  .methodLinkNest "DollTruce$Reader" 11 ⟨"DollTruce$Tokens", "<init>", "()V"⟩ "DollTruce", .methodLinkNest "DollTruce$Told" 62 ⟨"DollTruce$Law", "<init>", "()V"⟩ "DollTruce",
  .methodLinkNest "DollTruce" 49 ⟨"DollTruce$Notes", "<init>", "()V"⟩ "DollTruce", .methodLinkNest "DollTruce" 56 ⟨"DollTruce$Deeds", "<init>", "()V"⟩ "DollTruce",
  .methodLinkNest "DollTruce" 63 ⟨"DollTruce$Nursing", "<init>", "()V"⟩ "DollTruce", .methodLinkNest "DollTruce$World" 65 ⟨"DollTruce", "copy", "([I[I)V"⟩ "DollTruce",
  .methodLinkNest "DollTruce$Reader" 115 ⟨"DollTruce", "placeOf", "(I[II)I"⟩ "DollTruce", .methodLinkNest "DollTruce$Told" 70 ⟨"DollTruce", "copy", "([I[I)V"⟩ "DollTruce",
  .fieldLinkNest "DollTruce$Told" 66 "DollTruce" "SETTING_UNTOLD" "[I" "DollTruce", .fieldLinkNest "DollTruce$Nursing" 69 "DollTruce$World" "told" "LDollTruce$Told;" "DollTruce",
  .fieldLinkNest "DollTruce$Reader" 136 "DollTruce" "SETTING_LEAST" "[I" "DollTruce", .fieldLinkNest "DollTruce$Reader" 139 "DollTruce" "SETTING_MOST" "[I" "DollTruce"]
def EN (U : State) : Prop := ∀ w ∈ nwL, va_Nw w U
theorem EN.warm {s U : State} (hW : s.WarmedH U.vm) (h : EN s) : EN U := by
  intro w hw
  have h1 := h w hw
  simp only [nwL, List.mem_cons, List.not_mem_nil, or_false] at hw
  rcases hw with rfl | rfl | rfl | rfl | rfl | rfl | rfl | rfl | rfl | rfl | rfl | rfl | rfl | rfl <;> first | exact va_Nw.warmM hW h1 | exact va_Nw.warmF hW h1
theorem EN.same {s U : State} (hv : s.vm = U.vm) (h : EN s) : EN U := by
  intro w hw
  have h1 := h w hw
  simp only [nwL, List.mem_cons, List.not_mem_nil, or_false] at hw
  rcases hw with rfl | rfl | rfl | rfl | rfl | rfl | rfl | rfl | rfl | rfl | rfl | rfl | rfl | rfl <;> exact va_Nw.same rfl hv h1
def Ext (A : Nat → Prop) (loc : Nat → Nat) (U : State) (H : Heap) : Prop :=
  va_Z "DollTruce" "SETTING_LEAST" "[I" (.ref (loc 1000)) A U H ∧ va_T .int (loc 1000) 4 (fun j => .int (stLeast j)) A U H ∧
  va_Z "DollTruce" "SETTING_MOST" "[I" (.ref (loc 1001)) A U H ∧ va_T .int (loc 1001) 4 (fun j => .int (stMost j)) A U H ∧
  va_Z "DollTruce" "SETTING_UNTOLD" "[I" (.ref (loc 1002)) A U H ∧ va_T .int (loc 1002) 4 (fun j => .int (stUntold j)) A U H ∧
  va_Z "java/lang/String" "COMPACT_STRINGS" "Z" (.int 1) A U H ∧ (va_Z "jdk/internal/util/Preconditions" "SIOOBE_FORMATTER" "Ljava/util/function/BiFunction;" .null A U H ∨ va_Z "jdk/internal/util/Preconditions" "SIOOBE_FORMATTER" "Ljava/util/function/BiFunction;" (.ref (loc 1030)) A U H) ∧
  vk_S 2 strLen strByt (fun i => loc (1010 + i)) (fun i => loc (1020 + i)) A U H ∧ vk_R "DollTruce$Tokens" 66 strL (loc 1010) U ∧ vk_R "DollTruceModel" 167 strW (loc 1011) U ∧ EN U ∧ va_AO "DollTruce$Law" U
theorem Ext.to {A B : Nat → Prop} {loc : Nat → Nat} {s U : State} {H0 H : Heap} (h : Ext A loc s H0) (hk : ∀ a : Nat, a < H0.size → ¬ A a → H[a]? = H0[a]?) (hW : s.WarmedH U.vm) (hAB : ∀ q, B q → A q) : Ext B loc U H := by
  obtain ⟨a1, a2, a3, a4, a5, a6, a7, a8, a9, a10, a11, a12, a13⟩ := h
  have hv := hW.alike
  exact ⟨((a1.moved hv).kept hk).narrow hAB, ((a2.moved hv).kept hk).narrow hAB, ((a3.moved hv).kept hk).narrow hAB, ((a4.moved hv).kept hk).narrow hAB, ((a5.moved hv).kept hk).narrow hAB, ((a6.moved hv).kept hk).narrow hAB, ((a7.moved hv).kept hk).narrow hAB, a8.imp (fun a => ((a.moved hv).kept hk).narrow hAB) (fun a => ((a.moved hv).kept hk).narrow hAB), ((a9.moved hv).kept hk).narrow hAB, a10.warm hW, a11.warm hW, a12.warm hW, a13.moved hv⟩
theorem Ext.calling {A : Nat → Prop} {loc : Nat → Nat} {U : State} {g : JFrame} {mk : MethodId} {a : Array Value} (h : Ext A loc U U.heap) : Ext A loc (U.calling g mk a) (U.calling g mk a).heap := by
  obtain ⟨a1, a2, a3, a4, a5, a6, a7, a8, a9, a10, a11, a12, a13⟩ := h
  have hv := Vm.Alike.refl U.vm
  exact ⟨a1.moved hv, a2.moved hv, a3.moved hv, a4.moved hv, a5.moved hv, a6.moved hv, a7.moved hv, a8.imp (fun a => a.moved hv) (fun a => a.moved hv), a9.moved hv, a10.same rfl, a11.same rfl, EN.same (s := U) rfl a12, a13.moved hv⟩
/-! the context of a walk: machine, method, room, end, the world's cells, its array kinds, how many locals -/
abbrev XT : Type := Program × Launch × Env × Room × State × MethodId × Array Value × List Frame × Method × Code × (State → Prop) × (Nat → Prop) × va_G × (Nat → ClassId) × Nat
abbrev tysOf (cA : Nat → ClassId) : List (ClassId × FieldType) := [(cA 0, .int), (cA 1, .boolean), (cA 2, .long), (cA 3, .object "DollTruce$Law")]
def rmd (d mc ms : Nat) : Room := { frames := d, cells := mc, slots := ms, locals := 64 * d }
def cl (loc : Nat → Nat) (ls : List (Nat × Value)) : List (Nat × Value) := ls.map (fun q => (q.1, cv loc q.2))
def AW (X : XT) (sk : Skel) (loc : Nat → Nat) (k n pc : Nat) (ls : List (Nat × Value)) (stk : List Value) (S : Mem) : Prop := match X with
  | (p, l, e, R, s, m, args, below, meth, c, Q, A, G, cA, nL) => ∀ (H : Heap) (locs : List Loc) (la : Array Slot), va_P G vwCl (conc cA loc sk S) H → va_D A (conc cA loc sk S) → va_S A s.heap H locs → lv_has la nL (cl loc ls) → W p l e R s m args below meth c H locs k n Q (F0 m pc la (stk.map (cv loc)))
def AC (X : XT) (loc : Nat → Nat) (own : String) (cc : ByteArray) (ret : Option FieldType) (maxL d mc ms : Nat) : Prop := match X with
  | (p, _, _, R, s, m, args, _, meth, c, _, A, G, cA, nL) => p.tables.exec = Jvm.exec ∧ c.code = cc ∧ meth.sig.returnType = ret ∧ c.maxLocals = maxL ∧ nL = maxL ∧ R = rmd d mc ms ∧ s.vm.findClass own = some m.cls ∧ (∀ w ∈ lw_good, w.before args s = true) ∧ va_K G vwCl (tysOf cA) s ∧ meth.locks = false ∧ (∀ q, s.heap.size ≤ q → A q) ∧ Ext A loc s s.heap
theorem cl_at {loc : Nat → Nat} {ls : List (Nat × Value)} {pos i : Nat} {v : Value} (h : ls[pos]? = some (i, v)) : (cl loc ls)[pos]? = some (i, cv loc v) := by
  simp [cl, h]
def stl (ls : List (Nat × Value)) (i : Nat) (v : Value) : List (Nat × Value) := (i, v) :: ls.filter (fun q => !(q.1 == i) && !(q.1 + 1 == i && q.2.category == 2))
def stl2 (ls : List (Nat × Value)) (i : Nat) (v : Value) : List (Nat × Value) := (i, v) :: ls.filter (fun q => !(q.1 == i) && (!(q.1 == i + 1) && !(q.1 + 1 == i && q.2.category == 2)))
theorem cl_stl (loc : Nat → Nat) (ls : List (Nat × Value)) (i : Nat) (v : Value) : (i, cv loc v) :: (cl loc ls).filter (fun q => !(q.1 == i) && !(q.1 + 1 == i && q.2.category == 2)) = cl loc (stl ls i v) := by
  simp only [cl, stl, List.map_cons, List.filter_map, Function.comp_def, cv_cat]
theorem cl_stl2 (loc : Nat → Nat) (ls : List (Nat × Value)) (i : Nat) (v : Value) : (i, cv loc v) :: (cl loc ls).filter (fun q => !(q.1 == i) && (!(q.1 == i + 1) && !(q.1 + 1 == i && q.2.category == 2))) = cl loc (stl2 ls i v) := by
  simp only [cl, stl2, List.map_cons, List.filter_map, Function.comp_def, cv_cat]
theorem cl_pick (loc : Nat → Nat) (ls : List (Nat × Value)) (ks : List Nat) : lv_pick (cl loc ls) ks = cl loc (lv_pick ls ks) := by
  simp only [lv_pick, cl, List.map_filterMap]
  congr 1
  funext k
  simp
theorem cl_args (loc : Nat → Nat) (vs : List Value) : ∀ i : Nat, lv_args i (vs.map (cv loc)) = cl loc (lv_args i vs) := by
  induction vs with
  | nil => intro i; rfl
  | cons v vs ih => intro i; simp only [List.map_cons, lv_args, cl, cv_cat, ih]
section AWR
variable {X : XT} {loc : Nat → Nat} {own : String} {cc : ByteArray} {ret : Option FieldType} {maxL d mc ms : Nat} {sk : Skel} {k n pc : Nat} {ls : List (Nat × Value)} {stk : List Value} {S : Mem}
theorem aw_sub {ls' : List (Nat × Value)} (ks : List Nat) (h : lv_pick ls ks = ls') (kk : AW X sk loc k n pc ls' stk S) : AW X sk loc k n pc ls stk S := by
  obtain ⟨p, l, e, R, s, m, args, below, meth, c, Q, A, G, cA, nL⟩ := X
  intro H locs la hP hD hS hl
  exact kk H locs la hP hD hS (lv_sub hl ks (by rw [cl_pick, h]))
theorem aw_S {S' : Mem} (h : S' = S) (kk : AW X sk loc k n pc ls stk S') : AW X sk loc k n pc ls stk S := h ▸ kk
theorem aw_iadd (hX : AC X loc own cc ret maxL d mc ms) {x y : Int32} (hdg : decode cc pc = .ok (.iadd, 1)) (kk : AW X sk loc k n (pc + 1) ls (.int (x + y) :: stk) S) : AW X sk loc k n pc ls (.int y :: .int x :: stk) S := by
  obtain ⟨p, l, e, R, s, m, args, below, meth, c, Q, A, G, cA, nL⟩ := X
  obtain ⟨hx, hb, hr, hml, hnL, hR, hown, hts, hK, hlocks, hA, hE⟩ := hX
  intro H locs la hP hD hS hl
  exact lv_iadd hx hb hdg (kk H locs la hP hD hS hl)
theorem aw_isub (hX : AC X loc own cc ret maxL d mc ms) {x y : Int32} (hdg : decode cc pc = .ok (.isub, 1)) (kk : AW X sk loc k n (pc + 1) ls (.int (x - y) :: stk) S) : AW X sk loc k n pc ls (.int y :: .int x :: stk) S := by
  obtain ⟨p, l, e, R, s, m, args, below, meth, c, Q, A, G, cA, nL⟩ := X
  obtain ⟨hx, hb, hr, hml, hnL, hR, hown, hts, hK, hlocks, hA, hE⟩ := hX
  intro H locs la hP hD hS hl
  exact lv_isub hx hb hdg (kk H locs la hP hD hS hl)
theorem aw_imul (hX : AC X loc own cc ret maxL d mc ms) {x y : Int32} (hdg : decode cc pc = .ok (.imul, 1)) (kk : AW X sk loc k n (pc + 1) ls (.int (x * y) :: stk) S) : AW X sk loc k n pc ls (.int y :: .int x :: stk) S := by
  obtain ⟨p, l, e, R, s, m, args, below, meth, c, Q, A, G, cA, nL⟩ := X
  obtain ⟨hx, hb, hr, hml, hnL, hR, hown, hts, hK, hlocks, hA, hE⟩ := hX
  intro H locs la hP hD hS hl
  exact lv_imul hx hb hdg (kk H locs la hP hD hS hl)
theorem aw_iand (hX : AC X loc own cc ret maxL d mc ms) {x y : Int32} (hdg : decode cc pc = .ok (.iand, 1)) (kk : AW X sk loc k n (pc + 1) ls (.int (x &&& y) :: stk) S) : AW X sk loc k n pc ls (.int y :: .int x :: stk) S := by
  obtain ⟨p, l, e, R, s, m, args, below, meth, c, Q, A, G, cA, nL⟩ := X
  obtain ⟨hx, hb, hr, hml, hnL, hR, hown, hts, hK, hlocks, hA, hE⟩ := hX
  intro H locs la hP hD hS hl
  exact lv_iand hx hb hdg (kk H locs la hP hD hS hl)
theorem aw_ior (hX : AC X loc own cc ret maxL d mc ms) {x y : Int32} (hdg : decode cc pc = .ok (.ior, 1)) (kk : AW X sk loc k n (pc + 1) ls (.int (x ||| y) :: stk) S) : AW X sk loc k n pc ls (.int y :: .int x :: stk) S := by
  obtain ⟨p, l, e, R, s, m, args, below, meth, c, Q, A, G, cA, nL⟩ := X
  obtain ⟨hx, hb, hr, hml, hnL, hR, hown, hts, hK, hlocks, hA, hE⟩ := hX
  intro H locs la hP hD hS hl
  exact lv_ior hx hb hdg (kk H locs la hP hD hS hl)
theorem aw_ixor (hX : AC X loc own cc ret maxL d mc ms) {x y : Int32} (hdg : decode cc pc = .ok (.ixor, 1)) (kk : AW X sk loc k n (pc + 1) ls (.int (x ^^^ y) :: stk) S) : AW X sk loc k n pc ls (.int y :: .int x :: stk) S := by
  obtain ⟨p, l, e, R, s, m, args, below, meth, c, Q, A, G, cA, nL⟩ := X
  obtain ⟨hx, hb, hr, hml, hnL, hR, hown, hts, hK, hlocks, hA, hE⟩ := hX
  intro H locs la hP hD hS hl
  exact lv_ixor hx hb hdg (kk H locs la hP hD hS hl)
theorem aw_ishl (hX : AC X loc own cc ret maxL d mc ms) {x y : Int32} (hdg : decode cc pc = .ok (.ishl, 1)) (kk : AW X sk loc k n (pc + 1) ls (.int (x <<< (y &&& 31)) :: stk) S) : AW X sk loc k n pc ls (.int y :: .int x :: stk) S := by
  obtain ⟨p, l, e, R, s, m, args, below, meth, c, Q, A, G, cA, nL⟩ := X
  obtain ⟨hx, hb, hr, hml, hnL, hR, hown, hts, hK, hlocks, hA, hE⟩ := hX
  intro H locs la hP hD hS hl
  exact lv_ishl hx hb hdg (kk H locs la hP hD hS hl)
theorem aw_ishr (hX : AC X loc own cc ret maxL d mc ms) {x y : Int32} (hdg : decode cc pc = .ok (.ishr, 1)) (kk : AW X sk loc k n (pc + 1) ls (.int (x >>> (y &&& 31)) :: stk) S) : AW X sk loc k n pc ls (.int y :: .int x :: stk) S := by
  obtain ⟨p, l, e, R, s, m, args, below, meth, c, Q, A, G, cA, nL⟩ := X
  obtain ⟨hx, hb, hr, hml, hnL, hR, hown, hts, hK, hlocks, hA, hE⟩ := hX
  intro H locs la hP hD hS hl
  exact lv_ishr hx hb hdg (kk H locs la hP hD hS hl)
theorem aw_iushr (hX : AC X loc own cc ret maxL d mc ms) {x y : Int32} (hdg : decode cc pc = .ok (.iushr, 1)) (kk : AW X sk loc k n (pc + 1) ls (.int ((x.toUInt32 >>> (y.toUInt32 &&& Int32.toUInt32 31)).toInt32) :: stk) S) : AW X sk loc k n pc ls (.int y :: .int x :: stk) S := by
  obtain ⟨p, l, e, R, s, m, args, below, meth, c, Q, A, G, cA, nL⟩ := X
  obtain ⟨hx, hb, hr, hml, hnL, hR, hown, hts, hK, hlocks, hA, hE⟩ := hX
  intro H locs la hP hD hS hl
  exact lv_iushr hx hb hdg rfl (kk H locs la hP hD hS hl)
theorem aw_ineg (hX : AC X loc own cc ret maxL d mc ms) {x : Int32} (hdg : decode cc pc = .ok (.ineg, 1)) (kk : AW X sk loc k n (pc + 1) ls (.int (-x) :: stk) S) : AW X sk loc k n pc ls (.int x :: stk) S := by
  obtain ⟨p, l, e, R, s, m, args, below, meth, c, Q, A, G, cA, nL⟩ := X
  obtain ⟨hx, hb, hr, hml, hnL, hR, hown, hts, hK, hlocks, hA, hE⟩ := hX
  intro H locs la hP hD hS hl
  exact lv_ineg hx hb hdg (kk H locs la hP hD hS hl)
theorem aw_ladd (hX : AC X loc own cc ret maxL d mc ms) {x y : Int64} (hdg : decode cc pc = .ok (.ladd, 1)) (kk : AW X sk loc k n (pc + 1) ls (.long (x + y) :: stk) S) : AW X sk loc k n pc ls (.long y :: .long x :: stk) S := by
  obtain ⟨p, l, e, R, s, m, args, below, meth, c, Q, A, G, cA, nL⟩ := X
  obtain ⟨hx, hb, hr, hml, hnL, hR, hown, hts, hK, hlocks, hA, hE⟩ := hX
  intro H locs la hP hD hS hl
  exact lv_ladd hx hb hdg (kk H locs la hP hD hS hl)
theorem aw_lsub (hX : AC X loc own cc ret maxL d mc ms) {x y : Int64} (hdg : decode cc pc = .ok (.lsub, 1)) (kk : AW X sk loc k n (pc + 1) ls (.long (x - y) :: stk) S) : AW X sk loc k n pc ls (.long y :: .long x :: stk) S := by
  obtain ⟨p, l, e, R, s, m, args, below, meth, c, Q, A, G, cA, nL⟩ := X
  obtain ⟨hx, hb, hr, hml, hnL, hR, hown, hts, hK, hlocks, hA, hE⟩ := hX
  intro H locs la hP hD hS hl
  exact lv_lsub hx hb hdg (kk H locs la hP hD hS hl)
theorem aw_lmul (hX : AC X loc own cc ret maxL d mc ms) {x y : Int64} (hdg : decode cc pc = .ok (.lmul, 1)) (kk : AW X sk loc k n (pc + 1) ls (.long (x * y) :: stk) S) : AW X sk loc k n pc ls (.long y :: .long x :: stk) S := by
  obtain ⟨p, l, e, R, s, m, args, below, meth, c, Q, A, G, cA, nL⟩ := X
  obtain ⟨hx, hb, hr, hml, hnL, hR, hown, hts, hK, hlocks, hA, hE⟩ := hX
  intro H locs la hP hD hS hl
  exact lv_lmul hx hb hdg (kk H locs la hP hD hS hl)
theorem aw_land (hX : AC X loc own cc ret maxL d mc ms) {x y : Int64} (hdg : decode cc pc = .ok (.land, 1)) (kk : AW X sk loc k n (pc + 1) ls (.long (x &&& y) :: stk) S) : AW X sk loc k n pc ls (.long y :: .long x :: stk) S := by
  obtain ⟨p, l, e, R, s, m, args, below, meth, c, Q, A, G, cA, nL⟩ := X
  obtain ⟨hx, hb, hr, hml, hnL, hR, hown, hts, hK, hlocks, hA, hE⟩ := hX
  intro H locs la hP hD hS hl
  exact lv_land hx hb hdg (kk H locs la hP hD hS hl)
theorem aw_lneg (hX : AC X loc own cc ret maxL d mc ms) {x : Int64} (hdg : decode cc pc = .ok (.lneg, 1)) (kk : AW X sk loc k n (pc + 1) ls (.long (-x) :: stk) S) : AW X sk loc k n pc ls (.long x :: stk) S := by
  obtain ⟨p, l, e, R, s, m, args, below, meth, c, Q, A, G, cA, nL⟩ := X
  obtain ⟨hx, hb, hr, hml, hnL, hR, hown, hts, hK, hlocks, hA, hE⟩ := hX
  intro H locs la hP hD hS hl
  exact lv_lneg hx hb hdg (kk H locs la hP hD hS hl)
theorem aw_lshr (hX : AC X loc own cc ret maxL d mc ms) {x : Int64} {y : Int32} (hdg : decode cc pc = .ok (.lshr, 1)) (kk : AW X sk loc k n (pc + 1) ls (.long (x >>> (y.toInt64 &&& 63)) :: stk) S) : AW X sk loc k n pc ls (.int y :: .long x :: stk) S := by
  obtain ⟨p, l, e, R, s, m, args, below, meth, c, Q, A, G, cA, nL⟩ := X
  obtain ⟨hx, hb, hr, hml, hnL, hR, hown, hts, hK, hlocks, hA, hE⟩ := hX
  intro H locs la hP hD hS hl
  exact lv_lshr hx hb hdg rfl (kk H locs la hP hD hS hl)
theorem aw_lcmp (hX : AC X loc own cc ret maxL d mc ms) {x y : Int64} (hdg : decode cc pc = .ok (.lcmp, 1)) (kk : AW X sk loc k n (pc + 1) ls (.int (lg_cmp x y) :: stk) S) : AW X sk loc k n pc ls (.long y :: .long x :: stk) S := by
  obtain ⟨p, l, e, R, s, m, args, below, meth, c, Q, A, G, cA, nL⟩ := X
  obtain ⟨hx, hb, hr, hml, hnL, hR, hown, hts, hK, hlocks, hA, hE⟩ := hX
  intro H locs la hP hD hS hl
  exact W.lcmp hx hb hdg (kk H locs la hP hD hS hl)
theorem aw_i2l (hX : AC X loc own cc ret maxL d mc ms) {x : Int32} (hdg : decode cc pc = .ok (.i2l, 1)) (kk : AW X sk loc k n (pc + 1) ls (.long (x.toInt64) :: stk) S) : AW X sk loc k n pc ls (.int x :: stk) S := by
  obtain ⟨p, l, e, R, s, m, args, below, meth, c, Q, A, G, cA, nL⟩ := X
  obtain ⟨hx, hb, hr, hml, hnL, hR, hown, hts, hK, hlocks, hA, hE⟩ := hX
  intro H locs la hP hD hS hl
  exact lv_i2l hx hb hdg rfl (kk H locs la hP hD hS hl)
theorem aw_l2i (hX : AC X loc own cc ret maxL d mc ms) {x : Int64} (hdg : decode cc pc = .ok (.l2i, 1)) (kk : AW X sk loc k n (pc + 1) ls (.int (x.toInt32) :: stk) S) : AW X sk loc k n pc ls (.long x :: stk) S := by
  obtain ⟨p, l, e, R, s, m, args, below, meth, c, Q, A, G, cA, nL⟩ := X
  obtain ⟨hx, hb, hr, hml, hnL, hR, hown, hts, hK, hlocks, hA, hE⟩ := hX
  intro H locs la hP hD hS hl
  exact lv_l2i hx hb hdg rfl (kk H locs la hP hD hS hl)
theorem aw_idiv (hX : AC X loc own cc ret maxL d mc ms) {x y v : Int32} (hdg : decode cc pc = .ok (.idiv, 1)) (hv : dv x y = some v) (kk : AW X sk loc k n (pc + 1) ls (.int v :: stk) S) : AW X sk loc k n pc ls (.int y :: .int x :: stk) S := by
  obtain ⟨p, l, e, R, s, m, args, below, meth, c, Q, A, G, cA, nL⟩ := X
  obtain ⟨hx, hb, hr, hml, hnL, hR, hown, hts, hK, hlocks, hA, hE⟩ := hX
  intro H locs la hP hD hS hl
  unfold dv at hv
  split at hv
  · cases hv
  · rename_i hne
    cases hv
    exact lv_idiv hx hb hdg hne (kk H locs la hP hD hS hl)
theorem aw_irem (hX : AC X loc own cc ret maxL d mc ms) {x y v : Int32} (hdg : decode cc pc = .ok (.irem, 1)) (hv : rm x y = some v) (kk : AW X sk loc k n (pc + 1) ls (.int v :: stk) S) : AW X sk loc k n pc ls (.int y :: .int x :: stk) S := by
  obtain ⟨p, l, e, R, s, m, args, below, meth, c, Q, A, G, cA, nL⟩ := X
  obtain ⟨hx, hb, hr, hml, hnL, hR, hown, hts, hK, hlocks, hA, hE⟩ := hX
  intro H locs la hP hD hS hl
  unfold rm at hv
  split at hv
  · cases hv
  · rename_i hne
    cases hv
    exact lv_irem hx hb hdg hne (kk H locs la hP hD hS hl)
theorem aw_ldiv (hX : AC X loc own cc ret maxL d mc ms) {x y v : Int64} (hdg : decode cc pc = .ok (.ldiv, 1)) (hv : dvL x y = some v) (kk : AW X sk loc k n (pc + 1) ls (.long v :: stk) S) : AW X sk loc k n pc ls (.long y :: .long x :: stk) S := by
  obtain ⟨p, l, e, R, s, m, args, below, meth, c, Q, A, G, cA, nL⟩ := X
  obtain ⟨hx, hb, hr, hml, hnL, hR, hown, hts, hK, hlocks, hA, hE⟩ := hX
  intro H locs la hP hD hS hl
  unfold dvL at hv
  split at hv
  · cases hv
  · rename_i hne
    cases hv
    exact lv_ldiv hx hb hdg hne (kk H locs la hP hD hS hl)
theorem aw_lrem (hX : AC X loc own cc ret maxL d mc ms) {x y v : Int64} (hdg : decode cc pc = .ok (.lrem, 1)) (hv : rmL x y = some v) (kk : AW X sk loc k n (pc + 1) ls (.long v :: stk) S) : AW X sk loc k n pc ls (.long y :: .long x :: stk) S := by
  obtain ⟨p, l, e, R, s, m, args, below, meth, c, Q, A, G, cA, nL⟩ := X
  obtain ⟨hx, hb, hr, hml, hnL, hR, hown, hts, hK, hlocks, hA, hE⟩ := hX
  intro H locs la hP hD hS hl
  unfold rmL at hv
  split at hv
  · cases hv
  · rename_i hne
    cases hv
    exact lv_lrem hx hb hdg hne (kk H locs la hP hD hS hl)
theorem aw_iconst (hX : AC X loc own cc ret maxL d mc ms) {z : Int} {v : Int32} (hdg : decode cc pc = .ok (.iconst z, 1)) (hv : Int32.ofInt z = v) (kk : AW X sk loc k n (pc + 1) ls (.int v :: stk) S) : AW X sk loc k n pc ls (stk) S := by
  obtain ⟨p, l, e, R, s, m, args, below, meth, c, Q, A, G, cA, nL⟩ := X
  obtain ⟨hx, hb, hr, hml, hnL, hR, hown, hts, hK, hlocks, hA, hE⟩ := hX
  intro H locs la hP hD hS hl
  exact lv_iconst hx hb hdg hv (kk H locs la hP hD hS hl)
theorem aw_bipush (hX : AC X loc own cc ret maxL d mc ms) {z : Int} {v : Int32} (hdg : decode cc pc = .ok (.bipush z, 2)) (hv : (Int8.ofInt z).toInt32 = v) (kk : AW X sk loc k n (pc + 2) ls (.int v :: stk) S) : AW X sk loc k n pc ls (stk) S := by
  obtain ⟨p, l, e, R, s, m, args, below, meth, c, Q, A, G, cA, nL⟩ := X
  obtain ⟨hx, hb, hr, hml, hnL, hR, hown, hts, hK, hlocks, hA, hE⟩ := hX
  intro H locs la hP hD hS hl
  exact lv_bipush hx hb hdg hv (kk H locs la hP hD hS hl)
theorem aw_sipush (hX : AC X loc own cc ret maxL d mc ms) {z : Int} {v : Int32} (hdg : decode cc pc = .ok (.sipush z, 3)) (hv : (Int16.ofInt z).toInt32 = v) (kk : AW X sk loc k n (pc + 3) ls (.int v :: stk) S) : AW X sk loc k n pc ls (stk) S := by
  obtain ⟨p, l, e, R, s, m, args, below, meth, c, Q, A, G, cA, nL⟩ := X
  obtain ⟨hx, hb, hr, hml, hnL, hR, hown, hts, hK, hlocks, hA, hE⟩ := hX
  intro H locs la hP hD hS hl
  exact lv_sipush hx hb hdg hv (kk H locs la hP hD hS hl)
theorem aw_lconst (hX : AC X loc own cc ret maxL d mc ms) {z : Fin 2} {v : Int64} (hdg : decode cc pc = .ok (.lconst z, 1)) (hv : Int64.ofNat (z : Nat) = v) (kk : AW X sk loc k n (pc + 1) ls (.long v :: stk) S) : AW X sk loc k n pc ls (stk) S := by
  obtain ⟨p, l, e, R, s, m, args, below, meth, c, Q, A, G, cA, nL⟩ := X
  obtain ⟨hx, hb, hr, hml, hnL, hR, hown, hts, hK, hlocks, hA, hE⟩ := hX
  intro H locs la hP hD hS hl
  exact lv_lconst hx hb hdg hv (kk H locs la hP hD hS hl)
theorem aw_ldc (hX : AC X loc own cc ret maxL d mc ms) {ix : Nat} {v : Int32} (hw : Cond.constant own ix v ∈ lw_good) (hdg : decode cc pc = .ok (.ldc ix, 2)) (kk : AW X sk loc k n (pc + 2) ls (.int v :: stk) S) : AW X sk loc k n pc ls (stk) S := by
  obtain ⟨p, l, e, R, s, m, args, below, meth, c, Q, A, G, cA, nL⟩ := X
  obtain ⟨hx, hb, hr, hml, hnL, hR, hown, hts, hK, hlocks, hA, hE⟩ := hX
  intro H locs la hP hD hS hl
  exact lv_ldc hx hb hown (hts _ hw) hdg (kk H locs la hP hD hS hl)
theorem aw_ldcw (hX : AC X loc own cc ret maxL d mc ms) {ix : Nat} {v : Int32} (hw : Cond.constant own ix v ∈ lw_good) (hdg : decode cc pc = .ok (.ldc_w ix, 3)) (kk : AW X sk loc k n (pc + 3) ls (.int v :: stk) S) : AW X sk loc k n pc ls (stk) S := by
  obtain ⟨p, l, e, R, s, m, args, below, meth, c, Q, A, G, cA, nL⟩ := X
  obtain ⟨hx, hb, hr, hml, hnL, hR, hown, hts, hK, hlocks, hA, hE⟩ := hX
  intro H locs la hP hD hS hl
  exact lv_ldcw hx hb hown (hts _ hw) hdg (kk H locs la hP hD hS hl)
theorem aw_ldc2 (hX : AC X loc own cc ret maxL d mc ms) {ix : Nat} {v : Int64} (hw : Cond.constantLong own ix v ∈ lw_good) (hdg : decode cc pc = .ok (.ldc2_w ix, 3)) (kk : AW X sk loc k n (pc + 3) ls (.long v :: stk) S) : AW X sk loc k n pc ls (stk) S := by
  obtain ⟨p, l, e, R, s, m, args, below, meth, c, Q, A, G, cA, nL⟩ := X
  obtain ⟨hx, hb, hr, hml, hnL, hR, hown, hts, hK, hlocks, hA, hE⟩ := hX
  intro H locs la hP hD hS hl
  exact lv_ldc2 hx hb hown (hts _ hw) hdg (kk H locs la hP hD hS hl)
theorem aw_dup (hX : AC X loc own cc ret maxL d mc ms) {v : Value} (hdg : decode cc pc = .ok (.dup, 1)) (hv : v.category = 1) (kk : AW X sk loc k n (pc + 1) ls (v :: v :: stk) S) : AW X sk loc k n pc ls (v :: stk) S := by
  obtain ⟨p, l, e, R, s, m, args, below, meth, c, Q, A, G, cA, nL⟩ := X
  obtain ⟨hx, hb, hr, hml, hnL, hR, hown, hts, hK, hlocks, hA, hE⟩ := hX
  intro H locs la hP hD hS hl
  exact lv_dup hx hb hdg ((cv_cat loc v).trans hv) (kk H locs la hP hD hS hl)
theorem aw_dup2 (hX : AC X loc own cc ret maxL d mc ms) {u v : Value} (hdg : decode cc pc = .ok (.dup2, 1)) (hu : u.category = 1) (hv : v.category = 1) (kk : AW X sk loc k n (pc + 1) ls (u :: v :: u :: v :: stk) S) : AW X sk loc k n pc ls (u :: v :: stk) S := by
  obtain ⟨p, l, e, R, s, m, args, below, meth, c, Q, A, G, cA, nL⟩ := X
  obtain ⟨hx, hb, hr, hml, hnL, hR, hown, hts, hK, hlocks, hA, hE⟩ := hX
  intro H locs la hP hD hS hl
  exact lv_dup2_11 hx hb hdg ((cv_cat loc u).trans hu) ((cv_cat loc v).trans hv) (kk H locs la hP hD hS hl)
theorem aw_pop (hX : AC X loc own cc ret maxL d mc ms) {v : Value} (hdg : decode cc pc = .ok (.pop, 1)) (hv : v.category = 1) (kk : AW X sk loc k n (pc + 1) ls (stk) S) : AW X sk loc k n pc ls (v :: stk) S := by
  obtain ⟨p, l, e, R, s, m, args, below, meth, c, Q, A, G, cA, nL⟩ := X
  obtain ⟨hx, hb, hr, hml, hnL, hR, hown, hts, hK, hlocks, hA, hE⟩ := hX
  intro H locs la hP hD hS hl
  exact lv_pop hx hb hdg ((cv_cat loc v).trans hv) (kk H locs la hP hD hS hl)
theorem aw_goto (hX : AC X loc own cc ret maxL d mc ms) {off : Int} {tgt : Nat} (hdg : decode cc pc = .ok (.goto off, 3)) (ht : (pc : Int) + off = (tgt : Int)) (kk : AW X sk loc k n (tgt) ls (stk) S) : AW X sk loc k n pc ls (stk) S := by
  obtain ⟨p, l, e, R, s, m, args, below, meth, c, Q, A, G, cA, nL⟩ := X
  obtain ⟨hx, hb, hr, hml, hnL, hR, hown, hts, hK, hlocks, hA, hE⟩ := hX
  intro H locs la hP hD hS hl
  exact lv_goto hx hb hdg ht (kk H locs la hP hD hS hl)
theorem aw_iload_n (hX : AC X loc own cc ret maxL d mc ms) {f : Fin 4} {i : Nat} {x : Int32} (hdg : decode cc pc = .ok (.iload_n f, 1)) (hi : (f : Nat) = i) (pos : Nat) (h : ls[pos]? = some (i, .int x)) (kk : AW X sk loc k n (pc + 1) ls (.int x :: stk) S) : AW X sk loc k n pc ls (stk) S := by
  obtain ⟨p, l, e, R, s, m, args, below, meth, c, Q, A, G, cA, nL⟩ := X
  obtain ⟨hx, hb, hr, hml, hnL, hR, hown, hts, hK, hlocks, hA, hE⟩ := hX
  intro H locs la hP hD hS hl
  exact lv_iload_n hx hb hdg hi (lv_at hl pos (cl_at h)) (kk H locs la hP hD hS hl)
theorem aw_iload (hX : AC X loc own cc ret maxL d mc ms) {i : Nat} {x : Int32} (hdg : decode cc pc = .ok (.iload i, 2)) (pos : Nat) (h : ls[pos]? = some (i, .int x)) (kk : AW X sk loc k n (pc + 2) ls (.int x :: stk) S) : AW X sk loc k n pc ls (stk) S := by
  obtain ⟨p, l, e, R, s, m, args, below, meth, c, Q, A, G, cA, nL⟩ := X
  obtain ⟨hx, hb, hr, hml, hnL, hR, hown, hts, hK, hlocks, hA, hE⟩ := hX
  intro H locs la hP hD hS hl
  exact lv_iload hx hb hdg (lv_at hl pos (cl_at h)) (kk H locs la hP hD hS hl)
theorem aw_lload_n (hX : AC X loc own cc ret maxL d mc ms) {f : Fin 4} {i : Nat} {x : Int64} (hdg : decode cc pc = .ok (.lload_n f, 1)) (hi : (f : Nat) = i) (pos : Nat) (h : ls[pos]? = some (i, .long x)) (kk : AW X sk loc k n (pc + 1) ls (.long x :: stk) S) : AW X sk loc k n pc ls (stk) S := by
  obtain ⟨p, l, e, R, s, m, args, below, meth, c, Q, A, G, cA, nL⟩ := X
  obtain ⟨hx, hb, hr, hml, hnL, hR, hown, hts, hK, hlocks, hA, hE⟩ := hX
  intro H locs la hP hD hS hl
  exact lv_lload_n hx hb hdg hi (lv_at hl pos (cl_at h)) (kk H locs la hP hD hS hl)
theorem aw_lload (hX : AC X loc own cc ret maxL d mc ms) {i : Nat} {x : Int64} (hdg : decode cc pc = .ok (.lload i, 2)) (pos : Nat) (h : ls[pos]? = some (i, .long x)) (kk : AW X sk loc k n (pc + 2) ls (.long x :: stk) S) : AW X sk loc k n pc ls (stk) S := by
  obtain ⟨p, l, e, R, s, m, args, below, meth, c, Q, A, G, cA, nL⟩ := X
  obtain ⟨hx, hb, hr, hml, hnL, hR, hown, hts, hK, hlocks, hA, hE⟩ := hX
  intro H locs la hP hD hS hl
  exact lv_lload hx hb hdg (lv_at hl pos (cl_at h)) (kk H locs la hP hD hS hl)
theorem aw_aload_n (hX : AC X loc own cc ret maxL d mc ms) {f : Fin 4} {i : Nat} {x : Nat} (hdg : decode cc pc = .ok (.aload_n f, 1)) (hi : (f : Nat) = i) (pos : Nat) (h : ls[pos]? = some (i, .ref x)) (kk : AW X sk loc k n (pc + 1) ls (.ref x :: stk) S) : AW X sk loc k n pc ls (stk) S := by
  obtain ⟨p, l, e, R, s, m, args, below, meth, c, Q, A, G, cA, nL⟩ := X
  obtain ⟨hx, hb, hr, hml, hnL, hR, hown, hts, hK, hlocks, hA, hE⟩ := hX
  intro H locs la hP hD hS hl
  exact lv_aload_n hx hb hdg hi (lv_at hl pos (cl_at h)) (kk H locs la hP hD hS hl)
theorem aw_aload (hX : AC X loc own cc ret maxL d mc ms) {i : Nat} {x : Nat} (hdg : decode cc pc = .ok (.aload i, 2)) (pos : Nat) (h : ls[pos]? = some (i, .ref x)) (kk : AW X sk loc k n (pc + 2) ls (.ref x :: stk) S) : AW X sk loc k n pc ls (stk) S := by
  obtain ⟨p, l, e, R, s, m, args, below, meth, c, Q, A, G, cA, nL⟩ := X
  obtain ⟨hx, hb, hr, hml, hnL, hR, hown, hts, hK, hlocks, hA, hE⟩ := hX
  intro H locs la hP hD hS hl
  exact lv_aload hx hb hdg (lv_at hl pos (cl_at h)) (kk H locs la hP hD hS hl)
theorem aw_istore_n (hX : AC X loc own cc ret maxL d mc ms) {f : Fin 4} {i : Nat} {x : Int32} {ls' : List (Nat × Value)} (hdg : decode cc pc = .ok (.istore_n f, 1)) (hi : (f : Nat) = i) (hn : i < maxL) (h : stl ls i (.int x) = ls') (kk : AW X sk loc k n (pc + 1) ls' (stk) S) : AW X sk loc k n pc ls (.int x :: stk) S := by
  obtain ⟨p, l, e, R, s, m, args, below, meth, c, Q, A, G, cA, nL⟩ := X
  obtain ⟨hx, hb, hr, hml, hnL, hR, hown, hts, hK, hlocks, hA, hE⟩ := hX
  intro H locs la hP hD hS hl
  exact lv_istore_n hx hb hdg hi hl (by rw [hnL]; exact hn) (cl_stl loc ls i (.int x)) (fun la hl => kk H locs la hP hD hS (by rw [← h]; exact hl))
theorem aw_istore (hX : AC X loc own cc ret maxL d mc ms) {i : Nat} {x : Int32} {ls' : List (Nat × Value)} (hdg : decode cc pc = .ok (.istore i, 2)) (hn : i < maxL) (h : stl ls i (.int x) = ls') (kk : AW X sk loc k n (pc + 2) ls' (stk) S) : AW X sk loc k n pc ls (.int x :: stk) S := by
  obtain ⟨p, l, e, R, s, m, args, below, meth, c, Q, A, G, cA, nL⟩ := X
  obtain ⟨hx, hb, hr, hml, hnL, hR, hown, hts, hK, hlocks, hA, hE⟩ := hX
  intro H locs la hP hD hS hl
  exact lv_istore hx hb hdg hl (by rw [hnL]; exact hn) (cl_stl loc ls i (.int x)) (fun la hl => kk H locs la hP hD hS (by rw [← h]; exact hl))
theorem aw_astore_n (hX : AC X loc own cc ret maxL d mc ms) {f : Fin 4} {i : Nat} {x : Nat} {ls' : List (Nat × Value)} (hdg : decode cc pc = .ok (.astore_n f, 1)) (hi : (f : Nat) = i) (hn : i < maxL) (h : stl ls i (.ref x) = ls') (kk : AW X sk loc k n (pc + 1) ls' (stk) S) : AW X sk loc k n pc ls (.ref x :: stk) S := by
  obtain ⟨p, l, e, R, s, m, args, below, meth, c, Q, A, G, cA, nL⟩ := X
  obtain ⟨hx, hb, hr, hml, hnL, hR, hown, hts, hK, hlocks, hA, hE⟩ := hX
  intro H locs la hP hD hS hl
  exact lv_astore_n hx hb hdg hi hl (by rw [hnL]; exact hn) (cl_stl loc ls i (.ref x)) (fun la hl => kk H locs la hP hD hS (by rw [← h]; exact hl))
theorem aw_astore (hX : AC X loc own cc ret maxL d mc ms) {i : Nat} {x : Nat} {ls' : List (Nat × Value)} (hdg : decode cc pc = .ok (.astore i, 2)) (hn : i < maxL) (h : stl ls i (.ref x) = ls') (kk : AW X sk loc k n (pc + 2) ls' (stk) S) : AW X sk loc k n pc ls (.ref x :: stk) S := by
  obtain ⟨p, l, e, R, s, m, args, below, meth, c, Q, A, G, cA, nL⟩ := X
  obtain ⟨hx, hb, hr, hml, hnL, hR, hown, hts, hK, hlocks, hA, hE⟩ := hX
  intro H locs la hP hD hS hl
  exact lv_astore hx hb hdg hl (by rw [hnL]; exact hn) (cl_stl loc ls i (.ref x)) (fun la hl => kk H locs la hP hD hS (by rw [← h]; exact hl))
theorem aw_lstore_n (hX : AC X loc own cc ret maxL d mc ms) {f : Fin 4} {i : Nat} {x : Int64} {ls' : List (Nat × Value)} (hdg : decode cc pc = .ok (.lstore_n f, 1)) (hi : (f : Nat) = i) (hn : i + 1 < maxL) (h : stl2 ls i (.long x) = ls') (kk : AW X sk loc k n (pc + 1) ls' (stk) S) : AW X sk loc k n pc ls (.long x :: stk) S := by
  obtain ⟨p, l, e, R, s, m, args, below, meth, c, Q, A, G, cA, nL⟩ := X
  obtain ⟨hx, hb, hr, hml, hnL, hR, hown, hts, hK, hlocks, hA, hE⟩ := hX
  intro H locs la hP hD hS hl
  exact lv_lstore_n hx hb hdg hi hl (by rw [hnL]; exact hn) (cl_stl2 loc ls i (.long x)) (fun la hl => kk H locs la hP hD hS (by rw [← h]; exact hl))
theorem aw_lstore (hX : AC X loc own cc ret maxL d mc ms) {i : Nat} {x : Int64} {ls' : List (Nat × Value)} (hdg : decode cc pc = .ok (.lstore i, 2)) (hn : i + 1 < maxL) (h : stl2 ls i (.long x) = ls') (kk : AW X sk loc k n (pc + 2) ls' (stk) S) : AW X sk loc k n pc ls (.long x :: stk) S := by
  obtain ⟨p, l, e, R, s, m, args, below, meth, c, Q, A, G, cA, nL⟩ := X
  obtain ⟨hx, hb, hr, hml, hnL, hR, hown, hts, hK, hlocks, hA, hE⟩ := hX
  intro H locs la hP hD hS hl
  exact lv_lstore hx hb hdg hl (by rw [hnL]; exact hn) (cl_stl2 loc ls i (.long x)) (fun la hl => kk H locs la hP hD hS (by rw [← h]; exact hl))
theorem aw_iinc (hX : AC X loc own cc ret maxL d mc ms) {i pos : Nat} {z : Int} {x v : Int32} {ls' : List (Nat × Value)} (hdg : decode cc pc = .ok (.iinc i z, 3)) (hp : ls[pos]? = some (i, .int x)) (hv : x + Int32.ofInt z = v) (hn : i < maxL) (h : stl ls i (.int v) = ls') (kk : AW X sk loc k n (pc + 3) ls' (stk) S) : AW X sk loc k n pc ls (stk) S := by
  obtain ⟨p, l, e, R, s, m, args, below, meth, c, Q, A, G, cA, nL⟩ := X
  obtain ⟨hx, hb, hr, hml, hnL, hR, hown, hts, hK, hlocks, hA, hE⟩ := hX
  intro H locs la hP hD hS hl
  exact lv_iinc hx hb hdg hl (cl_at hp) hv (by rw [hnL]; exact hn) (cl_stl loc ls i (.int v)) (fun la hl => kk H locs la hP hD hS (by rw [← h]; exact hl))
theorem aw_if_eq (hX : AC X loc own cc ret maxL d mc ms) {x : Int32} {off : Int} {tgt : Nat} (hdg : decode cc pc = .ok (.ifCond .eq off, 3)) (ht : (pc : Int) + off = (tgt : Int)) (kt : x = 0 → AW X sk loc k n tgt ls stk S) (kf : ¬ (x = 0) → AW X sk loc k n (pc + 3) ls stk S) : AW X sk loc k n pc ls (.int x :: stk) S := by
  obtain ⟨p, l, e, R, s, m, args, below, meth, c, Q, A, G, cA, nL⟩ := X
  obtain ⟨hx, hb, hr, hml, hnL, hR, hown, hts, hK, hlocks, hA, hE⟩ := hX
  intro H locs la hP hD hS hl
  exact lv_if_eq hx hb hdg ht (fun h => kt h H locs la hP hD hS hl) (fun h => kf h H locs la hP hD hS hl)
theorem aw_if_ne (hX : AC X loc own cc ret maxL d mc ms) {x : Int32} {off : Int} {tgt : Nat} (hdg : decode cc pc = .ok (.ifCond .ne off, 3)) (ht : (pc : Int) + off = (tgt : Int)) (kt : ¬ x = 0 → AW X sk loc k n tgt ls stk S) (kf : x = 0 → AW X sk loc k n (pc + 3) ls stk S) : AW X sk loc k n pc ls (.int x :: stk) S := by
  obtain ⟨p, l, e, R, s, m, args, below, meth, c, Q, A, G, cA, nL⟩ := X
  obtain ⟨hx, hb, hr, hml, hnL, hR, hown, hts, hK, hlocks, hA, hE⟩ := hX
  intro H locs la hP hD hS hl
  exact lv_if_ne hx hb hdg ht (fun h => kt h H locs la hP hD hS hl) (fun h => kf h H locs la hP hD hS hl)
theorem aw_if_lt (hX : AC X loc own cc ret maxL d mc ms) {x : Int32} {off : Int} {tgt : Nat} (hdg : decode cc pc = .ok (.ifCond .lt off, 3)) (ht : (pc : Int) + off = (tgt : Int)) (kt : x < 0 → AW X sk loc k n tgt ls stk S) (kf : ¬ (x < 0) → AW X sk loc k n (pc + 3) ls stk S) : AW X sk loc k n pc ls (.int x :: stk) S := by
  obtain ⟨p, l, e, R, s, m, args, below, meth, c, Q, A, G, cA, nL⟩ := X
  obtain ⟨hx, hb, hr, hml, hnL, hR, hown, hts, hK, hlocks, hA, hE⟩ := hX
  intro H locs la hP hD hS hl
  exact lv_if_lt hx hb hdg ht (fun h => kt h H locs la hP hD hS hl) (fun h => kf h H locs la hP hD hS hl)
theorem aw_if_ge (hX : AC X loc own cc ret maxL d mc ms) {x : Int32} {off : Int} {tgt : Nat} (hdg : decode cc pc = .ok (.ifCond .ge off, 3)) (ht : (pc : Int) + off = (tgt : Int)) (kt : 0 ≤ x → AW X sk loc k n tgt ls stk S) (kf : ¬ (0 ≤ x) → AW X sk loc k n (pc + 3) ls stk S) : AW X sk loc k n pc ls (.int x :: stk) S := by
  obtain ⟨p, l, e, R, s, m, args, below, meth, c, Q, A, G, cA, nL⟩ := X
  obtain ⟨hx, hb, hr, hml, hnL, hR, hown, hts, hK, hlocks, hA, hE⟩ := hX
  intro H locs la hP hD hS hl
  exact lv_if_ge hx hb hdg ht (fun h => kt h H locs la hP hD hS hl) (fun h => kf h H locs la hP hD hS hl)
theorem aw_if_gt (hX : AC X loc own cc ret maxL d mc ms) {x : Int32} {off : Int} {tgt : Nat} (hdg : decode cc pc = .ok (.ifCond .gt off, 3)) (ht : (pc : Int) + off = (tgt : Int)) (kt : 0 < x → AW X sk loc k n tgt ls stk S) (kf : ¬ (0 < x) → AW X sk loc k n (pc + 3) ls stk S) : AW X sk loc k n pc ls (.int x :: stk) S := by
  obtain ⟨p, l, e, R, s, m, args, below, meth, c, Q, A, G, cA, nL⟩ := X
  obtain ⟨hx, hb, hr, hml, hnL, hR, hown, hts, hK, hlocks, hA, hE⟩ := hX
  intro H locs la hP hD hS hl
  exact lv_if_gt hx hb hdg ht (fun h => kt h H locs la hP hD hS hl) (fun h => kf h H locs la hP hD hS hl)
theorem aw_if_le (hX : AC X loc own cc ret maxL d mc ms) {x : Int32} {off : Int} {tgt : Nat} (hdg : decode cc pc = .ok (.ifCond .le off, 3)) (ht : (pc : Int) + off = (tgt : Int)) (kt : x ≤ 0 → AW X sk loc k n tgt ls stk S) (kf : ¬ (x ≤ 0) → AW X sk loc k n (pc + 3) ls stk S) : AW X sk loc k n pc ls (.int x :: stk) S := by
  obtain ⟨p, l, e, R, s, m, args, below, meth, c, Q, A, G, cA, nL⟩ := X
  obtain ⟨hx, hb, hr, hml, hnL, hR, hown, hts, hK, hlocks, hA, hE⟩ := hX
  intro H locs la hP hD hS hl
  exact lv_if_le hx hb hdg ht (fun h => kt h H locs la hP hD hS hl) (fun h => kf h H locs la hP hD hS hl)
theorem aw_icmp_eq (hX : AC X loc own cc ret maxL d mc ms) {x y : Int32} {off : Int} {tgt : Nat} (hdg : decode cc pc = .ok (.if_icmp .eq off, 3)) (ht : (pc : Int) + off = (tgt : Int)) (kt : x = y → AW X sk loc k n tgt ls stk S) (kf : ¬ (x = y) → AW X sk loc k n (pc + 3) ls stk S) : AW X sk loc k n pc ls (.int y :: .int x :: stk) S := by
  obtain ⟨p, l, e, R, s, m, args, below, meth, c, Q, A, G, cA, nL⟩ := X
  obtain ⟨hx, hb, hr, hml, hnL, hR, hown, hts, hK, hlocks, hA, hE⟩ := hX
  intro H locs la hP hD hS hl
  exact lv_icmp_eq hx hb hdg ht (fun h => kt h H locs la hP hD hS hl) (fun h => kf h H locs la hP hD hS hl)
theorem aw_icmp_ne (hX : AC X loc own cc ret maxL d mc ms) {x y : Int32} {off : Int} {tgt : Nat} (hdg : decode cc pc = .ok (.if_icmp .ne off, 3)) (ht : (pc : Int) + off = (tgt : Int)) (kt : ¬ x = y → AW X sk loc k n tgt ls stk S) (kf : x = y → AW X sk loc k n (pc + 3) ls stk S) : AW X sk loc k n pc ls (.int y :: .int x :: stk) S := by
  obtain ⟨p, l, e, R, s, m, args, below, meth, c, Q, A, G, cA, nL⟩ := X
  obtain ⟨hx, hb, hr, hml, hnL, hR, hown, hts, hK, hlocks, hA, hE⟩ := hX
  intro H locs la hP hD hS hl
  exact lv_icmp_ne hx hb hdg ht (fun h => kt h H locs la hP hD hS hl) (fun h => kf h H locs la hP hD hS hl)
theorem aw_icmp_lt (hX : AC X loc own cc ret maxL d mc ms) {x y : Int32} {off : Int} {tgt : Nat} (hdg : decode cc pc = .ok (.if_icmp .lt off, 3)) (ht : (pc : Int) + off = (tgt : Int)) (kt : x < y → AW X sk loc k n tgt ls stk S) (kf : ¬ (x < y) → AW X sk loc k n (pc + 3) ls stk S) : AW X sk loc k n pc ls (.int y :: .int x :: stk) S := by
  obtain ⟨p, l, e, R, s, m, args, below, meth, c, Q, A, G, cA, nL⟩ := X
  obtain ⟨hx, hb, hr, hml, hnL, hR, hown, hts, hK, hlocks, hA, hE⟩ := hX
  intro H locs la hP hD hS hl
  exact lv_icmp_lt hx hb hdg ht (fun h => kt h H locs la hP hD hS hl) (fun h => kf h H locs la hP hD hS hl)
theorem aw_icmp_ge (hX : AC X loc own cc ret maxL d mc ms) {x y : Int32} {off : Int} {tgt : Nat} (hdg : decode cc pc = .ok (.if_icmp .ge off, 3)) (ht : (pc : Int) + off = (tgt : Int)) (kt : y ≤ x → AW X sk loc k n tgt ls stk S) (kf : ¬ (y ≤ x) → AW X sk loc k n (pc + 3) ls stk S) : AW X sk loc k n pc ls (.int y :: .int x :: stk) S := by
  obtain ⟨p, l, e, R, s, m, args, below, meth, c, Q, A, G, cA, nL⟩ := X
  obtain ⟨hx, hb, hr, hml, hnL, hR, hown, hts, hK, hlocks, hA, hE⟩ := hX
  intro H locs la hP hD hS hl
  exact lv_icmp_ge hx hb hdg ht (fun h => kt h H locs la hP hD hS hl) (fun h => kf h H locs la hP hD hS hl)
theorem aw_icmp_gt (hX : AC X loc own cc ret maxL d mc ms) {x y : Int32} {off : Int} {tgt : Nat} (hdg : decode cc pc = .ok (.if_icmp .gt off, 3)) (ht : (pc : Int) + off = (tgt : Int)) (kt : y < x → AW X sk loc k n tgt ls stk S) (kf : ¬ (y < x) → AW X sk loc k n (pc + 3) ls stk S) : AW X sk loc k n pc ls (.int y :: .int x :: stk) S := by
  obtain ⟨p, l, e, R, s, m, args, below, meth, c, Q, A, G, cA, nL⟩ := X
  obtain ⟨hx, hb, hr, hml, hnL, hR, hown, hts, hK, hlocks, hA, hE⟩ := hX
  intro H locs la hP hD hS hl
  exact lv_icmp_gt hx hb hdg ht (fun h => kt h H locs la hP hD hS hl) (fun h => kf h H locs la hP hD hS hl)
theorem aw_icmp_le (hX : AC X loc own cc ret maxL d mc ms) {x y : Int32} {off : Int} {tgt : Nat} (hdg : decode cc pc = .ok (.if_icmp .le off, 3)) (ht : (pc : Int) + off = (tgt : Int)) (kt : x ≤ y → AW X sk loc k n tgt ls stk S) (kf : ¬ (x ≤ y) → AW X sk loc k n (pc + 3) ls stk S) : AW X sk loc k n pc ls (.int y :: .int x :: stk) S := by
  obtain ⟨p, l, e, R, s, m, args, below, meth, c, Q, A, G, cA, nL⟩ := X
  obtain ⟨hx, hb, hr, hml, hnL, hR, hown, hts, hK, hlocks, hA, hE⟩ := hX
  intro H locs la hP hD hS hl
  exact lv_icmp_le hx hb hdg ht (fun h => kt h H locs la hP hD hS hl) (fun h => kf h H locs la hP hD hS hl)
theorem aw_tin (hX : AC X loc own cc ret maxL d mc ms) {dflt lo hi : Int} {offs : Array Int} {len : Nat} {x v : Int32} {off : Int} {tgt : Nat} (hdg : decode cc pc = .ok (.tableswitch dflt lo hi offs, len)) (hv : x = v) (h1 : ¬ v.toInt < lo) (h2 : ¬ hi < v.toInt) (ho : offs[(v.toInt - lo).toNat]? = some off) (ht : (pc : Int) + off = (tgt : Int)) (kk : AW X sk loc k n (tgt) ls (stk) S) : AW X sk loc k n pc ls (.int x :: stk) S := by
  obtain ⟨p, l, e, R, s, m, args, below, meth, c, Q, A, G, cA, nL⟩ := X
  obtain ⟨hx, hb, hr, hml, hnL, hR, hown, hts, hK, hlocks, hA, hE⟩ := hX
  intro H locs la hP hD hS hl
  subst hv
  exact lv_tableIn hx hb hdg h1 h2 ho ht (kk H locs la hP hD hS hl)
theorem aw_tout (hX : AC X loc own cc ret maxL d mc ms) {dflt lo hi : Int} {offs : Array Int} {len : Nat} {x : Int32} {tgt : Nat} (hdg : decode cc pc = .ok (.tableswitch dflt lo hi offs, len)) (h : x.toInt < lo ∨ hi < x.toInt) (ht : (pc : Int) + dflt = (tgt : Int)) (kk : AW X sk loc k n (tgt) ls (stk) S) : AW X sk loc k n pc ls (.int x :: stk) S := by
  obtain ⟨p, l, e, R, s, m, args, below, meth, c, Q, A, G, cA, nL⟩ := X
  obtain ⟨hx, hb, hr, hml, hnL, hR, hown, hts, hK, hlocks, hA, hE⟩ := hX
  intro H locs la hP hD hS hl
  exact lv_tableOut hx hb hdg h ht (kk H locs la hP hD hS hl)
theorem aw_look (hX : AC X loc own cc ret maxL d mc ms) {dflt : Int} {ps : Array (Int × Int)} {len : Nat} {x : Int32} {off : Int} {tgt : Nat} (hdg : decode cc pc = .ok (.lookupswitch dflt ps, len)) (hp : (ps.toList.zip (ps.toList.drop 1)).all (fun (a, next) => a.1 < next.1) = true) (ho : Op.lookupswitch.offset ps.toList dflt x.toInt = off) (ht : (pc : Int) + off = (tgt : Int)) (kk : AW X sk loc k n (tgt) ls (stk) S) : AW X sk loc k n pc ls (.int x :: stk) S := by
  obtain ⟨p, l, e, R, s, m, args, below, meth, c, Q, A, G, cA, nL⟩ := X
  obtain ⟨hx, hb, hr, hml, hnL, hR, hown, hts, hK, hlocks, hA, hE⟩ := hX
  intro H locs la hP hD hS hl
  exact lv_lookup hx hb hdg hp ho ht (kk H locs la hP hD hS hl)
theorem ne_i {x v : Int32} {z : Int} (h : ¬ x = v) (e : v.toInt = z) : ¬ x.toInt = z := fun q => h (Int32.toInt_inj.mp (q.trans e.symm))
/-! fields: C, T, N the class's table; j the field's place -/
theorem aw_getI (hX : AC X loc own cc ret maxL d mc ms) {ref C : String} {T : u_T} {N ci n' ix b : Nat} {fs : List Value} (hc : vwCl[ci]? = some (C, T, N)) (hin : ∀ w ∈ u_ws C T N, w ∈ lw_good) (hk : sk[b]? = some (ci + 4, n', fs)) (j : Nat) (hj : j < N) {w : Int32} (hf : fs[j]? = some (.int w)) (hw : Cond.fieldLink own ix ref (T j).2.1 (T j).2.2.1 ∈ lw_good) (hrf : (T j).1 = ref) (hdg : decode cc pc = .ok (.getfield ix, 3)) (kk : AW X sk loc k n (pc + 3) ls (.int (S.1 b j) :: stk) S) : AW X sk loc k n pc ls (.ref b :: stk) S := by
  obtain ⟨p, l, e, R, s, m, args, below, meth, c, Q, A, G, cA, nL⟩ := X
  obtain ⟨hx, hb, hr, hml, hnL, hR, hown, hts, hK, hlocks, hA, hE⟩ := hX
  intro H locs la hP hD hS hl
  exact va_get (v := .int (S.1 b j)) hx hb hts hin hown hK hP b ((conc_get hk).trans (by rw [cellE_obj])) hc j hj (hts _ hw) (fun x h => by rw [← hrf]; exact h) (by rw [List.getElem?_mapIdx, hf]; rfl) hdg (kk H locs la hP hD hS hl)
theorem aw_getL (hX : AC X loc own cc ret maxL d mc ms) {ref C : String} {T : u_T} {N ci n' ix b : Nat} {fs : List Value} (hc : vwCl[ci]? = some (C, T, N)) (hin : ∀ w ∈ u_ws C T N, w ∈ lw_good) (hk : sk[b]? = some (ci + 4, n', fs)) (j : Nat) (hj : j < N) {w : Int64} (hf : fs[j]? = some (.long w)) (hw : Cond.fieldLink own ix ref (T j).2.1 (T j).2.2.1 ∈ lw_good) (hrf : (T j).1 = ref) (hdg : decode cc pc = .ok (.getfield ix, 3)) (kk : AW X sk loc k n (pc + 3) ls (.long (S.2 b j) :: stk) S) : AW X sk loc k n pc ls (.ref b :: stk) S := by
  obtain ⟨p, l, e, R, s, m, args, below, meth, c, Q, A, G, cA, nL⟩ := X
  obtain ⟨hx, hb, hr, hml, hnL, hR, hown, hts, hK, hlocks, hA, hE⟩ := hX
  intro H locs la hP hD hS hl
  exact va_get (v := .long (S.2 b j)) hx hb hts hin hown hK hP b ((conc_get hk).trans (by rw [cellE_obj])) hc j hj (hts _ hw) (fun x h => by rw [← hrf]; exact h) (by rw [List.getElem?_mapIdx, hf]; rfl) hdg (kk H locs la hP hD hS hl)
theorem aw_getR (hX : AC X loc own cc ret maxL d mc ms) {ref C : String} {T : u_T} {N ci n' ix b r : Nat} {fs : List Value} (hc : vwCl[ci]? = some (C, T, N)) (hin : ∀ w ∈ u_ws C T N, w ∈ lw_good) (hk : sk[b]? = some (ci + 4, n', fs)) (j : Nat) (hj : j < N) (hf : fs[j]? = some (.ref r)) (hw : Cond.fieldLink own ix ref (T j).2.1 (T j).2.2.1 ∈ lw_good) (hrf : (T j).1 = ref) (hdg : decode cc pc = .ok (.getfield ix, 3)) (kk : AW X sk loc k n (pc + 3) ls (.ref r :: stk) S) : AW X sk loc k n pc ls (.ref b :: stk) S := by
  obtain ⟨p, l, e, R, s, m, args, below, meth, c, Q, A, G, cA, nL⟩ := X
  obtain ⟨hx, hb, hr, hml, hnL, hR, hown, hts, hK, hlocks, hA, hE⟩ := hX
  intro H locs la hP hD hS hl
  exact va_get (v := .ref (loc r)) hx hb hts hin hown hK hP b ((conc_get hk).trans (by rw [cellE_obj])) hc j hj (hts _ hw) (fun x h => by rw [← hrf]; exact h) (by rw [List.getElem?_mapIdx, hf]; rfl) hdg (kk H locs la hP hD hS hl)
theorem aw_getRN (hX : AC X loc own cc ret maxL d mc ms) {ref C host : String} {T : u_T} {N ci n' ix b r : Nat} {fs : List Value} (hc : vwCl[ci]? = some (C, T, N)) (hin : ∀ w ∈ u_ws C T N, w ∈ lw_good) (hk : sk[b]? = some (ci + 4, n', fs)) (j : Nat) (hj : j < N) (hf : fs[j]? = some (.ref r)) (hw : Cond.fieldLinkNest own ix ref (T j).2.1 (T j).2.2.1 host ∈ nwL) (hrf : (T j).1 = ref) (hdg : decode cc pc = .ok (.getfield ix, 3)) (kk : AW X sk loc k n (pc + 3) ls (.ref r :: stk) S) : AW X sk loc k n pc ls (.ref b :: stk) S := by
  obtain ⟨p, l, e, R, s, m, args, below, meth, c, Q, A, G, cA, nL⟩ := X
  obtain ⟨hx, hb, hr, hml, hnL, hR, hown, hts, hK, hlocks, hA, hE⟩ := hX
  intro H locs la hP hD hS hl
  exact va_getN (v := .ref (loc r)) hx hb hts hin hown hK hP b ((conc_get hk).trans (by rw [cellE_obj])) hc j hj (va_Nw.use rfl (hE.2.2.2.2.2.2.2.2.2.2.2.1 _ hw)) (fun x h => by rw [← hrf]; exact h) (by rw [List.getElem?_mapIdx, hf]; rfl) hdg (kk H locs la hP hD hS hl)
theorem aw_putI (hX : AC X loc own cc ret maxL d mc ms) {ref C : String} {T : u_T} {N ci n' ix b : Nat} {fs : List Value} {ty0 : Nat → FieldType} (hc : vwCl[ci]? = some (C, T, N)) (hin : ∀ w ∈ u_ws C T N, w ∈ lw_good) (hty : ∀ k, k < N → parseFieldDescriptor (T k).2.2.1 = some (ty0 k)) (hnm : ∀ a, a < N → ∀ b, b < N → a ≠ b → (T a).2.1 ≠ (T b).2.1) (hk : sk[b]? = some (ci + 4, n', fs)) (j : Nat) (hj : j < N) {w x : Int32} (hf : fs[j]? = some (.int w)) (hw : Cond.fieldLink own ix ref (T j).2.1 (T j).2.2.1 ∈ lw_good) (hrf : (T j).1 = ref) (hfin : (T j).2.2.2 = false) (hn : narrow (ty0 j) (.int x) = .int x) (hfit : fits (ty0 j) (.int x) = true) (hdg : decode cc pc = .ok (.putfield ix, 3)) (kk : AW X sk loc k n (pc + 3) ls stk (sI S b j x)) : AW X sk loc k n pc ls (.int x :: .ref b :: stk) S := by
  obtain ⟨p, l, e, R, s, m, args, below, meth, c, Q, A, G, cA, nL⟩ := X
  obtain ⟨hx, hb, hr, hml, hnL, hR, hown, hts, hK, hlocks, hA, hE⟩ := hX
  intro H locs la hP hD hS hl
  refine va_put (v := .int x) hx hb hts hin ty0 hty hnm hown hK hP hD hS b ((conc_get hk).trans (by rw [cellE_obj])) hc j hj (hts _ hw) (fun x h => by rw [← hrf]; exact h) hfin (hty j hj) hn hfit (by simpa using (List.getElem?_eq_some_iff.mp hf).1) hdg (fun H1 locs1 hP1 hD1 hS1 => ?_)
  have e : (conc cA loc sk S).set b (loc b, .inr (ci, (fs.mapIdx (fvE loc S b)).set j (.int x))) = conc cA loc sk (sI S b j x) := conc_set hk (by rw [cellE_obj, fv_setI hf]) (fun j' c' h => cellE_sI j' c' h)
  rw [e] at hP1 hD1
  exact kk H1 locs1 la hP1 hD1 hS1 hl
theorem aw_putL (hX : AC X loc own cc ret maxL d mc ms) {ref C : String} {T : u_T} {N ci n' ix b : Nat} {fs : List Value} {ty0 : Nat → FieldType} (hc : vwCl[ci]? = some (C, T, N)) (hin : ∀ w ∈ u_ws C T N, w ∈ lw_good) (hty : ∀ k, k < N → parseFieldDescriptor (T k).2.2.1 = some (ty0 k)) (hnm : ∀ a, a < N → ∀ b, b < N → a ≠ b → (T a).2.1 ≠ (T b).2.1) (hk : sk[b]? = some (ci + 4, n', fs)) (j : Nat) (hj : j < N) {w x : Int64} (hf : fs[j]? = some (.long w)) (hw : Cond.fieldLink own ix ref (T j).2.1 (T j).2.2.1 ∈ lw_good) (hrf : (T j).1 = ref) (hfin : (T j).2.2.2 = false) (hn : narrow (ty0 j) (.long x) = .long x) (hfit : fits (ty0 j) (.long x) = true) (hdg : decode cc pc = .ok (.putfield ix, 3)) (kk : AW X sk loc k n (pc + 3) ls stk (sL S b j x)) : AW X sk loc k n pc ls (.long x :: .ref b :: stk) S := by
  obtain ⟨p, l, e, R, s, m, args, below, meth, c, Q, A, G, cA, nL⟩ := X
  obtain ⟨hx, hb, hr, hml, hnL, hR, hown, hts, hK, hlocks, hA, hE⟩ := hX
  intro H locs la hP hD hS hl
  refine va_put (v := .long x) hx hb hts hin ty0 hty hnm hown hK hP hD hS b ((conc_get hk).trans (by rw [cellE_obj])) hc j hj (hts _ hw) (fun x h => by rw [← hrf]; exact h) hfin (hty j hj) hn hfit (by simpa using (List.getElem?_eq_some_iff.mp hf).1) hdg (fun H1 locs1 hP1 hD1 hS1 => ?_)
  have e : (conc cA loc sk S).set b (loc b, .inr (ci, (fs.mapIdx (fvE loc S b)).set j (.long x))) = conc cA loc sk (sL S b j x) := conc_set hk (by rw [cellE_obj, fv_setL hf]) (fun j' c' h => cellE_sL j' c' h)
  rw [e] at hP1 hD1
  exact kk H1 locs1 la hP1 hD1 hS1 hl
/-! rows of numbers -/
theorem aw_iald (hX : AC X loc own cc ret maxL d mc ms) {b n' : Nat} {vs : List Value} {i v : Int32} (hk : sk[b]? = some (0, n', vs)) (hv : rd S b n' i = some v) (hdg : decode cc pc = .ok (.iaload, 1)) (kk : AW X sk loc k n (pc + 1) ls (.int v :: stk) S) : AW X sk loc k n pc ls (.int i :: .ref b :: stk) S := by
  obtain ⟨p, l, e, R, s, m, args, below, meth, c, Q, A, G, cA, nL⟩ := X
  obtain ⟨hx, hb, hr, hml, hnL, hR, hown, hts, hK, hlocks, hA, hE⟩ := hX
  intro H locs la hP hD hS hl
  obtain ⟨hi, rfl⟩ := rd_some hv
  exact va_iald hx hb hK hP b 0 (conc_get hk) rfl hi hdg (kk H locs la hP hD hS hl)
theorem aw_zald (hX : AC X loc own cc ret maxL d mc ms) {b n' : Nat} {vs : List Value} {i v : Int32} (hk : sk[b]? = some (1, n', vs)) (hv : rd S b n' i = some v) (hdg : decode cc pc = .ok (.baload, 1)) (kk : AW X sk loc k n (pc + 1) ls (.int v :: stk) S) : AW X sk loc k n pc ls (.int i :: .ref b :: stk) S := by
  obtain ⟨p, l, e, R, s, m, args, below, meth, c, Q, A, G, cA, nL⟩ := X
  obtain ⟨hx, hb, hr, hml, hnL, hR, hown, hts, hK, hlocks, hA, hE⟩ := hX
  intro H locs la hP hD hS hl
  obtain ⟨hi, rfl⟩ := rd_some hv
  exact va_zald hx hb hK hP b 1 (conc_get hk) rfl hi hdg (kk H locs la hP hD hS hl)
theorem aw_lald (hX : AC X loc own cc ret maxL d mc ms) {b n' : Nat} {vs : List Value} {i : Int32} {v : Int64} (hk : sk[b]? = some (2, n', vs)) (hv : rdL S b n' i = some v) (hdg : decode cc pc = .ok (.laload, 1)) (kk : AW X sk loc k n (pc + 1) ls (.long v :: stk) S) : AW X sk loc k n pc ls (.int i :: .ref b :: stk) S := by
  obtain ⟨p, l, e, R, s, m, args, below, meth, c, Q, A, G, cA, nL⟩ := X
  obtain ⟨hx, hb, hr, hml, hnL, hR, hown, hts, hK, hlocks, hA, hE⟩ := hX
  intro H locs la hP hD hS hl
  obtain ⟨hi, rfl⟩ := rdL_some hv
  exact va_lald hx hb hK hP b 2 (conc_get hk) rfl hi hdg (kk H locs la hP hD hS hl)
theorem aw_iast (hX : AC X loc own cc ret maxL d mc ms) {b n' : Nat} {vs : List Value} {i x : Int32} {S' : Mem} (hk : sk[b]? = some (0, n', vs)) (hv : wr S b n' i x = some S') (hdg : decode cc pc = .ok (.iastore, 1)) (kk : AW X sk loc k n (pc + 1) ls (stk) S') : AW X sk loc k n pc ls (.int x :: .int i :: .ref b :: stk) S := by
  obtain ⟨p, l, e, R, s, m, args, below, meth, c, Q, A, G, cA, nL⟩ := X
  obtain ⟨hx, hb, hr, hml, hnL, hR, hown, hts, hK, hlocks, hA, hE⟩ := hX
  intro H locs la hP hD hS hl
  obtain ⟨hi, rfl⟩ := wr_some hv
  refine va_iast hx hb hK hP hD hS b 0 (conc_get hk) rfl hi hdg (fun H1 locs1 hP1 hD1 hS1 => ?_)
  have e : (conc cA loc sk S).set b (loc b, .inl (cA 0, n', .inl (upd (S.1 b) i.toNatClampNeg x))) = conc cA loc sk (sI S b i.toNatClampNeg x) := conc_set hk (by simp [cellE, sI_on]) (fun j' c' h => cellE_sI j' c' h)
  rw [e] at hP1 hD1
  exact kk H1 locs1 la hP1 hD1 hS1 hl
theorem aw_zast (hX : AC X loc own cc ret maxL d mc ms) {b n' : Nat} {vs : List Value} {i x : Int32} {S' : Mem} (hk : sk[b]? = some (1, n', vs)) (hv : wrZ S b n' i x = some S') (hdg : decode cc pc = .ok (.bastore, 1)) (kk : AW X sk loc k n (pc + 1) ls (stk) S') : AW X sk loc k n pc ls (.int x :: .int i :: .ref b :: stk) S := by
  obtain ⟨p, l, e, R, s, m, args, below, meth, c, Q, A, G, cA, nL⟩ := X
  obtain ⟨hx, hb, hr, hml, hnL, hR, hown, hts, hK, hlocks, hA, hE⟩ := hX
  intro H locs la hP hD hS hl
  obtain ⟨hi, rfl⟩ := wrZ_some hv
  refine va_zast hx hb hK hP hD hS b 1 (conc_get hk) rfl hi hdg (fun H1 locs1 hP1 hD1 hS1 => ?_)
  have e : (conc cA loc sk S).set b (loc b, .inl (cA 1, n', .inl (upd (S.1 b) i.toNatClampNeg (vp_nar .boolean x)))) = conc cA loc sk (sI S b i.toNatClampNeg (vp_nar .boolean x)) := conc_set hk (by simp [cellE, sI_on]) (fun j' c' h => cellE_sI j' c' h)
  rw [e] at hP1 hD1
  exact kk H1 locs1 la hP1 hD1 hS1 hl
theorem aw_last (hX : AC X loc own cc ret maxL d mc ms) {b n' : Nat} {vs : List Value} {i : Int32} {x : Int64} {S' : Mem} (hk : sk[b]? = some (2, n', vs)) (hv : wrL S b n' i x = some S') (hdg : decode cc pc = .ok (.lastore, 1)) (kk : AW X sk loc k n (pc + 1) ls (stk) S') : AW X sk loc k n pc ls (.long x :: .int i :: .ref b :: stk) S := by
  obtain ⟨p, l, e, R, s, m, args, below, meth, c, Q, A, G, cA, nL⟩ := X
  obtain ⟨hx, hb, hr, hml, hnL, hR, hown, hts, hK, hlocks, hA, hE⟩ := hX
  intro H locs la hP hD hS hl
  obtain ⟨hi, rfl⟩ := wrL_some hv
  refine va_last hx hb hK hP hD hS b 2 (conc_get hk) rfl hi hdg (fun H1 locs1 hP1 hD1 hS1 => ?_)
  have e : (conc cA loc sk S).set b (loc b, .inl (cA 2, n', .inr (.inl (vp_updL (S.2 b) i.toNatClampNeg x)))) = conc cA loc sk (sL S b i.toNatClampNeg x) := conc_set hk (by simp [cellE, sL_on]) (fun j' c' h => cellE_sL j' c' h)
  rw [e] at hP1 hD1
  exact kk H1 locs1 la hP1 hD1 hS1 hl
theorem aw_aald (hX : AC X loc own cc ret maxL d mc ms) {b n' r : Nat} {vs : List Value} {i : Int32} (hk : sk[b]? = some (3, n', vs)) (hi : inb i n' = true) (hv : vs[i.toNatClampNeg]? = some (.ref r)) (hdg : decode cc pc = .ok (.aaload, 1)) (kk : AW X sk loc k n (pc + 1) ls (.ref r :: stk) S) : AW X sk loc k n pc ls (.int i :: .ref b :: stk) S := by
  obtain ⟨p, l, e, R, s, m, args, below, meth, c, Q, A, G, cA, nL⟩ := X
  obtain ⟨hx, hb, hr, hml, hnL, hR, hown, hts, hK, hlocks, hA, hE⟩ := hX
  intro H locs la hP hD hS hl
  have hq : va_rf (qE loc vs i.toNatClampNeg) = Value.ref (loc r) := by simp [qE, hv, va_rf]
  have kk' := kk H locs la hP hD hS hl
  refine va_aldq hx hb hK hP b 3 (conc_get hk) rfl (inb_in hi) hdg ?_
  rw [hq]
  exact kk' 
theorem aw_alen (hX : AC X loc own cc ret maxL d mc ms) {b n' kd : Nat} {vs : List Value} (hk : sk[b]? = some (kd, n', vs)) (h : kd < 3) (hdg : decode cc pc = .ok (.arraylength, 1)) (kk : AW X sk loc k n (pc + 1) ls (.int (nI n') :: stk) S) : AW X sk loc k n pc ls (.ref b :: stk) S := by
  obtain ⟨p, l, e, R, s, m, args, below, meth, c, Q, A, G, cA, nL⟩ := X
  obtain ⟨hx, hb, hr, hml, hnL, hR, hown, hts, hK, hlocks, hA, hE⟩ := hX
  intro H locs la hP hD hS hl
  have hk3 : kd = 0 ∨ kd = 1 ∨ kd = 2 := by omega
  rcases hk3 with rfl | rfl | rfl
  · exact va_alen hx hb hK hP b 0 (conc_get hk) rfl rfl hdg (kk H locs la hP hD hS hl)
  · exact va_alen hx hb hK hP b 1 (conc_get hk) rfl rfl hdg (kk H locs la hP hD hS hl)
  · exact va_alen hx hb hK hP b 2 (conc_get hk) rfl rfl hdg (kk H locs la hP hD hS hl)
end AWR
