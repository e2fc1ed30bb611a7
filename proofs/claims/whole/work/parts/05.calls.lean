/-! ends of a walk, contracts, calls -/
def endB (G : va_G) (cA : Nat → ClassId) (loc : Nat → Nat) (sk : Skel) (S : Mem) (A : Nat → Prop) (t : State) : Prop := va_P G vwCl (conc cA loc sk S) t.heap ∧ va_K G vwCl (tysOf cA) t ∧ va_D A (conc cA loc sk S)
def QI (G : va_G) (cA : Nat → ClassId) (loc : Nat → Nat) (sk : Skel) (A : Nat → Prop) (r : Int32) (S : Mem) : Array Value → State → Outcome → State → Prop := va_Qi (fun (r' : Int32) (_ : Unit) => r' = r) (fun _ t => endB G cA loc sk S A t) A
def QL (G : va_G) (cA : Nat → ClassId) (loc : Nat → Nat) (sk : Skel) (A : Nat → Prop) (r : Int64) (S : Mem) : Array Value → State → Outcome → State → Prop := va_Ql (fun (r' : Int64) (_ : Unit) => r' = r) (fun _ t => endB G cA loc sk S A t) A
def QV (G : va_G) (cA : Nat → ClassId) (loc : Nat → Nat) (sk : Skel) (A : Nat → Prop) (S : Mem) : Array Value → State → Outcome → State → Prop := va_Qv (fun (_ : Unit) => True) (fun _ t => endB G cA loc sk S A t) A
def QR (G : va_G) (cA : Nat → ClassId) (loc : Nat → Nat) (sk : Skel) (A : Nat → Prop) (r : Nat) (S : Mem) : Array Value → State → Outcome → State → Prop := va_Qr (fun (_ : Unit) => True) (fun _ a t => a = loc r ∧ endB G cA loc sk S A t) A
def RetI (X : XT) (sk : Skel) (loc : Nat → Nat) (k n : Nat) (r : Int32) (S : Mem) : Prop := match X with
  | (_, _, _, _, s, _, args, below, _, _, Q, A, G, cA, _) => Q = MQ below (QI G cA loc sk A r S) args s k n A
def RetL (X : XT) (sk : Skel) (loc : Nat → Nat) (k n : Nat) (r : Int64) (S : Mem) : Prop := match X with
  | (_, _, _, _, s, _, args, below, _, _, Q, A, G, cA, _) => Q = MQ below (QL G cA loc sk A r S) args s k n A
def RetV (X : XT) (sk : Skel) (loc : Nat → Nat) (k n : Nat) (S : Mem) : Prop := match X with
  | (_, _, _, _, s, _, args, below, _, _, Q, A, G, cA, _) => Q = MQ below (QV G cA loc sk A S) args s k n A
def RetR (X : XT) (sk : Skel) (loc : Nat → Nat) (k n : Nat) (r : Nat) (S : Mem) : Prop := match X with
  | (_, _, _, _, s, _, args, below, _, _, Q, A, G, cA, _) => Q = MQ below (QR G cA loc sk A r S) args s k n A
section AWE
variable {X : XT} {loc : Nat → Nat} {own : String} {cc : ByteArray} {ret : Option FieldType} {maxL d mc ms : Nat} {sk : Skel} {k n pc : Nat} {ls : List (Nat × Value)} {stk : List Value} {S : Mem}
theorem aw_iret (hX : AC X loc own cc (some .int) maxL d mc ms) {r : Int32} (hQ : RetI X sk loc k n r S) (hdg : decode cc pc = .ok (.ireturn, 1)) : AW X sk loc k n pc ls [.int r] S := by
  obtain ⟨p, l, e, R, s, m, args, below, meth, c, Q, A, G, cA, nL⟩ := X
  obtain ⟨hx, hb, hr, hml, hnL, hR, hown, hts, hK, hlocks, hA, hE⟩ := hX
  have hQ : Q = _ := hQ
  subst hQ
  intro H locs la hP hD hS hl
  exact W.iret (v := r) hx hb hr (fun t ht hW => ⟨⟨r, (), rfl, rfl, by rw [ht]; exact hP, va_K.moved hW.alike hK, hD⟩, hS.F ht⟩) hS.2.2 hdg
theorem aw_zret (hX : AC X loc own cc (some .boolean) maxL d mc ms) {r : Int32} (hQ : RetI X sk loc k n r S) (hz : okz r = true) (hdg : decode cc pc = .ok (.ireturn, 1)) : AW X sk loc k n pc ls [.int r] S := by
  obtain ⟨p, l, e, R, s, m, args, below, meth, c, Q, A, G, cA, nL⟩ := X
  obtain ⟨hx, hb, hr, hml, hnL, hR, hown, hts, hK, hlocks, hA, hE⟩ := hX
  have hQ : Q = _ := hQ
  subst hQ
  have hn : narrow .boolean (.int r) = .int r := by
    simp only [okz, Bool.or_eq_true, decide_eq_true_eq] at hz
    rcases hz with rfl | rfl <;> rfl
  intro H locs la hP hD hS hl
  exact W.zret (v := r) hx hb hr hn (fun t ht hW => ⟨⟨r, (), rfl, rfl, by rw [ht]; exact hP, va_K.moved hW.alike hK, hD⟩, hS.F ht⟩) hS.2.2 hdg
theorem aw_lret (hX : AC X loc own cc (some .long) maxL d mc ms) {r : Int64} (hQ : RetL X sk loc k n r S) (hdg : decode cc pc = .ok (.lreturn, 1)) : AW X sk loc k n pc ls [.long r] S := by
  obtain ⟨p, l, e, R, s, m, args, below, meth, c, Q, A, G, cA, nL⟩ := X
  obtain ⟨hx, hb, hr, hml, hnL, hR, hown, hts, hK, hlocks, hA, hE⟩ := hX
  have hQ : Q = _ := hQ
  subst hQ
  intro H locs la hP hD hS hl
  exact W.lret (v := r) hx hb hr (fun t ht hW => ⟨⟨r, (), rfl, rfl, by rw [ht]; exact hP, va_K.moved hW.alike hK, hD⟩, hS.F ht⟩) hS.2.2 hdg
theorem aw_vret (hX : AC X loc own cc none maxL d mc ms) (hQ : RetV X sk loc k n S) (hdg : decode cc pc = .ok (.return_, 1)) : AW X sk loc k n pc ls [] S := by
  obtain ⟨p, l, e, R, s, m, args, below, meth, c, Q, A, G, cA, nL⟩ := X
  obtain ⟨hx, hb, hr, hml, hnL, hR, hown, hts, hK, hlocks, hA, hE⟩ := hX
  have hQ : Q = _ := hQ
  subst hQ
  intro H locs la hP hD hS hl
  exact W.vret hx hb hr (fun t ht hW => ⟨⟨(), rfl, trivial, by rw [ht]; exact hP, va_K.moved hW.alike hK, hD⟩, hS.F ht⟩) hS.2.2 hdg
theorem aw_rret {C : String} (hX : AC X loc own cc (some (.object C)) maxL d mc ms) {r : Nat} (hQ : RetR X sk loc k n r S) (hdg : decode cc pc = .ok (.areturn, 1)) : AW X sk loc k n pc ls [.ref r] S := by
  obtain ⟨p, l, e, R, s, m, args, below, meth, c, Q, A, G, cA, nL⟩ := X
  obtain ⟨hx, hb, hr, hml, hnL, hR, hown, hts, hK, hlocks, hA, hE⟩ := hX
  have hQ : Q = _ := hQ
  subst hQ
  intro H locs la hP hD hS hl
  exact W.aret (v := .ref (loc r)) hx hb hr (Or.inl ⟨C, rfl⟩) (Or.inr ⟨_, rfl⟩) (fun t ht hW => ⟨⟨(), loc r, rfl, trivial, rfl, by rw [ht]; exact hP, va_K.moved hW.alike hK, hD⟩, hS.F ht⟩) hS.2.2 hdg
end AWE
/-- a contract's start -/
def PreA (G : va_G) (cA : Nat → ClassId) (loc : Nat → Nat) (sk : Skel) (S : Mem) (sz : Nat) (args : List Value) : Array Value → State → Prop := va_Pc (args.map (cv loc)) (fun U => U.heap.size = sz ∧ va_P G vwCl (conc cA loc sk S) U.heap ∧ va_K G vwCl (tysOf cA) U ∧ va_D (fun _ => True) (conc cA loc sk S) ∧ Ext (va_A (conc cA loc sk S) sz) loc U U.heap)
def wsA (y : MethodName) (cc : ByteArray) (maxL : Nat) (ret : Option FieldType) : List Cond := Cond.code y cc maxL ret :: lw_good
def MetI (y : MethodName) (cc : ByteArray) (maxL : Nat) (ret : Option FieldType) (d : Nat) (args : List Value) (sk : Skel) (S : Mem) (r : Int32) (S' : Mem) : Prop :=
  ∀ (l : Launch) (G : va_G) (cA : Nat → ClassId) (loc : Nat → Nat) (sz : Nat), Met l y (wsA y cc maxL ret) (rmd d 0 0) (PreA G cA loc sk S sz args) (QI G cA loc sk (va_A (conc cA loc sk S) sz) r S') 0 0 (va_A (conc cA loc sk S) sz)
def MetL (y : MethodName) (cc : ByteArray) (maxL : Nat) (ret : Option FieldType) (d : Nat) (args : List Value) (sk : Skel) (S : Mem) (r : Int64) (S' : Mem) : Prop :=
  ∀ (l : Launch) (G : va_G) (cA : Nat → ClassId) (loc : Nat → Nat) (sz : Nat), Met l y (wsA y cc maxL ret) (rmd d 0 0) (PreA G cA loc sk S sz args) (QL G cA loc sk (va_A (conc cA loc sk S) sz) r S') 0 0 (va_A (conc cA loc sk S) sz)
def MetV (y : MethodName) (cc : ByteArray) (maxL : Nat) (ret : Option FieldType) (d : Nat) (args : List Value) (sk : Skel) (S : Mem) (S' : Mem) : Prop :=
  ∀ (l : Launch) (G : va_G) (cA : Nat → ClassId) (loc : Nat → Nat) (sz : Nat), Met l y (wsA y cc maxL ret) (rmd d 0 0) (PreA G cA loc sk S sz args) (QV G cA loc sk (va_A (conc cA loc sk S) sz) S') 0 0 (va_A (conc cA loc sk S) sz)
def MetR (y : MethodName) (cc : ByteArray) (maxL : Nat) (ret : Option FieldType) (d : Nat) (args : List Value) (sk : Skel) (S : Mem) (r : Nat) (S' : Mem) : Prop :=
  ∀ (l : Launch) (G : va_G) (cA : Nat → ClassId) (loc : Nat → Nat) (sz : Nat), Met l y (wsA y cc maxL ret) (rmd d 0 0) (PreA G cA loc sk S sz args) (QR G cA loc sk (va_A (conc cA loc sk S) sz) r S') 0 0 (va_A (conc cA loc sk S) sz)
theorem met_body {y : MethodName} {cc : ByteArray} {maxL d sz : Nat} {ret : Option FieldType} {args : List Value} {sk : Skel} {S : Mem} {l : Launch} {G : va_G} {cA : Nat → ClassId} {loc : Nat → Nat} {Qc : Array Value → State → Outcome → State → Prop} (hy : plainFor y = true) (hlen : (lg_sl args).length ≤ maxL)
    (body : ∀ X : XT, AC X loc y.cls cc ret maxL d 0 0 → (match X with | (_, _, _, _, s, _, args, below, _, _, Q, A, G', cA', _) => A = va_A (conc cA loc sk S) sz ∧ G' = G ∧ cA' = cA ∧ Q = MQ below Qc args s 0 0 A) → AW X sk loc 0 0 0 (lv_args 0 args) [] S) :
    Met l y (wsA y cc maxL ret) (rmd d 0 0) (PreA G cA loc sk S sz args) Qc 0 0 (va_A (conc cA loc sk S) sz) := by
  refine va_MetF (cc := cc) (maxL := maxL) (ret := ret) hy rfl ?_
  intro p e s m args' below meth c s₁ B hml hv
  obtain ⟨rfl, hsz, hP, hK, hD0, hE⟩ := hv
  have hts := atoms_spec (ws := wsA y cc maxL ret) B.pre
  have hown : s.vm.findClass y.cls = some m.cls := findClass_of_methodNamed B.named
  subst hsz
  have hD := hD0.self (sz := s.heap.size)
  have hA : ∀ q : Nat, s.heap.size ≤ q → va_A (conc cA loc sk S) s.heap.size q := fun q h => Or.inr h
  have hlen' : (lg_sl (args.map (cv loc))).length = (lg_sl args).length := by
    simp only [lg_sl, List.flatMap_map, cv_cat, List.length_flatMap]
    congr 1
    apply List.map_congr_left
    intro v _
    split <;> rfl
  have hl := lv_entry (args.map (cv loc)) (n := maxL) (by rw [hlen']; exact hlen)
  rw [lg_entry_eq]
  rw [cl_args] at hl
  exact body (p, l, e, rmd d 0 0, s, m, (args.map (cv loc)).toArray, below, meth, c, _, _, G, cA, maxL) ⟨B.exec, B.bytes, B.returns, hml, rfl, rfl, hown, fun w h => hts w (List.mem_cons_of_mem _ h), hK, B.notSynchronized, hA, hE⟩ ⟨rfl, rfl, rfl, rfl⟩ s.heap [] _ hP hD va_S.rf hl
theorem MetI.intro {y : MethodName} {cc : ByteArray} {maxL d : Nat} {ret : Option FieldType} {args : List Value} {sk : Skel} {S S' : Mem} {r : Int32} (hy : plainFor y = true) (hlen : (lg_sl args).length ≤ maxL) (body : ∀ (X : XT) (loc : Nat → Nat), AC X loc y.cls cc ret maxL d 0 0 → RetI X sk loc 0 0 r S' → AW X sk loc 0 0 0 (lv_args 0 args) [] S) : MetI y cc maxL ret d args sk S r S' := by
  intro l G cA loc sz
  refine met_body hy hlen (fun X hX hQ => body X loc hX ?_)
  obtain ⟨p, l, e, R, s, m, args, below, meth, c, Q, A, G', cA', nL⟩ := X
  obtain ⟨rfl, rfl, rfl, rfl⟩ := hQ
  rfl
theorem MetL.intro {y : MethodName} {cc : ByteArray} {maxL d : Nat} {ret : Option FieldType} {args : List Value} {sk : Skel} {S S' : Mem} {r : Int64} (hy : plainFor y = true) (hlen : (lg_sl args).length ≤ maxL) (body : ∀ (X : XT) (loc : Nat → Nat), AC X loc y.cls cc ret maxL d 0 0 → RetL X sk loc 0 0 r S' → AW X sk loc 0 0 0 (lv_args 0 args) [] S) : MetL y cc maxL ret d args sk S r S' := by
  intro l G cA loc sz
  refine met_body hy hlen (fun X hX hQ => body X loc hX ?_)
  obtain ⟨p, l, e, R, s, m, args, below, meth, c, Q, A, G', cA', nL⟩ := X
  obtain ⟨rfl, rfl, rfl, rfl⟩ := hQ
  rfl
theorem MetV.intro {y : MethodName} {cc : ByteArray} {maxL d : Nat} {ret : Option FieldType} {args : List Value} {sk : Skel} {S S' : Mem} (hy : plainFor y = true) (hlen : (lg_sl args).length ≤ maxL) (body : ∀ (X : XT) (loc : Nat → Nat), AC X loc y.cls cc ret maxL d 0 0 → RetV X sk loc 0 0 S' → AW X sk loc 0 0 0 (lv_args 0 args) [] S) : MetV y cc maxL ret d args sk S S' := by
  intro l G cA loc sz
  refine met_body hy hlen (fun X hX hQ => body X loc hX ?_)
  obtain ⟨p, l, e, R, s, m, args, below, meth, c, Q, A, G', cA', nL⟩ := X
  obtain ⟨rfl, rfl, rfl, rfl⟩ := hQ
  rfl
theorem MetR.intro {y : MethodName} {cc : ByteArray} {maxL d : Nat} {ret : Option FieldType} {args : List Value} {sk : Skel} {S S' : Mem} {r : Nat} (hy : plainFor y = true) (hlen : (lg_sl args).length ≤ maxL) (body : ∀ (X : XT) (loc : Nat → Nat), AC X loc y.cls cc ret maxL d 0 0 → RetR X sk loc 0 0 r S' → AW X sk loc 0 0 0 (lv_args 0 args) [] S) : MetR y cc maxL ret d args sk S r S' := by
  intro l G cA loc sz
  refine met_body hy hlen (fun X hX hQ => body X loc hX ?_)
  obtain ⟨p, l, e, R, s, m, args, below, meth, c, Q, A, G', cA', nL⟩ := X
  obtain ⟨rfl, rfl, rfl, rfl⟩ := hQ
  rfl
/-! a callee's own words -/
def MOK (y : MethodName) (bytes : ByteArray) (maxL : Nat) (ret : Option FieldType) (n : Nat) : Prop := Cond.code y bytes maxL ret ∈ lw_good ∧ Cond.initialized y.cls ∈ lw_good ∧ y.cls ≠ "java/lang/invoke/MethodHandle" ∧ y.cls ≠ "java/lang/invoke/VarHandle" ∧ (parseMethodDescriptor y.desc).map (fun d => d.parameters.length) = some n ∧ maxL ≤ 45
theorem wsA_good {y : MethodName} {bytes : ByteArray} {maxL n : Nat} {ret : Option FieldType} (h : MOK y bytes maxL ret n) : GoodIn lw_good (wsA y bytes maxL ret) := by
  intro w hw
  rcases List.mem_cons.mp hw with rfl | hw
  · exact lw_goodG _ h.1
  · exact lw_goodG _ hw
section AWCALL
variable {p : Program} {l : Launch} {e : Env} {R : Room} {s : State} {m : MethodId} {args : Array Value} {below : List Frame} {meth : Method} {c : Code} {H : Heap} {locs : List Loc} {cells slots : Nat}
variable {G : va_G} {cA : Nat → ClassId} {loc : Nat → Nat} {sk : Skel} {S : Mem} {A : Nat → Prop} {cc : ByteArray} {maxL d mc ms : Nat} {own : String}
theorem aw_free (hD : va_D A (conc cA loc sk S)) (hS : va_S A s.heap H locs) (hA : ∀ q, s.heap.size ≤ q → A q) : ∀ q, va_A (conc cA loc sk S) H.size q → A q := by
  intro q h
  rcases h with ⟨k, e, h⟩ | h
  · exact hD.2 k (q, e) h
  · exact hA q (Nat.le_trans hS.1 h)
theorem aw_pre (hP : va_P G vwCl (conc cA loc sk S) H) (hD : va_D A (conc cA loc sk S)) (hS : va_S A s.heap H locs) (hA : ∀ q, s.heap.size ≤ q → A q) (hK : va_K G vwCl (tysOf cA) s) (hE : Ext A loc s s.heap) (As : List Value) : ∀ U : State, U.heap = H → s.WarmedH U.vm → PreA G cA loc sk S H.size As (As.map (cv loc)).toArray U := by
  intro U hU hW
  refine ⟨rfl, by rw [hU], by rw [hU]; exact hP, va_K.moved hW.alike hK, hD.weaken (fun _ _ _ _ => trivial), ?_⟩
  rw [hU]
  exact hE.to (fun a h1 h2 => hS.2.1 a h1 h2) hW (aw_free hD hS hA)
theorem aw_blind (sz : Nat) (As : List Value) : FrameBlind (PreA G cA loc sk S sz As) := by
  intro a U g mk q
  obtain ⟨q0, q1, qP, qK, qD, qE⟩ := q
  exact ⟨q0, q1, qP, va_K.moved (u := U) (U := U.calling g mk a) (Vm.Alike.refl U.vm) qK, qD, qE.calling⟩
theorem aw_runV {y : MethodName} {bytes : ByteArray} {mL n ix ci n' b d' : Nat} {rt : Option FieldType} {fs : List Value} {T : u_T} {N : Nat} {Qc : Array Value → State → Outcome → State → Prop} {As rest : List Value} {pc : Nat} {la : Array Slot}
    (hx : p.tables.exec = Jvm.exec) (hb : c.code = cc) (hml : c.maxLocals = maxL) (hR : R = rmd d mc ms) (hown : s.vm.findClass own = some m.cls) (hts : ∀ w ∈ lw_good, w.before args s = true) (hK : va_K G vwCl (tysOf cA) s) (hA : ∀ q, s.heap.size ≤ q → A q) (hE : Ext A loc s s.heap)
    (hP : va_P G vwCl (conc cA loc sk S) H) (hD : va_D A (conc cA loc sk S)) (hS : va_S A s.heap H locs) (hla : la.size = maxL)
    (hM : Met l y (wsA y bytes mL rt) (rmd d' 0 0) (PreA G cA loc sk S H.size (.ref b :: As)) Qc 0 0 (va_A (conc cA loc sk S) H.size))
    (hok : MOK y bytes mL rt n) (hw1 : Cond.methodLink own ix y ∈ lw_good) (hw2 : Cond.instanceMethod y ∈ lw_good) (hw3 : Cond.selects y.cls y y ∈ lw_good) (hc : vwCl[ci]? = some (y.cls, T, N)) (hk : sk[b]? = some (ci + 4, n', fs)) (hn : As.length = n) (hd : d' + 1 ≤ d) (hcat : (rest.map fun v => v.category).sum ≤ 8)
    (hdg : decode cc pc = .ok (.invokevirtual ix, 3)) (h0 : cells ≤ mc) (h1 : slots ≤ ms) :
    va_Run p l e R s m args below meth c H locs cells slots 0 0 (F0 m pc la ((As.reverse ++ .ref b :: rest).map (cv loc))) (rest.map (cv loc)) (Qc (Value.ref (loc b) :: As.map (cv loc)).toArray) (va_A (conc cA loc sk S) H.size) := by
  subst hR
  have hcw : CallW (rmd d mc ms) s args own y.cls ix y bytes mL rt (wsA y bytes mL rt) (rmd d' 0 0) 0 0 n := ⟨callB_of n hts (wsA_good hok) rfl rfl rfl (hts _ hok.2.1) (hts _ hw1) ⟨hok.2.2.1, hok.2.2.2.1, hok.2.2.2.2.1⟩ ⟨hd, by have h := hok.2.2.2.2.2; show 8 + (mL + 11) + 64 * d' ≤ 64 * d; omega⟩, hts _ hw2, hts _ hw3⟩
  have hpre := aw_pre hP hD hS hA hK hE (.ref b :: As)
  exact va_runV (As := As.map (cv loc)) (rest := rest.map (cv loc)) (b := loc b) ⟨hx, hb, hml, hown, hts⟩ hM hcw ⟨aw_blind _ _, va_recv hK hP hc ((conc_get hk).trans (by rw [cellE_obj])), hpre⟩ rfl (by rw [List.length_map]; exact hn) hla (by simp [F0, List.map_reverse, cv]) (lv_room (by simpa [Function.comp_def, cv_cat] using hcat)) hdg ⟨h0, h1⟩
theorem aw_runS {y : MethodName} {bytes : ByteArray} {mL n ix d' : Nat} {rt : Option FieldType} {Qc : Array Value → State → Outcome → State → Prop} {As rest : List Value} {pc : Nat} {la : Array Slot}
    (hx : p.tables.exec = Jvm.exec) (hb : c.code = cc) (hml : c.maxLocals = maxL) (hR : R = rmd d mc ms) (hown : s.vm.findClass own = some m.cls) (hts : ∀ w ∈ lw_good, w.before args s = true) (hK : va_K G vwCl (tysOf cA) s) (hA : ∀ q, s.heap.size ≤ q → A q) (hE : Ext A loc s s.heap)
    (hP : va_P G vwCl (conc cA loc sk S) H) (hD : va_D A (conc cA loc sk S)) (hS : va_S A s.heap H locs) (hla : la.size = maxL)
    (hM : Met l y (wsA y bytes mL rt) (rmd d' 0 0) (PreA G cA loc sk S H.size As) Qc 0 0 (va_A (conc cA loc sk S) H.size))
    (hok : MOK y bytes mL rt n) (hw1 : Cond.methodLink own ix y ∈ lw_good) (hw2 : Cond.static y ∈ lw_good) (hn : As.length = n) (hd : d' + 1 ≤ d) (hcat : (rest.map fun v => v.category).sum ≤ 8)
    (hdg : decode cc pc = .ok (.invokestatic ix, 3)) (h0 : cells ≤ mc) (h1 : slots ≤ ms) :
    va_Run p l e R s m args below meth c H locs cells slots 0 0 (F0 m pc la ((As.reverse ++ rest).map (cv loc))) (rest.map (cv loc)) (Qc (As.map (cv loc)).toArray) (va_A (conc cA loc sk S) H.size) := by
  subst hR
  have hcw : CallB (rmd d mc ms) s args own ix y bytes mL rt (wsA y bytes mL rt) (rmd d' 0 0) 0 0 n := callB_of n hts (wsA_good hok) rfl rfl rfl (hts _ hok.2.1) (hts _ hw1) ⟨hok.2.2.1, hok.2.2.2.1, hok.2.2.2.2.1⟩ ⟨hd, by have h := hok.2.2.2.2.2; show 8 + (mL + 11) + 64 * d' ≤ 64 * d; omega⟩
  have hpre := aw_pre hP hD hS hA hK hE As
  exact va_runS (As := As.map (cv loc)) (rest := rest.map (cv loc)) ⟨hx, hb, hml, hown, hts⟩ hM ⟨hcw, hts _ hw2⟩ ⟨aw_blind _ _, hpre⟩ rfl (by rw [List.length_map]; exact hn) hla (by simp [F0, List.map_reverse]) (lv_room (by simpa [Function.comp_def, cv_cat] using hcat)) hdg ⟨h0, h1⟩
theorem aw_runSN {y : MethodName} {bytes : ByteArray} {mL n ix d' : Nat} {rt : Option FieldType} {host : String} {Qc : Array Value → State → Outcome → State → Prop} {As rest : List Value} {pc : Nat} {la : Array Slot}
    (hx : p.tables.exec = Jvm.exec) (hb : c.code = cc) (hml : c.maxLocals = maxL) (hR : R = rmd d mc ms) (hown : s.vm.findClass own = some m.cls) (hts : ∀ w ∈ lw_good, w.before args s = true) (hK : va_K G vwCl (tysOf cA) s) (hA : ∀ q, s.heap.size ≤ q → A q) (hE : Ext A loc s s.heap)
    (hP : va_P G vwCl (conc cA loc sk S) H) (hD : va_D A (conc cA loc sk S)) (hS : va_S A s.heap H locs) (hla : la.size = maxL)
    (hM : Met l y (wsA y bytes mL rt) (rmd d' 0 0) (PreA G cA loc sk S H.size As) Qc 0 0 (va_A (conc cA loc sk S) H.size))
    (hok : MOK y bytes mL rt n) (hw1 : Cond.methodLinkNest own ix y host ∈ nwL) (hw2 : Cond.static y ∈ lw_good) (hn : As.length = n) (hd : d' + 1 ≤ d) (hcat : (rest.map fun v => v.category).sum ≤ 8)
    (hdg : decode cc pc = .ok (.invokestatic ix, 3)) (h0 : cells ≤ mc) (h1 : slots ≤ ms) :
    va_Run p l e R s m args below meth c H locs cells slots 0 0 (F0 m pc la ((As.reverse ++ rest).map (cv loc))) (rest.map (cv loc)) (Qc (As.map (cv loc)).toArray) (va_A (conc cA loc sk S) H.size) := by
  subst hR
  have hcw : va_CN (rmd d mc ms) s args own ix y host bytes mL rt (wsA y bytes mL rt) (rmd d' 0 0) 0 0 n := va_cnB n hts (wsA_good hok) rfl rfl rfl (hE.2.2.2.2.2.2.2.2.2.2.2.1 _ hw1) (hts _ hok.2.1) ⟨hok.2.2.1, hok.2.2.2.1, hok.2.2.2.2.1⟩ ⟨hd, by have h := hok.2.2.2.2.2; show 8 + (mL + 11) + 64 * d' ≤ 64 * d; omega⟩
  have hpre := aw_pre hP hD hS hA hK hE As
  exact va_runSN (As := As.map (cv loc)) (rest := rest.map (cv loc)) ⟨hx, hb, hml, hown, hts⟩ hM ⟨hcw, hts _ hw2, trivial⟩ ⟨aw_blind _ _, hpre⟩ rfl (by rw [List.length_map]; exact hn) hla (by simp [F0, List.map_reverse]) (lv_room (by simpa [Function.comp_def, cv_cat] using hcat)) hdg ⟨h0, h1⟩
end AWCALL
