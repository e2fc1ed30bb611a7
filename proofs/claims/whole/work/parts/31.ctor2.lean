def QVC (G : va_G) (cA : Nat → ClassId) (loc : Nat → Nat) (n0 : Nat) (sk : Skel) (A : Nat → Prop) (S : Mem) : Array Value → State → Outcome → State → Prop := va_Qv (fun (u : Nat → Nat) => Ag n0 loc u) (fun u t => endB G cA u sk S A t) A
def RetC (X : XT) (loc : Nat → Nat) (n0 : Nat) (sk : Skel) (k n : Nat) (S : Mem) : Prop := match X with
  | (_, _, _, _, s, _, args, below, _, _, Q, A, G, cA, _) => Q = MQ below (QVC G cA loc n0 sk A S) args s k n A
def MetC (y : MethodName) (cc : ByteArray) (maxL d mc ms : Nat) (args : List Value) (sk : Skel) (S : Mem) (sk' : Skel) (S' : Mem) : Prop :=
  ∀ (l : Launch) (G : va_G) (cA : Nat → ClassId) (loc : Nat → Nat) (sz : Nat), Met l y (wsA y cc maxL none) (rmd d mc ms) (PreA G cA loc sk S sz args) (QVC G cA loc sk.length sk' (va_A (conc cA loc sk S) sz) S') mc ms (va_A (conc cA loc sk S) sz)
theorem MetC.intro {y : MethodName} {cc : ByteArray} {maxL d mc ms : Nat} {args : List Value} {sk sk' : Skel} {S S' : Mem} (hy : plainFor y = true) (hyn : y.name = "<init>") (hlen : (lg_sl args).length ≤ maxL)
    (body : ∀ (X : XT) (loc : Nat → Nat), AC X loc y.cls cc none maxL d mc ms → isInit X → RetC X loc sk.length sk' mc ms S' → AW X sk loc 0 0 0 (lv_args 0 args) [] S) : MetC y cc maxL d mc ms args sk S sk' S' := by
  intro l G cA loc sz
  refine va_MetF (cc := cc) (maxL := maxL) (ret := none) hy rfl ?_
  intro p e s m args' below meth c s₁ B hml hv
  obtain ⟨rfl, hsz, hP, hK, hD0, hE⟩ := hv
  have hts := atoms_spec (ws := wsA y cc maxL none) B.pre
  have hown : s.vm.findClass y.cls = some m.cls := findClass_of_methodNamed B.named
  have hin : meth.name = "<init>" := (name_of_methodNamed B.named B.method).1.trans hyn
  subst hsz
  have hD := hD0.self (sz := s.heap.size)
  have hA : ∀ q : Nat, s.heap.size ≤ q → va_A (conc cA loc sk S) s.heap.size q := fun q h => Or.inr h
  have hlen' : (lg_sl (args.map (cv loc))).length = (lg_sl args).length := by
    simp only [lg_sl, List.flatMap_map, cv_cat, List.length_flatMap]
    congr 1
    apply List.map_congr_left
    intro v _
    split <;> rfl
  have hl := lv_entry (args.map (cv loc)) (n := maxL) (by rw [hlen']; exact hlen)
  rw [lg_entry_eq]
  rw [cl_args] at hl
  exact body (p, l, e, rmd d mc ms, s, m, (args.map (cv loc)).toArray, below, meth, c, _, _, G, cA, maxL) loc ⟨B.exec, B.bytes, B.returns, hml, rfl, rfl, hown, fun w h => hts w (List.mem_cons_of_mem _ h), hK, B.notSynchronized, hA, hE⟩ hin rfl s.heap [] _ hP hD va_S.rf hl
section AWN2
variable {X : XT} {loc : Nat → Nat} {own : String} {cc : ByteArray} {ret : Option FieldType} {maxL d mc ms : Nat} {sk : Skel} {k n pc : Nat} {ls : List (Nat × Value)} {stk : List Value} {S : Mem}
theorem aw_vretC (hX : AC X loc own cc none maxL d mc ms) {loc0 : Nat → Nat} {n0 : Nat} {sk' : Skel} {S' : Mem} (hQ : RetC X loc0 n0 sk' k n S') (hag : Ag n0 loc0 loc) (hsk : sk = sk') (hS' : S = S') (hdg : decode cc pc = .ok (.return_, 1)) : AW X sk loc k n pc ls [] S := by
  subst hsk
  subst hS'
  obtain ⟨p, l, e, R, s, m, args, below, meth, c, Q, A, G, cA, nL⟩ := X
  obtain ⟨hx, hb, hr, hml, hnL, hR, hown, hts, hK, hlocks, hA, hE⟩ := hX
  have hQ : Q = _ := hQ
  subst hQ
  intro H locs la hP hD hS hl
  exact W.vret hx hb hr (fun t ht hW => ⟨⟨loc, rfl, hag, by rw [ht]; exact hP, va_K.moved hW.alike hK, hD⟩, hS.F ht⟩) hS.2.2 hdg
theorem aw_widen {k' n' : Nat} (h1 : k ≤ k') (h2 : n ≤ n') (kk : AW X sk loc k' n' pc ls stk S) : AW X sk loc k n pc ls stk S := by
  obtain ⟨p, l, e, R, s, m, args, below, meth, c, Q, A, G, cA, nL⟩ := X
  intro H locs la hP hD hS hl
  exact W.widen h1 h2 (kk H locs la hP hD hS hl)
theorem aw_objI (hX : AC X loc own cc ret maxL d mc ms) {ix b : Nat} (hw1 : Cond.methodLink own ix Lib.objectInit ∈ lw_good) (hw2 : Cond.instanceMethod Lib.objectInit ∈ lw_good) (hw3 : Cond.code Lib.objectInit ⟨#[0xb1]⟩ 1 none ∈ lw_good) (hd : 1 ≤ d) (hcat : (stk.map fun v => v.category).sum ≤ 8) (hdg : decode cc pc = .ok (.invokespecial ix, 3)) (kk : AW X sk loc k n (pc + 3) ls stk S) : AW X sk loc k n pc ls (.ref b :: stk) S := by
  obtain ⟨p, l, e, R, s, m, args, below, meth, c, Q, A, G, cA, nL⟩ := X
  obtain ⟨hx, hb, hr, hml, hnL, hR, hown, hts, hK, hlocks, hA, hE⟩ := hX
  subst hR
  intro H locs la hP hD hS hl
  have hcat' : ((stk.map (cv loc)).map fun v => v.category).sum ≤ 8 := by simpa [Function.comp_def, cv_cat] using hcat
  have hroom := lv_room (m := m) (pc := pc) (ls := la) (rest := (List.map (cv loc) (Value.ref b :: stk))) hcat'
  refine W.objInit (a := loc b) (rest := stk.map (cv loc)) hx hb hown (hts _ hw1) (hts _ hw2) (hts _ hw3) rfl (by rw [hml, ← hnL]; exact hl.1) rfl hdg hd ?_ ?_
  · show _ + 12 ≤ 64 * d
    omega
  · exact kk H locs la hP hD hS hl
theorem aw_putR (hX : AC X loc own cc ret maxL d mc ms) (hI : isInit X) {ref C : String} {T : u_T} {N ci n' ix b r : Nat} {fs : List Value} {ty0 : Nat → FieldType} {sk' : Skel} (hc : vwCl[ci]? = some (C, T, N)) (hin : ∀ w ∈ u_ws C T N, w ∈ lw_good) (hty : ∀ k, k < N → parseFieldDescriptor (T k).2.2.1 = some (ty0 k)) (hnm : ∀ a, a < N → ∀ b, b < N → a ≠ b → (T a).2.1 ≠ (T b).2.1) (hk : sk[b]? = some (ci + 4, n', fs)) (j : Nat) (hj : j < N) (hjl : j < fs.length) (hw : Cond.fieldLink own ix ref (T j).2.1 (T j).2.2.1 ∈ lw_good) (hrf : (T j).1 = ref) (hro : (T j).1 = own) (hfin : (T j).2.2.2 = true) (hn : ∀ a, narrow (ty0 j) (.ref a) = .ref a) (hfit : ∀ a, fits (ty0 j) (.ref a) = true) (hsk : sk.set b (ci + 4, n', fs.set j (.ref r)) = sk') (hdg : decode cc pc = .ok (.putfield ix, 3)) (kk : AW X sk' loc k n (pc + 3) ls stk S) : AW X sk loc k n pc ls (.ref r :: .ref b :: stk) S := by
  obtain ⟨p, l, e, R, s, m, args, below, meth, c, Q, A, G, cA, nL⟩ := X
  obtain ⟨hx, hb, hr, hml, hnL, hR, hown, hts, hK, hlocks, hA, hE⟩ := hX
  intro H locs la hP hD hS hl
  refine va_putF (v := .ref (loc r)) hx hb hts hin ty0 hty hnm hown hK hP hD hS b ((conc_get hk).trans (by rw [cellE_obj])) hc j hj (hts _ hw) (fun x h => by rw [← hrf]; exact h) hfin hI hro (hty j hj) (hn _) (hfit _) (by simpa using hjl) hdg (fun H1 locs1 hP1 hD1 hS1 => ?_)
  have e1 : (conc cA loc sk S).set b (loc b, .inr (ci, (fs.mapIdx (fvE loc S b)).set j (.ref (loc r)))) = conc cA loc sk' S := by
    rw [← hsk]
    apply List.ext_getElem?
    intro q
    have hbl : b < sk.length := (List.getElem?_eq_some_iff.mp hk).1
    by_cases hq : q = b
    · subst hq
      rw [List.getElem?_set_self (by simpa [conc] using hbl), conc_get (List.getElem?_set_self hbl), cellE_obj]
      congr 4
      apply List.ext_getElem?
      intro a
      by_cases ha : a = j
      · subst ha
        rw [List.getElem?_set_self (by simpa using hjl), List.getElem?_mapIdx, List.getElem?_set_self hjl]
        rfl
      · rw [List.getElem?_set_ne (Ne.symm ha), List.getElem?_mapIdx, List.getElem?_mapIdx, List.getElem?_set_ne (Ne.symm ha)]
    · rw [List.getElem?_set_ne (Ne.symm hq)]
      simp only [conc, List.getElem?_mapIdx]
      rw [List.getElem?_set_ne (Ne.symm hq)]
  rw [e1] at hP1 hD1
  exact kk H1 locs1 la hP1 hD1 hS1 hl
theorem aw_aast (hX : AC X loc own cc ret maxL d mc ms) {b n' n2 r : Nat} {vs fs : List Value} {i : Int32} {sk' : Skel} (hk : sk[b]? = some (3, n', vs)) (hkr : sk[r]? = some (5, n2, fs)) (hi : inb i n' = true) (hvl : i.toNatClampNeg < vs.length) (hsk : sk.set b (3, n', vs.set i.toNatClampNeg (.ref r)) = sk') (hdg : decode cc pc = .ok (.aastore, 1)) (kk : AW X sk' loc k n (pc + 1) ls stk S) : AW X sk loc k n pc ls (.ref r :: .int i :: .ref b :: stk) S := by
  obtain ⟨p, l, e, R, s, m, args, below, meth, c, Q, A, G, cA, nL⟩ := X
  obtain ⟨hx, hb, hr, hml, hnL, hR, hown, hts, hK, hlocks, hA, hE⟩ := hX
  intro H locs la hP hD hS hl
  refine va_astq (r := (RX1, TX1, 4)) (vs := fs.mapIdx (fvE loc S r)) hx hb hK hP hD hS b 3 r 1 (conc_get hk) rfl ((conc_get (S := S) hkr).trans (by rw [cellE_obj (ci := 1)])) rfl (inb_in hi) hdg (fun H1 locs1 hP1 hD1 hS1 => ?_)
  have e1 : (conc cA loc sk S).set b (loc b, .inl (cA 3, n', .inr (.inr (.inr (.inr (va_up (qE loc vs) i.toNatClampNeg (some (loc r)))))))) = conc cA loc sk' S := by
    rw [← hsk]
    apply List.ext_getElem?
    intro q
    have hbl : b < sk.length := (List.getElem?_eq_some_iff.mp hk).1
    by_cases hq : q = b
    · subst hq
      rw [List.getElem?_set_self (by simpa [conc] using hbl), conc_get (List.getElem?_set_self hbl)]
      have e2 : va_up (qE loc vs) i.toNatClampNeg (some (loc r)) = qE loc (vs.set i.toNatClampNeg (.ref r)) := by
        funext a
        by_cases ha : a = i.toNatClampNeg
        · subst ha
          simp [va_up, qE, List.getElem?_set_self hvl]
        · simp [va_up, qE, ha, List.getElem?_set_ne (Ne.symm ha)]
      rw [e2]
      rfl
    · rw [List.getElem?_set_ne (Ne.symm hq)]
      simp only [conc, List.getElem?_mapIdx]
      rw [List.getElem?_set_ne (Ne.symm hq)]
  rw [e1] at hP1 hD1
  exact kk H1 locs1 la hP1 hD1 hS1 hl
theorem aw_cI0 {y : MethodName} {bytes : ByteArray} {mL n0 ix d' mc' ms' b : Nat} {S' : Mem} {sk' : Skel} {As rest st0 : List Value} (hX : AC X loc own cc ret maxL d mc ms) (hM : MetC y bytes mL d' mc' ms' (.ref b :: As) sk S sk' S') (hok : MOK y bytes mL none n0) (hl1 : (∃ host, Cond.methodLinkNest own ix y host ∈ nwL) ∨ Cond.methodLink own ix y ∈ lw_good) (hw2 : Cond.instanceMethod y ∈ lw_good) (hyn : y.name = "<init>") (hn : As.length = n0) (hd : d' + 1 ≤ d) (hcat : (rest.map fun v => v.category).sum ≤ 8) (hst : st0 = As.reverse ++ .ref b :: rest)
    (hls : scl sk.length (ls.map (·.2))) (hrs : scl sk.length rest) (hdg : decode cc pc = .ok (.invokespecial ix, 3)) (h0 : k + mc' ≤ mc) (h1 : n + ms' ≤ ms)
    (kk : ∀ loc', Ag sk.length loc loc' → AC X loc' own cc ret maxL d mc ms → AW X sk' loc' (k + mc') (n + ms') (pc + 3) ls rest S') : AW X sk loc k n pc ls st0 S := by
  have hX0 := hX
  obtain ⟨p, l, e, R, s, m, args, below, meth, c, Q, A, G, cA, nL⟩ := X
  obtain ⟨hx, hb, hr, hml, hnL, hR, hown, hts, hK, hlocks, hA, hE⟩ := hX
  subst hst
  subst hR
  intro H locs la hP hD hS hl
  have hF := aw_free hD hS hA
  have hpre := aw_pre hP hD hS hA hK hE (.ref b :: As)
  have hroom : d' + 1 ≤ d ∧ 8 + (mL + 11) + 64 * d' ≤ 64 * d := ⟨hd, by have h := hok.2.2.2.2.2; omega⟩
  have hrun : va_Run p l e (rmd d mc ms) s m args below meth c H locs k n mc' ms' (F0 m pc la ((As.reverse ++ .ref b :: rest).map (cv loc))) (rest.map (cv loc)) (QVC G cA loc sk.length sk' (va_A (conc cA loc sk S) H.size) S' (Value.ref (loc b) :: As.map (cv loc)).toArray) (va_A (conc cA loc sk S) H.size) := by
    rcases hl1 with ⟨host, hl1⟩ | hl1
    · have hcw : va_CN (rmd d mc ms) s args own ix y host bytes mL none (wsA y bytes mL none) (rmd d' mc' ms') mc' ms' n0 := va_cnB n0 hts (wsA_good hok) rfl rfl rfl (hE.2.2.2.2.2.2.2.2.2.2.2.1 _ hl1) (hts _ hok.2.1) ⟨hok.2.2.1, hok.2.2.2.1, hok.2.2.2.2.1⟩ hroom
      exact va_runIN (As := As.map (cv loc)) (rest := rest.map (cv loc)) (b := loc b) ⟨hx, hb, hml, hown, hts⟩ (hM l G cA loc H.size) ⟨hcw, hyn, hts _ hw2⟩ ⟨aw_blind _ _, hpre⟩ rfl (by rw [List.length_map]; exact hn) (hl.1.trans hnL) (by simp [F0, List.map_reverse, cv]) (lv_room (by simpa [Function.comp_def, cv_cat] using hcat)) hdg ⟨h0, h1⟩
    · have hcw : CallB (rmd d mc ms) s args own ix y bytes mL none (wsA y bytes mL none) (rmd d' mc' ms') mc' ms' n0 := callB_of n0 hts (wsA_good hok) rfl rfl rfl (hts _ hok.2.1) (hts _ hl1) ⟨hok.2.2.1, hok.2.2.2.1, hok.2.2.2.2.1⟩ hroom
      exact va_runI (As := As.map (cv loc)) (rest := rest.map (cv loc)) (b := loc b) ⟨hx, hb, hml, hown, hts⟩ (hM l G cA loc H.size) ⟨hcw, hyn, hts _ hw2⟩ ⟨aw_blind _ _, hpre⟩ rfl (by rw [List.length_map]; exact hn) (hl.1.trans hnL) (by simp [F0, List.map_reverse, cv]) (lv_room (by simpa [Function.comp_def, cv_cat] using hcat)) hdg ⟨h0, h1⟩
  refine va_callv hrun hS (fun q _ h => hF q h) hF (fun u t H1 locs1 ht hvm hpost hB hz hk1 hS1 => ?_)
  obtain ⟨hP1, hK1, hD1⟩ := hB
  rw [ht] at hP1
  have hk2 := kk u hpost (AC.ag hpost hX0) H1 locs1 la hP1 (hD1.weaken (fun _ _ _ h => hF _ h)) hS1 (by rw [cl_ag hpost hls]; exact hl)
  rw [map_ag hpost hrs] at hk2
  exact hk2
end AWN2
theorem ap_get {α : Type} {pre l : List α} {t j : Nat} (h : pre.length = t) : (pre ++ l)[t + j]? = l[j]? := by
  subst h
  rw [List.getElem?_append_right (Nat.le_add_right _ _), Nat.add_sub_cancel_left]
theorem ap_get0 {α : Type} {pre l : List α} {t : Nat} (h : pre.length = t) : (pre ++ l)[t]? = l[0]? := ap_get (j := 0) h
theorem ap_set {α : Type} {pre l : List α} {t j : Nat} {x : α} (h : pre.length = t) : (pre ++ l).set (t + j) x = pre ++ l.set j x := by
  subst h
  rw [List.set_append_right _ _ (Nat.le_add_right _ _), Nat.add_sub_cancel_left]
theorem ap_set0 {α : Type} {pre l : List α} {t : Nat} {x : α} (h : pre.length = t) : (pre ++ l).set t x = pre ++ l.set 0 x := ap_set (j := 0) h
theorem ap_len {α : Type} {pre l : List α} {t : Nat} (h : pre.length = t) : (pre ++ l).length = t + l.length := by rw [List.length_append, h]
theorem ap_push {α : Type} {pre l : List α} {x : α} : (pre ++ l) ++ [x] = pre ++ (l ++ [x]) := List.append_assoc _ _ _
theorem scs_putR {m b x n' j r : Nat} {fs : List Value} {sk sk' : Skel} (h : scs m sk) (hk : sk[b]? = some (x, n', fs)) (hr : r < m) (hs : sk.set b (x, n', fs.set j (.ref r)) = sk') : scs m sk' := by
  subst hs
  intro c hc
  rcases List.mem_or_eq_of_mem_set hc with hc | rfl
  · exact h c hc
  · intro v hv
    rcases List.mem_or_eq_of_mem_set hv with hv | rfl
    · exact h _ (List.mem_of_getElem? hk) v hv
    · exact scv_ref (Or.inl hr)
theorem scs_new {m m' : Nat} {c : Nat × Nat × List Value} {sk sk' : Skel} (h : scs m sk) (hm : m ≤ m') (hc : ∀ v ∈ c.2.2, v = .null ∨ (∃ x, v = .int x) ∨ ∃ x, v = .long x) (hs : sk ++ [c] = sk') : scs m' sk' := by
  subst hs
  refine scs_app (scs_mono h hm) (scs_cons (fun v hv r hr => ?_) scs_nil)
  rcases hc v hv with rfl | ⟨x, rfl⟩ | ⟨x, rfl⟩ <;> cases hr
section AWN3
variable {X : XT} {loc : Nat → Nat} {own : String} {cc : ByteArray} {ret : Option FieldType} {maxL d mc ms : Nat} {sk sk' : Skel} {k n pc N0 : Nat} {ls : List (Nat × Value)} {stk : List Value} {S : Mem}
theorem aw_newO' (hX : AC X loc own cc ret maxL d mc ms) (hN : sk.length = N0) {C : String} {T : u_T} {N ci ix : Nat} {ty : Nat → FieldType} {fs : List Value} (hc : vwCl[ci]? = some (C, T, N)) (hin : ∀ w ∈ u_ws C T N, w ∈ lw_good) (hty : ∀ k, k < N → parseFieldDescriptor (T k).2.2.1 = some (ty k)) (hw1 : Cond.classLink own ix C ∈ lw_good) (hw2 : Cond.instantiable C N ∈ lw_good) (hw3 : Cond.initialized C ∈ lw_good)
    (hfs : ∀ j, j < N → defaultValue (ty j) = vp_V fs j) (hfz : ∀ (loc : Nat → Nat) (k : Nat), fs.mapIdx (fvE loc (fun _ _ => 0, fun _ _ => 0) k) = fs) (hz : Zf S N0) (hsk : scs N0 sk) (hls : scl N0 (ls.map (·.2))) (hst : scl N0 stk) (h1000 : N0 < 1000) (hcells : k + 1 ≤ mc) (hslots : n + N ≤ ms) (hdg : decode cc pc = .ok (.new ix, 3)) (hsk' : sk ++ [(ci + 4, 0, fs)] = sk')
    (kk : ∀ loc', Ag N0 loc loc' → AC X loc' own cc ret maxL d mc ms → AW X sk' loc' (k + 1) (n + N) (pc + 3) ls (.ref N0 :: stk) S) : AW X sk loc k n pc ls stk S := by
  subst hN
  subst hsk'
  exact aw_newO hX hc hin hty hw1 hw2 hw3 hfs hfz hz hsk hls hst h1000 hcells hslots hdg kk
theorem aw_newA' (hX : AC X loc own cc ret maxL d mc ms) (hN : sk.length = N0) {at' : ArrayType} {kd : Nat} {ty : FieldType} (hty : newarray.typeOf at' = ty) (hkd : (kd = 0 ∧ ty = .int) ∨ (kd = 1 ∧ ty = .boolean) ∨ (kd = 2 ∧ ty = .long)) (hw : Cond.arrayClass ty ∈ lw_good) {x : Int32} {N : Nat} (hx0 : ¬ x < 0) (hxN : x.toNatClampNeg = N) (hNb : N ≤ 10000)
    (hz : Zf S N0) (hsk : scs N0 sk) (hls : scl N0 (ls.map (·.2))) (hst : scl N0 stk) (h1000 : N0 < 1000) (hcells : k + 1 ≤ mc) (hslots : n + N ≤ ms) (hdg : decode cc pc = .ok (.newarray at', 2)) (hsk' : sk ++ [(kd, N, [])] = sk')
    (kk : ∀ loc', Ag N0 loc loc' → AC X loc' own cc ret maxL d mc ms → AW X sk' loc' (k + 1) (n + N) (pc + 2) ls (.ref N0 :: stk) S) : AW X sk loc k n pc ls (.int x :: stk) S := by
  subst hN
  subst hsk'
  exact aw_newA hX hty hkd hw hx0 hxN hNb hz hsk hls hst h1000 hcells hslots hdg kk
theorem aw_newQ' (hX : AC X loc own cc ret maxL d mc ms) (hN : sk.length = N0) {ix : Nat} (hw : Cond.classLink own ix "DollTruce$Law" ∈ lw_good) {x : Int32} {N : Nat} {vs : List Value} (hvs : ∀ v ∈ vs, v = .null) (hx0 : ¬ x < 0) (hxN : x.toNatClampNeg = N) (hNb : N ≤ 10000)
    (hsk : scs N0 sk) (hls : scl N0 (ls.map (·.2))) (hst : scl N0 stk) (h1000 : N0 < 1000) (hcells : k + 1 ≤ mc) (hslots : n + N ≤ ms) (hdg : decode cc pc = .ok (.anewarray ix, 3)) (hsk' : sk ++ [(3, N, vs)] = sk')
    (kk : ∀ loc', Ag N0 loc loc' → AC X loc' own cc ret maxL d mc ms → AW X sk' loc' (k + 1) (n + N) (pc + 3) ls (.ref N0 :: stk) S) : AW X sk loc k n pc ls (.int x :: stk) S := by
  subst hN
  subst hsk'
  exact aw_newQ hX hw hvs hx0 hxN hNb hsk hls hst h1000 hcells hslots hdg kk
theorem aw_cI' (hX : AC X loc own cc ret maxL d mc ms) (hN : sk.length = N0) {y : MethodName} {bytes : ByteArray} {mL n0 ix d' mc' ms' b : Nat} {S' : Mem} {As rest st0 : List Value} (hM : MetC y bytes mL d' mc' ms' (.ref b :: As) sk S sk' S') (hok : MOK y bytes mL none n0) (hl1 : (∃ host, Cond.methodLinkNest own ix y host ∈ nwL) ∨ Cond.methodLink own ix y ∈ lw_good) (hw2 : Cond.instanceMethod y ∈ lw_good) (hyn : y.name = "<init>") (hn : As.length = n0) (hd : d' + 1 ≤ d) (hcat : (rest.map fun v => v.category).sum ≤ 8) (hst : st0 = As.reverse ++ .ref b :: rest)
    (hls : scl N0 (ls.map (·.2))) (hrs : scl N0 rest) (hdg : decode cc pc = .ok (.invokespecial ix, 3)) (h0 : k + mc' ≤ mc) (h1 : n + ms' ≤ ms)
    (kk : ∀ loc', Ag N0 loc loc' → AC X loc' own cc ret maxL d mc ms → AW X sk' loc' (k + mc') (n + ms') (pc + 3) ls rest S') : AW X sk loc k n pc ls st0 S := by
  subst hN
  exact aw_cI0 hX hM hok hl1 hw2 hyn hn hd hcat hst hls hrs hdg h0 h1 kk
end AWN3
