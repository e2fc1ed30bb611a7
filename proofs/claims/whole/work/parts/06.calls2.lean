def rdT (f : Nat → Int32) (i : Int32) : Option Int32 := if inb i 4 = true then some (f i.toNatClampNeg) else none
theorem rdT_some {f : Nat → Int32} {i v : Int32} (h : rdT f i = some v) : vp_in i 4 ∧ v = f i.toNatClampNeg := by
  unfold rdT at h
  split at h
  · rename_i hi
    cases h
    exact ⟨inb_in hi, rfl⟩
  · cases h
section AWC2
variable {X : XT} {loc : Nat → Nat} {own : String} {cc : ByteArray} {ret : Option FieldType} {maxL d mc ms : Nat} {sk : Skel} {k n pc : Nat} {ls : List (Nat × Value)} {stk : List Value} {S : Mem}
theorem aw_cVI (hX : AC X loc own cc ret maxL d mc ms) {y : MethodName} {bytes : ByteArray} {mL n0 ix d' : Nat} {rt : Option FieldType} {ci n' b : Nat} {fs : List Value} {T : u_T} {N : Nat} {r : Int32} {S' : Mem} {As rest st0 : List Value}
    (hM : MetI y bytes mL rt d' (.ref b :: As) sk S r S') (hok : MOK y bytes mL rt n0) (hw1 : Cond.methodLink own ix y ∈ lw_good) (hw2 : Cond.instanceMethod y ∈ lw_good) (hw3 : Cond.selects y.cls y y ∈ lw_good) (hc : vwCl[ci]? = some (y.cls, T, N)) (hk : sk[b]? = some (ci + 4, n', fs)) (hn : As.length = n0) (hd : d' + 1 ≤ d) (hcat : (rest.map fun v => v.category).sum ≤ 8) (hst : st0 = As.reverse ++ .ref b :: rest) (hdg : decode cc pc = .ok (.invokevirtual ix, 3)) (h0 : k ≤ mc) (h1 : n ≤ ms) (kk : AW X sk loc k n (pc + 3) ls (.int r :: rest) S') : AW X sk loc k n pc ls st0 S := by
  obtain ⟨p, l, e, R, s, m, args, below, meth, c, Q, A, G, cA, nL⟩ := X
  obtain ⟨hx, hb, hr, hml, hnL, hR, hown, hts, hK, hlocks, hA, hE⟩ := hX
  subst hst
  intro H locs la hP hD hS hl
  have hF := aw_free hD hS hA
  refine va_calli (aw_runV hx hb hml hR hown hts hK hA hE hP hD hS (hl.1.trans hnL) (hM _ G cA loc H.size) hok hw1 hw2 hw3 hc hk hn hd hcat hdg h0 h1) hS (fun q _ h => hF q h) hF (fun r' u t H1 locs1 ht hvm hpost hB hz hk1 hS1 => ?_)
  subst hpost
  obtain ⟨hP1, hK1, hD1⟩ := hB
  rw [ht] at hP1
  exact kk H1 locs1 la hP1 (hD1.weaken (fun _ _ _ h => hF _ h)) hS1 hl
theorem aw_cSI (hX : AC X loc own cc ret maxL d mc ms) {y : MethodName} {bytes : ByteArray} {mL n0 ix d' : Nat} {rt : Option FieldType} {r : Int32} {S' : Mem} {As rest st0 : List Value}
    (hM : MetI y bytes mL rt d' (As) sk S r S') (hok : MOK y bytes mL rt n0) (hw1 : Cond.methodLink own ix y ∈ lw_good) (hw2 : Cond.static y ∈ lw_good) (hn : As.length = n0) (hd : d' + 1 ≤ d) (hcat : (rest.map fun v => v.category).sum ≤ 8) (hst : st0 = As.reverse ++ rest) (hdg : decode cc pc = .ok (.invokestatic ix, 3)) (h0 : k ≤ mc) (h1 : n ≤ ms) (kk : AW X sk loc k n (pc + 3) ls (.int r :: rest) S') : AW X sk loc k n pc ls st0 S := by
  obtain ⟨p, l, e, R, s, m, args, below, meth, c, Q, A, G, cA, nL⟩ := X
  obtain ⟨hx, hb, hr, hml, hnL, hR, hown, hts, hK, hlocks, hA, hE⟩ := hX
  subst hst
  intro H locs la hP hD hS hl
  have hF := aw_free hD hS hA
  refine va_calli (aw_runS hx hb hml hR hown hts hK hA hE hP hD hS (hl.1.trans hnL) (hM _ G cA loc H.size) hok hw1 hw2 hn hd hcat hdg h0 h1) hS (fun q _ h => hF q h) hF (fun r' u t H1 locs1 ht hvm hpost hB hz hk1 hS1 => ?_)
  subst hpost
  obtain ⟨hP1, hK1, hD1⟩ := hB
  rw [ht] at hP1
  exact kk H1 locs1 la hP1 (hD1.weaken (fun _ _ _ h => hF _ h)) hS1 hl
theorem aw_cSNI (hX : AC X loc own cc ret maxL d mc ms) {y : MethodName} {bytes : ByteArray} {mL n0 ix d' : Nat} {rt : Option FieldType} {host : String} {r : Int32} {S' : Mem} {As rest st0 : List Value}
    (hM : MetI y bytes mL rt d' (As) sk S r S') (hok : MOK y bytes mL rt n0) (hw1 : Cond.methodLinkNest own ix y host ∈ nwL) (hw2 : Cond.static y ∈ lw_good) (hn : As.length = n0) (hd : d' + 1 ≤ d) (hcat : (rest.map fun v => v.category).sum ≤ 8) (hst : st0 = As.reverse ++ rest) (hdg : decode cc pc = .ok (.invokestatic ix, 3)) (h0 : k ≤ mc) (h1 : n ≤ ms) (kk : AW X sk loc k n (pc + 3) ls (.int r :: rest) S') : AW X sk loc k n pc ls st0 S := by
  obtain ⟨p, l, e, R, s, m, args, below, meth, c, Q, A, G, cA, nL⟩ := X
  obtain ⟨hx, hb, hr, hml, hnL, hR, hown, hts, hK, hlocks, hA, hE⟩ := hX
  subst hst
  intro H locs la hP hD hS hl
  have hF := aw_free hD hS hA
  refine va_calli (aw_runSN hx hb hml hR hown hts hK hA hE hP hD hS (hl.1.trans hnL) (hM _ G cA loc H.size) hok hw1 hw2 hn hd hcat hdg h0 h1) hS (fun q _ h => hF q h) hF (fun r' u t H1 locs1 ht hvm hpost hB hz hk1 hS1 => ?_)
  subst hpost
  obtain ⟨hP1, hK1, hD1⟩ := hB
  rw [ht] at hP1
  exact kk H1 locs1 la hP1 (hD1.weaken (fun _ _ _ h => hF _ h)) hS1 hl
theorem aw_cVL (hX : AC X loc own cc ret maxL d mc ms) {y : MethodName} {bytes : ByteArray} {mL n0 ix d' : Nat} {rt : Option FieldType} {ci n' b : Nat} {fs : List Value} {T : u_T} {N : Nat} {r : Int64} {S' : Mem} {As rest st0 : List Value}
    (hM : MetL y bytes mL rt d' (.ref b :: As) sk S r S') (hok : MOK y bytes mL rt n0) (hw1 : Cond.methodLink own ix y ∈ lw_good) (hw2 : Cond.instanceMethod y ∈ lw_good) (hw3 : Cond.selects y.cls y y ∈ lw_good) (hc : vwCl[ci]? = some (y.cls, T, N)) (hk : sk[b]? = some (ci + 4, n', fs)) (hn : As.length = n0) (hd : d' + 1 ≤ d) (hcat : (rest.map fun v => v.category).sum ≤ 8) (hst : st0 = As.reverse ++ .ref b :: rest) (hdg : decode cc pc = .ok (.invokevirtual ix, 3)) (h0 : k ≤ mc) (h1 : n ≤ ms) (kk : AW X sk loc k n (pc + 3) ls (.long r :: rest) S') : AW X sk loc k n pc ls st0 S := by
  obtain ⟨p, l, e, R, s, m, args, below, meth, c, Q, A, G, cA, nL⟩ := X
  obtain ⟨hx, hb, hr, hml, hnL, hR, hown, hts, hK, hlocks, hA, hE⟩ := hX
  subst hst
  intro H locs la hP hD hS hl
  have hF := aw_free hD hS hA
  refine va_calll (aw_runV hx hb hml hR hown hts hK hA hE hP hD hS (hl.1.trans hnL) (hM _ G cA loc H.size) hok hw1 hw2 hw3 hc hk hn hd hcat hdg h0 h1) hS (fun q _ h => hF q h) hF (fun r' u t H1 locs1 ht hvm hpost hB hz hk1 hS1 => ?_)
  subst hpost
  obtain ⟨hP1, hK1, hD1⟩ := hB
  rw [ht] at hP1
  exact kk H1 locs1 la hP1 (hD1.weaken (fun _ _ _ h => hF _ h)) hS1 hl
theorem aw_cSL (hX : AC X loc own cc ret maxL d mc ms) {y : MethodName} {bytes : ByteArray} {mL n0 ix d' : Nat} {rt : Option FieldType} {r : Int64} {S' : Mem} {As rest st0 : List Value}
    (hM : MetL y bytes mL rt d' (As) sk S r S') (hok : MOK y bytes mL rt n0) (hw1 : Cond.methodLink own ix y ∈ lw_good) (hw2 : Cond.static y ∈ lw_good) (hn : As.length = n0) (hd : d' + 1 ≤ d) (hcat : (rest.map fun v => v.category).sum ≤ 8) (hst : st0 = As.reverse ++ rest) (hdg : decode cc pc = .ok (.invokestatic ix, 3)) (h0 : k ≤ mc) (h1 : n ≤ ms) (kk : AW X sk loc k n (pc + 3) ls (.long r :: rest) S') : AW X sk loc k n pc ls st0 S := by
  obtain ⟨p, l, e, R, s, m, args, below, meth, c, Q, A, G, cA, nL⟩ := X
  obtain ⟨hx, hb, hr, hml, hnL, hR, hown, hts, hK, hlocks, hA, hE⟩ := hX
  subst hst
  intro H locs la hP hD hS hl
  have hF := aw_free hD hS hA
  refine va_calll (aw_runS hx hb hml hR hown hts hK hA hE hP hD hS (hl.1.trans hnL) (hM _ G cA loc H.size) hok hw1 hw2 hn hd hcat hdg h0 h1) hS (fun q _ h => hF q h) hF (fun r' u t H1 locs1 ht hvm hpost hB hz hk1 hS1 => ?_)
  subst hpost
  obtain ⟨hP1, hK1, hD1⟩ := hB
  rw [ht] at hP1
  exact kk H1 locs1 la hP1 (hD1.weaken (fun _ _ _ h => hF _ h)) hS1 hl
theorem aw_cSNL (hX : AC X loc own cc ret maxL d mc ms) {y : MethodName} {bytes : ByteArray} {mL n0 ix d' : Nat} {rt : Option FieldType} {host : String} {r : Int64} {S' : Mem} {As rest st0 : List Value}
    (hM : MetL y bytes mL rt d' (As) sk S r S') (hok : MOK y bytes mL rt n0) (hw1 : Cond.methodLinkNest own ix y host ∈ nwL) (hw2 : Cond.static y ∈ lw_good) (hn : As.length = n0) (hd : d' + 1 ≤ d) (hcat : (rest.map fun v => v.category).sum ≤ 8) (hst : st0 = As.reverse ++ rest) (hdg : decode cc pc = .ok (.invokestatic ix, 3)) (h0 : k ≤ mc) (h1 : n ≤ ms) (kk : AW X sk loc k n (pc + 3) ls (.long r :: rest) S') : AW X sk loc k n pc ls st0 S := by
  obtain ⟨p, l, e, R, s, m, args, below, meth, c, Q, A, G, cA, nL⟩ := X
  obtain ⟨hx, hb, hr, hml, hnL, hR, hown, hts, hK, hlocks, hA, hE⟩ := hX
  subst hst
  intro H locs la hP hD hS hl
  have hF := aw_free hD hS hA
  refine va_calll (aw_runSN hx hb hml hR hown hts hK hA hE hP hD hS (hl.1.trans hnL) (hM _ G cA loc H.size) hok hw1 hw2 hn hd hcat hdg h0 h1) hS (fun q _ h => hF q h) hF (fun r' u t H1 locs1 ht hvm hpost hB hz hk1 hS1 => ?_)
  subst hpost
  obtain ⟨hP1, hK1, hD1⟩ := hB
  rw [ht] at hP1
  exact kk H1 locs1 la hP1 (hD1.weaken (fun _ _ _ h => hF _ h)) hS1 hl
theorem aw_cVV (hX : AC X loc own cc ret maxL d mc ms) {y : MethodName} {bytes : ByteArray} {mL n0 ix d' : Nat} {rt : Option FieldType} {ci n' b : Nat} {fs : List Value} {T : u_T} {N : Nat} {S' : Mem} {As rest st0 : List Value}
    (hM : MetV y bytes mL rt d' (.ref b :: As) sk S S') (hok : MOK y bytes mL rt n0) (hw1 : Cond.methodLink own ix y ∈ lw_good) (hw2 : Cond.instanceMethod y ∈ lw_good) (hw3 : Cond.selects y.cls y y ∈ lw_good) (hc : vwCl[ci]? = some (y.cls, T, N)) (hk : sk[b]? = some (ci + 4, n', fs)) (hn : As.length = n0) (hd : d' + 1 ≤ d) (hcat : (rest.map fun v => v.category).sum ≤ 8) (hst : st0 = As.reverse ++ .ref b :: rest) (hdg : decode cc pc = .ok (.invokevirtual ix, 3)) (h0 : k ≤ mc) (h1 : n ≤ ms) (kk : AW X sk loc k n (pc + 3) ls (rest) S') : AW X sk loc k n pc ls st0 S := by
  obtain ⟨p, l, e, R, s, m, args, below, meth, c, Q, A, G, cA, nL⟩ := X
  obtain ⟨hx, hb, hr, hml, hnL, hR, hown, hts, hK, hlocks, hA, hE⟩ := hX
  subst hst
  intro H locs la hP hD hS hl
  have hF := aw_free hD hS hA
  refine va_callv (aw_runV hx hb hml hR hown hts hK hA hE hP hD hS (hl.1.trans hnL) (hM _ G cA loc H.size) hok hw1 hw2 hw3 hc hk hn hd hcat hdg h0 h1) hS (fun q _ h => hF q h) hF (fun u t H1 locs1 ht hvm hpost hB hz hk1 hS1 => ?_)
  obtain ⟨hP1, hK1, hD1⟩ := hB
  rw [ht] at hP1
  exact kk H1 locs1 la hP1 (hD1.weaken (fun _ _ _ h => hF _ h)) hS1 hl
theorem aw_cSV (hX : AC X loc own cc ret maxL d mc ms) {y : MethodName} {bytes : ByteArray} {mL n0 ix d' : Nat} {rt : Option FieldType} {S' : Mem} {As rest st0 : List Value}
    (hM : MetV y bytes mL rt d' (As) sk S S') (hok : MOK y bytes mL rt n0) (hw1 : Cond.methodLink own ix y ∈ lw_good) (hw2 : Cond.static y ∈ lw_good) (hn : As.length = n0) (hd : d' + 1 ≤ d) (hcat : (rest.map fun v => v.category).sum ≤ 8) (hst : st0 = As.reverse ++ rest) (hdg : decode cc pc = .ok (.invokestatic ix, 3)) (h0 : k ≤ mc) (h1 : n ≤ ms) (kk : AW X sk loc k n (pc + 3) ls (rest) S') : AW X sk loc k n pc ls st0 S := by
  obtain ⟨p, l, e, R, s, m, args, below, meth, c, Q, A, G, cA, nL⟩ := X
  obtain ⟨hx, hb, hr, hml, hnL, hR, hown, hts, hK, hlocks, hA, hE⟩ := hX
  subst hst
  intro H locs la hP hD hS hl
  have hF := aw_free hD hS hA
  refine va_callv (aw_runS hx hb hml hR hown hts hK hA hE hP hD hS (hl.1.trans hnL) (hM _ G cA loc H.size) hok hw1 hw2 hn hd hcat hdg h0 h1) hS (fun q _ h => hF q h) hF (fun u t H1 locs1 ht hvm hpost hB hz hk1 hS1 => ?_)
  obtain ⟨hP1, hK1, hD1⟩ := hB
  rw [ht] at hP1
  exact kk H1 locs1 la hP1 (hD1.weaken (fun _ _ _ h => hF _ h)) hS1 hl
theorem aw_cSNV (hX : AC X loc own cc ret maxL d mc ms) {y : MethodName} {bytes : ByteArray} {mL n0 ix d' : Nat} {rt : Option FieldType} {host : String} {S' : Mem} {As rest st0 : List Value}
    (hM : MetV y bytes mL rt d' (As) sk S S') (hok : MOK y bytes mL rt n0) (hw1 : Cond.methodLinkNest own ix y host ∈ nwL) (hw2 : Cond.static y ∈ lw_good) (hn : As.length = n0) (hd : d' + 1 ≤ d) (hcat : (rest.map fun v => v.category).sum ≤ 8) (hst : st0 = As.reverse ++ rest) (hdg : decode cc pc = .ok (.invokestatic ix, 3)) (h0 : k ≤ mc) (h1 : n ≤ ms) (kk : AW X sk loc k n (pc + 3) ls (rest) S') : AW X sk loc k n pc ls st0 S := by
  obtain ⟨p, l, e, R, s, m, args, below, meth, c, Q, A, G, cA, nL⟩ := X
  obtain ⟨hx, hb, hr, hml, hnL, hR, hown, hts, hK, hlocks, hA, hE⟩ := hX
  subst hst
  intro H locs la hP hD hS hl
  have hF := aw_free hD hS hA
  refine va_callv (aw_runSN hx hb hml hR hown hts hK hA hE hP hD hS (hl.1.trans hnL) (hM _ G cA loc H.size) hok hw1 hw2 hn hd hcat hdg h0 h1) hS (fun q _ h => hF q h) hF (fun u t H1 locs1 ht hvm hpost hB hz hk1 hS1 => ?_)
  obtain ⟨hP1, hK1, hD1⟩ := hB
  rw [ht] at hP1
  exact kk H1 locs1 la hP1 (hD1.weaken (fun _ _ _ h => hF _ h)) hS1 hl
theorem aw_cVR (hX : AC X loc own cc ret maxL d mc ms) {y : MethodName} {bytes : ByteArray} {mL n0 ix d' : Nat} {rt : Option FieldType} {ci n' b : Nat} {fs : List Value} {T : u_T} {N : Nat} {r : Nat} {S' : Mem} {As rest st0 : List Value}
    (hM : MetR y bytes mL rt d' (.ref b :: As) sk S r S') (hok : MOK y bytes mL rt n0) (hw1 : Cond.methodLink own ix y ∈ lw_good) (hw2 : Cond.instanceMethod y ∈ lw_good) (hw3 : Cond.selects y.cls y y ∈ lw_good) (hc : vwCl[ci]? = some (y.cls, T, N)) (hk : sk[b]? = some (ci + 4, n', fs)) (hn : As.length = n0) (hd : d' + 1 ≤ d) (hcat : (rest.map fun v => v.category).sum ≤ 8) (hst : st0 = As.reverse ++ .ref b :: rest) (hdg : decode cc pc = .ok (.invokevirtual ix, 3)) (h0 : k ≤ mc) (h1 : n ≤ ms) (kk : AW X sk loc k n (pc + 3) ls (.ref r :: rest) S') : AW X sk loc k n pc ls st0 S := by
  obtain ⟨p, l, e, R, s, m, args, below, meth, c, Q, A, G, cA, nL⟩ := X
  obtain ⟨hx, hb, hr, hml, hnL, hR, hown, hts, hK, hlocks, hA, hE⟩ := hX
  subst hst
  intro H locs la hP hD hS hl
  have hF := aw_free hD hS hA
  refine va_callr (aw_runV hx hb hml hR hown hts hK hA hE hP hD hS (hl.1.trans hnL) (hM _ G cA loc H.size) hok hw1 hw2 hw3 hc hk hn hd hcat hdg h0 h1) hS (fun q _ h => hF q h) hF (fun u ra t H1 locs1 ht hvm hpost hB hz hk1 hS1 => ?_)
  obtain ⟨rfl, hP1, hK1, hD1⟩ := hB
  rw [ht] at hP1
  exact kk H1 locs1 la hP1 (hD1.weaken (fun _ _ _ h => hF _ h)) hS1 hl
theorem aw_cSR (hX : AC X loc own cc ret maxL d mc ms) {y : MethodName} {bytes : ByteArray} {mL n0 ix d' : Nat} {rt : Option FieldType} {r : Nat} {S' : Mem} {As rest st0 : List Value}
    (hM : MetR y bytes mL rt d' (As) sk S r S') (hok : MOK y bytes mL rt n0) (hw1 : Cond.methodLink own ix y ∈ lw_good) (hw2 : Cond.static y ∈ lw_good) (hn : As.length = n0) (hd : d' + 1 ≤ d) (hcat : (rest.map fun v => v.category).sum ≤ 8) (hst : st0 = As.reverse ++ rest) (hdg : decode cc pc = .ok (.invokestatic ix, 3)) (h0 : k ≤ mc) (h1 : n ≤ ms) (kk : AW X sk loc k n (pc + 3) ls (.ref r :: rest) S') : AW X sk loc k n pc ls st0 S := by
  obtain ⟨p, l, e, R, s, m, args, below, meth, c, Q, A, G, cA, nL⟩ := X
  obtain ⟨hx, hb, hr, hml, hnL, hR, hown, hts, hK, hlocks, hA, hE⟩ := hX
  subst hst
  intro H locs la hP hD hS hl
  have hF := aw_free hD hS hA
  refine va_callr (aw_runS hx hb hml hR hown hts hK hA hE hP hD hS (hl.1.trans hnL) (hM _ G cA loc H.size) hok hw1 hw2 hn hd hcat hdg h0 h1) hS (fun q _ h => hF q h) hF (fun u ra t H1 locs1 ht hvm hpost hB hz hk1 hS1 => ?_)
  obtain ⟨rfl, hP1, hK1, hD1⟩ := hB
  rw [ht] at hP1
  exact kk H1 locs1 la hP1 (hD1.weaken (fun _ _ _ h => hF _ h)) hS1 hl
theorem aw_cSNR (hX : AC X loc own cc ret maxL d mc ms) {y : MethodName} {bytes : ByteArray} {mL n0 ix d' : Nat} {rt : Option FieldType} {host : String} {r : Nat} {S' : Mem} {As rest st0 : List Value}
    (hM : MetR y bytes mL rt d' (As) sk S r S') (hok : MOK y bytes mL rt n0) (hw1 : Cond.methodLinkNest own ix y host ∈ nwL) (hw2 : Cond.static y ∈ lw_good) (hn : As.length = n0) (hd : d' + 1 ≤ d) (hcat : (rest.map fun v => v.category).sum ≤ 8) (hst : st0 = As.reverse ++ rest) (hdg : decode cc pc = .ok (.invokestatic ix, 3)) (h0 : k ≤ mc) (h1 : n ≤ ms) (kk : AW X sk loc k n (pc + 3) ls (.ref r :: rest) S') : AW X sk loc k n pc ls st0 S := by
  obtain ⟨p, l, e, R, s, m, args, below, meth, c, Q, A, G, cA, nL⟩ := X
  obtain ⟨hx, hb, hr, hml, hnL, hR, hown, hts, hK, hlocks, hA, hE⟩ := hX
  subst hst
  intro H locs la hP hD hS hl
  have hF := aw_free hD hS hA
  refine va_callr (aw_runSN hx hb hml hR hown hts hK hA hE hP hD hS (hl.1.trans hnL) (hM _ G cA loc H.size) hok hw1 hw2 hn hd hcat hdg h0 h1) hS (fun q _ h => hF q h) hF (fun u ra t H1 locs1 ht hvm hpost hB hz hk1 hS1 => ?_)
  obtain ⟨rfl, hP1, hK1, hD1⟩ := hB
  rw [ht] at hP1
  exact kk H1 locs1 la hP1 (hD1.weaken (fun _ _ _ h => hF _ h)) hS1 hl
theorem aw_gets0 (hX : AC X loc own cc ret maxL d mc ms) {ix : Nat} {host : String} (hw : Cond.fieldLinkNest own ix "DollTruce" "SETTING_LEAST" "[I" host ∈ nwL) (hdg : decode cc pc = .ok (.getstatic ix, 3)) (kk : AW X sk loc k n (pc + 3) ls (.ref 1000 :: stk) S) : AW X sk loc k n pc ls stk S := by
  obtain ⟨p, l, e, R, s, m, args, below, meth, c, Q, A, G, cA, nL⟩ := X
  obtain ⟨hx, hb, hr, hml, hnL, hR, hown, hts, hK, hlocks, hA, hE⟩ := hX
  intro H locs la hP hD hS hl
  exact va_getsN hx hb (hE.1) hS hown (va_Nw.use rfl (hE.2.2.2.2.2.2.2.2.2.2.2.1 _ hw)) (fun _ h => h) hdg (kk H locs la hP hD hS hl)
theorem aw_tld0 (hX : AC X loc own cc ret maxL d mc ms) {i v : Int32} (hv : rdT stLeast i = some v) (hdg : decode cc pc = .ok (.iaload, 1)) (kk : AW X sk loc k n (pc + 1) ls (.int v :: stk) S) : AW X sk loc k n pc ls (.int i :: .ref 1000 :: stk) S := by
  obtain ⟨p, l, e, R, s, m, args, below, meth, c, Q, A, G, cA, nL⟩ := X
  obtain ⟨hx, hb, hr, hml, hnL, hR, hown, hts, hK, hlocks, hA, hE⟩ := hX
  obtain ⟨hi, rfl⟩ := rdT_some hv
  intro H locs la hP hD hS hl
  exact va_ti hx hb (hE.2.1) hS hi rfl hdg (kk H locs la hP hD hS hl)
theorem aw_gets1 (hX : AC X loc own cc ret maxL d mc ms) {ix : Nat} {host : String} (hw : Cond.fieldLinkNest own ix "DollTruce" "SETTING_MOST" "[I" host ∈ nwL) (hdg : decode cc pc = .ok (.getstatic ix, 3)) (kk : AW X sk loc k n (pc + 3) ls (.ref 1001 :: stk) S) : AW X sk loc k n pc ls stk S := by
  obtain ⟨p, l, e, R, s, m, args, below, meth, c, Q, A, G, cA, nL⟩ := X
  obtain ⟨hx, hb, hr, hml, hnL, hR, hown, hts, hK, hlocks, hA, hE⟩ := hX
  intro H locs la hP hD hS hl
  exact va_getsN hx hb (hE.2.2.1) hS hown (va_Nw.use rfl (hE.2.2.2.2.2.2.2.2.2.2.2.1 _ hw)) (fun _ h => h) hdg (kk H locs la hP hD hS hl)
theorem aw_tld1 (hX : AC X loc own cc ret maxL d mc ms) {i v : Int32} (hv : rdT stMost i = some v) (hdg : decode cc pc = .ok (.iaload, 1)) (kk : AW X sk loc k n (pc + 1) ls (.int v :: stk) S) : AW X sk loc k n pc ls (.int i :: .ref 1001 :: stk) S := by
  obtain ⟨p, l, e, R, s, m, args, below, meth, c, Q, A, G, cA, nL⟩ := X
  obtain ⟨hx, hb, hr, hml, hnL, hR, hown, hts, hK, hlocks, hA, hE⟩ := hX
  obtain ⟨hi, rfl⟩ := rdT_some hv
  intro H locs la hP hD hS hl
  exact va_ti hx hb (hE.2.2.2.1) hS hi rfl hdg (kk H locs la hP hD hS hl)
theorem aw_gets2 (hX : AC X loc own cc ret maxL d mc ms) {ix : Nat} {host : String} (hw : Cond.fieldLinkNest own ix "DollTruce" "SETTING_UNTOLD" "[I" host ∈ nwL) (hdg : decode cc pc = .ok (.getstatic ix, 3)) (kk : AW X sk loc k n (pc + 3) ls (.ref 1002 :: stk) S) : AW X sk loc k n pc ls stk S := by
  obtain ⟨p, l, e, R, s, m, args, below, meth, c, Q, A, G, cA, nL⟩ := X
  obtain ⟨hx, hb, hr, hml, hnL, hR, hown, hts, hK, hlocks, hA, hE⟩ := hX
  intro H locs la hP hD hS hl
  exact va_getsN hx hb (hE.2.2.2.2.1) hS hown (va_Nw.use rfl (hE.2.2.2.2.2.2.2.2.2.2.2.1 _ hw)) (fun _ h => h) hdg (kk H locs la hP hD hS hl)
theorem aw_tld2 (hX : AC X loc own cc ret maxL d mc ms) {i v : Int32} (hv : rdT stUntold i = some v) (hdg : decode cc pc = .ok (.iaload, 1)) (kk : AW X sk loc k n (pc + 1) ls (.int v :: stk) S) : AW X sk loc k n pc ls (.int i :: .ref 1002 :: stk) S := by
  obtain ⟨p, l, e, R, s, m, args, below, meth, c, Q, A, G, cA, nL⟩ := X
  obtain ⟨hx, hb, hr, hml, hnL, hR, hown, hts, hK, hlocks, hA, hE⟩ := hX
  obtain ⟨hi, rfl⟩ := rdT_some hv
  intro H locs la hP hD hS hl
  exact va_ti hx hb (hE.2.2.2.2.2.1) hS hi rfl hdg (kk H locs la hP hD hS hl)
end AWC2
