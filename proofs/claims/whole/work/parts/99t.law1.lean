/-! THE LAW 1: its world: class, reference, one long; calls of both -/
section LWL
def lwW (cA : Nat → ClassId) (lc lm : Nat → Nat) (q : Nat) (C M : Mem) (o : Nat → Int64) : va_W := conc cA lc SKC C ++ (conc cA lm SKM M ++ [(q, .inl (cA 2, 1, .inr (.inl o)))])
def LW (X : XT) (lc lm : Nat → Nat) (q k n pc : Nat) (ls : List (Nat × Value)) (stk : List Value) (C M : Mem) (o : Nat → Int64) : Prop := match X with
  | (p, l, e, R, s, m, args, below, meth, c, Q, A, G, cA, _) => ∀ (H : Heap) (locs : List Loc) (la : Array Slot), va_P G vwCl (lwW cA lc lm q C M o) H → va_D A (lwW cA lc lm q C M o) → va_S A s.heap H locs → lv_has la 7 ls → W p l e R s m args below meth c H locs k n Q (F0 m pc la stk)
def LC (X : XT) (lc lm : Nat → Nat) (b L : Nat) (xs : Nat → Int32) : Prop := match X with
  | (p, _, _, R, s, m, args, _, _, c, _, A, G, cA, _) => p.tables.exec = Jvm.exec ∧ c.code = code ∧ c.maxLocals = 7 ∧ R = room_1 ∧ s.vm.findClass RL = some m.cls ∧ (∀ w ∈ lw_good, w.before args s = true) ∧ va_K G vwCl (tysOf cA) s ∧ (∀ q, s.heap.size ≤ q → A q) ∧ Ext A lc s s.heap ∧ Ext A lm s s.heap ∧ va_X b L xs s s.heap ∧ b < s.heap.size ∧ ¬ A b
section LWR
variable {p : Program} {l : Launch} {e : Env} {R : Room} {s : State} {m : MethodId} {args : Array Value} {below : List Frame} {meth : Method} {c : Code} {H : Heap} {locs : List Loc} {cells slots : Nat}
variable {G : va_G} {cA : Nat → ClassId} {loc : Nat → Nat} {sk : Skel} {S : Mem} {A : Nat → Prop}
theorem lw_runV {y : MethodName} {bytes : ByteArray} {mL n ix ci n' b d' : Nat} {rt : Option FieldType} {fs : List Value} {T : u_T} {N : Nat} {Qc : Array Value → State → Outcome → State → Prop} {As rest : List Value} {pc : Nat} {la : Array Slot}
    (hx : p.tables.exec = Jvm.exec) (hb : c.code = code) (hml : c.maxLocals = 7) (hR : R = room_1) (hown : s.vm.findClass RL = some m.cls) (hts : ∀ w ∈ lw_good, w.before args s = true) (hK : va_K G vwCl (tysOf cA) s) (hA : ∀ q, s.heap.size ≤ q → A q) (hE : Ext A loc s s.heap)
    (hP : va_P G vwCl (conc cA loc sk S) H) (hD : va_D A (conc cA loc sk S)) (hS : va_S A s.heap H locs) (hla : la.size = 7)
    (hM : Met l y (wsA y bytes mL rt) (rmd d' 0 0) (PreA G cA loc sk S H.size (.ref b :: As)) Qc 0 0 (va_A (conc cA loc sk S) H.size))
    (hok : MOK y bytes mL rt n) (hw1 : Cond.methodLink RL ix y ∈ lw_good) (hw2 : Cond.instanceMethod y ∈ lw_good) (hw3 : Cond.selects y.cls y y ∈ lw_good) (hc : vwCl[ci]? = some (y.cls, T, N)) (hk : sk[b]? = some (ci + 4, n', fs)) (hn : As.length = n) (hd : d' ≤ 1000) (hcat : (rest.map fun v => v.category).sum ≤ 8)
    (hdg : decode code pc = .ok (.invokevirtual ix, 3)) (h0 : cells ≤ 601024) (h1 : slots ≤ 7293034) :
    va_Run p l e R s m args below meth c H locs cells slots 0 0 (F0 m pc la ((As.reverse ++ .ref b :: rest).map (cv loc))) (rest.map (cv loc)) (Qc (Value.ref (loc b) :: As.map (cv loc)).toArray) (va_A (conc cA loc sk S) H.size) := by
  subst hR
  have hcw : CallW room_1 s args RL y.cls ix y bytes mL rt (wsA y bytes mL rt) (rmd d' 0 0) 0 0 n := ⟨callB_of n hts (wsA_good hok) rfl rfl rfl (hts _ hok.2.1) (hts _ hw1) ⟨hok.2.2.1, hok.2.2.2.1, hok.2.2.2.2.1⟩ ⟨by show d' + 1 ≤ 2048; omega, by have h := hok.2.2.2.2.2; show 8 + (mL + 11) + 64 * d' ≤ 84000; omega⟩, hts _ hw2, hts _ hw3⟩
  have hpre := aw_pre hP hD hS hA hK hE (.ref b :: As)
  exact va_runV (As := As.map (cv loc)) (rest := rest.map (cv loc)) (b := loc b) ⟨hx, hb, hml, hown, hts⟩ hM hcw ⟨aw_blind _ _, va_recv hK hP hc ((conc_get hk).trans (by rw [cellE_obj])), hpre⟩ rfl (by rw [List.length_map]; exact hn) hla (by simp [F0, List.map_reverse, cv]) (lv_room (by simpa [Function.comp_def, cv_cat] using hcat)) hdg ⟨h0, h1⟩
end LWR
variable {X : XT} {lc lm : Nat → Nat} {q k n pc : Nat} {ls : List (Nat × Value)} {C M : Mem} {o : Nat → Int64} {b L i : Nat} {xs : Nat → Int32}
theorem lw_cCI (hX : LC X lc lm b L xs) {y : MethodName} {bytes : ByteArray} {mL n0 ix d' : Nat} {rt : Option FieldType} {T : u_T} {N : Nat} {r : Int32} {C' : Mem} {As rest st0 : List Value}
    (hM : MetI y bytes mL rt d' (.ref 0 :: As) SKC C r C') (hok : MOK y bytes mL rt n0) (hw1 : Cond.methodLink RL ix y ∈ lw_good) (hw2 : Cond.instanceMethod y ∈ lw_good) (hw3 : Cond.selects y.cls y y ∈ lw_good) (hc : vwCl[9]? = some (y.cls, T, N)) (hn : As.length = n0) (hd : d' ≤ 1000) (hcat : (rest.map fun v => v.category).sum ≤ 8) (hst : st0 = (As.reverse ++ .ref 0 :: rest).map (cv lc)) (hdg : decode code pc = .ok (.invokevirtual ix, 3)) (h0 : k ≤ 601024) (h1 : n ≤ 7293034) (kk : LW X lc lm q k n (pc + 3) ls (.int r :: rest.map (cv lc)) C' M o) : LW X lc lm q k n pc ls st0 C M o := by
  obtain ⟨p, l, e, R, s, m, args, below, meth, c, Q, A, G, cA, nL⟩ := X
  obtain ⟨hx, hb, hml, hR, hown, hts, hK, hA, hE, hE2, hsx, hbl, hbA⟩ := hX
  subst hst
  intro H locs la hP hD hS hl
  rw [← List.nil_append (lwW cA lc lm q C M o)] at hP hD
  unfold lwW at hP hD
  have hPc := jn_P (wa := []) (wc := conc cA lc SKC C) hP
  have hDc := jn_D (wa := []) (wc := conc cA lc SKC C) hD
  have hF := jn_free (wa := []) (wc := conc cA lc SKC C) hD hS hA
  refine va_calli (lw_runV hx hb hml hR hown hts hK hA hE hPc hDc hS hl.1 (hM _ G cA lc H.size) hok hw1 hw2 hw3 hc rfl hn hd hcat hdg h0 h1) hS (fun q _ h => hF q h) hF (fun r' u t H1 locs1 ht hvm hpost hB hz hk1 hS1 => ?_)
  subst hpost
  obtain ⟨hP1, hK1, hD1⟩ := hB
  rw [ht] at hP1
  obtain ⟨hP2, hD2⟩ := jn_back (wa := []) (wc := conc cA lc SKC C) hP hD hF hk1 hP1 hD1
  rw [List.nil_append] at hP2 hD2
  exact kk H1 locs1 la hP2 hD2 hS1 hl
theorem lw_cCL (hX : LC X lc lm b L xs) {y : MethodName} {bytes : ByteArray} {mL n0 ix d' : Nat} {rt : Option FieldType} {T : u_T} {N : Nat} {r : Int64} {C' : Mem} {As rest st0 : List Value}
    (hM : MetL y bytes mL rt d' (.ref 0 :: As) SKC C r C') (hok : MOK y bytes mL rt n0) (hw1 : Cond.methodLink RL ix y ∈ lw_good) (hw2 : Cond.instanceMethod y ∈ lw_good) (hw3 : Cond.selects y.cls y y ∈ lw_good) (hc : vwCl[9]? = some (y.cls, T, N)) (hn : As.length = n0) (hd : d' ≤ 1000) (hcat : (rest.map fun v => v.category).sum ≤ 8) (hst : st0 = (As.reverse ++ .ref 0 :: rest).map (cv lc)) (hdg : decode code pc = .ok (.invokevirtual ix, 3)) (h0 : k ≤ 601024) (h1 : n ≤ 7293034) (kk : LW X lc lm q k n (pc + 3) ls (.long r :: rest.map (cv lc)) C' M o) : LW X lc lm q k n pc ls st0 C M o := by
  obtain ⟨p, l, e, R, s, m, args, below, meth, c, Q, A, G, cA, nL⟩ := X
  obtain ⟨hx, hb, hml, hR, hown, hts, hK, hA, hE, hE2, hsx, hbl, hbA⟩ := hX
  subst hst
  intro H locs la hP hD hS hl
  rw [← List.nil_append (lwW cA lc lm q C M o)] at hP hD
  unfold lwW at hP hD
  have hPc := jn_P (wa := []) (wc := conc cA lc SKC C) hP
  have hDc := jn_D (wa := []) (wc := conc cA lc SKC C) hD
  have hF := jn_free (wa := []) (wc := conc cA lc SKC C) hD hS hA
  refine va_calll (lw_runV hx hb hml hR hown hts hK hA hE hPc hDc hS hl.1 (hM _ G cA lc H.size) hok hw1 hw2 hw3 hc rfl hn hd hcat hdg h0 h1) hS (fun q _ h => hF q h) hF (fun r' u t H1 locs1 ht hvm hpost hB hz hk1 hS1 => ?_)
  subst hpost
  obtain ⟨hP1, hK1, hD1⟩ := hB
  rw [ht] at hP1
  obtain ⟨hP2, hD2⟩ := jn_back (wa := []) (wc := conc cA lc SKC C) hP hD hF hk1 hP1 hD1
  rw [List.nil_append] at hP2 hD2
  exact kk H1 locs1 la hP2 hD2 hS1 hl
theorem lw_cMI (hX : LC X lc lm b L xs) {y : MethodName} {bytes : ByteArray} {mL n0 ix d' : Nat} {rt : Option FieldType} {T : u_T} {N : Nat} {r : Int32} {M' : Mem} {As rest st0 : List Value}
    (hM : MetI y bytes mL rt d' (.ref 0 :: As) SKM M r M') (hok : MOK y bytes mL rt n0) (hw1 : Cond.methodLink RL ix y ∈ lw_good) (hw2 : Cond.instanceMethod y ∈ lw_good) (hw3 : Cond.selects y.cls y y ∈ lw_good) (hc : vwCl[10]? = some (y.cls, T, N)) (hn : As.length = n0) (hd : d' ≤ 1000) (hcat : (rest.map fun v => v.category).sum ≤ 8) (hst : st0 = (As.reverse ++ .ref 0 :: rest).map (cv lm)) (hdg : decode code pc = .ok (.invokevirtual ix, 3)) (h0 : k ≤ 601024) (h1 : n ≤ 7293034) (kk : LW X lc lm q k n (pc + 3) ls (.int r :: rest.map (cv lm)) C M' o) : LW X lc lm q k n pc ls st0 C M o := by
  obtain ⟨p, l, e, R, s, m, args, below, meth, c, Q, A, G, cA, nL⟩ := X
  obtain ⟨hx, hb, hml, hR, hown, hts, hK, hA, hE, hE2, hsx, hbl, hbA⟩ := hX
  subst hst
  intro H locs la hP hD hS hl
  have hPc := jn_P (wa := conc cA lc SKC C) (wc := conc cA lm SKM M) hP
  have hDc := jn_D (wa := conc cA lc SKC C) (wc := conc cA lm SKM M) hD
  have hF := jn_free (wa := conc cA lc SKC C) (wc := conc cA lm SKM M) hD hS hA
  refine va_calli (lw_runV hx hb hml hR hown hts hK hA hE2 hPc hDc hS hl.1 (hM _ G cA lm H.size) hok hw1 hw2 hw3 hc rfl hn hd hcat hdg h0 h1) hS (fun q _ h => hF q h) hF (fun r' u t H1 locs1 ht hvm hpost hB hz hk1 hS1 => ?_)
  subst hpost
  obtain ⟨hP1, hK1, hD1⟩ := hB
  rw [ht] at hP1
  obtain ⟨hP2, hD2⟩ := jn_back (wa := conc cA lc SKC C) (wc := conc cA lm SKM M) hP hD hF hk1 hP1 hD1
  exact kk H1 locs1 la hP2 hD2 hS1 hl
theorem lw_cML (hX : LC X lc lm b L xs) {y : MethodName} {bytes : ByteArray} {mL n0 ix d' : Nat} {rt : Option FieldType} {T : u_T} {N : Nat} {r : Int64} {M' : Mem} {As rest st0 : List Value}
    (hM : MetL y bytes mL rt d' (.ref 0 :: As) SKM M r M') (hok : MOK y bytes mL rt n0) (hw1 : Cond.methodLink RL ix y ∈ lw_good) (hw2 : Cond.instanceMethod y ∈ lw_good) (hw3 : Cond.selects y.cls y y ∈ lw_good) (hc : vwCl[10]? = some (y.cls, T, N)) (hn : As.length = n0) (hd : d' ≤ 1000) (hcat : (rest.map fun v => v.category).sum ≤ 8) (hst : st0 = (As.reverse ++ .ref 0 :: rest).map (cv lm)) (hdg : decode code pc = .ok (.invokevirtual ix, 3)) (h0 : k ≤ 601024) (h1 : n ≤ 7293034) (kk : LW X lc lm q k n (pc + 3) ls (.long r :: rest.map (cv lm)) C M' o) : LW X lc lm q k n pc ls st0 C M o := by
  obtain ⟨p, l, e, R, s, m, args, below, meth, c, Q, A, G, cA, nL⟩ := X
  obtain ⟨hx, hb, hml, hR, hown, hts, hK, hA, hE, hE2, hsx, hbl, hbA⟩ := hX
  subst hst
  intro H locs la hP hD hS hl
  have hPc := jn_P (wa := conc cA lc SKC C) (wc := conc cA lm SKM M) hP
  have hDc := jn_D (wa := conc cA lc SKC C) (wc := conc cA lm SKM M) hD
  have hF := jn_free (wa := conc cA lc SKC C) (wc := conc cA lm SKM M) hD hS hA
  refine va_calll (lw_runV hx hb hml hR hown hts hK hA hE2 hPc hDc hS hl.1 (hM _ G cA lm H.size) hok hw1 hw2 hw3 hc rfl hn hd hcat hdg h0 h1) hS (fun q _ h => hF q h) hF (fun r' u t H1 locs1 ht hvm hpost hB hz hk1 hS1 => ?_)
  subst hpost
  obtain ⟨hP1, hK1, hD1⟩ := hB
  rw [ht] at hP1
  obtain ⟨hP2, hD2⟩ := jn_back (wa := conc cA lc SKC C) (wc := conc cA lm SKM M) hP hD hF hk1 hP1 hD1
  exact kk H1 locs1 la hP2 hD2 hS1 hl
def lsL (b : Nat) (lc lm : Nat → Nat) (q i : Nat) : List (Nat × Value) := [(0, .ref b), (1, .ref (lc 0)), (2, .ref (lm 0)), (3, .ref q), (4, .int (nI i))]
variable {stk : List Value}
theorem lw_al1 (hX : LC X lc lm b L xs) (hdg : decode code pc = .ok (.aload_n 1, 1)) (kk : LW X lc lm q k n (pc + 1) (lsL b lc lm q i) (.ref (lc 0) :: stk) C M o) : LW X lc lm q k n pc (lsL b lc lm q i) stk C M o := by
  obtain ⟨p, l, e, R, s, m, args, below, meth, c, Q, A, G, cA, nL⟩ := X
  obtain ⟨hx, hb, hml, hR, hown, hts, hK, hA, hE, hE2, hsx, hbl, hbA⟩ := hX
  intro H locs la hP hD hS hl
  exact lv_aload_n hx hb hdg (show ((1 : Fin 4) : Nat) = 1 from rfl) (lv_at hl 1 rfl) (kk H locs la hP hD hS hl)
theorem lw_al2 (hX : LC X lc lm b L xs) (hdg : decode code pc = .ok (.aload_n 2, 1)) (kk : LW X lc lm q k n (pc + 1) (lsL b lc lm q i) (.ref (lm 0) :: stk) C M o) : LW X lc lm q k n pc (lsL b lc lm q i) stk C M o := by
  obtain ⟨p, l, e, R, s, m, args, below, meth, c, Q, A, G, cA, nL⟩ := X
  obtain ⟨hx, hb, hml, hR, hown, hts, hK, hA, hE, hE2, hsx, hbl, hbA⟩ := hX
  intro H locs la hP hD hS hl
  exact lv_aload_n hx hb hdg (show ((2 : Fin 4) : Nat) = 2 from rfl) (lv_at hl 2 rfl) (kk H locs la hP hD hS hl)
theorem lw_arg (hX : LC X lc lm b L xs) {z : Int} (j : Nat) (d0 : decode code pc = .ok (.aload_n 0, 1)) (d1 : decode code (pc + 1) = .ok (.iload 4, 2)) (d2 : decode code (pc + 3) = .ok (.iconst z, 1)) (d3 : decode code (pc + 4) = .ok (.iadd, 1)) (d4 : decode code (pc + 5) = .ok (.iaload, 1)) (hz : Int32.ofInt z = nI j) (hj : i + j < L) (hL : L ≤ 3072)
    (kk : LW X lc lm q k n (pc + 6) (lsL b lc lm q i) (.int (xs (i + j)) :: stk) C M o) : LW X lc lm q k n pc (lsL b lc lm q i) stk C M o := by
  obtain ⟨p, l, e, R, s, m, args, below, meth, c, Q, A, G, cA, nL⟩ := X
  obtain ⟨hx, hb, hml, hR, hown, hts, hK, hA, hE, hE2, hsx, hbl, hbA⟩ := hX
  intro H locs la hP hD hS hl
  refine lv_aload_n hx hb d0 (show ((0 : Fin 4) : Nat) = 0 from rfl) (lv_at hl 0 rfl) ?_
  refine lv_iload hx hb d1 (lv_at hl 4 rfl) ?_
  refine lv_iconst hx hb d2 hz ?_
  refine lv_iadd hx hb d3 ?_
  rw [nI_add]
  have hc : (nI (i + j)).toNatClampNeg = i + j := nI_clamp (by omega)
  refine va_sld hx hb hsx hbl hbA hS (inb_in (inb_nI hj (by omega))) d4 ?_
  rw [hc]
  exact kk H locs la hP hD hS hl
theorem lw_eq (hX : LC X lc lm b L xs) {x y : Int32} {off : Int} {tgt : Nat} (hdg : decode code pc = .ok (.if_icmp .eq off, 3)) (ht : (pc : Int) + off = (tgt : Int)) (he : x = y) (kt : LW X lc lm q k n tgt ls stk C M o) : LW X lc lm q k n pc ls (.int y :: .int x :: stk) C M o := by
  obtain ⟨p, l, e, R, s, m, args, below, meth, c, Q, A, G, cA, nL⟩ := X
  obtain ⟨hx, hb, hml, hR, hown, hts, hK, hA, hE, hE2, hsx, hbl, hbA⟩ := hX
  intro H locs la hP hD hS hl
  exact lv_icmp_eq hx hb hdg ht (fun _ => kt H locs la hP hD hS hl) (fun h => absurd he h)
theorem lw_leq (hX : LC X lc lm b L xs) {x y : Int64} {off : Int} {tgt : Nat} (hd0 : decode code pc = .ok (.lcmp, 1)) (hdg : decode code (pc + 1) = .ok (.ifCond .eq off, 3)) (ht : ((pc + 1 : Nat) : Int) + off = (tgt : Int)) (he : x = y) (kt : LW X lc lm q k n tgt ls stk C M o) : LW X lc lm q k n pc ls (.long y :: .long x :: stk) C M o := by
  obtain ⟨p, l, e, R, s, m, args, below, meth, c, Q, A, G, cA, nL⟩ := X
  obtain ⟨hx, hb, hml, hR, hown, hts, hK, hA, hE, hE2, hsx, hbl, hbA⟩ := hX
  intro H locs la hP hD hS hl
  subst he
  refine W.lcmp hx hb hd0 ?_
  have h0 : lg_cmp x x = 0 := by
    unfold lg_cmp
    simp
  exact lv_if_eq hx hb hdg ht (fun _ => kt H locs la hP hD hS hl) (fun h => absurd h0 h)
end LWL
