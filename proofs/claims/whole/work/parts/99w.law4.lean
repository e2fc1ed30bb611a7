/-! THE LAW 4: the helper's contract -/
section LDW
variable {p : Program} {l : Launch} {e : Env} {R : Room} {s : State} {m : MethodId} {args : Array Value} {below : List Frame} {meth : Method} {c : Code} {H : Heap} {locs : List Loc}
variable {G : va_G} {cA : Nat → ClassId} {lc lm : Nat → Nat} {A : Nat → Prop} {q : Nat} {C M : Mem} {o : Nat → Int64}
/-- the call of doll inside the helper -/
theorem ld_run (hl : l.stackTraces = false) {v1 v2 k r : Int32} {C' : Mem} (h : dollK v1 v2 C = some (k, r, C')) (hx : p.tables.exec = Jvm.exec) (hb : c.code = cL_doll) (hml : c.maxLocals = 5) (hown : s.vm.findClass RL = some m.cls) (hts : ∀ w ∈ lw_good, w.before args s = true) (hK : va_K G vwCl (tysOf cA) s) (hA : ∀ q, s.heap.size ≤ q → A q) (hE : Ext A lc s s.heap) (hED : ExD A s s.heap)
    (hP : va_P G vwCl (conc cA lc SKC C) H) (hD : va_D A (conc cA lc SKC C)) (hS : va_S A s.heap H locs) {la : Array Slot} (hla : la.size = 5) :
    vx_Run p l e (rmd 7 1 6) s m args below meth c H locs 0 0 1 6 (F0 m 5 la [.int v2, .int v1, .ref (lc 0), .int 0, .ref q]) [.int 0, .ref q] (QD G cA lc SKC (va_A (conc cA lc SKC C) H.size) k r C' (Value.ref (lc 0) :: [.int v1, .int v2]).toArray) (XD G cA lc SKC (va_A (conc cA lc SKC C) H.size) k C') (va_A (conc cA lc SKC C) H.size) := by
  have hok := ok_X9_doll
  have hcw : CallW (rmd 7 1 6) s args RL yX9_doll.cls 7 yX9_doll cX9_doll 3 (some .int) (wsA yX9_doll cX9_doll 3 (some .int)) (rmd 6 1 6) 1 6 2 := ⟨callB_of 2 hts (wsA_good hok) rfl rfl rfl (hts _ hok.2.1) (hts _ kwL_7) ⟨hok.2.2.1, hok.2.2.2.1, hok.2.2.2.2.1⟩ ⟨by show 6 + 1 ≤ 7; omega, by show 8 + (3 + 11) + 64 * 6 ≤ 64 * 7; omega⟩, hts _ im_X9_doll, hts _ se_X9_doll⟩
  have hpre := aw_pre hP hD hS hA hK hE [.ref 0, .int v1, .int v2]
  exact vx_runV (As := [.int v1, .int v2]) (rest := [.int 0, .ref q]) (b := lc 0) ⟨hx, hb, hml, hown, hts⟩ (c_X9_doll hl h G cA lc H.size) hcw ⟨fun a U g mk hh => ⟨aw_blind _ _ a U g mk hh.1, hh.2.calling⟩, va_recv (ci := 9) hK hP rfl ((conc_get (k := 0) rfl).trans (by rw [cellE_obj])), fun U hU hW => ⟨hpre U hU hW, by rw [hU]; exact hED.to (fun a h1 h2 => hS.2.1 a h1 h2) hW (aw_free hD hS hA)⟩⟩ rfl rfl hla rfl (lv_room (Nat.le_of_ble_eq_true rfl)) dL_doll_5 ⟨by show 0 + 1 ≤ 1; omega, by show 0 + 6 ≤ 6; omega⟩
end LDW
theorem c_L_doll {l : Launch} (hl : l.stackTraces = false) {v1 v2 k r : Int32} {C C' M : Mem} (h : dollK v1 v2 C = some (k, r, C')) (G : va_G) (cA : Nat → ClassId) (lc lm : Nat → Nat) (q : Nat) (o : Nat → Int64) (sz : Nat) :
    Met l yL_doll (Cond.codeWith yL_doll cL_doll 5 (some .int) hhL :: lw_good) (rmd 7 1 6) (PreLd G cA lc lm q C M o sz v1 v2) (QLd G cA lc lm q C' M (oD k r o) (va_A (lwW cA lc lm q C M o) sz) k) 1 6 (va_A (lwW cA lc lm q C M o) sz) := by
  refine ld_ofWH (cc := cL_doll) (maxL := 5) (ret := some .int) (hh := hhL) (by decide) rfl ?_
  intro p e s m args' below meth c s₁ B hml hv
  obtain ⟨rfl, hsz, hP, hK, hD0, hE, hED⟩ := hv
  have hts0 := atoms_spec (ws := Cond.codeWith yL_doll cL_doll 5 (some .int) hhL :: lw_good) B.pre
  have hts : ∀ w ∈ lw_good, w.before _ s = true := fun w hw => hts0 w (List.mem_cons_of_mem _ hw)
  have htab : c.exceptionTable.toList = tableOf hhL := vx_table (x := yL_doll) B (hts0 _ List.mem_cons_self)
  have hown : s.vm.findClass RL = some m.cls := findClass_of_methodNamed B.named
  subst hsz
  have hD := hD0.self (sz := s.heap.size)
  have hA : ∀ q' : Nat, s.heap.size ≤ q' → va_A (lwW cA lc lm q C M o) s.heap.size q' := fun q h => Or.inr h
  generalize va_A (lwW cA lc lm q C M o) s.heap.size = A at *
  have hl2 : lv_has _ 5 [(0, .ref (lc 0)), (1, .int v1), (2, .int v2), (3, .ref q)] := lv_entry ([.ref (lc 0), .int v1, .int v2, .ref q] : List Value) (n := 5) (Nat.le_of_ble_eq_true rfl)
  have hx := B.exec
  have hb := B.bytes
  have hr := B.returns
  have hlocks := B.notSynchronized
  have hS : va_S A s.heap s.heap [] := va_S.rf
  rw [lg_entry_eq]
  generalize (lg_sl [Value.ref (lc 0), .int v1, .int v2, .ref q] ++ List.replicate (5 - (lg_sl [Value.ref (lc 0), .int v1, .int v2, .ref q]).length) Slot.unset).toArray = la at *
  refine lv_aload_n hx hb dL_doll_0 (show ((3 : Fin 4) : Nat) = 3 from rfl) (lv_at hl2 3 rfl) ?_
  refine lv_iconst (v := 0) hx hb dL_doll_1 rfl ?_
  refine lv_aload_n hx hb dL_doll_2 (show ((0 : Fin 4) : Nat) = 0 from rfl) (lv_at hl2 0 rfl) ?_
  refine lv_iload_n hx hb dL_doll_3 (show ((1 : Fin 4) : Nat) = 1 from rfl) (lv_at hl2 1 rfl) ?_
  refine lv_iload_n hx hb dL_doll_4 (show ((2 : Fin 4) : Nat) = 2 from rfl) (lv_at hl2 2 rfl) ?_
  rw [← List.nil_append (lwW cA lc lm q C M o)] at hP hD
  unfold lwW at hP hD
  have hPc := jn_P (wa := []) (wc := conc cA lc SKC C) hP
  have hDc := jn_D (wa := []) (wc := conc cA lc SKC C) hD
  have hF := jn_free (wa := []) (wc := conc cA lc SKC C) hD hS hA
  refine vx_calli (ld_run hl h hx hb hml hown hts hK hA hE hED hPc hDc hS hl2.1) hS (fun q _ h => hF q h) hF (fun q _ h => hF q h) ?_ ?_
  · intro E ce q9 u t H1 locs1 ht hvm _ hB hz hk1 hS1 hce hcv hcl
    obtain ⟨hEk, hP1, hK1, hD1⟩ := hB
    rw [ht] at hP1
    obtain ⟨hP2, hD2⟩ := jn_back (wa := []) (wc := conc cA lc SKC C) hP hD hF hk1 hP1 hD1
    rw [List.nil_append] at hP2 hD2
    have hk0 : oD k r o = o := by
      rcases hEk with ⟨-, rfl⟩ | ⟨-, rfl⟩ <;> exact if_neg (by decide)
    rw [hk0]
    rcases hEk with ⟨rfl, rfl⟩ | ⟨rfl, rfl⟩
    · refine vx_catch (own := RL) (name := exI) hown [] _ _ htab (fun z hz => absurd hz List.not_mem_nil) rfl (by decide) (hts _ kwL_x1) (va_Nw.use rfl (hED.1 (.castable exI exI) (by decide))) hce hcv hcl ?_
      refine lv_astore hx hb dL_doll_13 hl2 (by decide) rfl (fun la' hl3 => ?_)
      refine lv_iconst (v := 1) hx hb dL_doll_15 rfl ?_
      exact W.iret (v := 1) hx hb hr (fun t ht hW => ⟨⟨1, (), rfl, rfl, by rw [ht]; exact hP2, va_K.moved hW.alike hK, hD2⟩, hS1.F ht⟩) hS1.2.2 dL_doll_16
    · refine vx_catch (own := RL) (name := exN) hown [_] _ _ htab (fun z hz => ?_) rfl (by decide) (hts _ kwL_x2) (va_Nw.use rfl (hED.1 (.castable exN exN) (by decide))) hce hcv hcl ?_
      · rw [List.mem_singleton] at hz
        subst hz
        exact Or.inr ⟨by decide, exI, hts _ kwL_x1, hED.2.2.2.2.2⟩
      refine lv_astore hx hb dL_doll_17 hl2 (by decide) rfl (fun la' hl3 => ?_)
      refine lv_iconst (v := 2) hx hb dL_doll_19 rfl ?_
      exact W.iret (v := 2) hx hb hr (fun t ht hW => ⟨⟨2, (), rfl, rfl, by rw [ht]; exact hP2, va_K.moved hW.alike hK, hD2⟩, hS1.F ht⟩) hS1.2.2 dL_doll_20
  · intro r' u t H1 locs1 ht hvm hpost hB hz hk1 hS1
    obtain ⟨rfl, rfl⟩ := hpost
    obtain ⟨hP1, hK1, hD1⟩ := hB
    rw [ht] at hP1
    obtain ⟨hP2, hD2⟩ := jn_back (wa := []) (wc := conc cA lc SKC C) hP hD hF hk1 hP1 hD1
    rw [List.nil_append] at hP2 hD2
    refine lv_i2l hx hb dL_doll_8 rfl ?_
    refine va_last hx hb hK (ws := lwW cA lc lm q C' M o) hP2 hD2 hS1 126 2 lwW_out rfl (by unfold vp_in; decide) dL_doll_9 (fun H3 locs3 hP3 hD3 hS3 => ?_)
    rw [lwW_set] at hP3 hD3
    refine lv_goto (tgt := 21) hx hb dL_doll_10 (by decide) ?_
    refine lv_iconst (v := 0) hx hb dL_doll_21 rfl ?_
    exact W.iret (v := 0) hx hb hr (fun t ht hW => ⟨⟨0, (), rfl, rfl, by rw [ht]; exact hP3, va_K.moved hW.alike hK, hD3⟩, hS3.F ht⟩) hS3.2.2 dL_doll_22
