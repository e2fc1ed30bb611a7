/-! THE LAW 5: doll's case -/
section LWX
def LD (X : XT) : Prop := match X with
  | (_, l, _, _, s, _, _, _, _, _, _, A, _, _, _) => l.stackTraces = false ∧ ExD A s s.heap
variable {X : XT} {lc lm : Nat → Nat} {q k n b L i pc : Nat} {xs : Nat → Int32} {C M : Mem} {o : Nat → Int64} {ls ls' : List (Nat × Value)} {stk : List Value}
theorem lw_ald (hX : LC X lc lm b L xs) {kx : Fin 4} {j r : Nat} (pos : Nat) (h0 : ls[pos]? = some (j, .ref r)) (hk : (kx : Nat) = j) (hdg : decode code pc = .ok (.aload_n kx, 1)) (kk : LW X lc lm q k n (pc + 1) ls (.ref r :: stk) C M o) : LW X lc lm q k n pc ls stk C M o := by
  obtain ⟨p, l, e, R, s, m, args, below, meth, c, Q, A, G, cA, nL⟩ := X
  obtain ⟨hx, hb, hml, hR, hown, hts, hK, hA, hE, hE2, hsx, hbl, hbA⟩ := hX
  intro H locs la hP hD hS hl
  exact lv_aload_n hx hb hdg hk (lv_at hl pos h0) (kk H locs la hP hD hS hl)
theorem lw_ild (hX : LC X lc lm b L xs) {j : Nat} {x : Int32} (pos : Nat) (h0 : ls[pos]? = some (j, .int x)) (hdg : decode code pc = .ok (.iload j, 2)) (kk : LW X lc lm q k n (pc + 2) ls (.int x :: stk) C M o) : LW X lc lm q k n pc ls stk C M o := by
  obtain ⟨p, l, e, R, s, m, args, below, meth, c, Q, A, G, cA, nL⟩ := X
  obtain ⟨hx, hb, hml, hR, hown, hts, hK, hA, hE, hE2, hsx, hbl, hbA⟩ := hX
  intro H locs la hP hD hS hl
  exact lv_iload hx hb hdg (lv_at hl pos h0) (kk H locs la hP hD hS hl)
theorem lw_ist (hX : LC X lc lm b L xs) {j : Nat} {x : Int32} (hj : j < 7) (hl' : (j, Value.int x) :: ls.filter (fun q => !(q.1 == j) && !(q.1 + 1 == j && q.2.category == 2)) = ls') (hdg : decode code pc = .ok (.istore j, 2)) (kk : LW X lc lm q k n (pc + 2) ls' stk C M o) : LW X lc lm q k n pc ls (.int x :: stk) C M o := by
  obtain ⟨p, l, e, R, s, m, args, below, meth, c, Q, A, G, cA, nL⟩ := X
  obtain ⟨hx, hb, hml, hR, hown, hts, hK, hA, hE, hE2, hsx, hbl, hbA⟩ := hX
  intro H locs la hP hD hS hl
  exact lv_istore hx hb hdg hl hj hl' (fun la' h => kk H locs la' hP hD hS h)
theorem lw_sub {Y : XT} (ks : List Nat) (hp : lv_pick ls ks = ls') (kk : LW Y lc lm q k n pc ls' stk C M o) : LW Y lc lm q k n pc ls stk C M o := by
  obtain ⟨p, l, e, R, s, m, args, below, meth, c, Q, A, G, cA, nL⟩ := Y
  intro H locs la hP hD hS hl
  exact kk H locs la hP hD hS (lv_sub hl ks hp)
theorem lw_goto (hX : LC X lc lm b L xs) {off : Int} {tgt : Nat} (hdg : decode code pc = .ok (.goto off, 3)) (ht : (pc : Int) + off = (tgt : Int)) (kk : LW X lc lm q k n tgt ls stk C M o) : LW X lc lm q k n pc ls stk C M o := by
  obtain ⟨p, l, e, R, s, m, args, below, meth, c, Q, A, G, cA, nL⟩ := X
  obtain ⟨hx, hb, hml, hR, hown, hts, hK, hA, hE, hE2, hsx, hbl, hbA⟩ := hX
  intro H locs la hP hD hS hl
  exact lv_goto hx hb hdg ht (kk H locs la hP hD hS hl)
theorem lw_argG (hX : LC X lc lm b L xs) {z : Int} (j p0 p4 : Nat) (g0 : ls[p0]? = some (0, .ref b)) (g4 : ls[p4]? = some (4, .int (nI i))) (d0 : decode code pc = .ok (.aload_n 0, 1)) (d1 : decode code (pc + 1) = .ok (.iload 4, 2)) (d2 : decode code (pc + 3) = .ok (.iconst z, 1)) (d3 : decode code (pc + 4) = .ok (.iadd, 1)) (d4 : decode code (pc + 5) = .ok (.iaload, 1)) (hz : Int32.ofInt z = nI j) (hj : i + j < L) (hL : L ≤ 3072)
    (kk : LW X lc lm q k n (pc + 6) ls (.int (xs (i + j)) :: stk) C M o) : LW X lc lm q k n pc ls stk C M o := by
  obtain ⟨p, l, e, R, s, m, args, below, meth, c, Q, A, G, cA, nL⟩ := X
  obtain ⟨hx, hb, hml, hR, hown, hts, hK, hA, hE, hE2, hsx, hbl, hbA⟩ := hX
  intro H locs la hP hD hS hl
  refine lv_aload_n hx hb d0 (show ((0 : Fin 4) : Nat) = 0 from rfl) (lv_at hl p0 g0) ?_
  refine lv_iload hx hb d1 (lv_at hl p4 g4) ?_
  refine lv_iconst hx hb d2 hz ?_
  refine lv_iadd hx hb d3 ?_
  rw [nI_add]
  have hc : (nI (i + j)).toNatClampNeg = i + j := nI_clamp (by omega)
  refine va_sld hx hb hsx hbl hbA hS (inb_in (inb_nI hj (by omega))) d4 ?_
  rw [hc]
  exact kk H locs la hP hD hS hl
theorem ld_good : GoodIn lw_good (Cond.codeWith yL_doll cL_doll 5 (some .int) hhL :: lw_good) := by
  intro w hw
  rcases List.mem_cons.mp hw with rfl | hw
  · exact lw_goodG _ kwL_cd
  · exact lw_goodG _ hw
theorem ld_blind {G : va_G} {cA : Nat → ClassId} {sz : Nat} {v1 v2 : Int32} : FrameBlind (PreLd G cA lc lm q C M o sz v1 v2) := by
  intro a U g mk h
  obtain ⟨q0, q1, qP, qK, qD, qE, qX⟩ := h
  exact ⟨q0, q1, qP, va_K.moved (u := U) (U := U.calling g mk a) (Vm.Alike.refl U.vm) qK, qD, qE.calling, qX.calling⟩
theorem lw_cD (hX : LC X lc lm b L xs) (hXD : LD X) {v1 v2 kd r : Int32} {C' : Mem} (h : dollK v1 v2 C = some (kd, r, C')) (h0 : k + 1 ≤ 601024) (h1 : n + 6 ≤ 7293034) (hdg : decode code pc = .ok (.invokestatic 39, 3)) (kk : LW X lc lm q (k + 1) (n + 6) (pc + 3) ls [.int kd] C' M (oD kd r o)) : LW X lc lm q k n pc ls [.ref q, .int v2, .int v1, .ref (lc 0)] C M o := by
  obtain ⟨p, l, e, R, s, m, args, below, meth, c, Q, A, G, cA, nL⟩ := X
  obtain ⟨hx, hb, hml, hR, hown, hts, hK, hA, hE, hE2, hsx, hbl, hbA⟩ := hX
  obtain ⟨hst, hED⟩ := hXD
  subst hR
  intro H locs la hP hD hS hl
  have hF : ∀ z, va_A (lwW cA lc lm q C M o) H.size z → A z := by
    intro z h
    rcases h with ⟨k, e, h⟩ | h
    · exact hD.2 k (z, e) h
    · exact hA z (Nat.le_trans hS.1 h)
  have hcw : vx_CSW room_1 s args RL 39 yL_doll cL_doll 5 (some .int) hhL (Cond.codeWith yL_doll cL_doll 5 (some .int) hhL :: lw_good) (rmd 7 1 6) 1 6 4 := by
    refine ⟨⟨rfl, rfl, by decide, by decide, pay_in hts ld_good, List.mem_cons_self⟩, hts _ kwL_cd, hts _ kwL_in, ⟨by decide, by decide⟩, fun sig h => ?_, hts _ kwL_39, hts _ kwL_st⟩
    have h2 : (parseMethodDescriptor yL_doll.desc).map (fun d => d.parameters.length) = some 4 := by decide +kernel
    rw [h] at h2
    exact (Option.some.inj h2).symm
  have hrun := vx_runSW (e := e) (below := below) (meth := meth) (H := H) (locs := locs) (cells := k) (slots := n) (As := [.ref (lc 0), .int v1, .int v2, .ref q]) (rest := []) (g := F0 m pc la [.ref q, .int v2, .int v1, .ref (lc 0)]) ⟨hx, hb, hml, hown, hts⟩ (c_L_doll (M := M) hst h G cA lc lm q o H.size) hcw ⟨ld_blind, fun U hU hW => ⟨rfl, by rw [hU], by rw [hU]; exact hP, va_K.moved hW.alike hK, hD.weaken (fun _ _ _ _ => trivial), by rw [hU]; exact hE.to (fun a h1 h2 => hS.2.1 a h1 h2) hW hF, by rw [hU]; exact hED.to (fun a h1 h2 => hS.2.1 a h1 h2) hW hF⟩⟩ rfl rfl hl.1 rfl (lv_room (Nat.le_of_ble_eq_true rfl)) hdg ⟨h0, h1⟩
  refine va_calli hrun hS (fun q _ h => hF q h) hF (fun r' u t H1 locs1 ht hvm hpost hB hz hk1 hS1 => ?_)
  subst hpost
  obtain ⟨hP1, hK1, hD1⟩ := hB
  rw [ht] at hP1
  exact kk H1 locs1 la hP1 (hD1.weaken (fun _ _ _ h => hF _ h)) hS1 hl
theorem lw_out (hX : LC X lc lm b L xs) (d0 : decode code pc = .ok (.iconst 0, 1)) (d1 : decode code (pc + 1) = .ok (.laload, 1)) (kk : LW X lc lm q k n (pc + 2) ls (.long (o 0) :: stk) C M o) : LW X lc lm q k n pc ls (.ref q :: stk) C M o := by
  obtain ⟨p, l, e, R, s, m, args, below, meth, c, Q, A, G, cA, nL⟩ := X
  obtain ⟨hx, hb, hml, hR, hown, hts, hK, hA, hE, hE2, hsx, hbl, hbA⟩ := hX
  intro H locs la hP hD hS hl
  refine lv_iconst (v := 0) hx hb d0 rfl ?_
  exact va_lald hx hb hK hP 126 2 lwW_out rfl (by unfold vp_in; decide) d1 (kk H locs la hP hD hS hl)
theorem lw_i2l (hX : LC X lc lm b L xs) {x : Int32} (hdg : decode code pc = .ok (.i2l, 1)) (kk : LW X lc lm q k n (pc + 1) ls (.long x.toInt64 :: stk) C M o) : LW X lc lm q k n pc ls (.int x :: stk) C M o := by
  obtain ⟨p, l, e, R, s, m, args, below, meth, c, Q, A, G, cA, nL⟩ := X
  obtain ⟨hx, hb, hml, hR, hown, hts, hK, hA, hE, hE2, hsx, hbl, hbA⟩ := hX
  intro H locs la hP hD hS hl
  exact lv_i2l hx hb hdg rfl (kk H locs la hP hD hS hl)
theorem lw_ifne (hX : LC X lc lm b L xs) {x : Int32} {off : Int} {tgt : Nat} (hdg : decode code pc = .ok (.ifCond .ne off, 3)) (ht : (pc : Int) + off = (tgt : Int)) (k1 : x ≠ 0 → LW X lc lm q k n tgt ls stk C M o) (k2 : x = 0 → LW X lc lm q k n (pc + 3) ls stk C M o) : LW X lc lm q k n pc ls (.int x :: stk) C M o := by
  obtain ⟨p, l, e, R, s, m, args, below, meth, c, Q, A, G, cA, nL⟩ := X
  obtain ⟨hx, hb, hml, hR, hown, hts, hK, hA, hE, hE2, hsx, hbl, hbA⟩ := hX
  intro H locs la hP hD hS hl
  exact lv_if_ne hx hb hdg ht (fun h => k1 h H locs la hP hD hS hl) (fun h => k2 h H locs la hP hD hS hl)
theorem L_c4 (hX : LC X lc lm b L xs) (hXD : LD X) (hi : i + 6 ≤ L) (hL : L ≤ 3072) (hC : Cp C M) (h0 : k + 1 ≤ 601024) (h1 : n + 6 ≤ 7293034) (kk : ∀ C' M' o', Cp C' M' → LW X lc lm q (k + 1) (n + 6) 1500 (lsL b lc lm q i) [] C' M' o') : LW X lc lm q k n 372 (lsL b lc lm q i) [] C M o := by
  obtain ⟨⟨kd, r, C2⟩, e1, ⟨r2, M2⟩, e2, e3, e4, hC2⟩ := q_doll hC (xs (i + 1)) (xs (i + 2))
  refine lw_al1 hX dL_law_372 ?_
  refine lw_arg hX 1 dL_law_373 dL_law_374 dL_law_376 dL_law_377 dL_law_378 rfl (by omega) hL ?_
  refine lw_arg hX 2 dL_law_379 dL_law_380 dL_law_382 dL_law_383 dL_law_384 rfl (by omega) hL ?_
  refine lw_ald hX 3 rfl rfl dL_law_385 ?_
  refine lw_cD hX hXD e1 h0 h1 dL_law_386 ?_
  refine lw_ist hX (ls' := (5, .int kd) :: lsL b lc lm q i) (by decide) rfl dL_law_389 ?_
  refine lw_ald hX 3 rfl rfl dL_law_391 ?_
  refine lw_argG hX 1 1 5 rfl rfl dL_law_392 dL_law_393 dL_law_395 dL_law_396 dL_law_397 rfl (by omega) hL ?_
  refine lw_argG hX 2 1 5 rfl rfl dL_law_398 dL_law_399 dL_law_401 dL_law_402 dL_law_403 rfl (by omega) hL ?_
  refine lw_cMI (As := [.int (xs (i + 1)), .int (xs (i + 2))]) (rest := []) hX (c_X10_doll e2) ok_X10_doll kwL_44 im_X10_doll se_X10_doll rfl rfl (by decide) (Nat.le_of_ble_eq_true rfl) rfl dL_law_404 h0 h1 ?_
  refine lw_ist hX (ls' := (6, .int r2) :: (5, .int kd) :: lsL b lc lm q i) (by decide) rfl dL_law_407 ?_
  refine lw_ald hX 4 rfl rfl dL_law_409 ?_
  refine lw_cMI (As := []) (rest := []) (r := M2.1 0 0) (M' := M2) hX (c_X10_thrown rfl) ok_X10_thrown kwL_45 im_X10_thrown se_X10_thrown rfl rfl (by decide) (Nat.le_of_ble_eq_true rfl) rfl dL_law_410 h0 h1 ?_
  refine lw_ild hX 1 rfl dL_law_413 ?_
  refine lw_eq (tgt := 420) hX dL_law_415 (by decide) e3 ?_
  refine lw_ild hX 1 rfl dL_law_420 ?_
  have fin : LW X lc lm q (k + 1) (n + 6) 437 ((6, .int r2) :: (5, .int kd) :: lsL b lc lm q i) [] C2 M2 (oD kd r o) := by
    refine lw_goto (tgt := 1500) hX dL_law_437 (by decide) ?_
    exact lw_sub [2, 3, 4, 5, 6] rfl (kk _ _ _ hC2)
  refine lw_ifne (tgt := 437) hX dL_law_422 (by decide) (fun _ => fin) (fun hz => ?_)
  refine lw_ald hX 5 rfl rfl dL_law_425 ?_
  refine lw_out hX dL_law_426 dL_law_427 ?_
  refine lw_ild hX 0 rfl dL_law_428 ?_
  refine lw_i2l hX dL_law_430 ?_
  refine lw_leq (tgt := 437) hX dL_law_431 dL_law_432 (by decide) ?_ fin
  have h5 : oD kd r o = vp_updL o 0 r.toInt64 := if_pos hz
  have h6 : r2 = r := e4 hz
  rw [h5, h6]
  simp [vp_updL]
end LWX
